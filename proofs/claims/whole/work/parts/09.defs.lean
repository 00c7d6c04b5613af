def f9_within_b14 : Int32 :=
  (0 : Int32)
def f9_within_b0 (x0 : Int32) (x1 : Int32) (x2 : Int32) : Int32 :=
  if x0 < x1 then
    f9_within_b14
  else
    if x2 < x0 then
      f9_within_b14
    else
      (1 : Int32)
def f9_within (x0 : Int32) (x1 : Int32) (x2 : Int32) : Int32 :=
  f9_within_b0 x0 x1 x2
def f5_add_b0 (s : sf_Sg) (x1 : Int32) : Option (Int32 × sf_Sg) :=
  if (s 1 0) < (240 : Int32) then
    (sf_st s 2 240 (s 1 0) x1).bind fun s21 =>
    some ((1 : Int32), (sf_s1 s21 1 0 ((s21 1 0) + (1 : Int32))))
  else
    some ((0 : Int32), s)
def f5_add (s : sf_Sg) (x1 : Int32) : Option (Int32 × sf_Sg) :=
  f5_add_b0 s x1
def f9_feed_b0 (s : sf_Sg) (x1 : Int32) : Option (Int32 × sf_Sg) :=
  if (f9_within x1 (0 : Int32) (255 : Int32)) = 0 then
    some ((-1000000002 : Int32), s)
  else
    (f5_add s x1).bind fun q19 =>
    if q19.1 = 0 then
      some ((-1000000004 : Int32), q19.2)
    else
      some ((q19.2 1 0), q19.2)
def f9_feed (s : sf_Sg) (x1 : Int32) : Option (Int32 × sf_Sg) :=
  f9_feed_b0 s x1
def f7_clear_b0 (c : Nat) (s : sf_Sg) : sf_Sg :=
  (sf_s1 (sf_s1 (sf_s1 (sf_s1 s c 0 (0 : Int32)) c 1 (0 : Int32)) c 2 (0 : Int32)) c 3 (0 : Int32))
def f7_clear (c : Nat) (s : sf_Sg) : sf_Sg :=
  f7_clear_b0 c s
def f5_letterHere_b40 (s : sf_Sg) : Option Int32 :=
  some (-1 : Int32)
def f5_letterHere_b0 (s : sf_Sg) : Option Int32 :=
  if (s 1 3) < 0 then
    f5_letterHere_b40 s
  else
    if (s 1 0) ≤ (s 1 3) then
      f5_letterHere_b40 s
    else
      if (240 : Int32) ≤ (s 1 3) then
        f5_letterHere_b40 s
      else
        (sf_ld s 2 240 (s 1 3)).bind fun v36 =>
        some v36
def f5_letterHere (s : sf_Sg) : Option Int32 :=
  f5_letterHere_b0 s
def f5_passBlanks_b0 (k0 : sf_Sg → Option sf_Sg) (s : sf_Sg) : Option sf_Sg :=
  if (s 1 0) ≤ (s 1 3) then
    some s
  else
    (f5_letterHere s).bind fun v12 =>
    if v12 = (32 : Int32) then
      k0 (sf_s1 s 1 3 ((s 1 3) + (1 : Int32)))
    else
      some s
def f5_passBlanks_L0 : sf_Sg → Option sf_Sg :=
  sf_it (f5_passBlanks_b0) (fun _ => none) sf_FU
def f5_passBlanks (s : sf_Sg) : Option sf_Sg :=
  f5_passBlanks_L0 s
def f5_faultOfWord_b74 (c0 : Nat) (s : sf_Sg) (t0 : Int32) : Int32 :=
  if t0 = 0 then
    (0 : Int32)
  else
    (3 : Int32)
def f5_faultOfWord_b69 (c0 : Nat) (s : sf_Sg) : Int32 :=
  f5_faultOfWord_b74 c0 s (1 : Int32)
def f5_faultOfWord_b73 (c0 : Nat) (s : sf_Sg) : Int32 :=
  f5_faultOfWord_b74 c0 s (0 : Int32)
def f5_faultOfWord_b55 (c0 : Nat) (s : sf_Sg) (x1 : Int32) : Int32 :=
  if x1 = (112 : Int32) then
    if (s c0 3) < (5 : Int32) then
      f5_faultOfWord_b73 c0 s
    else
      f5_faultOfWord_b69 c0 s
  else
    f5_faultOfWord_b73 c0 s
def f5_faultOfWord_b40 (c0 : Nat) (s : sf_Sg) (x1 : Int32) : Int32 :=
  if x1 = (98 : Int32) then
    if (6 : Int32) ≤ (s c0 2) then
      f5_faultOfWord_b69 c0 s
    else
      f5_faultOfWord_b55 c0 s x1
  else
    f5_faultOfWord_b55 c0 s x1
def f5_faultOfWord_b27 (c0 : Nat) (s : sf_Sg) (x1 : Int32) : Int32 :=
  if x1 = (102 : Int32) then
    if (s c0 0) = 0 then
      f5_faultOfWord_b40 c0 s x1
    else
      f5_faultOfWord_b69 c0 s
  else
    f5_faultOfWord_b40 c0 s x1
def f5_faultOfWord_b18 (c0 : Nat) (s : sf_Sg) (x1 : Int32) : Int32 :=
  if (s c0 0) = 0 then
    (1 : Int32)
  else
    f5_faultOfWord_b27 c0 s x1
def f5_faultOfWord_b0 (c0 : Nat) (s : sf_Sg) (x1 : Int32) : Int32 :=
  if x1 = (102 : Int32) then
    f5_faultOfWord_b27 c0 s x1
  else
    if x1 = (98 : Int32) then
      f5_faultOfWord_b18 c0 s x1
    else
      if x1 = (112 : Int32) then
        f5_faultOfWord_b18 c0 s x1
      else
        (1 : Int32)
def f5_faultOfWord (c0 : Nat) (s : sf_Sg) (x1 : Int32) : Int32 :=
  f5_faultOfWord_b0 c0 s x1
def f5_blame_b0 (s : sf_Sg) (x1 : Int32) (x2 : Int32) : sf_Sg :=
  (sf_s1 (sf_s1 s 1 4 x1) 1 1 x2)
def f5_blame (s : sf_Sg) (x1 : Int32) (x2 : Int32) : sf_Sg :=
  f5_blame_b0 s x1 x2
def f5_isFigure_b16 : Int32 :=
  (0 : Int32)
def f5_isFigure_b0 (x0 : Int32) : Int32 :=
  if x0 < (48 : Int32) then
    f5_isFigure_b16
  else
    if (57 : Int32) < x0 then
      f5_isFigure_b16
    else
      (1 : Int32)
def f5_isFigure (x0 : Int32) : Int32 :=
  f5_isFigure_b0 x0
def f5_readNumber_b67 (k21 : sf_Sg → Int32 → Int32 → Int32 → Int32 → Option (Int32 × sf_Sg)) (s : sf_Sg) (x1 : Int32) (x2 : Int32) (x3 : Int32) (x4 : Int32) : Option (Int32 × sf_Sg) :=
  k21 (sf_s1 s 1 3 ((s 1 3) + (1 : Int32))) x1 x2 x3 x4
def f5_readNumber_b117 (s : sf_Sg) (x3 : Int32) (x4 : Int32) : Option (Int32 × sf_Sg) :=
  some (x4, (f5_blame s (2 : Int32) x3))
def f5_readNumber_b80 (s : sf_Sg) (x1 : Int32) (x2 : Int32) (x3 : Int32) (x4 : Int32) : Option (Int32 × sf_Sg) :=
  if (s 1 3) = x3 then
    some (x4, (f5_blame s (1 : Int32) x3))
  else
    if (3 : Int32) < ((s 1 3) - x3) then
      f5_readNumber_b117 s x3 x4
    else
      if (f9_within x4 x1 x2) = 0 then
        f5_readNumber_b117 s x3 x4
      else
        some (x4, s)
def f5_readNumber_b21 (k21 : sf_Sg → Int32 → Int32 → Int32 → Int32 → Option (Int32 × sf_Sg)) (s : sf_Sg) (x1 : Int32) (x2 : Int32) (x3 : Int32) (x4 : Int32) : Option (Int32 × sf_Sg) :=
  if (s 1 0) ≤ (s 1 3) then
    f5_readNumber_b80 s x1 x2 x3 x4
  else
    (f5_letterHere s).bind fun v33 =>
    if (f5_isFigure v33) = 0 then
      f5_readNumber_b80 s x1 x2 x3 x4
    else
      if (3 : Int32) ≤ ((s 1 3) - x3) then
        f5_readNumber_b67 k21 s x1 x2 x3 x4
      else
        (f5_letterHere s).bind fun v58 =>
        f5_readNumber_b67 k21 s x1 x2 x3 (((x4 * (10 : Int32)) + v58) - (48 : Int32))
def f5_readNumber_L21 : sf_Sg → Int32 → Int32 → Int32 → Int32 → Option (Int32 × sf_Sg) :=
  sf_it (f5_readNumber_b21) (fun _ _ _ _ _ => none) sf_FU
def f5_readNumber_b0 (s : sf_Sg) (x1 : Int32) (x2 : Int32) : Option (Int32 × sf_Sg) :=
  if (s 1 4) = 0 then
    (f5_passBlanks s).bind fun s10 =>
    f5_readNumber_L21 s10 x1 x2 (s10 1 3) (0 : Int32)
  else
    some (x1, s)
def f5_readNumber (s : sf_Sg) (x1 : Int32) (x2 : Int32) : Option (Int32 × sf_Sg) :=
  f5_readNumber_b0 s x1 x2
def f5_endClause_b0 (s : sf_Sg) : Option sf_Sg :=
  if (s 1 4) = 0 then
    (f5_passBlanks s).bind fun s9 =>
    (f5_letterHere s9).bind fun v13 =>
    if v13 = (59 : Int32) then
      some (sf_s1 s9 1 3 ((s9 1 3) + (1 : Int32)))
    else
      some (f5_blame s9 (1 : Int32) (s9 1 3))
  else
    some s
def f5_endClause (s : sf_Sg) : Option sf_Sg :=
  f5_endClause_b0 s
def f7_addBurden_b0 (c : Nat) (s : sf_Sg) (x1 : Int32) (x2 : Int32) (x3 : Int32) : Option sf_Sg :=
  if (6 : Int32) ≤ (s c 2) then
    some s
  else
    (sf_st s (c + 1) 6 (s c 2) x1).bind fun s18 =>
    (sf_st s18 (c + 2) 6 (s18 c 2) x2).bind fun s28 =>
    (sf_st s28 (c + 3) 6 (s28 c 2) x3).bind fun s38 =>
    some (sf_s1 s38 c 2 ((s38 c 2) + (1 : Int32)))
def f7_addBurden (c : Nat) (s : sf_Sg) (x1 : Int32) (x2 : Int32) (x3 : Int32) : Option sf_Sg :=
  f7_addBurden_b0 c s x1 x2 x3
def f7_addBack_b0 (c : Nat) (s : sf_Sg) (x1 : Int32) (x2 : Int32) : Option sf_Sg :=
  if (5 : Int32) ≤ (s c 3) then
    some s
  else
    (sf_st s (c + 4) 5 (s c 3) x1).bind fun s17 =>
    (sf_st s17 (c + 5) 5 (s17 c 3) x2).bind fun s27 =>
    some (sf_s1 s27 c 3 ((s27 c 3) + (1 : Int32)))
def f7_addBack (c : Nat) (s : sf_Sg) (x1 : Int32) (x2 : Int32) : Option sf_Sg :=
  f7_addBack_b0 c s x1 x2
def f5_readClause_b0 (c1 : Nat) (s : sf_Sg) : Option sf_Sg :=
  (f5_letterHere s).bind fun v1 =>
  if (f5_faultOfWord c1 s v1) = 0 then
    if v1 = (102 : Int32) then
      (f5_readNumber (sf_s1 s 1 3 ((s 1 3) + (1 : Int32))) (0 : Int32) (99 : Int32)).bind fun q45 =>
      (f5_endClause q45.2).bind fun s51 =>
      some (sf_s1 (sf_s1 s51 c1 0 (1 : Int32)) c1 1 q45.1)
    else
      if v1 = (98 : Int32) then
        (f5_readNumber (sf_s1 s 1 3 ((s 1 3) + (1 : Int32))) (0 : Int32) (4 : Int32)).bind fun q77 =>
        (f5_readNumber q77.2 (1 : Int32) (60 : Int32)).bind fun q86 =>
        (f5_readNumber q86.2 (0 : Int32) (20 : Int32)).bind fun q95 =>
        (f5_endClause q95.2).bind fun s101 =>
        (f7_addBurden c1 s101 q77.1 q86.1 q95.1).bind fun s111 =>
        some s111
      else
        (f5_readNumber (sf_s1 s 1 3 ((s 1 3) + (1 : Int32))) (1 : Int32) (99 : Int32)).bind fun q121 =>
        (f5_readNumber q121.2 (0 : Int32) (9 : Int32)).bind fun q130 =>
        (f5_endClause q130.2).bind fun s136 =>
        (f7_addBack c1 s136 q121.1 q130.1).bind fun s144 =>
        some s144
  else
    some (f5_blame s (f5_faultOfWord c1 s v1) (s 1 3))
def f5_readClause (c1 : Nat) (s : sf_Sg) : Option sf_Sg :=
  f5_readClause_b0 c1 s
def f5_readInto_b65 (c1 : Nat) (s : sf_Sg) : Option (Int32 × sf_Sg) :=
  some (((sf_s1 s 1 0 (0 : Int32)) 1 4), (sf_s1 s 1 0 (0 : Int32)))
def f5_readInto_b25 (c1 : Nat) (k25 : sf_Sg → Int32 → Option (Int32 × sf_Sg)) (s : sf_Sg) (x2 : Int32) : Option (Int32 × sf_Sg) :=
  if (240 : Int32) ≤ x2 then
    f5_readInto_b65 c1 s
  else
    if (s 1 0) ≤ (s 1 3) then
      f5_readInto_b65 c1 s
    else
      if (s 1 4) = 0 then
        (f5_readClause c1 s).bind fun s52 =>
        (f5_passBlanks s52).bind fun s56 =>
        k25 s56 (x2 + 1)
      else
        f5_readInto_b65 c1 s
def f5_readInto_L25 (c1 : Nat) : sf_Sg → Int32 → Option (Int32 × sf_Sg) :=
  sf_it (f5_readInto_b25 c1) (fun _ _ => none) sf_FU
def f5_readInto_b0 (c1 : Nat) (s : sf_Sg) : Option (Int32 × sf_Sg) :=
  (f5_passBlanks (sf_s1 (sf_s1 (sf_s1 (f7_clear c1 s) 1 3 (0 : Int32)) 1 4 (0 : Int32)) 1 1 (-1 : Int32))).bind fun s20 =>
  f5_readInto_L25 c1 s20 (0 : Int32)
def f5_readInto (c1 : Nat) (s : sf_Sg) : Option (Int32 × sf_Sg) :=
  f5_readInto_b0 c1 s
def f7_copyFrom_b84 (c : Nat) (c1 : Nat) (k84 : sf_Sg → Int32 → Option sf_Sg) (s : sf_Sg) (x2 : Int32) : Option sf_Sg :=
  if (5 : Int32) ≤ x2 then
    some s
  else
    (sf_ld s (c1 + 4) 5 x2).bind fun v99 =>
    (sf_st s (c + 4) 5 x2 v99).bind fun s100 =>
    (sf_ld s100 (c1 + 5) 5 x2).bind fun v111 =>
    (sf_st s100 (c + 5) 5 x2 v111).bind fun s112 =>
    k84 s112 (x2 + 1)
def f7_copyFrom_L84 (c : Nat) (c1 : Nat) : sf_Sg → Int32 → Option sf_Sg :=
  sf_it (f7_copyFrom_b84 c c1) (fun _ _ => none) sf_FU
def f7_copyFrom_b82 (c : Nat) (c1 : Nat) (s : sf_Sg) : Option sf_Sg :=
  f7_copyFrom_L84 c c1 s (0 : Int32)
def f7_copyFrom_b34 (c : Nat) (c1 : Nat) (k34 : sf_Sg → Int32 → Option sf_Sg) (s : sf_Sg) (x2 : Int32) : Option sf_Sg :=
  if (6 : Int32) ≤ x2 then
    f7_copyFrom_b82 c c1 s
  else
    (sf_ld s (c1 + 1) 6 x2).bind fun v50 =>
    (sf_st s (c + 1) 6 x2 v50).bind fun s51 =>
    (sf_ld s51 (c1 + 2) 6 x2).bind fun v62 =>
    (sf_st s51 (c + 2) 6 x2 v62).bind fun s63 =>
    (sf_ld s63 (c1 + 3) 6 x2).bind fun v74 =>
    (sf_st s63 (c + 3) 6 x2 v74).bind fun s75 =>
    k34 s75 (x2 + 1)
def f7_copyFrom_L34 (c : Nat) (c1 : Nat) : sf_Sg → Int32 → Option sf_Sg :=
  sf_it (f7_copyFrom_b34 c c1) (fun _ _ => none) sf_FU
def f7_copyFrom_b0 (c : Nat) (c1 : Nat) (s : sf_Sg) : Option sf_Sg :=
  (sf_bo (s c1 0)).bind fun v5 =>
  f7_copyFrom_L34 c c1 (sf_s1 (sf_s1 (sf_s1 (sf_s1 s c 0 v5) c 1 ((sf_s1 s c 0 v5) c1 1)) c 2 ((sf_s1 (sf_s1 s c 0 v5) c 1 ((sf_s1 s c 0 v5) c1 1)) c1 2)) c 3 ((sf_s1 (sf_s1 (sf_s1 s c 0 v5) c 1 ((sf_s1 s c 0 v5) c1 1)) c 2 ((sf_s1 (sf_s1 s c 0 v5) c 1 ((sf_s1 s c 0 v5) c1 1)) c1 2)) c1 3)) (0 : Int32)
def f7_copyFrom (c : Nat) (c1 : Nat) (s : sf_Sg) : Option sf_Sg :=
  f7_copyFrom_b0 c c1 s
def f3_startOf_b62 (c : Nat) (c1 : Nat) (k62 : sf_Sg → Int32 → Option sf_Sg) (s : sf_Sg) (x2 : Int32) : Option sf_Sg :=
  if (5 : Int32) ≤ x2 then
    some s
  else
    (sf_st s (c + 5) 5 x2 (0 : Int32)).bind fun s73 =>
    k62 s73 (x2 + 1)
def f3_startOf_L62 (c : Nat) (c1 : Nat) : sf_Sg → Int32 → Option sf_Sg :=
  sf_it (f3_startOf_b62 c c1) (fun _ _ => none) sf_FU
def f3_startOf_b60 (c : Nat) (c1 : Nat) (s : sf_Sg) : Option sf_Sg :=
  f3_startOf_L62 c c1 s (0 : Int32)
def f3_startOf_b15 (c : Nat) (c1 : Nat) (k15 : sf_Sg → Int32 → Option sf_Sg) (s : sf_Sg) (x2 : Int32) : Option sf_Sg :=
  if (6 : Int32) ≤ x2 then
    f3_startOf_b60 c c1 s
  else
    (sf_ld s (c1 + 2) 6 x2).bind fun v31 =>
    (sf_st s (c + 1) 6 x2 v31).bind fun s32 =>
    (sf_st s32 (c + 2) 6 x2 (0 : Int32)).bind fun s39 =>
    (sf_st s39 (c + 3) 6 x2 (-1 : Int32)).bind fun s46 =>
    (sf_st s46 (c + 4) 6 x2 (-1 : Int32)).bind fun s53 =>
    k15 s53 (x2 + 1)
def f3_startOf_L15 (c : Nat) (c1 : Nat) : sf_Sg → Int32 → Option sf_Sg :=
  sf_it (f3_startOf_b15 c c1) (fun _ _ => none) sf_FU
def f3_startOf_b0 (c : Nat) (c1 : Nat) (s : sf_Sg) : Option sf_Sg :=
  f3_startOf_L15 c c1 (sf_s1 (sf_s1 s c 0 (0 : Int32)) c 1 ((sf_s1 s c 0 (0 : Int32)) c1 1)) (0 : Int32)
def f3_startOf (c : Nat) (c1 : Nat) (s : sf_Sg) : Option sf_Sg :=
  f3_startOf_b0 c c1 s
def f1_clear_b0 (s : sf_Sg) : sf_Sg :=
  (sf_s1 s 125 0 (0 : Int32))
def f1_clear (s : sf_Sg) : sf_Sg :=
  f1_clear_b0 s
def f0_clear_b0 (s : sf_Sg) : sf_Sg :=
  (sf_s1 s 131 0 (0 : Int32))
def f0_clear (s : sf_Sg) : sf_Sg :=
  f0_clear_b0 s
def f4_clear_b0 (s : sf_Sg) : sf_Sg :=
  (sf_s1 s 27 0 (0 : Int32))
def f4_clear (s : sf_Sg) : sf_Sg :=
  f4_clear_b0 s
def f9_shop_b88 (s : sf_Sg) : Option (Int32 × sf_Sg) :=
  some ((s 10 2), s)
def f9_shop_b66 (k66 : sf_Sg → Int32 → Option (Int32 × sf_Sg)) (s : sf_Sg) (x2 : Int32) : Option (Int32 × sf_Sg) :=
  if (2 : Int32) ≤ x2 then
    f9_shop_b88 s
  else
    (sf_st s 136 2 x2 (0 : Int32)).bind fun s81 =>
    k66 s81 (x2 + 1)
def f9_shop_L66 : sf_Sg → Int32 → Option (Int32 × sf_Sg) :=
  sf_it (f9_shop_b66) (fun _ _ => none) sf_FU
def f9_shop_b0 (s : sf_Sg) : Option (Int32 × sf_Sg) :=
  (f5_readInto 3 s).bind fun q8 =>
  if q8.1 = 0 then
    (f7_copyFrom 10 3 q8.2).bind fun s29 =>
    (f3_startOf 16 10 s29).bind fun s40 =>
    f9_shop_L66 (f4_clear (f0_clear (f1_clear s40))) (0 : Int32)
  else
    some (((-10 : Int32) - q8.1), q8.2)
def f9_shop (s : sf_Sg) : Option (Int32 × sf_Sg) :=
  f9_shop_b0 s
def f9_fault_b0 (s : sf_Sg) : Int32 :=
  (s 1 1)
def f9_fault (s : sf_Sg) : Int32 :=
  f9_fault_b0 s
def f6_galled_b35 (s : sf_Sg) (k4 : Int32 → Int32 → Option Int32) (x1 : Int32) (x2 : Int32) : Option Int32 :=
  k4 x1 (x2 + 1)
def f6_galled_b4 (s : sf_Sg) (k4 : Int32 → Int32 → Option Int32) (x1 : Int32) (x2 : Int32) : Option Int32 :=
  if (s 10 3) ≤ x2 then
    some x1
  else
    (sf_ld s 21 5 x2).bind fun v23 =>
    if v23 < (20 : Int32) then
      f6_galled_b35 s k4 x1 x2
    else
      f6_galled_b35 s k4 (x1 ||| ((1 : Int32) <<< (x2 &&& 31))) x2
def f6_galled_L4 (s : sf_Sg) : Int32 → Int32 → Option Int32 :=
  sf_it (f6_galled_b4 s) (fun _ _ => none) sf_FU
def f6_galled_b0 (s : sf_Sg) : Option Int32 :=
  f6_galled_L4 s (0 : Int32) (0 : Int32)
def f6_galled (s : sf_Sg) : Option Int32 :=
  f6_galled_b0 s
def f3_isOn_b20 (c : Nat) (s : sf_Sg) : Option Int32 :=
  some (1 : Int32)
def f3_isOn_b0 (c : Nat) (s : sf_Sg) (x1 : Int32) (x2 : Int32) : Option Int32 :=
  (sf_ld s (c + 3) 6 x1).bind fun v5 =>
  if v5 = x2 then
    f3_isOn_b20 c s
  else
    (sf_ld s (c + 4) 6 x1).bind fun v15 =>
    if v15 = x2 then
      f3_isOn_b20 c s
    else
      some (0 : Int32)
def f3_isOn (c : Nat) (s : sf_Sg) (x1 : Int32) (x2 : Int32) : Option Int32 :=
  f3_isOn_b0 c s x1 x2
def f6_carriedBy_b33 (s : sf_Sg) (k4 : Int32 → Int32 → Int32 → Option Int32) (x1 : Int32) (x2 : Int32) (x3 : Int32) : Option Int32 :=
  k4 x1 x2 (x3 + 1)
def f6_carriedBy_b4 (s : sf_Sg) (k4 : Int32 → Int32 → Int32 → Option Int32) (x1 : Int32) (x2 : Int32) (x3 : Int32) : Option Int32 :=
  if (s 10 2) ≤ x3 then
    some x2
  else
    (f3_isOn 16 s x3 x1).bind fun v21 =>
    if v21 = 0 then
      f6_carriedBy_b33 s k4 x1 x2 x3
    else
      f6_carriedBy_b33 s k4 x1 (x2 ||| ((1 : Int32) <<< (x3 &&& 31))) x3
def f6_carriedBy_L4 (s : sf_Sg) : Int32 → Int32 → Int32 → Option Int32 :=
  sf_it (f6_carriedBy_b4 s) (fun _ _ _ => none) sf_FU
def f6_carriedBy_b0 (s : sf_Sg) (x1 : Int32) : Option Int32 :=
  f6_carriedBy_L4 s x1 (0 : Int32) (0 : Int32)
def f6_carriedBy (s : sf_Sg) (x1 : Int32) : Option Int32 :=
  f6_carriedBy_b0 s x1
def f9_has_b0 (x0 : Int32) (x1 : Int32) : Int32 :=
  if ((x0 >>> (x1 &&& 31)) &&& (1 : Int32)) = 0 then
    (0 : Int32)
  else
    (1 : Int32)
def f9_has (x0 : Int32) (x1 : Int32) : Int32 :=
  f9_has_b0 x0 x1
def f3_isShared_b0 (c : Nat) (s : sf_Sg) (x1 : Int32) : Option Int32 :=
  (sf_ld s (c + 4) 6 x1).bind fun v5 =>
  if v5 = (-1 : Int32) then
    some (0 : Int32)
  else
    some (1 : Int32)
def f3_isShared (c : Nat) (s : sf_Sg) (x1 : Int32) : Option Int32 :=
  f3_isShared_b0 c s x1
def f6_partOf_b0 (s : sf_Sg) (x1 : Int32) (x2 : Int32) : Option Int32 :=
  (sf_ld s 17 6 x1).bind fun v8 =>
  (f3_isShared 16 s x1).bind fun v15 =>
  if v15 = 0 then
    some v8
  else
    (sf_ld s 19 6 x1).bind fun v31 =>
    if v31 = x2 then
      some (v8 - (v8 / (2 : Int32)))
    else
      some (v8 / (2 : Int32))
def f6_partOf (s : sf_Sg) (x1 : Int32) (x2 : Int32) : Option Int32 :=
  f6_partOf_b0 s x1 x2
def f9_isAugust_b0 (x0 : Int32) : Int32 :=
  if (sf_rem x0 (12 : Int32)) = (7 : Int32) then
    (1 : Int32)
  else
    (0 : Int32)
def f9_isAugust (x0 : Int32) : Int32 :=
  f9_isAugust_b0 x0
def f6_rubOf_b0 (s : sf_Sg) (x1 : Int32) (x2 : Int32) (x3 : Int32) (x4 : Int32) : Option Int32 :=
  (sf_ld s 13 6 x1).bind fun v9 =>
  (sf_ld s 18 6 x1).bind fun v18 =>
  (sf_ld s 11 6 x1).bind fun v33 =>
  if v33 = 1 then
    if x3 = 0 then
      some (sf_max (0 : Int32) (v9 - v18))
    else
      some ((sf_max (0 : Int32) (v9 - v18)) / (2 : Int32))
  else if v33 = 2 then
    if (sf_max (0 : Int32) (v9 - v18)) ≤ 0 then
      some (0 : Int32)
    else
      (sf_ld s 15 5 x2).bind fun v93 =>
      some ((sf_max (0 : Int32) (v9 - v18)) + v93)
  else if v33 = 3 then
    if (sf_rem x4 (2 : Int32)) = 0 then
      some (sf_max (0 : Int32) (v9 - v18))
    else
      some ((sf_max (0 : Int32) (v9 - v18)) + (2 : Int32))
  else if v33 = 4 then
    if (f9_isAugust x4) = 0 then
      some (0 : Int32)
    else
      some ((2 : Int32) * (sf_max (0 : Int32) (v9 - v18)))
  else 
    some (sf_max (0 : Int32) (v9 - v18))
def f6_rubOf (s : sf_Sg) (x1 : Int32) (x2 : Int32) (x3 : Int32) (x4 : Int32) : Option Int32 :=
  f6_rubOf_b0 s x1 x2 x3 x4
def f6_gallingOf_b64 (s : sf_Sg) (k9 : Int32 → Int32 → Int32 → Int32 → Int32 → Int32 → Option Int32) (x1 : Int32) (x2 : Int32) (x3 : Int32) (x4 : Int32) (x5 : Int32) (x6 : Int32) : Option Int32 :=
  k9 x1 x2 x3 x4 x5 (x6 + 1)
def f6_gallingOf_b70 (s : sf_Sg) (x1 : Int32) (x4 : Int32) (x5 : Int32) : Option Int32 :=
  (sf_ld s 14 5 x1).bind fun v81 =>
  some ((sf_max (0 : Int32) (x4 - v81)) + x5)
def f6_gallingOf_b9 (s : sf_Sg) (k9 : Int32 → Int32 → Int32 → Int32 → Int32 → Int32 → Option Int32) (x1 : Int32) (x2 : Int32) (x3 : Int32) (x4 : Int32) (x5 : Int32) (x6 : Int32) : Option Int32 :=
  if (s 10 2) ≤ x6 then
    f6_gallingOf_b70 s x1 x4 x5
  else
    if (f9_has x2 x6) = 0 then
      f6_gallingOf_b64 s k9 x1 x2 x3 x4 x5 x6
    else
      (f6_partOf s x6 x1).bind fun v36 =>
      (f3_isShared 16 s x6).bind fun v54 =>
      (f6_rubOf s x6 x1 v54 x3).bind fun v58 =>
      f6_gallingOf_b64 s k9 x1 x2 x3 (x4 + v36) (x5 + v58) x6
def f6_gallingOf_L9 (s : sf_Sg) : Int32 → Int32 → Int32 → Int32 → Int32 → Int32 → Option Int32 :=
  sf_it (f6_gallingOf_b9 s) (fun _ _ _ _ _ _ => none) sf_FU
def f6_gallingOf_b0 (s : sf_Sg) (x1 : Int32) (x2 : Int32) (x3 : Int32) : Option Int32 :=
  f6_gallingOf_L9 s x1 x2 x3 (0 : Int32) (0 : Int32) (0 : Int32)
def f6_gallingOf (s : sf_Sg) (x1 : Int32) (x2 : Int32) (x3 : Int32) : Option Int32 :=
  f6_gallingOf_b0 s x1 x2 x3
def f6_gallingOfAll_b4 (s : sf_Sg) (k4 : Int32 → Int32 → Int32 → Option Int32) (x1 : Int32) (x2 : Int32) (x3 : Int32) : Option Int32 :=
  if (s 10 3) ≤ x3 then
    some x2
  else
    (f6_carriedBy s x3).bind fun v20 =>
    (f6_gallingOf s x3 v20 x1).bind fun v24 =>
    k4 x1 (x2 + v24) (x3 + 1)
def f6_gallingOfAll_L4 (s : sf_Sg) : Int32 → Int32 → Int32 → Option Int32 :=
  sf_it (f6_gallingOfAll_b4 s) (fun _ _ _ => none) sf_FU
def f6_gallingOfAll_b0 (s : sf_Sg) (x1 : Int32) : Option Int32 :=
  f6_gallingOfAll_L4 s x1 (0 : Int32) (0 : Int32)
def f6_gallingOfAll (s : sf_Sg) (x1 : Int32) : Option Int32 :=
  f6_gallingOfAll_b0 s x1
def f3_isCarried_b0 (c : Nat) (s : sf_Sg) (x1 : Int32) : Option Int32 :=
  (sf_ld s (c + 3) 6 x1).bind fun v5 =>
  if v5 = (-1 : Int32) then
    some (0 : Int32)
  else
    some (1 : Int32)
def f3_isCarried (c : Nat) (s : sf_Sg) (x1 : Int32) : Option Int32 :=
  f3_isCarried_b0 c s x1
def f6_carriedByNobody_b32 (s : sf_Sg) (k4 : Int32 → Int32 → Option Int32) (x1 : Int32) (x2 : Int32) : Option Int32 :=
  k4 x1 (x2 + 1)
def f6_carriedByNobody_b4 (s : sf_Sg) (k4 : Int32 → Int32 → Option Int32) (x1 : Int32) (x2 : Int32) : Option Int32 :=
  if (s 10 2) ≤ x2 then
    some x1
  else
    (f3_isCarried 16 s x2).bind fun v20 =>
    if v20 = 0 then
      f6_carriedByNobody_b32 s k4 (x1 ||| ((1 : Int32) <<< (x2 &&& 31))) x2
    else
      f6_carriedByNobody_b32 s k4 x1 x2
def f6_carriedByNobody_L4 (s : sf_Sg) : Int32 → Int32 → Option Int32 :=
  sf_it (f6_carriedByNobody_b4 s) (fun _ _ => none) sf_FU
def f6_carriedByNobody_b0 (s : sf_Sg) : Option Int32 :=
  f6_carriedByNobody_L4 s (0 : Int32) (0 : Int32)
def f6_carriedByNobody (s : sf_Sg) : Option Int32 :=
  f6_carriedByNobody_b0 s
def f6_sharedOnes_b32 (s : sf_Sg) (k4 : Int32 → Int32 → Option Int32) (x1 : Int32) (x2 : Int32) : Option Int32 :=
  k4 x1 (x2 + 1)
def f6_sharedOnes_b4 (s : sf_Sg) (k4 : Int32 → Int32 → Option Int32) (x1 : Int32) (x2 : Int32) : Option Int32 :=
  if (s 10 2) ≤ x2 then
    some x1
  else
    (f3_isShared 16 s x2).bind fun v20 =>
    if v20 = 0 then
      f6_sharedOnes_b32 s k4 x1 x2
    else
      f6_sharedOnes_b32 s k4 (x1 ||| ((1 : Int32) <<< (x2 &&& 31))) x2
def f6_sharedOnes_L4 (s : sf_Sg) : Int32 → Int32 → Option Int32 :=
  sf_it (f6_sharedOnes_b4 s) (fun _ _ => none) sf_FU
def f6_sharedOnes_b0 (s : sf_Sg) : Option Int32 :=
  f6_sharedOnes_L4 s (0 : Int32) (0 : Int32)
def f6_sharedOnes (s : sf_Sg) : Option Int32 :=
  f6_sharedOnes_b0 s
def f6_partsOn_b42 (s : sf_Sg) (k11 : Int32 → Int32 → Int32 → Int32 → Option Int32) (x1 : Int32) (x2 : Int32) (x3 : Int32) (x4 : Int32) : Option Int32 :=
  k11 x1 x2 x3 (x4 + 1)
def f6_partsOn_b11 (s : sf_Sg) (k11 : Int32 → Int32 → Int32 → Int32 → Option Int32) (x1 : Int32) (x2 : Int32) (x3 : Int32) (x4 : Int32) : Option Int32 :=
  if (s 10 2) ≤ x4 then
    some x3
  else
    if (f9_has x2 x4) = 0 then
      f6_partsOn_b42 s k11 x1 x2 x3 x4
    else
      (f6_partOf s x4 x1).bind fun v37 =>
      f6_partsOn_b42 s k11 x1 x2 (x3 + v37) x4
def f6_partsOn_L11 (s : sf_Sg) : Int32 → Int32 → Int32 → Int32 → Option Int32 :=
  sf_it (f6_partsOn_b11 s) (fun _ _ _ _ => none) sf_FU
def f6_partsOn_b0 (s : sf_Sg) (x1 : Int32) : Option Int32 :=
  (f6_carriedBy s x1).bind fun v2 =>
  f6_partsOn_L11 s x1 v2 (0 : Int32) (0 : Int32)
def f6_partsOn (s : sf_Sg) (x1 : Int32) : Option Int32 :=
  f6_partsOn_b0 s x1
def f6_mostLaden_b35 (s : sf_Sg) (k6 : Int32 → Int32 → Int32 → Option Int32) (x1 : Int32) (x2 : Int32) (x3 : Int32) : Option Int32 :=
  k6 x1 x2 (x3 + 1)
def f6_mostLaden_b6 (s : sf_Sg) (k6 : Int32 → Int32 → Int32 → Option Int32) (x1 : Int32) (x2 : Int32) (x3 : Int32) : Option Int32 :=
  if (s 10 3) ≤ x3 then
    some x1
  else
    (f6_partsOn s x3).bind fun v19 =>
    if v19 ≤ x2 then
      f6_mostLaden_b35 s k6 x1 x2 x3
    else
      f6_mostLaden_b35 s k6 x3 v19 x3
def f6_mostLaden_L6 (s : sf_Sg) : Int32 → Int32 → Int32 → Option Int32 :=
  sf_it (f6_mostLaden_b6 s) (fun _ _ _ => none) sf_FU
def f6_mostLaden_b0 (s : sf_Sg) : Option Int32 :=
  f6_mostLaden_L6 s (-1 : Int32) (-1 : Int32) (0 : Int32)
def f6_mostLaden (s : sf_Sg) : Option Int32 :=
  f6_mostLaden_b0 s
def f6_flockForBurden_b70 (s : sf_Sg) (x1 : Int32) (t0 : Int32) : Option Int32 :=
  (sf_ld s 13 6 x1).bind fun v80 =>
  (sf_ld s 18 6 x1).bind fun v89 =>
  some (sf_max (0 : Int32) ((v80 - v89) - t0))
def f6_flockForBurden_b69 (s : sf_Sg) (x1 : Int32) : Option Int32 :=
  f6_flockForBurden_b70 s x1 (0 : Int32)
def f6_flockForBurden_b49 (s : sf_Sg) (x1 : Int32) (x2 : Int32) : Option Int32 :=
  if x2 = (1 : Int32) then
    (f3_isShared 16 s x1).bind fun v59 =>
    if v59 = 0 then
      f6_flockForBurden_b69 s x1
    else
      f6_flockForBurden_b70 s x1 (1 : Int32)
  else
    f6_flockForBurden_b69 s x1
def f6_flockForBurden_b29 (s : sf_Sg) (x1 : Int32) (x2 : Int32) : Option Int32 :=
  if x2 = (4 : Int32) then
    if (f9_isAugust (s 16 0)) = 0 then
      some (0 : Int32)
    else
      f6_flockForBurden_b49 s x1 x2
  else
    f6_flockForBurden_b49 s x1 x2
def f6_flockForBurden_b0 (s : sf_Sg) (x1 : Int32) : Option Int32 :=
  (sf_ld s 11 6 x1).bind fun v8 =>
  if v8 = (3 : Int32) then
    if (sf_rem (s 16 0) (2 : Int32)) = 0 then
      f6_flockForBurden_b29 s x1 v8
    else
      some (-1 : Int32)
  else
    f6_flockForBurden_b29 s x1 v8
def f6_flockForBurden (s : sf_Sg) (x1 : Int32) : Option Int32 :=
  f6_flockForBurden_b0 s x1
def f6_flockForBurdens_b43 (s : sf_Sg) (k4 : Int32 → Int32 → Int32 → Option Int32) (x1 : Int32) (x2 : Int32) (x3 : Int32) : Option Int32 :=
  k4 x1 x2 (x3 + 1)
def f6_flockForBurdens_b4 (s : sf_Sg) (k4 : Int32 → Int32 → Int32 → Option Int32) (x1 : Int32) (x2 : Int32) (x3 : Int32) : Option Int32 :=
  if (s 10 2) ≤ x3 then
    some x2
  else
    if (f9_has x1 x3) = 0 then
      f6_flockForBurdens_b43 s k4 x1 x2 x3
    else
      (f6_flockForBurden s x3).bind fun v25 =>
      if v25 = (-1 : Int32) then
        some (-1 : Int32)
      else
        f6_flockForBurdens_b43 s k4 x1 (x2 + v25) x3
def f6_flockForBurdens_L4 (s : sf_Sg) : Int32 → Int32 → Int32 → Option Int32 :=
  sf_it (f6_flockForBurdens_b4 s) (fun _ _ _ => none) sf_FU
def f6_flockForBurdens_b0 (s : sf_Sg) (x1 : Int32) : Option Int32 :=
  f6_flockForBurdens_L4 s x1 (0 : Int32) (0 : Int32)
def f6_flockForBurdens (s : sf_Sg) (x1 : Int32) : Option Int32 :=
  f6_flockForBurdens_b0 s x1
def f6_flockForAll_b48 (s : sf_Sg) (x1 : Int32) : Option Int32 :=
  (f6_flockForBurdens s x1).bind fun v50 =>
  some v50
def f6_flockForAll_b4 (s : sf_Sg) (k4 : Int32 → Int32 → Option Int32) (x1 : Int32) (x2 : Int32) : Option Int32 :=
  if (s 10 3) ≤ x2 then
    f6_flockForAll_b48 s x1
  else
    (f6_partsOn s x2).bind fun v17 =>
    (sf_ld s 14 5 x2).bind fun v28 =>
    if v17 ≤ v28 then
      (f6_carriedBy s x2).bind fun v37 =>
      k4 (x1 ||| v37) (x2 + 1)
    else
      some (-1 : Int32)
def f6_flockForAll_L4 (s : sf_Sg) : Int32 → Int32 → Option Int32 :=
  sf_it (f6_flockForAll_b4 s) (fun _ _ => none) sf_FU
def f6_flockForAll_b0 (s : sf_Sg) : Option Int32 :=
  f6_flockForAll_L4 s (0 : Int32) (0 : Int32)
def f6_flockForAll (s : sf_Sg) : Option Int32 :=
  f6_flockForAll_b0 s
def f9_told_b0 (s : sf_Sg) (x1 : Int32) : Option Int32 :=
  if x1 = 0 then
    some (s 10 2)
  else if x1 = 1 then
    some (s 10 3)
  else if x1 = 2 then
    some (s 1 0)
  else if x1 = 3 then
    some (s 16 0)
  else if x1 = 4 then
    some (s 16 1)
  else if x1 = 5 then
    (f6_galled s).bind fun v120 =>
    some v120
  else if x1 = 6 then
    (f6_gallingOfAll s (s 16 0)).bind fun v135 =>
    some v135
  else if x1 = 7 then
    (f6_carriedByNobody s).bind fun v143 =>
    some v143
  else if x1 = 8 then
    (f6_sharedOnes s).bind fun v151 =>
    some v151
  else if x1 = 9 then
    (f6_mostLaden s).bind fun v159 =>
    some v159
  else if x1 = 10 then
    if (f9_isAugust (s 16 0)) = 0 then
      some (0 : Int32)
    else
      some (1 : Int32)
  else if x1 = 11 then
    some (s 125 0)
  else if x1 = 12 then
    some (s 131 0)
  else if x1 = 13 then
    some (s 27 0)
  else if x1 = 14 then
    (f6_flockForAll s).bind fun v210 =>
    some v210
  else 
    some (-1000000002 : Int32)
def f9_told (s : sf_Sg) (x1 : Int32) : Option Int32 :=
  f9_told_b0 s x1
def f7_hasBurden_b22 (c : Nat) (s : sf_Sg) : Int32 :=
  (0 : Int32)
def f7_hasBurden_b0 (c : Nat) (s : sf_Sg) (x1 : Int32) : Int32 :=
  if x1 < 0 then
    f7_hasBurden_b22 c s
  else
    if (s c 2) ≤ x1 then
      f7_hasBurden_b22 c s
    else
      if (6 : Int32) ≤ x1 then
        f7_hasBurden_b22 c s
      else
        (1 : Int32)
def f7_hasBurden (c : Nat) (s : sf_Sg) (x1 : Int32) : Int32 :=
  f7_hasBurden_b0 c s x1
def f9_burden_b0 (s : sf_Sg) (x1 : Int32) (x2 : Int32) : Option Int32 :=
  if (f7_hasBurden 10 s x1) = 0 then
    some (-1000000001 : Int32)
  else
    if x2 = 0 then
      (sf_ld s 11 6 x1).bind fun v60 =>
      some v60
    else if x2 = 1 then
      (sf_ld s 17 6 x1).bind fun v70 =>
      some v70
    else if x2 = 2 then
      (sf_ld s 13 6 x1).bind fun v80 =>
      some v80
    else if x2 = 3 then
      (sf_ld s 18 6 x1).bind fun v90 =>
      some v90
    else if x2 = 4 then
      (sf_ld s 19 6 x1).bind fun v100 =>
      some v100
    else if x2 = 5 then
      (sf_ld s 20 6 x1).bind fun v110 =>
      some v110
    else 
      some (-1000000002 : Int32)
def f9_burden (s : sf_Sg) (x1 : Int32) (x2 : Int32) : Option Int32 :=
  f9_burden_b0 s x1 x2
def f7_hasBack_b21 (c : Nat) (s : sf_Sg) : Int32 :=
  (0 : Int32)
def f7_hasBack_b0 (c : Nat) (s : sf_Sg) (x1 : Int32) : Int32 :=
  if x1 < 0 then
    f7_hasBack_b21 c s
  else
    if (s c 3) ≤ x1 then
      f7_hasBack_b21 c s
    else
      if (5 : Int32) ≤ x1 then
        f7_hasBack_b21 c s
      else
        (1 : Int32)
def f7_hasBack (c : Nat) (s : sf_Sg) (x1 : Int32) : Int32 :=
  f7_hasBack_b0 c s x1
def f6_gallingToday_b0 (s : sf_Sg) (x1 : Int32) : Option Int32 :=
  (f6_carriedBy s x1).bind fun v4 =>
  (f6_gallingOf s x1 v4 (s 16 0)).bind fun v14 =>
  some v14
def f6_gallingToday (s : sf_Sg) (x1 : Int32) : Option Int32 :=
  f6_gallingToday_b0 s x1
def f6_flockForBack_b0 (s : sf_Sg) (x1 : Int32) : Option Int32 :=
  (f6_partsOn s x1).bind fun v2 =>
  (sf_ld s 14 5 x1).bind fun v13 =>
  if v2 ≤ v13 then
    (f6_carriedBy s x1).bind fun v24 =>
    (f6_flockForBurdens s v24).bind fun v27 =>
    some v27
  else
    some (-1 : Int32)
def f6_flockForBack (s : sf_Sg) (x1 : Int32) : Option Int32 :=
  f6_flockForBack_b0 s x1
def f6_ringOf_b81 (s : sf_Sg) (k6 : Int32 → Int32 → Option Int32) (k14 : Int32 → Int32 → Int32 → Option Int32) (x2 : Int32) (x3 : Int32) (x4 : Int32) : Option Int32 :=
  k14 x2 x3 (x4 + 1)
def f6_ringOf_b67 (s : sf_Sg) (k6 : Int32 → Int32 → Option Int32) (k14 : Int32 → Int32 → Int32 → Option Int32) (x2 : Int32) (x3 : Int32) (x4 : Int32) (t0 : Int32) : Option Int32 :=
  if (x2 &&& t0) = 0 then
    f6_ringOf_b81 s k6 k14 x2 x3 x4
  else
    f6_ringOf_b81 s k6 k14 (x2 ||| t0) x3 x4
def f6_ringOf_b87 (s : sf_Sg) (k6 : Int32 → Int32 → Option Int32) (x2 : Int32) (x3 : Int32) : Option Int32 :=
  k6 x2 (x3 + 1)
def f6_ringOf_b14 (s : sf_Sg) (k6 : Int32 → Int32 → Option Int32) (k14 : Int32 → Int32 → Int32 → Option Int32) (x2 : Int32) (x3 : Int32) (x4 : Int32) : Option Int32 :=
  if (s 10 2) ≤ x4 then
    f6_ringOf_b87 s k6 x2 x3
  else
    (f3_isShared 16 s x4).bind fun v32 =>
    if v32 = 0 then
      f6_ringOf_b67 s k6 k14 x2 x3 x4 (0 : Int32)
    else
      (sf_ld s 19 6 x4).bind fun v48 =>
      (sf_ld s 20 6 x4).bind fun v60 =>
      f6_ringOf_b67 s k6 k14 x2 x3 x4 (((1 : Int32) <<< (v48 &&& 31)) ||| ((1 : Int32) <<< (v60 &&& 31)))
def f6_ringOf_L14 (s : sf_Sg) (k6 : Int32 → Int32 → Option Int32) : Int32 → Int32 → Int32 → Option Int32 :=
  sf_it (f6_ringOf_b14 s k6) (fun _ _ _ => none) sf_FU
def f6_ringOf_b6 (s : sf_Sg) (k6 : Int32 → Int32 → Option Int32) (x2 : Int32) (x3 : Int32) : Option Int32 :=
  if (5 : Int32) ≤ x3 then
    some x2
  else
    f6_ringOf_L14 s k6 x2 x3 (0 : Int32)
def f6_ringOf_L6 (s : sf_Sg) : Int32 → Int32 → Option Int32 :=
  sf_it (f6_ringOf_b6 s) (fun _ _ => none) sf_FU
def f6_ringOf_b0 (s : sf_Sg) (x1 : Int32) : Option Int32 :=
  f6_ringOf_L6 s ((1 : Int32) <<< (x1 &&& 31)) (0 : Int32)
def f6_ringOf (s : sf_Sg) (x1 : Int32) : Option Int32 :=
  f6_ringOf_b0 s x1
def f9_back_b0 (s : sf_Sg) (x1 : Int32) (x2 : Int32) : Option Int32 :=
  if (f7_hasBack 10 s x1) = 0 then
    some (-1000000001 : Int32)
  else
    if x2 = 0 then
      (sf_ld s 14 5 x1).bind fun v68 =>
      some v68
    else if x2 = 1 then
      (sf_ld s 15 5 x1).bind fun v78 =>
      some v78
    else if x2 = 2 then
      (sf_ld s 21 5 x1).bind fun v88 =>
      some v88
    else if x2 = 3 then
      (f6_gallingToday s x1).bind fun v95 =>
      some v95
    else if x2 = 4 then
      (f6_carriedBy s x1).bind fun v104 =>
      some v104
    else if x2 = 5 then
      (f6_partsOn s x1).bind fun v113 =>
      some v113
    else if x2 = 6 then
      (f6_flockForBack s x1).bind fun v122 =>
      some v122
    else if x2 = 7 then
      (f6_ringOf s x1).bind fun v131 =>
      some v131
    else 
      some (-1000000002 : Int32)
def f9_back (s : sf_Sg) (x1 : Int32) (x2 : Int32) : Option Int32 :=
  f9_back_b0 s x1 x2
def f9_refusalOfDays_b0 (s : sf_Sg) (x1 : Int32) : Int32 :=
  if (f9_within x1 (1 : Int32) (60 : Int32)) = 0 then
    (-1000000002 : Int32)
  else
    if (s 10 0) = 0 then
      (-1000000003 : Int32)
    else
      if (s 16 0) ≤ (9000 : Int32) then
        (0 : Int32)
      else
        (-1000000004 : Int32)
def f9_refusalOfDays (s : sf_Sg) (x1 : Int32) : Int32 :=
  f9_refusalOfDays_b0 s x1
def f3_copyFrom_b80 (c : Nat) (c1 : Nat) (k80 : sf_Sg → Int32 → Option sf_Sg) (s : sf_Sg) (x2 : Int32) : Option sf_Sg :=
  if (5 : Int32) ≤ x2 then
    some s
  else
    (sf_ld s (c1 + 5) 5 x2).bind fun v95 =>
    (sf_st s (c + 5) 5 x2 v95).bind fun s96 =>
    k80 s96 (x2 + 1)
def f3_copyFrom_L80 (c : Nat) (c1 : Nat) : sf_Sg → Int32 → Option sf_Sg :=
  sf_it (f3_copyFrom_b80 c c1) (fun _ _ => none) sf_FU
def f3_copyFrom_b78 (c : Nat) (c1 : Nat) (s : sf_Sg) : Option sf_Sg :=
  f3_copyFrom_L80 c c1 s (0 : Int32)
def f3_copyFrom_b18 (c : Nat) (c1 : Nat) (k18 : sf_Sg → Int32 → Option sf_Sg) (s : sf_Sg) (x2 : Int32) : Option sf_Sg :=
  if (6 : Int32) ≤ x2 then
    f3_copyFrom_b78 c c1 s
  else
    (sf_ld s (c1 + 1) 6 x2).bind fun v34 =>
    (sf_st s (c + 1) 6 x2 v34).bind fun s35 =>
    (sf_ld s35 (c1 + 2) 6 x2).bind fun v46 =>
    (sf_st s35 (c + 2) 6 x2 v46).bind fun s47 =>
    (sf_ld s47 (c1 + 3) 6 x2).bind fun v58 =>
    (sf_st s47 (c + 3) 6 x2 v58).bind fun s59 =>
    (sf_ld s59 (c1 + 4) 6 x2).bind fun v70 =>
    (sf_st s59 (c + 4) 6 x2 v70).bind fun s71 =>
    k18 s71 (x2 + 1)
def f3_copyFrom_L18 (c : Nat) (c1 : Nat) : sf_Sg → Int32 → Option sf_Sg :=
  sf_it (f3_copyFrom_b18 c c1) (fun _ _ => none) sf_FU
def f3_copyFrom_b0 (c : Nat) (c1 : Nat) (s : sf_Sg) : Option sf_Sg :=
  f3_copyFrom_L18 c c1 (sf_s1 (sf_s1 s c 0 (s c1 0)) c 1 ((sf_s1 s c 0 (s c1 0)) c1 1)) (0 : Int32)
def f3_copyFrom (c : Nat) (c1 : Nat) (s : sf_Sg) : Option sf_Sg :=
  f3_copyFrom_b0 c c1 s
def f4_add_b0 (c1 : Nat) (s : sf_Sg) : Option sf_Sg :=
  (sf_ix 16 (s 27 1)).bind fun j8 =>
  (f3_copyFrom (29 + 6 * j8) c1 s).bind fun s10 =>
  some (sf_s1 (sf_s1 s10 27 1 (sf_rem ((s10 27 1) + (1 : Int32)) (16 : Int32))) 27 0 (sf_min (((sf_s1 s10 27 1 (sf_rem ((s10 27 1) + (1 : Int32)) (16 : Int32))) 27 0) + (1 : Int32)) (16 : Int32)))
def f4_add (c1 : Nat) (s : sf_Sg) : Option sf_Sg :=
  f4_add_b0 c1 s
def f6_soreBehindDay_b0 (s : sf_Sg) (x1 : Int32) (x2 : Int32) (x3 : Int32) (x4 : Int32) : Option Int32 :=
  if x3 = 0 then
    some (sf_max (0 : Int32) (x2 - (3 : Int32)))
  else
    (f6_gallingOf s x1 x3 x4).bind fun v21 =>
    some (sf_min (9999 : Int32) (x2 + v21))
def f6_soreBehindDay (s : sf_Sg) (x1 : Int32) (x2 : Int32) (x3 : Int32) (x4 : Int32) : Option Int32 :=
  f6_soreBehindDay_b0 s x1 x2 x3 x4
def f6_passDay_b54 (s : sf_Sg) : Option sf_Sg :=
  some (sf_s1 s 16 0 ((s 16 0) + (1 : Int32)))
def f6_passDay_b2 (k2 : sf_Sg → Int32 → Option sf_Sg) (s : sf_Sg) (x1 : Int32) : Option sf_Sg :=
  if (s 10 3) ≤ x1 then
    f6_passDay_b54 s
  else
    (sf_ld s 21 5 x1).bind fun v31 =>
    (f6_carriedBy s x1).bind fun v34 =>
    (f6_soreBehindDay s x1 v31 v34 (s 16 0)).bind fun v44 =>
    (sf_st s 21 5 x1 v44).bind fun s47 =>
    k2 s47 (x1 + 1)
def f6_passDay_L2 : sf_Sg → Int32 → Option sf_Sg :=
  sf_it (f6_passDay_b2) (fun _ _ => none) sf_FU
def f6_passDay_b0 (s : sf_Sg) : Option sf_Sg :=
  f6_passDay_L2 s (0 : Int32)
def f6_passDay (s : sf_Sg) : Option sf_Sg :=
  f6_passDay_b0 s
def f9_day_b43 (s : sf_Sg) : Option (Int32 × sf_Sg) :=
  (f6_galled s).bind fun v47 =>
  some (v47, s)
def f9_day_b25 (k25 : sf_Sg → Int32 → Int32 → Option (Int32 × sf_Sg)) (s : sf_Sg) (x1 : Int32) (x3 : Int32) : Option (Int32 × sf_Sg) :=
  if x1 ≤ x3 then
    f9_day_b43 s
  else
    (f6_passDay s).bind fun s34 =>
    k25 s34 x1 (x3 + 1)
def f9_day_L25 : sf_Sg → Int32 → Int32 → Option (Int32 × sf_Sg) :=
  sf_it (f9_day_b25) (fun _ _ _ => none) sf_FU
def f9_day_b0 (s : sf_Sg) (x1 : Int32) : Option (Int32 × sf_Sg) :=
  if (f9_refusalOfDays s x1) = 0 then
    (f4_add 16 s).bind fun s20 =>
    f9_day_L25 s20 x1 (0 : Int32)
  else
    some ((f9_refusalOfDays s x1), s)
def f9_day (s : sf_Sg) (x1 : Int32) : Option (Int32 × sf_Sg) :=
  f9_day_b0 s x1
def f3_putOn_b0 (c : Nat) (s : sf_Sg) (x1 : Int32) (x2 : Int32) : Option sf_Sg :=
  (sf_st s (c + 3) 6 x1 x2).bind fun s6 =>
  some s6
def f3_putOn (c : Nat) (s : sf_Sg) (x1 : Int32) (x2 : Int32) : Option sf_Sg :=
  f3_putOn_b0 c s x1 x2
def f9_take_b0 (s : sf_Sg) (x1 : Int32) (x2 : Int32) : Option (Int32 × sf_Sg) :=
  if (f7_hasBurden 10 s x1) = 0 then
    some ((-1000000001 : Int32), s)
  else
    if (f7_hasBack 10 s x2) = 0 then
      some ((-1000000001 : Int32), s)
    else
      (f3_isCarried 16 s x1).bind fun v30 =>
      if v30 = 0 then
        (f4_add 16 s).bind fun s47 =>
        (f3_putOn 16 s47 x1 x2).bind fun s56 =>
        (f6_gallingToday s56 x2).bind fun v64 =>
        some (v64, s56)
      else
        some ((-1000000003 : Int32), s)
def f9_take (s : sf_Sg) (x1 : Int32) (x2 : Int32) : Option (Int32 × sf_Sg) :=
  f9_take_b0 s x1 x2
def f3_canJoin_b30 (c : Nat) (s : sf_Sg) : Option Int32 :=
  some (0 : Int32)
def f3_canJoin_b0 (c : Nat) (s : sf_Sg) (x1 : Int32) (x2 : Int32) : Option Int32 :=
  (f3_isCarried c s x1).bind fun v2 =>
  if v2 = 0 then
    f3_canJoin_b30 c s
  else
    (f3_isShared c s x1).bind fun v10 =>
    if v10 = 0 then
      (sf_ld s (c + 3) 6 x1).bind fun v21 =>
      if v21 = x2 then
        f3_canJoin_b30 c s
      else
        some (1 : Int32)
    else
      f3_canJoin_b30 c s
def f3_canJoin (c : Nat) (s : sf_Sg) (x1 : Int32) (x2 : Int32) : Option Int32 :=
  f3_canJoin_b0 c s x1 x2
def f3_join_b0 (c : Nat) (s : sf_Sg) (x1 : Int32) (x2 : Int32) : Option sf_Sg :=
  (sf_st s (c + 4) 6 x1 x2).bind fun s6 =>
  some s6
def f3_join (c : Nat) (s : sf_Sg) (x1 : Int32) (x2 : Int32) : Option sf_Sg :=
  f3_join_b0 c s x1 x2
def f9_share_b0 (s : sf_Sg) (x1 : Int32) (x2 : Int32) : Option (Int32 × sf_Sg) :=
  if (f7_hasBurden 10 s x1) = 0 then
    some ((-1000000001 : Int32), s)
  else
    if (f7_hasBack 10 s x2) = 0 then
      some ((-1000000001 : Int32), s)
    else
      (f3_canJoin 16 s x1 x2).bind fun v31 =>
      if v31 = 0 then
        some ((-1000000003 : Int32), s)
      else
        (f4_add 16 s).bind fun s48 =>
        (f3_join 16 s48 x1 x2).bind fun s57 =>
        (f6_gallingToday s57 x2).bind fun v65 =>
        some (v65, s57)
def f9_share (s : sf_Sg) (x1 : Int32) (x2 : Int32) : Option (Int32 × sf_Sg) :=
  f9_share_b0 s x1 x2
def f3_putDown_b22 (c : Nat) (s : sf_Sg) (x1 : Int32) : Option sf_Sg :=
  (sf_st s (c + 4) 6 x1 (-1 : Int32)).bind fun s28 =>
  some s28
def f3_putDown_b0 (c : Nat) (s : sf_Sg) (x1 : Int32) (x2 : Int32) : Option sf_Sg :=
  (sf_ld s (c + 3) 6 x1).bind fun v5 =>
  if v5 = x2 then
    (sf_ld s (c + 4) 6 x1).bind fun v20 =>
    (sf_st s (c + 3) 6 x1 v20).bind fun s21 =>
    f3_putDown_b22 c s21 x1
  else
    f3_putDown_b22 c s x1
def f3_putDown (c : Nat) (s : sf_Sg) (x1 : Int32) (x2 : Int32) : Option sf_Sg :=
  f3_putDown_b0 c s x1 x2
def f9_down_b0 (s : sf_Sg) (x1 : Int32) (x2 : Int32) : Option (Int32 × sf_Sg) :=
  if (f7_hasBurden 10 s x1) = 0 then
    some ((-1000000001 : Int32), s)
  else
    if (f7_hasBack 10 s x2) = 0 then
      some ((-1000000001 : Int32), s)
    else
      (f3_isOn 16 s x1 x2).bind fun v31 =>
      if v31 = 0 then
        some ((-1000000003 : Int32), s)
      else
        (f4_add 16 s).bind fun s48 =>
        (f3_putDown 16 s48 x1 x2).bind fun s57 =>
        (f6_gallingToday s57 x2).bind fun v65 =>
        some (v65, s57)
def f9_down (s : sf_Sg) (x1 : Int32) (x2 : Int32) : Option (Int32 × sf_Sg) :=
  f9_down_b0 s x1 x2
def f7_hasTwoBacks_b25 (c : Nat) (s : sf_Sg) : Int32 :=
  (0 : Int32)
def f7_hasTwoBacks_b0 (c : Nat) (s : sf_Sg) (x1 : Int32) (x2 : Int32) : Int32 :=
  if (f7_hasBack c s x1) = 0 then
    f7_hasTwoBacks_b25 c s
  else
    if (f7_hasBack c s x2) = 0 then
      f7_hasTwoBacks_b25 c s
    else
      if x1 = x2 then
        f7_hasTwoBacks_b25 c s
      else
        (1 : Int32)
def f7_hasTwoBacks (c : Nat) (s : sf_Sg) (x1 : Int32) (x2 : Int32) : Int32 :=
  f7_hasTwoBacks_b0 c s x1 x2
def f3_handOn_b0 (c : Nat) (s : sf_Sg) (x1 : Int32) (x2 : Int32) (x3 : Int32) : Option sf_Sg :=
  (sf_ld s (c + 3) 6 x1).bind fun v5 =>
  if v5 = x2 then
    (sf_st s (c + 3) 6 x1 x3).bind fun s16 =>
    some s16
  else
    (sf_st s (c + 4) 6 x1 x3).bind fun s26 =>
    some s26
def f3_handOn (c : Nat) (s : sf_Sg) (x1 : Int32) (x2 : Int32) (x3 : Int32) : Option sf_Sg :=
  f3_handOn_b0 c s x1 x2 x3
def f9_hand_b0 (s : sf_Sg) (x1 : Int32) (x2 : Int32) (x3 : Int32) : Option (Int32 × sf_Sg) :=
  if (f7_hasBurden 10 s x1) = 0 then
    some ((-1000000001 : Int32), s)
  else
    if (f7_hasTwoBacks 10 s x2 x3) = 0 then
      some ((-1000000001 : Int32), s)
    else
      (f3_isOn 16 s x1 x2).bind fun v32 =>
      if v32 = 0 then
        some ((-1000000003 : Int32), s)
      else
        (f3_isOn 16 s x1 x3).bind fun v44 =>
        if v44 = 0 then
          (f4_add 16 s).bind fun s61 =>
          (f3_handOn 16 s61 x1 x2 x3).bind fun s71 =>
          (f6_gallingToday s71 x3).bind fun v79 =>
          some (v79, s71)
        else
          some ((-1000000003 : Int32), s)
def f9_hand (s : sf_Sg) (x1 : Int32) (x2 : Int32) (x3 : Int32) : Option (Int32 × sf_Sg) :=
  f9_hand_b0 s x1 x2 x3
def f9_stuff_b0 (s : sf_Sg) (x1 : Int32) (x2 : Int32) : Option (Int32 × sf_Sg) :=
  if (f7_hasBurden 10 s x1) = 0 then
    some ((-1000000001 : Int32), s)
  else
    if (f9_within x2 (-30 : Int32) (30 : Int32)) = 0 then
      some ((-1000000002 : Int32), s)
    else
      (sf_ld s 18 6 x1).bind fun v36 =>
      if (f9_within (v36 + x2) (0 : Int32) (30 : Int32)) = 0 then
        some ((-1000000003 : Int32), s)
      else
        if x2 ≤ (s 16 1) then
          (f4_add 16 s).bind fun s70 =>
          (sf_ld s70 18 6 x1).bind fun v82 =>
          (sf_st s70 18 6 x1 (v82 + x2)).bind fun s85 =>
          (sf_ld (sf_s1 s85 16 1 ((s85 16 1) - x2)) 18 6 x1).bind fun v107 =>
          some (v107, (sf_s1 s85 16 1 ((s85 16 1) - x2)))
        else
          some ((-1000000003 : Int32), s)
def f9_stuff (s : sf_Sg) (x1 : Int32) (x2 : Int32) : Option (Int32 × sf_Sg) :=
  f9_stuff_b0 s x1 x2
def f9_weigh_b0 (s : sf_Sg) (x1 : Int32) (x2 : Int32) : Option (Int32 × sf_Sg) :=
  if (f7_hasBurden 10 s x1) = 0 then
    some ((-1000000001 : Int32), s)
  else
    if (f9_within x2 (1 : Int32) (60 : Int32)) = 0 then
      some ((-1000000002 : Int32), s)
    else
      (f4_add 16 s).bind fun s35 =>
      (sf_ld s35 17 6 x1).bind fun v46 =>
      (sf_st s35 17 6 x1 x2).bind fun s57 =>
      some (v46, s57)
def f9_weigh (s : sf_Sg) (x1 : Int32) (x2 : Int32) : Option (Int32 × sf_Sg) :=
  f9_weigh_b0 s x1 x2
def f9_draw_b0 (s : sf_Sg) (x1 : Int32) : Option (Int32 × sf_Sg) :=
  if (1 : Int32) ≤ x1 then
    (sf_mod (((sf_s1 s 0 13 (((((s 0 13).toInt64 * (1103515245 : Int64)) + (12345 : Int64)) &&& (2147483647 : Int64)).toInt32)) 0 13) / (65536 : Int32)) x1).bind fun v40 =>
    some (v40, (sf_s1 s 0 13 (((((s 0 13).toInt64 * (1103515245 : Int64)) + (12345 : Int64)) &&& (2147483647 : Int64)).toInt32)))
  else
    some ((0 : Int32), (sf_s1 s 0 13 (((((s 0 13).toInt64 * (1103515245 : Int64)) + (12345 : Int64)) &&& (2147483647 : Int64)).toInt32)))
def f9_draw (s : sf_Sg) (x1 : Int32) : Option (Int32 × sf_Sg) :=
  f9_draw_b0 s x1
def f9_doByDraws_b109 (s : sf_Sg) (x1 : Int32) (x2 : Int32) (x3 : Int32) : Option sf_Sg :=
  if x1 = (2 : Int32) then
    (f3_isOn 16 s x2 x3).bind fun v120 =>
    if v120 = 0 then
      some s
    else
      (f3_putDown 16 s x2 x3).bind fun s132 =>
      some s132
  else
    some s
def f9_doByDraws_b80 (s : sf_Sg) (x1 : Int32) (x2 : Int32) (x3 : Int32) : Option sf_Sg :=
  if x1 = (1 : Int32) then
    (f3_canJoin 16 s x2 x3).bind fun v91 =>
    if v91 = 0 then
      f9_doByDraws_b109 s x1 x2 x3
    else
      (f3_join 16 s x2 x3).bind fun s103 =>
      some s103
  else
    f9_doByDraws_b109 s x1 x2 x3
def f9_doByDraws_b0 (s : sf_Sg) : Option sf_Sg :=
  if (s 10 2) < (1 : Int32) then
    some s
  else
    if (1 : Int32) ≤ (s 10 3) then
      (f9_draw s (4 : Int32)).bind fun q25 =>
      (f9_draw q25.2 (q25.2 10 2)).bind fun q37 =>
      (f9_draw q37.2 (q37.2 10 3)).bind fun q49 =>
      if q25.1 = 0 then
        (f3_isCarried 16 q49.2 q37.1).bind fun v62 =>
        if v62 = 0 then
          (f3_putOn 16 q49.2 q37.1 q49.1).bind fun s74 =>
          some s74
        else
          f9_doByDraws_b80 q49.2 q25.1 q37.1 q49.1
      else
        f9_doByDraws_b80 q49.2 q25.1 q37.1 q49.1
    else
      some s
def f9_doByDraws (s : sf_Sg) : Option sf_Sg :=
  f9_doByDraws_b0 s
def f9_drift_b47 (s : sf_Sg) : Option (Int32 × sf_Sg) :=
  (f6_galled s).bind fun v51 =>
  some (v51, s)
def f9_drift_b25 (k25 : sf_Sg → Int32 → Int32 → Option (Int32 × sf_Sg)) (s : sf_Sg) (x1 : Int32) (x3 : Int32) : Option (Int32 × sf_Sg) :=
  if x1 ≤ x3 then
    f9_drift_b47 s
  else
    (f9_doByDraws s).bind fun s31 =>
    (f6_passDay s31).bind fun s38 =>
    k25 s38 x1 (x3 + 1)
def f9_drift_L25 : sf_Sg → Int32 → Int32 → Option (Int32 × sf_Sg) :=
  sf_it (f9_drift_b25) (fun _ _ _ => none) sf_FU
def f9_drift_b0 (s : sf_Sg) (x1 : Int32) : Option (Int32 × sf_Sg) :=
  if (f9_refusalOfDays s x1) = 0 then
    (f4_add 16 s).bind fun s20 =>
    f9_drift_L25 s20 x1 (0 : Int32)
  else
    some ((f9_refusalOfDays s x1), s)
def f9_drift (s : sf_Sg) (x1 : Int32) : Option (Int32 × sf_Sg) :=
  f9_drift_b0 s x1
def f4_takeBackInto_b0 (c1 : Nat) (s : sf_Sg) : Option (Int32 × sf_Sg) :=
  if (1 : Int32) ≤ (s 27 0) then
    (sf_ix 16 ((sf_s1 s 27 1 (sf_rem (((s 27 1) + (16 : Int32)) - (1 : Int32)) (16 : Int32))) 27 1)).bind fun j35 =>
    (f3_copyFrom c1 (29 + 6 * j35) (sf_s1 s 27 1 (sf_rem (((s 27 1) + (16 : Int32)) - (1 : Int32)) (16 : Int32)))).bind fun s36 =>
    some ((1 : Int32), (sf_s1 s36 27 0 ((s36 27 0) - (1 : Int32))))
  else
    some ((0 : Int32), s)
def f4_takeBackInto (c1 : Nat) (s : sf_Sg) : Option (Int32 × sf_Sg) :=
  f4_takeBackInto_b0 c1 s
def f9_undo_b0 (s : sf_Sg) : Option (Int32 × sf_Sg) :=
  (f4_takeBackInto 16 s).bind fun q8 =>
  if q8.1 = 0 then
    some ((-1000000003 : Int32), q8.2)
  else
    some ((q8.2 27 0), q8.2)
def f9_undo (s : sf_Sg) : Option (Int32 × sf_Sg) :=
  f9_undo_b0 s
def f6_soreBehind_b20 (s : sf_Sg) (k20 : Int32 → Int32 → Int32 → Int32 → Int32 → Option Int32) (x1 : Int32) (x2 : Int32) (x3 : Int32) (x4 : Int32) (x5 : Int32) : Option Int32 :=
  if x2 ≤ x5 then
    some x4
  else
    (f6_soreBehindDay s x1 x4 x3 ((s 16 0) + x5)).bind fun v41 =>
    k20 x1 x2 x3 v41 (x5 + 1)
def f6_soreBehind_L20 (s : sf_Sg) : Int32 → Int32 → Int32 → Int32 → Int32 → Option Int32 :=
  sf_it (f6_soreBehind_b20 s) (fun _ _ _ _ _ => none) sf_FU
def f6_soreBehind_b0 (s : sf_Sg) (x1 : Int32) (x2 : Int32) : Option Int32 :=
  (f6_carriedBy s x1).bind fun v2 =>
  (sf_ld s 21 5 x1).bind fun v14 =>
  f6_soreBehind_L20 s x1 x2 v2 v14 (0 : Int32)
def f6_soreBehind (s : sf_Sg) (x1 : Int32) (x2 : Int32) : Option Int32 :=
  f6_soreBehind_b0 s x1 x2
def f9_sore_b0 (s : sf_Sg) (x1 : Int32) (x2 : Int32) : Option Int32 :=
  if (f7_hasBack 10 s x1) = 0 then
    some (-1000000001 : Int32)
  else
    if (f9_within x2 (0 : Int32) (200 : Int32)) = 0 then
      some (-1000000002 : Int32)
    else
      (f6_soreBehind s x1 x2).bind fun v34 =>
      some v34
def f9_sore (s : sf_Sg) (x1 : Int32) (x2 : Int32) : Option Int32 :=
  f9_sore_b0 s x1 x2
def f6_firstGalledBehind_b19 (s : sf_Sg) (k19 : Int32 → Int32 → Int32 → Int32 → Option Int32) (x1 : Int32) (x2 : Int32) (x3 : Int32) (x4 : Int32) : Option Int32 :=
  if (200 : Int32) < x4 then
    some (-1 : Int32)
  else
    if x3 < (20 : Int32) then
      (f6_soreBehindDay s x1 x3 x2 ((s 16 0) + x4)).bind fun v50 =>
      k19 x1 x2 v50 (x4 + 1)
    else
      some x4
def f6_firstGalledBehind_L19 (s : sf_Sg) : Int32 → Int32 → Int32 → Int32 → Option Int32 :=
  sf_it (f6_firstGalledBehind_b19 s) (fun _ _ _ _ => none) sf_FU
def f6_firstGalledBehind_b0 (s : sf_Sg) (x1 : Int32) : Option Int32 :=
  (f6_carriedBy s x1).bind fun v2 =>
  (sf_ld s 21 5 x1).bind fun v14 =>
  f6_firstGalledBehind_L19 s x1 v2 v14 (0 : Int32)
def f6_firstGalledBehind (s : sf_Sg) (x1 : Int32) : Option Int32 :=
  f6_firstGalledBehind_b0 s x1
def f9_when_b0 (s : sf_Sg) (x1 : Int32) : Option Int32 :=
  if (f7_hasBack 10 s x1) = 0 then
    some (-1000000001 : Int32)
  else
    (f6_firstGalledBehind s x1).bind fun v19 =>
    some v19
def f9_when (s : sf_Sg) (x1 : Int32) : Option Int32 :=
  f9_when_b0 s x1
def f6_worstBehind_b41 (s : sf_Sg) (k7 : Int32 → Int32 → Int32 → Int32 → Option Int32) (x1 : Int32) (x2 : Int32) (x3 : Int32) (x4 : Int32) : Option Int32 :=
  k7 x1 x2 x3 (x4 + 1)
def f6_worstBehind_b7 (s : sf_Sg) (k7 : Int32 → Int32 → Int32 → Int32 → Option Int32) (x1 : Int32) (x2 : Int32) (x3 : Int32) (x4 : Int32) : Option Int32 :=
  if x1 ≤ x4 then
    some x2
  else
    (f6_gallingOfAll s ((s 16 0) + x4)).bind fun v24 =>
    if v24 ≤ x3 then
      f6_worstBehind_b41 s k7 x1 x2 x3 x4
    else
      f6_worstBehind_b41 s k7 x1 x4 v24 x4
def f6_worstBehind_L7 (s : sf_Sg) : Int32 → Int32 → Int32 → Int32 → Option Int32 :=
  sf_it (f6_worstBehind_b7 s) (fun _ _ _ _ => none) sf_FU
def f6_worstBehind_b0 (s : sf_Sg) (x1 : Int32) : Option Int32 :=
  f6_worstBehind_L7 s x1 (0 : Int32) (-1 : Int32) (0 : Int32)
def f6_worstBehind (s : sf_Sg) (x1 : Int32) : Option Int32 :=
  f6_worstBehind_b0 s x1
def f9_worst_b0 (s : sf_Sg) (x1 : Int32) (x2 : Int32) : Option Int32 :=
  if (f9_within x1 (1 : Int32) (60 : Int32)) = 0 then
    some (-1000000002 : Int32)
  else
    if (f9_within x2 (0 : Int32) (1 : Int32)) = 0 then
      some (-1000000002 : Int32)
    else
      if (s 10 0) = 0 then
        some (-1000000003 : Int32)
      else
        (f6_worstBehind s x1).bind fun v40 =>
        if x2 = 0 then
          some v40
        else
          (f6_gallingOfAll s ((s 16 0) + v40)).bind fun v65 =>
          some v65
def f9_worst (s : sf_Sg) (x1 : Int32) (x2 : Int32) : Option Int32 :=
  f9_worst_b0 s x1 x2
def f2_begin_b18 (k18 : sf_Sg → Int32 → Option sf_Sg) (s : sf_Sg) (x1 : Int32) : Option sf_Sg :=
  if (5 : Int32) ≤ x1 then
    some s
  else
    (sf_st s 24 5 x1 (0 : Int32)).bind fun s29 =>
    k18 s29 (x1 + 1)
def f2_begin_L18 : sf_Sg → Int32 → Option sf_Sg :=
  sf_it (f2_begin_b18) (fun _ _ => none) sf_FU
def f2_begin_b0 (s : sf_Sg) : Option sf_Sg :=
  f2_begin_L18 (sf_s1 (sf_s1 (sf_s1 s 22 0 (2147483647 : Int32)) 22 1 (-1 : Int32)) 22 5 (-1 : Int32)) (0 : Int32)
def f2_begin (s : sf_Sg) : Option sf_Sg :=
  f2_begin_b0 s
def f2_putOn_b0 (s : sf_Sg) (x2 : Int32) (x3 : Int32) : Option (Int32 × sf_Sg) :=
  (sf_ld s 14 5 x2).bind fun v8 =>
  (sf_ld s 24 5 x2).bind fun v17 =>
  (sf_ld s 24 5 x2).bind fun v32 =>
  (sf_st s 24 5 x2 (v32 + x3)).bind fun s35 =>
  (sf_ld s35 24 5 x2).bind fun v42 =>
  some (((sf_max (0 : Int32) (v42 - v8)) - (sf_max (0 : Int32) (v17 - v8))), s35)
def f2_putOn (s : sf_Sg) (x2 : Int32) (x3 : Int32) : Option (Int32 × sf_Sg) :=
  f2_putOn_b0 s x2 x3
def f2_lay_b87 (self : sf_Sg → Int32 → Int32 → Int32 → Option sf_Sg) (k87 : sf_Sg → Int32 → Int32 → Int32 → Int32 → Int32 → Option sf_Sg) (s : sf_Sg) (x2 : Int32) (x3 : Int32) (x4 : Int32) (x5 : Int32) (x6 : Int32) : Option sf_Sg :=
  if (s 10 3) ≤ x6 then
    some s
  else
    (sf_st s 25 6 x2 x6).bind fun s106 =>
    (f2_putOn s106 x6 x5).bind fun q113 =>
    (f6_rubOf q113.2 x2 x6 (0 : Int32) (q113.2 16 0)).bind fun v128 =>
    (self q113.2 (x2 + (1 : Int32)) (x3 + (q113.1 + v128)) x4).bind fun s145 =>
    (sf_ld s145 24 5 x6).bind fun v155 =>
    (sf_st s145 24 5 x6 (v155 - x5)).bind fun s159 =>
    k87 s159 x2 x3 x4 x5 (x6 + 1)
def f2_lay_L87 (self : sf_Sg → Int32 → Int32 → Int32 → Option sf_Sg) : sf_Sg → Int32 → Int32 → Int32 → Int32 → Int32 → Option sf_Sg :=
  sf_it (f2_lay_b87 self) (fun _ _ _ _ _ _ => none) sf_FU
def f2_lay_b0 (self : sf_Sg → Int32 → Int32 → Int32 → Option sf_Sg) (s : sf_Sg) (x2 : Int32) (x3 : Int32) (x4 : Int32) : Option sf_Sg :=
  if (s 22 0) ≤ x3 then
    some s
  else
    if x2 ≤ (6 : Int32) then
      if x2 < (s 10 2) then
        if x2 = x4 then
          (self s (x2 + (1 : Int32)) x3 x4).bind fun s69 =>
          some s69
        else
          (sf_ld s 17 6 x2).bind fun v81 =>
          f2_lay_L87 self s x2 x3 x4 v81 (0 : Int32)
      else
        some (sf_su (sf_s1 (sf_s1 s 22 0 x3) 22 1 ((sf_s1 s 22 0 x3) 22 5)) 23 (va_cpy ((sf_s1 (sf_s1 s 22 0 x3) 22 1 ((sf_s1 s 22 0 x3) 22 5)) 25) ((sf_s1 (sf_s1 s 22 0 x3) 22 1 ((sf_s1 s 22 0 x3) 22 5)) 23) 0 0 (6 : Int32).toNatClampNeg))
    else
      some s
def f2_lay : Nat → sf_Sg → Int32 → Int32 → Int32 → Option sf_Sg :=
  sf_it (fun self s x2 x3 x4 => f2_lay_b0 self s x2 x3 x4) (fun _ _ _ _ => none)
def f2_layAlone_b0 (s : sf_Sg) : Option sf_Sg :=
  (f2_begin s).bind fun s1 =>
  (f2_lay 9 s1 (0 : Int32) (0 : Int32) (-1 : Int32)).bind fun s9 =>
  some s9
def f2_layAlone (s : sf_Sg) : Option sf_Sg :=
  f2_layAlone_b0 s
def f9_fit_b19 (s : sf_Sg) (x1 : Int32) : Option (Int32 × sf_Sg) :=
  if (1 : Int32) ≤ (s 10 3) then
    (f2_layAlone s).bind fun s40 =>
    if x1 = (-1 : Int32) then
      some ((s40 22 0), s40)
    else
      (sf_ld s40 23 6 x1).bind fun v66 =>
      some (v66, s40)
  else
    some ((-1 : Int32), s)
def f9_fit_b0 (s : sf_Sg) (x1 : Int32) : Option (Int32 × sf_Sg) :=
  if x1 = (-1 : Int32) then
    f9_fit_b19 s x1
  else
    if (f7_hasBurden 10 s x1) = 0 then
      some ((-1000000001 : Int32), s)
    else
      f9_fit_b19 s x1
def f9_fit (s : sf_Sg) (x1 : Int32) : Option (Int32 × sf_Sg) :=
  f9_fit_b0 s x1
def f2_layByTwo_b158 (k40 : sf_Sg → Int32 → Int32 → Int32 → Int32 → Int32 → Int32 → Option sf_Sg) (s : sf_Sg) (x2 : Int32) (x3 : Int32) (x4 : Int32) (x5 : Int32) (x6 : Int32) (x7 : Int32) : Option sf_Sg :=
  k40 s x2 x3 x4 x5 x6 (x7 + 1)
def f2_layByTwo_b53 (k40 : sf_Sg → Int32 → Int32 → Int32 → Int32 → Int32 → Int32 → Option sf_Sg) (k53 : sf_Sg → Int32 → Int32 → Int32 → Int32 → Int32 → Int32 → Int32 → Option sf_Sg) (s : sf_Sg) (x2 : Int32) (x3 : Int32) (x4 : Int32) (x5 : Int32) (x6 : Int32) (x7 : Int32) (x8 : Int32) : Option sf_Sg :=
  if x5 ≤ x8 then
    f2_layByTwo_b158 k40 s x2 x3 x4 x5 x6 x7
  else
    (f2_putOn (sf_s1 s 22 5 (((10 : Int32) * x7) + x8)) x7 (x3 - x6)).bind fun q80 =>
    (f6_rubOf q80.2 x2 x7 (1 : Int32) x4).bind fun v90 =>
    (f2_putOn q80.2 x8 x6).bind fun q100 =>
    (f6_rubOf q100.2 x2 x8 (1 : Int32) x4).bind fun v111 =>
    (f2_lay 9 q100.2 (0 : Int32) (((q80.1 + v90) + q100.1) + v111) x2).bind fun s123 =>
    (sf_ld s123 24 5 x7).bind fun v133 =>
    (sf_st s123 24 5 x7 (v133 - (x3 - x6))).bind fun s139 =>
    (sf_ld s139 24 5 x8).bind fun v147 =>
    (sf_st s139 24 5 x8 (v147 - x6)).bind fun s151 =>
    k53 s151 x2 x3 x4 x5 x6 x7 (x8 + 1)
def f2_layByTwo_L53 (k40 : sf_Sg → Int32 → Int32 → Int32 → Int32 → Int32 → Int32 → Option sf_Sg) : sf_Sg → Int32 → Int32 → Int32 → Int32 → Int32 → Int32 → Int32 → Option sf_Sg :=
  sf_it (f2_layByTwo_b53 k40) (fun _ _ _ _ _ _ _ _ => none) sf_FU
def f2_layByTwo_b40 (k40 : sf_Sg → Int32 → Int32 → Int32 → Int32 → Int32 → Int32 → Option sf_Sg) (s : sf_Sg) (x2 : Int32) (x3 : Int32) (x4 : Int32) (x5 : Int32) (x6 : Int32) (x7 : Int32) : Option sf_Sg :=
  if x5 ≤ x7 then
    some s
  else
    f2_layByTwo_L53 k40 s x2 x3 x4 x5 x6 x7 (x7 + (1 : Int32))
def f2_layByTwo_L40 : sf_Sg → Int32 → Int32 → Int32 → Int32 → Int32 → Int32 → Option sf_Sg :=
  sf_it (f2_layByTwo_b40) (fun _ _ _ _ _ _ _ => none) sf_FU
def f2_layByTwo_b0 (s : sf_Sg) (x2 : Int32) : Option sf_Sg :=
  (f2_begin s).bind fun s1 =>
  (sf_ld s1 17 6 x2).bind fun v12 =>
  f2_layByTwo_L40 s1 x2 v12 (s1 16 0) (s1 10 3) (v12 / (2 : Int32)) (0 : Int32)
def f2_layByTwo (s : sf_Sg) (x2 : Int32) : Option sf_Sg :=
  f2_layByTwo_b0 s x2
def f9_byTwo_b0 (s : sf_Sg) (x1 : Int32) (x2 : Int32) : Option (Int32 × sf_Sg) :=
  if (f7_hasBurden 10 s x1) = 0 then
    some ((-1000000001 : Int32), s)
  else
    if (f9_within x2 (0 : Int32) (1 : Int32)) = 0 then
      some ((-1000000002 : Int32), s)
    else
      if (2 : Int32) ≤ (s 10 3) then
        (f2_layByTwo s x1).bind fun s48 =>
        if x2 = 0 then
          some ((s48 22 0), s48)
        else
          some ((s48 22 1), s48)
      else
        some ((-1 : Int32), s)
def f9_byTwo (s : sf_Sg) (x1 : Int32) (x2 : Int32) : Option (Int32 × sf_Sg) :=
  f9_byTwo_b0 s x1 x2
def f8_putDownNext_b11 (self : sf_Sg → Int32 → Int32 → Int32 → Int32 → Int32 → Option sf_Sg) (s : sf_Sg) (x4 : Int32) (x5 : Int32) : Option sf_Sg :=
  if (s 26 0) ≤ x4 then
    some s
  else
    some (sf_s1 (sf_s1 s 26 0 x4) 26 1 x5)
def f8_putDownNext_b112 (self : sf_Sg → Int32 → Int32 → Int32 → Int32 → Int32 → Option sf_Sg) (k36 : sf_Sg → Int32 → Int32 → Int32 → Int32 → Int32 → Int32 → Option sf_Sg) (s : sf_Sg) (x2 : Int32) (x3 : Int32) (x4 : Int32) (x5 : Int32) (x6 : Int32) (x7 : Int32) : Option sf_Sg :=
  k36 s x2 x3 x4 x5 x6 (x7 + 1)
def f8_putDownNext_b36 (self : sf_Sg → Int32 → Int32 → Int32 → Int32 → Int32 → Option sf_Sg) (k36 : sf_Sg → Int32 → Int32 → Int32 → Int32 → Int32 → Int32 → Option sf_Sg) (s : sf_Sg) (x2 : Int32) (x3 : Int32) (x4 : Int32) (x5 : Int32) (x6 : Int32) (x7 : Int32) : Option sf_Sg :=
  if (s 10 2) ≤ x7 then
    some s
  else
    if (f9_has x3 x7) = 0 then
      f8_putDownNext_b112 self k36 s x2 x3 x4 x5 x6 x7
    else
      (f6_soreBehindDay s x2 x4 (x3 &&& (((1 : Int32) <<< (x7 &&& 31)) ^^^ (-1 : Int32))) ((s 16 0) + x6)).bind fun v83 =>
      (self s x2 (x3 &&& (((1 : Int32) <<< (x7 &&& 31)) ^^^ (-1 : Int32))) v83 (((x5 * (10 : Int32)) + x7) + (1 : Int32)) (x6 + (1 : Int32))).bind fun s109 =>
      f8_putDownNext_b112 self k36 s109 x2 x3 x4 x5 x6 x7
def f8_putDownNext_L36 (self : sf_Sg → Int32 → Int32 → Int32 → Int32 → Int32 → Option sf_Sg) : sf_Sg → Int32 → Int32 → Int32 → Int32 → Int32 → Int32 → Option sf_Sg :=
  sf_it (f8_putDownNext_b36 self) (fun _ _ _ _ _ _ _ => none) sf_FU
def f8_putDownNext_b0 (self : sf_Sg → Int32 → Int32 → Int32 → Int32 → Int32 → Option sf_Sg) (s : sf_Sg) (x2 : Int32) (x3 : Int32) (x4 : Int32) (x5 : Int32) (x6 : Int32) : Option sf_Sg :=
  if x3 = 0 then
    f8_putDownNext_b11 self s x4 x5
  else
    if x6 < (6 : Int32) then
      f8_putDownNext_L36 self s x2 x3 x4 x5 x6 (0 : Int32)
    else
      f8_putDownNext_b11 self s x4 x5
def f8_putDownNext : Nat → sf_Sg → Int32 → Int32 → Int32 → Int32 → Int32 → Option sf_Sg :=
  sf_it (fun self s x2 x3 x4 x5 x6 => f8_putDownNext_b0 self s x2 x3 x4 x5 x6) (fun _ _ _ _ _ _ => none)
def f8_search_b0 (s : sf_Sg) (x2 : Int32) : Option sf_Sg :=
  (f6_carriedBy (sf_s1 (sf_s1 s 26 0 (2147483647 : Int32)) 26 1 (0 : Int32)) x2).bind fun v16 =>
  (sf_ld (sf_s1 (sf_s1 s 26 0 (2147483647 : Int32)) 26 1 (0 : Int32)) 21 5 x2).bind fun v27 =>
  (f8_putDownNext 9 (sf_s1 (sf_s1 s 26 0 (2147483647 : Int32)) 26 1 (0 : Int32)) x2 v16 v27 (0 : Int32) (0 : Int32)).bind fun s30 =>
  some s30
def f8_search (s : sf_Sg) (x2 : Int32) : Option sf_Sg :=
  f8_search_b0 s x2
def f9_order_b0 (s : sf_Sg) (x1 : Int32) (x2 : Int32) : Option (Int32 × sf_Sg) :=
  if (f7_hasBack 10 s x1) = 0 then
    some ((-1000000001 : Int32), s)
  else
    if (f9_within x2 (0 : Int32) (1 : Int32)) = 0 then
      some ((-1000000002 : Int32), s)
    else
      (f8_search s x1).bind fun s35 =>
      if x2 = 0 then
        some ((s35 26 0), s35)
      else
        some ((s35 26 1), s35)
def f9_order (s : sf_Sg) (x1 : Int32) (x2 : Int32) : Option (Int32 × sf_Sg) :=
  f9_order_b0 s x1 x2
def f6_ableToTake_b63 (s : sf_Sg) (k4 : Int32 → Int32 → Int32 → Option Int32) (x1 : Int32) (x2 : Int32) (x3 : Int32) : Option Int32 :=
  k4 x1 x2 (x3 + 1)
def f6_ableToTake_b4 (s : sf_Sg) (k4 : Int32 → Int32 → Int32 → Option Int32) (x1 : Int32) (x2 : Int32) (x3 : Int32) : Option Int32 :=
  if (s 10 3) ≤ x3 then
    some x2
  else
    (f6_carriedBy s x3).bind fun v17 =>
    (f6_gallingOf s x3 (v17 ||| ((1 : Int32) <<< (x1 &&& 31))) (s 16 0)).bind fun v37 =>
    (f6_gallingOf s x3 v17 (s 16 0)).bind fun v51 =>
    if v51 < v37 then
      f6_ableToTake_b63 s k4 x1 x2 x3
    else
      f6_ableToTake_b63 s k4 x1 (x2 ||| ((1 : Int32) <<< (x3 &&& 31))) x3
def f6_ableToTake_L4 (s : sf_Sg) : Int32 → Int32 → Int32 → Option Int32 :=
  sf_it (f6_ableToTake_b4 s) (fun _ _ _ => none) sf_FU
def f6_ableToTake_b0 (s : sf_Sg) (x1 : Int32) : Option Int32 :=
  f6_ableToTake_L4 s x1 (0 : Int32) (0 : Int32)
def f6_ableToTake (s : sf_Sg) (x1 : Int32) : Option Int32 :=
  f6_ableToTake_b0 s x1
def f9_could_b0 (s : sf_Sg) (x1 : Int32) : Option Int32 :=
  if (f7_hasBurden 10 s x1) = 0 then
    some (-1000000001 : Int32)
  else
    (f3_isCarried 16 s x1).bind fun v19 =>
    if v19 = 0 then
      (f6_ableToTake s x1).bind fun v33 =>
      some v33
    else
      some (-1000000003 : Int32)
def f9_could (s : sf_Sg) (x1 : Int32) : Option Int32 :=
  f9_could_b0 s x1
def f9_shareOf_b0 (s : sf_Sg) (x1 : Int32) (x2 : Int32) (x3 : Int32) : Option Int32 :=
  if (f7_hasBurden 10 s x1) = 0 then
    some (-1000000001 : Int32)
  else
    if (f7_hasTwoBacks 10 s x2 x3) = 0 then
      some (-1000000001 : Int32)
    else
      (sf_ld s 14 5 x2).bind fun v34 =>
      (sf_ld s 14 5 x3).bind fun v43 =>
      if (1 : Int32) ≤ (v34 + v43) then
        (sf_ld s 17 6 x1).bind fun v64 =>
        (sf_ld s 17 6 x1).bind fun v73 =>
        (sf_ld s 14 5 x3).bind fun v82 =>
        (sf_div (v73 * v82) (v34 + v43)).bind fun v86 =>
        some (v64 - v86)
      else
        some (-1000000001 : Int32)
def f9_shareOf (s : sf_Sg) (x1 : Int32) (x2 : Int32) (x3 : Int32) : Option Int32 :=
  f9_shareOf_b0 s x1 x2 x3
def f9_fair_b30 (k30 : Int32 → Int32 → Int64 → Int32 → Option Int32) (x1 : Int32) (x2 : Int32) (x3 : Int64) (x5 : Int32) : Option Int32 :=
  if x1 ≤ x5 then
    some x3.toInt32
  else
    k30 x1 x2 ((x3 * x2.toInt64) / (100 : Int64)) (x5 + 1)
def f9_fair_L30 : Int32 → Int32 → Int64 → Int32 → Option Int32 :=
  sf_it (f9_fair_b30) (fun _ _ _ _ => none) sf_FU
def f9_fair_b0 (x1 : Int32) (x2 : Int32) : Option Int32 :=
  if (f9_within x1 (0 : Int32) (60 : Int32)) = 0 then
    some (-1000000002 : Int32)
  else
    if (f9_within x2 (0 : Int32) (100 : Int32)) = 0 then
      some (-1000000002 : Int32)
    else
      f9_fair_L30 x1 x2 (1000000000 : Int64) (0 : Int32)
def f9_fair (x1 : Int32) (x2 : Int32) : Option Int32 :=
  f9_fair_b0 x1 x2
def f1_add_b0 (s : sf_Sg) (x1 : Int32) (x2 : Int32) (x3 : Int32) : Option (Int32 × sf_Sg) :=
  if (s 125 0) < (6 : Int32) then
    (sf_st s 127 6 (s 125 0) x1).bind fun s20 =>
    (sf_st s20 128 6 (s20 125 0) x2).bind fun s30 =>
    (sf_st s30 129 6 (s30 125 0) x3).bind fun s40 =>
    some ((1 : Int32), (sf_s1 s40 125 0 ((s40 125 0) + (1 : Int32))))
  else
    some ((0 : Int32), s)
def f1_add (s : sf_Sg) (x1 : Int32) (x2 : Int32) (x3 : Int32) : Option (Int32 × sf_Sg) :=
  f1_add_b0 s x1 x2 x3
def f9_feel_b0 (s : sf_Sg) (x1 : Int32) (x2 : Int32) (x3 : Int32) : Option (Int32 × sf_Sg) :=
  if (f9_within x1 (1 : Int32) (99 : Int32)) = 0 then
    some ((-1000000002 : Int32), s)
  else
    if (f9_within x2 (0 : Int32) (30 : Int32)) = 0 then
      some ((-1000000002 : Int32), s)
    else
      if (f9_within x3 (0 : Int32) (99 : Int32)) = 0 then
        some ((-1000000002 : Int32), s)
      else
        (f1_add s x1 x2 x3).bind fun q40 =>
        if q40.1 = 0 then
          some ((-1000000004 : Int32), q40.2)
        else
          some ((q40.2 125 0), q40.2)
def f9_feel (s : sf_Sg) (x1 : Int32) (x2 : Int32) (x3 : Int32) : Option (Int32 × sf_Sg) :=
  f9_feel_b0 s x1 x2 x3
def f1_agrees_b2 (s : sf_Sg) (k2 : Int32 → Int32 → Int32 → Option Int32) (x1 : Int32) (x2 : Int32) (x3 : Int32) : Option Int32 :=
  if (s 125 0) ≤ x3 then
    some (1 : Int32)
  else
    (sf_ld s 127 6 x3).bind fun v17 =>
    (sf_ld s 128 6 x3).bind fun v29 =>
    (sf_ld s 129 6 x3).bind fun v40 =>
    if ((sf_max (0 : Int32) (x1 - v17)) + (sf_max (0 : Int32) (x2 - v29))) = v40 then
      k2 x1 x2 (x3 + 1)
    else
      some (0 : Int32)
def f1_agrees_L2 (s : sf_Sg) : Int32 → Int32 → Int32 → Option Int32 :=
  sf_it (f1_agrees_b2 s) (fun _ _ _ => none) sf_FU
def f1_agrees_b0 (s : sf_Sg) (x1 : Int32) (x2 : Int32) : Option Int32 :=
  f1_agrees_L2 s x1 x2 (0 : Int32)
def f1_agrees (s : sf_Sg) (x1 : Int32) (x2 : Int32) : Option Int32 :=
  f1_agrees_b0 s x1 x2
def f1_findPairs_b48 (k7 : sf_Sg → Int32 → Option sf_Sg) (k17 : sf_Sg → Int32 → Int32 → Int32 → Option sf_Sg) (s : sf_Sg) (x1 : Int32) (x2 : Int32) (x3 : Int32) : Option sf_Sg :=
  k17 s x1 x2 (x3 + 1)
def f1_findPairs_b54 (k7 : sf_Sg → Int32 → Option sf_Sg) (s : sf_Sg) (x1 : Int32) (x2 : Int32) : Option sf_Sg :=
  (sf_st s 126 61 x1 x2).bind fun s60 =>
  k7 s60 (x1 + 1)
def f1_findPairs_b17 (k7 : sf_Sg → Int32 → Option sf_Sg) (k17 : sf_Sg → Int32 → Int32 → Int32 → Option sf_Sg) (s : sf_Sg) (x1 : Int32) (x2 : Int32) (x3 : Int32) : Option sf_Sg :=
  if (20 : Int32) < x3 then
    f1_findPairs_b54 k7 s x1 x2
  else
    (f1_agrees s x1 x3).bind fun v26 =>
    if v26 = 0 then
      f1_findPairs_b48 k7 k17 s x1 x2 x3
    else
      f1_findPairs_b48 k7 k17 (sf_s1 s 125 1 ((s 125 1) + (1 : Int32))) x1 (x2 ||| ((1 : Int32) <<< (x3 &&& 31))) x3
def f1_findPairs_L17 (k7 : sf_Sg → Int32 → Option sf_Sg) : sf_Sg → Int32 → Int32 → Int32 → Option sf_Sg :=
  sf_it (f1_findPairs_b17 k7) (fun _ _ _ _ => none) sf_FU
def f1_findPairs_b7 (k7 : sf_Sg → Int32 → Option sf_Sg) (s : sf_Sg) (x1 : Int32) : Option sf_Sg :=
  if (60 : Int32) < x1 then
    some s
  else
    f1_findPairs_L17 k7 s x1 (0 : Int32) (0 : Int32)
def f1_findPairs_L7 : sf_Sg → Int32 → Option sf_Sg :=
  sf_it (f1_findPairs_b7) (fun _ _ => none) sf_FU
def f1_findPairs_b0 (s : sf_Sg) : Option sf_Sg :=
  f1_findPairs_L7 (sf_s1 s 125 1 (0 : Int32)) (1 : Int32)
def f1_findPairs (s : sf_Sg) : Option sf_Sg :=
  f1_findPairs_b0 s
def f1_leastWeight_b2 (s : sf_Sg) (k2 : Int32 → Option Int32) (x1 : Int32) : Option Int32 :=
  if (60 : Int32) < x1 then
    some (-1 : Int32)
  else
    (sf_ld s 126 61 x1).bind fun v13 =>
    if v13 = 0 then
      k2 (x1 + 1)
    else
      some x1
def f1_leastWeight_L2 (s : sf_Sg) : Int32 → Option Int32 :=
  sf_it (f1_leastWeight_b2 s) (fun _ => none) sf_FU
def f1_leastWeight_b0 (s : sf_Sg) : Option Int32 :=
  f1_leastWeight_L2 s (1 : Int32)
def f1_leastWeight (s : sf_Sg) : Option Int32 :=
  f1_leastWeight_b0 s
def f1_leastEdge_b7 (s : sf_Sg) (k7 : Int32 → Int32 → Option Int32) (x1 : Int32) (x2 : Int32) : Option Int32 :=
  if x1 = (-1 : Int32) then
    some (-1 : Int32)
  else
    if (20 : Int32) < x2 then
      some (-1 : Int32)
    else
      (sf_ld s 126 61 x1).bind fun v23 =>
      if (f9_has v23 x2) = 0 then
        k7 x1 (x2 + 1)
      else
        some x2
def f1_leastEdge_L7 (s : sf_Sg) : Int32 → Int32 → Option Int32 :=
  sf_it (f1_leastEdge_b7 s) (fun _ _ => none) sf_FU
def f1_leastEdge_b0 (s : sf_Sg) : Option Int32 :=
  (f1_leastWeight s).bind fun v1 =>
  f1_leastEdge_L7 s v1 (0 : Int32)
def f1_leastEdge (s : sf_Sg) : Option Int32 :=
  f1_leastEdge_b0 s
def f9_carries_b0 (s : sf_Sg) (x1 : Int32) : Option (Int32 × sf_Sg) :=
  if (f9_within x1 (0 : Int32) (2 : Int32)) = 0 then
    some ((-1000000002 : Int32), s)
  else
    (f1_findPairs s).bind fun s16 =>
    if x1 = 0 then
      some ((s16 125 1), s16)
    else
      if x1 = (1 : Int32) then
        (f1_leastWeight s16).bind fun v40 =>
        some (v40, s16)
      else
        (f1_leastEdge s16).bind fun v50 =>
        some (v50, s16)
def f9_carries (s : sf_Sg) (x1 : Int32) : Option (Int32 × sf_Sg) :=
  f9_carries_b0 s x1
def f1_greatestPart_b105 (k29 : sf_Sg → Int32 → Int32 → Int32 → Int32 → Option (Int32 × sf_Sg)) (k54 : sf_Sg → Int32 → Int32 → Int32 → Int32 → Int32 → Int32 → Option (Int32 × sf_Sg)) (s : sf_Sg) (x1 : Int32) (x2 : Int32) (x3 : Int32) (x4 : Int32) (x5 : Int32) (x6 : Int32) : Option (Int32 × sf_Sg) :=
  k54 s x1 x2 x3 x4 x5 (x6 + 1)
def f1_greatestPart_b111 (k29 : sf_Sg → Int32 → Int32 → Int32 → Int32 → Option (Int32 × sf_Sg)) (s : sf_Sg) (x1 : Int32) (x2 : Int32) (x3 : Int32) (x4 : Int32) : Option (Int32 × sf_Sg) :=
  k29 s x1 x2 x3 (x4 + 1)
def f1_greatestPart_b54 (k29 : sf_Sg → Int32 → Int32 → Int32 → Int32 → Option (Int32 × sf_Sg)) (k54 : sf_Sg → Int32 → Int32 → Int32 → Int32 → Int32 → Int32 → Option (Int32 × sf_Sg)) (s : sf_Sg) (x1 : Int32) (x2 : Int32) (x3 : Int32) (x4 : Int32) (x5 : Int32) (x6 : Int32) : Option (Int32 × sf_Sg) :=
  if (20 : Int32) < x6 then
    f1_greatestPart_b111 k29 s x1 x2 x3 x4
  else
    (sf_ld s 126 61 x4).bind fun v67 =>
    if (f9_has v67 x6) = 0 then
      f1_greatestPart_b105 k29 k54 s x1 x2 x3 x4 x5 x6
    else
      (sf_ld s 130 81 (x5 + x6)).bind fun v86 =>
      (sf_st s 130 81 (x5 + x6) (v86 + (1 : Int32))).bind fun s89 =>
      (sf_ld s89 130 81 (x5 + x6)).bind fun v100 =>
      f1_greatestPart_b105 k29 k54 s89 x1 x2 (sf_max x3 v100) x4 x5 x6
def f1_greatestPart_L54 (k29 : sf_Sg → Int32 → Int32 → Int32 → Int32 → Option (Int32 × sf_Sg)) : sf_Sg → Int32 → Int32 → Int32 → Int32 → Int32 → Int32 → Option (Int32 × sf_Sg) :=
  sf_it (f1_greatestPart_b54 k29) (fun _ _ _ _ _ _ _ => none) sf_FU
def f1_greatestPart_b29 (k29 : sf_Sg → Int32 → Int32 → Int32 → Int32 → Option (Int32 × sf_Sg)) (s : sf_Sg) (x1 : Int32) (x2 : Int32) (x3 : Int32) (x4 : Int32) : Option (Int32 × sf_Sg) :=
  if (60 : Int32) < x4 then
    some (x3, s)
  else
    if x2 ≤ x3 then
      some (x3, s)
    else
      f1_greatestPart_L54 k29 s x1 x2 x3 x4 (sf_max (0 : Int32) (x4 - x1)) (0 : Int32)
def f1_greatestPart_L29 : sf_Sg → Int32 → Int32 → Int32 → Int32 → Option (Int32 × sf_Sg) :=
  sf_it (f1_greatestPart_b29) (fun _ _ _ _ _ => none) sf_FU
def f1_greatestPart_b24 (s : sf_Sg) (x1 : Int32) (x2 : Int32) : Option (Int32 × sf_Sg) :=
  f1_greatestPart_L29 s x1 x2 (0 : Int32) (1 : Int32)
def f1_greatestPart_b2 (k2 : sf_Sg → Int32 → Int32 → Int32 → Option (Int32 × sf_Sg)) (s : sf_Sg) (x1 : Int32) (x2 : Int32) (x3 : Int32) : Option (Int32 × sf_Sg) :=
  if (81 : Int32) ≤ x3 then
    f1_greatestPart_b24 s x1 x2
  else
    (sf_st s 130 81 x3 (0 : Int32)).bind fun s17 =>
    k2 s17 x1 x2 (x3 + 1)
def f1_greatestPart_L2 : sf_Sg → Int32 → Int32 → Int32 → Option (Int32 × sf_Sg) :=
  sf_it (f1_greatestPart_b2) (fun _ _ _ _ => none) sf_FU
def f1_greatestPart_b0 (s : sf_Sg) (x1 : Int32) (x2 : Int32) : Option (Int32 × sf_Sg) :=
  f1_greatestPart_L2 s x1 x2 (0 : Int32)
def f1_greatestPart (s : sf_Sg) (x1 : Int32) (x2 : Int32) : Option (Int32 × sf_Sg) :=
  f1_greatestPart_b0 s x1 x2
def f1_bestStrength_b34 (k9 : sf_Sg → Int32 → Int32 → Int32 → Option (Int32 × sf_Sg)) (s : sf_Sg) (x1 : Int32) (x2 : Int32) (x3 : Int32) : Option (Int32 × sf_Sg) :=
  k9 s x1 x2 (x3 + 1)
def f1_bestStrength_b9 (k9 : sf_Sg → Int32 → Int32 → Int32 → Option (Int32 × sf_Sg)) (s : sf_Sg) (x1 : Int32) (x2 : Int32) (x3 : Int32) : Option (Int32 × sf_Sg) :=
  if (60 : Int32) < x3 then
    some (x1, s)
  else
    (f1_greatestPart s x3 x2).bind fun q18 =>
    if x2 ≤ q18.1 then
      f1_bestStrength_b34 k9 q18.2 x1 x2 x3
    else
      f1_bestStrength_b34 k9 q18.2 x3 q18.1 x3
def f1_bestStrength_L9 : sf_Sg → Int32 → Int32 → Int32 → Option (Int32 × sf_Sg) :=
  sf_it (f1_bestStrength_b9) (fun _ _ _ _ => none) sf_FU
def f1_bestStrength_b0 (s : sf_Sg) : Option (Int32 × sf_Sg) :=
  f1_bestStrength_L9 s (-1 : Int32) (s 125 1) (1 : Int32)
def f1_bestStrength (s : sf_Sg) : Option (Int32 × sf_Sg) :=
  f1_bestStrength_b0 s
def f9_tryNext_b0 (s : sf_Sg) : Option (Int32 × sf_Sg) :=
  (f1_findPairs s).bind fun s4 =>
  (f1_bestStrength s4).bind fun q11 =>
  some (q11.1, q11.2)
def f9_tryNext (s : sf_Sg) : Option (Int32 × sf_Sg) :=
  f9_tryNext_b0 s
def f0_add_b0 (s : sf_Sg) (x1 : Int32) (x2 : Int32) : Option (Int32 × sf_Sg) :=
  if (s 131 0) < (15 : Int32) then
    (sf_st s 132 15 (s 131 0) x1).bind fun s20 =>
    (sf_st s20 133 15 (s20 131 0) x2).bind fun s30 =>
    some ((1 : Int32), (sf_s1 s30 131 0 ((s30 131 0) + (1 : Int32))))
  else
    some ((0 : Int32), s)
def f0_add (s : sf_Sg) (x1 : Int32) (x2 : Int32) : Option (Int32 × sf_Sg) :=
  f0_add_b0 s x1 x2
def f9_write_b0 (s : sf_Sg) (x1 : Int32) (x2 : Int32) : Option (Int32 × sf_Sg) :=
  if (f7_hasBack 10 s x1) = 0 then
    some ((-1000000001 : Int32), s)
  else
    if (f9_within x2 (0 : Int32) (9999 : Int32)) = 0 then
      some ((-1000000002 : Int32), s)
    else
      (f0_add s x1 x2).bind fun q34 =>
      if q34.1 = 0 then
        some ((-1000000004 : Int32), q34.2)
      else
        some ((q34.2 131 0), q34.2)
def f9_write (s : sf_Sg) (x1 : Int32) (x2 : Int32) : Option (Int32 × sf_Sg) :=
  f9_write_b0 s x1 x2
def f9_tear_b0 (s : sf_Sg) : (Int32 × sf_Sg) :=
  (((s 125 0) + (s 131 0)), (f0_clear (f1_clear s)))
def f9_tear (s : sf_Sg) : (Int32 × sf_Sg) :=
  f9_tear_b0 s
def f0_firstWrong_b2 (c1 : Nat) (s : sf_Sg) (k2 : Int32 → Option Int32) (x2 : Int32) : Option Int32 :=
  if (s 131 0) ≤ x2 then
    some (-1 : Int32)
  else
    (sf_ld s 132 15 x2).bind fun v19 =>
    (sf_ld s (c1 + 5) 5 v19).bind fun v20 =>
    (sf_ld s 133 15 x2).bind fun v26 =>
    if v20 = v26 then
      k2 (x2 + 1)
    else
      some x2
def f0_firstWrong_L2 (c1 : Nat) (s : sf_Sg) : Int32 → Option Int32 :=
  sf_it (f0_firstWrong_b2 c1 s) (fun _ => none) sf_FU
def f0_firstWrong_b0 (c1 : Nat) (s : sf_Sg) : Option Int32 :=
  f0_firstWrong_L2 c1 s (0 : Int32)
def f0_firstWrong (c1 : Nat) (s : sf_Sg) : Option Int32 :=
  f0_firstWrong_b0 c1 s
def f9_judge_b0 (s : sf_Sg) : Option Int32 :=
  (f0_firstWrong 16 s).bind fun v8 =>
  some v8
def f9_judge (s : sf_Sg) : Option Int32 :=
  f9_judge_b0 s
def f9_seed_b0 (s : sf_Sg) (x1 : Int32) : (Int32 × sf_Sg) :=
  if 0 ≤ x1 then
    ((s 0 13), (sf_s1 s 0 13 x1))
  else
    ((-1000000002 : Int32), s)
def f9_seed (s : sf_Sg) (x1 : Int32) : (Int32 × sf_Sg) :=
  f9_seed_b0 s x1
def f9_keep_b0 (s : sf_Sg) (x1 : Int32) : Option (Int32 × sf_Sg) :=
  if (f9_within x1 (0 : Int32) (1 : Int32)) = 0 then
    some ((-1000000001 : Int32), s)
  else
    (sf_ix 2 x1).bind fun j17 =>
    (f3_copyFrom (137 + 6 * j17) 16 s).bind fun s22 =>
    (sf_st s22 135 2 x1 (s22 0 13)).bind fun s34 =>
    (sf_st s34 136 2 x1 (1 : Int32)).bind fun s41 =>
    some ((1 : Int32), (f4_clear s41))
def f9_keep (s : sf_Sg) (x1 : Int32) : Option (Int32 × sf_Sg) :=
  f9_keep_b0 s x1
def f9_goBack_b0 (s : sf_Sg) (x1 : Int32) : Option (Int32 × sf_Sg) :=
  if (f9_within x1 (0 : Int32) (1 : Int32)) = 0 then
    some ((-1000000001 : Int32), s)
  else
    (sf_ld s 136 2 x1).bind fun v17 =>
    if v17 = 0 then
      some ((-1000000003 : Int32), s)
    else
      (sf_ix 2 x1).bind fun j33 =>
      (f3_copyFrom 16 (137 + 6 * j33) s).bind fun s34 =>
      (sf_ld s34 135 2 x1).bind fun v43 =>
      some ((1 : Int32), (f4_clear (sf_s1 s34 0 13 v43)))
def f9_goBack (s : sf_Sg) (x1 : Int32) : Option (Int32 × sf_Sg) :=
  f9_goBack_b0 s x1
def f10_in_b17 : Int32 :=
  (0 : Int32)
def f10_in_b0 (x0 : Int64) (x2 : Int64) (x4 : Int64) : Int32 :=
  if (lg_cmp x0 x2) < 0 then
    f10_in_b17
  else
    if 0 < (lg_cmp x0 x4) then
      f10_in_b17
    else
      (1 : Int32)
def f10_in (x0 : Int64) (x2 : Int64) (x4 : Int64) : Int32 :=
  f10_in_b0 x0 x2 x4
def f10_isBurden_b0 (s : sf_Sg) (x1 : Int32) : Int32 :=
  (f10_in x1.toInt64 (0 : Int64) (((s 149 2) - (1 : Int32)).toInt64))
def f10_isBurden (s : sf_Sg) (x1 : Int32) : Int32 :=
  f10_isBurden_b0 s x1
def f10_isBack_b0 (s : sf_Sg) (x1 : Int32) : Int32 :=
  (f10_in x1.toInt64 (0 : Int64) (((s 149 6) - (1 : Int32)).toInt64))
def f10_isBack (s : sf_Sg) (x1 : Int32) : Int32 :=
  f10_isBack_b0 s x1
def f10_feed_b0 (s : sf_Sg) (x1 : Int32) : Option (Int32 × sf_Sg) :=
  if (f10_in x1.toInt64 (0 : Int64) (255 : Int64)) = 0 then
    some ((-1000000002 : Int32), s)
  else
    if (s 149 12) = (240 : Int32) then
      some ((-1000000004 : Int32), s)
    else
      (sf_st s 156 240 (s 149 12) x1).bind fun s37 =>
      some (((sf_s1 s37 149 12 ((s37 149 12) + (1 : Int32))) 149 12), (sf_s1 s37 149 12 ((s37 149 12) + (1 : Int32))))
def f10_feed (s : sf_Sg) (x1 : Int32) : Option (Int32 × sf_Sg) :=
  f10_feed_b0 s x1
def f10_here_b38 (s : sf_Sg) : Option (Int32 × sf_Sg) :=
  if (s 149 12) ≤ (s 149 14) then
    some ((-1 : Int32), s)
  else
    (sf_ld s 156 240 (s 149 14)).bind fun v57 =>
    some (v57, s)
def f10_here_b0 (k0 : sf_Sg → Option (Int32 × sf_Sg)) (s : sf_Sg) : Option (Int32 × sf_Sg) :=
  if (s 149 12) ≤ (s 149 14) then
    f10_here_b38 s
  else
    (sf_ld s 156 240 (s 149 14)).bind fun v19 =>
    if v19 = (32 : Int32) then
      k0 (sf_s1 s 149 14 ((s 149 14) + (1 : Int32)))
    else
      f10_here_b38 s
def f10_here_L0 : sf_Sg → Option (Int32 × sf_Sg) :=
  sf_it (f10_here_b0) (fun _ => none) sf_FU
def f10_here (s : sf_Sg) : Option (Int32 × sf_Sg) :=
  f10_here_L0 s
def f10_fails_b0 (s : sf_Sg) (x1 : Int32) (x2 : Int32) : (Int32 × sf_Sg) :=
  (x1, (sf_s1 s 149 13 x2))
def f10_fails (s : sf_Sg) (x1 : Int32) (x2 : Int32) : (Int32 × sf_Sg) :=
  f10_fails_b0 s x1 x2
def f10_takeNumber_b113 (k42 : sf_Sg → Int32 → Int32 → Option (Int32 × sf_Sg)) (s : sf_Sg) (x1 : Int32) (x2 : Int32) (t1 : Int32) : Option (Int32 × sf_Sg) :=
  k42 (sf_s1 (sf_s1 s 149 15 t1) 149 14 (((sf_s1 s 149 15 t1) 149 14) + (1 : Int32))) x1 x2
def f10_takeNumber_b157 (s : sf_Sg) : Option (Int32 × sf_Sg) :=
  some ((f10_fails s (2 : Int32) (s 149 16)).1, (f10_fails s (2 : Int32) (s 149 16)).2)
def f10_takeNumber_b129 (s : sf_Sg) (x1 : Int32) (x2 : Int32) : Option (Int32 × sf_Sg) :=
  if (3 : Int32) < ((s 149 14) - (s 149 16)) then
    f10_takeNumber_b157 s
  else
    if (f10_in ((s 149 15).toInt64) x1.toInt64 x2.toInt64) = 0 then
      f10_takeNumber_b157 s
    else
      some ((0 : Int32), s)
def f10_takeNumber_b42 (k42 : sf_Sg → Int32 → Int32 → Option (Int32 × sf_Sg)) (s : sf_Sg) (x1 : Int32) (x2 : Int32) : Option (Int32 × sf_Sg) :=
  if (s 149 12) ≤ (s 149 14) then
    f10_takeNumber_b129 s x1 x2
  else
    (sf_ld s 156 240 (s 149 14)).bind fun v61 =>
    if (f10_in v61.toInt64 (48 : Int64) (57 : Int64)) = 0 then
      f10_takeNumber_b129 s x1 x2
    else
      if (s 149 15) ≤ (10000 : Int32) then
        (sf_ld s 156 240 (s 149 14)).bind fun v108 =>
        f10_takeNumber_b113 k42 s x1 x2 ((((10 : Int32) * (s 149 15)) + v108) - (48 : Int32))
      else
        f10_takeNumber_b113 k42 s x1 x2 (s 149 15)
def f10_takeNumber_L42 : sf_Sg → Int32 → Int32 → Option (Int32 × sf_Sg) :=
  sf_it (f10_takeNumber_b42) (fun _ _ _ => none) sf_FU
def f10_takeNumber_b0 (s : sf_Sg) (x1 : Int32) (x2 : Int32) : Option (Int32 × sf_Sg) :=
  (f10_here s).bind fun q1 =>
  if (f10_in q1.1.toInt64 (48 : Int64) (57 : Int64)) = 0 then
    some ((f10_fails q1.2 (1 : Int32) (q1.2 149 14)).1, (f10_fails q1.2 (1 : Int32) (q1.2 149 14)).2)
  else
    f10_takeNumber_L42 (sf_s1 (sf_s1 q1.2 149 16 (q1.2 149 14)) 149 15 (0 : Int32)) x1 x2
def f10_takeNumber (s : sf_Sg) (x1 : Int32) (x2 : Int32) : Option (Int32 × sf_Sg) :=
  f10_takeNumber_b0 s x1 x2
def f10_into_b0 (a1 : Nat) (n1 : Nat) (s : sf_Sg) (x2 : Int32) (x3 : Int32) (x4 : Int32) : Option (Int32 × sf_Sg) :=
  (f10_takeNumber s x3 x4).bind fun q4 =>
  (sf_st q4.2 a1 n1 x2 (q4.2 149 15)).bind fun s15 =>
  some (q4.1, s15)
def f10_into (a1 : Nat) (n1 : Nat) (s : sf_Sg) (x2 : Int32) (x3 : Int32) (x4 : Int32) : Option (Int32 × sf_Sg) :=
  f10_into_b0 a1 n1 s x2 x3 x4
def f10_takeShop_b0 (s : sf_Sg) : Option (Int32 × sf_Sg) :=
  (f10_takeNumber (sf_s1 s 149 17 (1 : Int32)) (0 : Int32) (99 : Int32)).bind fun q9 =>
  some (q9.1, (sf_s1 q9.2 149 18 (q9.2 149 15)))
def f10_takeShop (s : sf_Sg) : Option (Int32 × sf_Sg) :=
  f10_takeShop_b0 s
def f10_takeBurden_b47 (s : sf_Sg) (x1 : Int32) (t0 : Int32) : Option (Int32 × sf_Sg) :=
  if t0 ≤ 0 then
    (f10_into 159 6 s x1 (0 : Int32) (20 : Int32)).bind fun q65 =>
    some (q65.1, q65.2)
  else
    some (t0, s)
def f10_takeBurden_b0 (s : sf_Sg) : Option (Int32 × sf_Sg) :=
  (f10_into 157 6 (sf_s1 s 149 19 ((s 149 19) + (1 : Int32))) (s 149 19) (0 : Int32) (4 : Int32)).bind fun q23 =>
  if q23.1 ≤ 0 then
    (f10_into 158 6 q23.2 (s 149 19) (1 : Int32) (60 : Int32)).bind fun q44 =>
    f10_takeBurden_b47 q44.2 (s 149 19) q44.1
  else
    f10_takeBurden_b47 q23.2 (s 149 19) q23.1
def f10_takeBurden (s : sf_Sg) : Option (Int32 × sf_Sg) :=
  f10_takeBurden_b0 s
def f10_takeBack_b0 (s : sf_Sg) : Option (Int32 × sf_Sg) :=
  (f10_into 160 5 (sf_s1 s 149 23 ((s 149 23) + (1 : Int32))) (s 149 23) (1 : Int32) (99 : Int32)).bind fun q24 =>
  if q24.1 ≤ 0 then
    (f10_into 161 5 q24.2 (s 149 23) (0 : Int32) (9 : Int32)).bind fun q45 =>
    some (q45.1, q45.2)
  else
    some (q24.1, q24.2)
def f10_takeBack (s : sf_Sg) : Option (Int32 × sf_Sg) :=
  f10_takeBack_b0 s
def f10_takeClause_b52 (s : sf_Sg) : Option (Int32 × sf_Sg) :=
  some ((f10_fails s (1 : Int32) (s 149 14)).1, (f10_fails s (1 : Int32) (s 149 14)).2)
def f10_takeClause_b186 (s : sf_Sg) (x4 : Int32) : Option (Int32 × sf_Sg) :=
  some (x4, (sf_s1 s 149 14 ((s 149 14) + (1 : Int32))))
def f10_takeClause_b160 (s : sf_Sg) (t0 : Int32) : Option (Int32 × sf_Sg) :=
  if t0 = 0 then
    (f10_here s).bind fun q168 =>
    if q168.1 = (59 : Int32) then
      f10_takeClause_b186 q168.2 t0
    else
      some ((f10_fails q168.2 (1 : Int32) (q168.2 149 14)).1, (f10_fails q168.2 (1 : Int32) (q168.2 149 14)).2)
  else
    f10_takeClause_b186 s t0
def f10_takeClause_b108 (s : sf_Sg) (x2 : Int32) (t0 : Int32) : Option (Int32 × sf_Sg) :=
  if t0 = 0 then
    if x2 = 0 then
      (f10_takeShop (sf_s1 s 149 14 ((s 149 14) + (1 : Int32)))).bind fun q138 =>
      f10_takeClause_b160 q138.2 q138.1
    else
      if x2 = (1 : Int32) then
        (f10_takeBurden (sf_s1 s 149 14 ((s 149 14) + (1 : Int32)))).bind fun q150 =>
        f10_takeClause_b160 q150.2 q150.1
      else
        (f10_takeBack (sf_s1 s 149 14 ((s 149 14) + (1 : Int32)))).bind fun q157 =>
        f10_takeClause_b160 q157.2 q157.1
  else
    some ((f10_fails s (3 : Int32) (s 149 14)).1, (f10_fails s (3 : Int32) (s 149 14)).2)
def f10_takeClause_b62 (s : sf_Sg) (x2 : Int32) : Option (Int32 × sf_Sg) :=
  if x2 = 0 then
    f10_takeClause_b108 s x2 (s 149 17)
  else
    if x2 = (1 : Int32) then
      if (s 149 19) = (6 : Int32) then
        f10_takeClause_b108 s x2 (1 : Int32)
      else
        f10_takeClause_b108 s x2 (0 : Int32)
    else
      if (s 149 23) = (5 : Int32) then
        f10_takeClause_b108 s x2 (1 : Int32)
      else
        f10_takeClause_b108 s x2 (0 : Int32)
def f10_takeClause_b36 (s : sf_Sg) (t0 : Int32) : Option (Int32 × sf_Sg) :=
  if t0 < 0 then
    f10_takeClause_b52 s
  else
    if t0 ≤ 0 then
      f10_takeClause_b62 s t0
    else
      if (s 149 17) = 0 then
        f10_takeClause_b52 s
      else
        f10_takeClause_b62 s t0
def f10_takeClause_b0 (s : sf_Sg) : Option (Int32 × sf_Sg) :=
  (f10_here s).bind fun q1 =>
  if q1.1 = (102 : Int32) then
    f10_takeClause_b36 q1.2 (0 : Int32)
  else
    if q1.1 = (98 : Int32) then
      f10_takeClause_b36 q1.2 (1 : Int32)
    else
      if q1.1 = (112 : Int32) then
        f10_takeClause_b36 q1.2 (2 : Int32)
      else
        f10_takeClause_b36 q1.2 (-1 : Int32)
def f10_takeClause (s : sf_Sg) : Option (Int32 × sf_Sg) :=
  f10_takeClause_b0 s
def f10_copyRow_b2 (a0 : Nat) (n0 : Nat) (a1 : Nat) (n1 : Nat) (k2 : sf_Sg → Int32 → Int32 → Option sf_Sg) (s : sf_Sg) (x2 : Int32) (x3 : Int32) : Option sf_Sg :=
  if x2 ≤ x3 then
    some s
  else
    (sf_ld s a0 n0 x3).bind fun v11 =>
    (sf_st s a1 n1 x3 v11).bind fun s12 =>
    k2 s12 x2 (x3 + 1)
def f10_copyRow_L2 (a0 : Nat) (n0 : Nat) (a1 : Nat) (n1 : Nat) : sf_Sg → Int32 → Int32 → Option sf_Sg :=
  sf_it (f10_copyRow_b2 a0 n0 a1 n1) (fun _ _ _ => none) sf_FU
def f10_copyRow_b0 (a0 : Nat) (n0 : Nat) (a1 : Nat) (n1 : Nat) (s : sf_Sg) (x2 : Int32) : Option sf_Sg :=
  f10_copyRow_L2 a0 n0 a1 n1 s x2 (0 : Int32)
def f10_copyRow (a0 : Nat) (n0 : Nat) (a1 : Nat) (n1 : Nat) (s : sf_Sg) (x2 : Int32) : Option sf_Sg :=
  f10_copyRow_b0 a0 n0 a1 n1 s x2
def f10_takeRead_b150 (k120 : sf_Sg → Int32 → Option sf_Sg) (s : sf_Sg) (x1 : Int32) (t2 : Int32) (t1 : Int32) : Option sf_Sg :=
  (sf_st s 155 31 t1 t2).bind fun s150 =>
  k120 s150 (x1 + 1)
def f10_takeRead_b157 (s : sf_Sg) : Option sf_Sg :=
  (f10_copyRow 151 6 155 31 s (s 149 2)).bind fun s169 =>
  (sf_st s169 155 31 (29 : Int32) (s169 149 1)).bind fun s182 =>
  some s182
def f10_takeRead_b120 (k120 : sf_Sg → Int32 → Option sf_Sg) (s : sf_Sg) (x1 : Int32) : Option sf_Sg :=
  if (31 : Int32) ≤ x1 then
    f10_takeRead_b157 s
  else
    if (f10_in x1.toInt64 (12 : Int64) (23 : Int64)) = 0 then
      f10_takeRead_b150 k120 s x1 (0 : Int32) x1
    else
      f10_takeRead_b150 k120 s x1 (-1 : Int32) x1
def f10_takeRead_L120 : sf_Sg → Int32 → Option sf_Sg :=
  sf_it (f10_takeRead_b120) (fun _ _ => none) sf_FU
def f10_takeRead_b24 (s : sf_Sg) (t1 : Int32) : Option sf_Sg :=
  (f10_copyRow 157 6 150 6 (sf_s1 (sf_s1 (sf_s1 s 149 1 t1) 149 2 ((sf_s1 s 149 1 t1) 149 19)) 149 6 ((sf_s1 (sf_s1 s 149 1 t1) 149 2 ((sf_s1 s 149 1 t1) 149 19)) 149 23)) ((sf_s1 (sf_s1 (sf_s1 s 149 1 t1) 149 2 ((sf_s1 s 149 1 t1) 149 19)) 149 6 ((sf_s1 (sf_s1 s 149 1 t1) 149 2 ((sf_s1 s 149 1 t1) 149 19)) 149 23)) 149 2)).bind fun s55 =>
  (f10_copyRow 158 6 151 6 s55 (s55 149 2)).bind fun s70 =>
  (f10_copyRow 159 6 152 6 s70 (s70 149 2)).bind fun s85 =>
  (f10_copyRow 160 5 153 5 s85 (s85 149 6)).bind fun s100 =>
  (f10_copyRow 161 5 154 5 s100 (s100 149 6)).bind fun s115 =>
  f10_takeRead_L120 s115 (0 : Int32)
def f10_takeRead_b0 (s : sf_Sg) : Option sf_Sg :=
  (sf_bo (s 149 17)).bind fun v5 =>
  if ((sf_s1 s 149 0 v5) 149 17) = 0 then
    f10_takeRead_b24 (sf_s1 s 149 0 v5) (0 : Int32)
  else
    f10_takeRead_b24 (sf_s1 s 149 0 v5) ((sf_s1 s 149 0 v5) 149 18)
def f10_takeRead (s : sf_Sg) : Option sf_Sg :=
  f10_takeRead_b0 s
def f10_shop_b46 (s : sf_Sg) (x1 : Int32) : Option (Int32 × sf_Sg) :=
  if x1 ≤ 0 then
    (f10_takeRead (sf_s1 s 149 12 (0 : Int32))).bind fun s61 =>
    (sf_st (sf_s1 (sf_s1 (sf_s1 s61 149 32 (0 : Int32)) 149 37 (0 : Int32)) 149 26 (0 : Int32)) 172 2 (0 : Int32) (0 : Int32)).bind fun s85 =>
    (sf_st s85 172 2 (1 : Int32) (0 : Int32)).bind fun s92 =>
    some ((s92 149 2), s92)
  else
    some (((-10 : Int32) - x1), (sf_s1 s 149 12 (0 : Int32)))
def f10_shop_b27 (k27 : sf_Sg → Int32 → Option (Int32 × sf_Sg)) (s : sf_Sg) (x1 : Int32) : Option (Int32 × sf_Sg) :=
  if x1 = 0 then
    (f10_here s).bind fun q32 =>
    if q32.1 < 0 then
      f10_shop_b46 q32.2 x1
    else
      (f10_takeClause q32.2).bind fun q39 =>
      k27 q39.2 q39.1
  else
    f10_shop_b46 s x1
def f10_shop_L27 : sf_Sg → Int32 → Option (Int32 × sf_Sg) :=
  sf_it (f10_shop_b27) (fun _ _ => none) sf_FU
def f10_shop_b0 (s : sf_Sg) : Option (Int32 × sf_Sg) :=
  f10_shop_L27 (sf_s1 (sf_s1 (sf_s1 (sf_s1 (sf_s1 s 149 13 (-1 : Int32)) 149 14 (0 : Int32)) 149 17 (0 : Int32)) 149 19 (0 : Int32)) 149 23 (0 : Int32)) (0 : Int32)
def f10_shop (s : sf_Sg) : Option (Int32 × sf_Sg) :=
  f10_shop_b0 s
def f10_fault_b0 (s : sf_Sg) : Int32 :=
  (s 149 13)
def f10_fault (s : sf_Sg) : Int32 :=
  f10_fault_b0 s
def f10_notBelow_b0 (x0 : Int32) : Int32 :=
  if x0 ≤ 0 then
    (0 : Int32)
  else
    x0
def f10_notBelow (x0 : Int32) : Int32 :=
  f10_notBelow_b0 x0
def f10_bears_b26 (s : sf_Sg) : Option Int32 :=
  some (1 : Int32)
def f10_bears_b0 (s : sf_Sg) (x1 : Int32) (x2 : Int32) : Option Int32 :=
  (sf_ld s 155 31 ((12 : Int32) + x1)).bind fun v8 =>
  if v8 = x2 then
    f10_bears_b26 s
  else
    (sf_ld s 155 31 ((18 : Int32) + x1)).bind fun v21 =>
    if v21 = x2 then
      f10_bears_b26 s
    else
      some (0 : Int32)
def f10_bears (s : sf_Sg) (x1 : Int32) (x2 : Int32) : Option Int32 :=
  f10_bears_b0 s x1 x2
def f10_isShared_b0 (s : sf_Sg) (x1 : Int32) : Option Int32 :=
  (sf_ld s 155 31 ((18 : Int32) + x1)).bind fun v8 =>
  if v8 = (-1 : Int32) then
    some (0 : Int32)
  else
    some (1 : Int32)
def f10_isShared (s : sf_Sg) (x1 : Int32) : Option Int32 :=
  f10_isShared_b0 s x1
def f10_partOf_b0 (s : sf_Sg) (x1 : Int32) (x2 : Int32) : Option Int32 :=
  (f10_bears s x1 x2).bind fun v3 =>
  if v3 = 0 then
    some (0 : Int32)
  else
    (f10_isShared s x1).bind fun v13 =>
    if v13 = 0 then
      (sf_ld s 155 31 x1).bind fun v24 =>
      some v24
    else
      (sf_ld s 155 31 ((12 : Int32) + x1)).bind fun v36 =>
      if v36 = x2 then
        (sf_ld s 155 31 x1).bind fun v46 =>
        (sf_ld s 155 31 x1).bind fun v52 =>
        some (v46 - (v52 / (2 : Int32)))
      else
        (sf_ld s 155 31 x1).bind fun v64 =>
        some (v64 / (2 : Int32))
def f10_partOf (s : sf_Sg) (x1 : Int32) (x2 : Int32) : Option Int32 :=
  f10_partOf_b0 s x1 x2
def f10_isAugust_b0 (s : sf_Sg) : Option Int32 :=
  (sf_ld s 155 31 (30 : Int32)).bind fun v6 =>
  if (sf_rem v6 (12 : Int32)) = (7 : Int32) then
    some (1 : Int32)
  else
    some (0 : Int32)
def f10_isAugust (s : sf_Sg) : Option Int32 :=
  f10_isAugust_b0 s
def f10_restOf_b0 (s : sf_Sg) (x1 : Int32) : Option Int32 :=
  (sf_ld s 152 6 x1).bind fun v5 =>
  (sf_ld s 155 31 ((6 : Int32) + x1)).bind fun v14 =>
  some (f10_notBelow (v5 - v14))
def f10_restOf (s : sf_Sg) (x1 : Int32) : Option Int32 :=
  f10_restOf_b0 s x1
def f10_rubsOn_b0 (s : sf_Sg) (x1 : Int32) (x2 : Int32) : Option Int32 :=
  (f10_restOf s x1).bind fun v2 =>
  (sf_ld s 150 6 x1).bind fun v11 =>
  if v11 = 1 then
    (f10_isShared s x1).bind fun v46 =>
    if v46 = 0 then
      some v2
    else
      some (v2 / (2 : Int32))
  else if v11 = 2 then
    if v2 ≤ 0 then
      some (0 : Int32)
    else
      (sf_ld s 154 5 x2).bind fun v70 =>
      some (v2 + v70)
  else if v11 = 3 then
    (sf_ld s 155 31 (30 : Int32)).bind fun v85 =>
    some (v2 + ((2 : Int32) * (sf_rem v85 (2 : Int32))))
  else if v11 = 4 then
    (f10_isAugust s).bind fun v92 =>
    if v92 = 0 then
      some (0 : Int32)
    else
      some ((2 : Int32) * v2)
  else 
    some v2
def f10_rubsOn (s : sf_Sg) (x1 : Int32) (x2 : Int32) : Option Int32 :=
  f10_rubsOn_b0 s x1 x2
def f10_partsOf_b4 (s : sf_Sg) (k4 : Int32 → Int32 → Int32 → Option Int32) (x1 : Int32) (x2 : Int32) (x3 : Int32) : Option Int32 :=
  if (s 149 2) ≤ x3 then
    some x2
  else
    (f10_partOf s x3 x1).bind fun v16 =>
    k4 x1 (x2 + v16) (x3 + 1)
def f10_partsOf_L4 (s : sf_Sg) : Int32 → Int32 → Int32 → Option Int32 :=
  sf_it (f10_partsOf_b4 s) (fun _ _ _ => none) sf_FU
def f10_partsOf_b0 (s : sf_Sg) (x1 : Int32) : Option Int32 :=
  f10_partsOf_L4 s x1 (0 : Int32) (0 : Int32)
def f10_partsOf (s : sf_Sg) (x1 : Int32) : Option Int32 :=
  f10_partsOf_b0 s x1
def f10_gallingOf_b46 (s : sf_Sg) (k18 : Int32 → Int32 → Int32 → Option Int32) (x1 : Int32) (x3 : Int32) (t1 : Int32) (t0 : Int32) : Option Int32 :=
  k18 x1 (t0 + t1) (x3 + 1)
def f10_gallingOf_b18 (s : sf_Sg) (k18 : Int32 → Int32 → Int32 → Option Int32) (x1 : Int32) (x2 : Int32) (x3 : Int32) : Option Int32 :=
  if (s 149 2) ≤ x3 then
    some x2
  else
    (f10_bears s x3 x1).bind fun v30 =>
    if v30 = 0 then
      f10_gallingOf_b46 s k18 x1 x3 (0 : Int32) x2
    else
      (f10_rubsOn s x3 x1).bind fun v39 =>
      f10_gallingOf_b46 s k18 x1 x3 v39 x2
def f10_gallingOf_L18 (s : sf_Sg) : Int32 → Int32 → Int32 → Option Int32 :=
  sf_it (f10_gallingOf_b18 s) (fun _ _ _ => none) sf_FU
def f10_gallingOf_b0 (s : sf_Sg) (x1 : Int32) : Option Int32 :=
  (f10_partsOf s x1).bind fun v2 =>
  (sf_ld s 153 5 x1).bind fun v10 =>
  f10_gallingOf_L18 s x1 (f10_notBelow (v2 - v10)) (0 : Int32)
def f10_gallingOf (s : sf_Sg) (x1 : Int32) : Option Int32 :=
  f10_gallingOf_b0 s x1
def f10_allGalling_b4 (s : sf_Sg) (k4 : Int32 → Int32 → Option Int32) (x1 : Int32) (x2 : Int32) : Option Int32 :=
  if (s 149 6) ≤ x2 then
    some x1
  else
    (f10_gallingOf s x2).bind fun v15 =>
    k4 (x1 + v15) (x2 + 1)
def f10_allGalling_L4 (s : sf_Sg) : Int32 → Int32 → Option Int32 :=
  sf_it (f10_allGalling_b4 s) (fun _ _ => none) sf_FU
def f10_allGalling_b0 (s : sf_Sg) : Option Int32 :=
  f10_allGalling_L4 s (0 : Int32) (0 : Int32)
def f10_allGalling (s : sf_Sg) : Option Int32 :=
  f10_allGalling_b0 s
def f10_carriedBy_b29 (s : sf_Sg) (k4 : Int32 → Int32 → Int32 → Option Int32) (x1 : Int32) (x3 : Int32) (t1 : Int32) (t0 : Int32) : Option Int32 :=
  k4 x1 (t0 ||| t1) (x3 + 1)
def f10_carriedBy_b4 (s : sf_Sg) (k4 : Int32 → Int32 → Int32 → Option Int32) (x1 : Int32) (x2 : Int32) (x3 : Int32) : Option Int32 :=
  if (s 149 2) ≤ x3 then
    some x2
  else
    (f10_bears s x3 x1).bind fun v16 =>
    if v16 = 0 then
      f10_carriedBy_b29 s k4 x1 x3 (0 : Int32) x2
    else
      f10_carriedBy_b29 s k4 x1 x3 ((1 : Int32) <<< (x3 &&& 31)) x2
def f10_carriedBy_L4 (s : sf_Sg) : Int32 → Int32 → Int32 → Option Int32 :=
  sf_it (f10_carriedBy_b4 s) (fun _ _ _ => none) sf_FU
def f10_carriedBy_b0 (s : sf_Sg) (x1 : Int32) : Option Int32 :=
  f10_carriedBy_L4 s x1 (0 : Int32) (0 : Int32)
def f10_carriedBy (s : sf_Sg) (x1 : Int32) : Option Int32 :=
  f10_carriedBy_b0 s x1
def f10_galledOnes_b34 (s : sf_Sg) (k4 : Int32 → Int32 → Option Int32) (x2 : Int32) (t1 : Int32) (t0 : Int32) : Option Int32 :=
  k4 (t0 ||| t1) (x2 + 1)
def f10_galledOnes_b4 (s : sf_Sg) (k4 : Int32 → Int32 → Option Int32) (x1 : Int32) (x2 : Int32) : Option Int32 :=
  if (s 149 6) ≤ x2 then
    some x1
  else
    (sf_ld s 155 31 ((24 : Int32) + x2)).bind fun v21 =>
    if v21 < (20 : Int32) then
      f10_galledOnes_b34 s k4 x2 (0 : Int32) x1
    else
      f10_galledOnes_b34 s k4 x2 ((1 : Int32) <<< (x2 &&& 31)) x1
def f10_galledOnes_L4 (s : sf_Sg) : Int32 → Int32 → Option Int32 :=
  sf_it (f10_galledOnes_b4 s) (fun _ _ => none) sf_FU
def f10_galledOnes_b0 (s : sf_Sg) : Option Int32 :=
  f10_galledOnes_L4 s (0 : Int32) (0 : Int32)
def f10_galledOnes (s : sf_Sg) : Option Int32 :=
  f10_galledOnes_b0 s
def f10_freeOnes_b33 (s : sf_Sg) (k4 : Int32 → Int32 → Option Int32) (x2 : Int32) (t1 : Int32) (t0 : Int32) : Option Int32 :=
  k4 (t0 ||| t1) (x2 + 1)
def f10_freeOnes_b4 (s : sf_Sg) (k4 : Int32 → Int32 → Option Int32) (x1 : Int32) (x2 : Int32) : Option Int32 :=
  if (s 149 2) ≤ x2 then
    some x1
  else
    (sf_ld s 155 31 ((12 : Int32) + x2)).bind fun v21 =>
    if v21 = (-1 : Int32) then
      f10_freeOnes_b33 s k4 x2 ((1 : Int32) <<< (x2 &&& 31)) x1
    else
      f10_freeOnes_b33 s k4 x2 (0 : Int32) x1
def f10_freeOnes_L4 (s : sf_Sg) : Int32 → Int32 → Option Int32 :=
  sf_it (f10_freeOnes_b4 s) (fun _ _ => none) sf_FU
def f10_freeOnes_b0 (s : sf_Sg) : Option Int32 :=
  f10_freeOnes_L4 s (0 : Int32) (0 : Int32)
def f10_freeOnes (s : sf_Sg) : Option Int32 :=
  f10_freeOnes_b0 s
def f10_sharedOnes_b28 (s : sf_Sg) (k4 : Int32 → Int32 → Option Int32) (x2 : Int32) (t1 : Int32) (t0 : Int32) : Option Int32 :=
  k4 (t0 ||| t1) (x2 + 1)
def f10_sharedOnes_b4 (s : sf_Sg) (k4 : Int32 → Int32 → Option Int32) (x1 : Int32) (x2 : Int32) : Option Int32 :=
  if (s 149 2) ≤ x2 then
    some x1
  else
    (f10_isShared s x2).bind fun v15 =>
    if v15 = 0 then
      f10_sharedOnes_b28 s k4 x2 (0 : Int32) x1
    else
      f10_sharedOnes_b28 s k4 x2 ((1 : Int32) <<< (x2 &&& 31)) x1
def f10_sharedOnes_L4 (s : sf_Sg) : Int32 → Int32 → Option Int32 :=
  sf_it (f10_sharedOnes_b4 s) (fun _ _ => none) sf_FU
def f10_sharedOnes_b0 (s : sf_Sg) : Option Int32 :=
  f10_sharedOnes_L4 s (0 : Int32) (0 : Int32)
def f10_sharedOnes (s : sf_Sg) : Option Int32 :=
  f10_sharedOnes_b0 s
def f10_most_b34 (s : sf_Sg) (k4 : Int32 → Int32 → Option Int32) (x2 : Int32) (t0 : Int32) : Option Int32 :=
  k4 t0 (x2 + 1)
def f10_most_b29 (s : sf_Sg) (k4 : Int32 → Int32 → Option Int32) (x2 : Int32) : Option Int32 :=
  f10_most_b34 s k4 x2 x2
def f10_most_b4 (s : sf_Sg) (k4 : Int32 → Int32 → Option Int32) (x1 : Int32) (x2 : Int32) : Option Int32 :=
  if (s 149 6) ≤ x2 then
    some x1
  else
    if x1 < 0 then
      f10_most_b29 s k4 x2
    else
      (f10_partsOf s x2).bind fun v18 =>
      (f10_partsOf s x1).bind fun v23 =>
      if v18 ≤ v23 then
        f10_most_b34 s k4 x2 x1
      else
        f10_most_b29 s k4 x2
def f10_most_L4 (s : sf_Sg) : Int32 → Int32 → Option Int32 :=
  sf_it (f10_most_b4 s) (fun _ _ => none) sf_FU
def f10_most_b0 (s : sf_Sg) : Option Int32 :=
  f10_most_L4 s (-1 : Int32) (0 : Int32)
def f10_most (s : sf_Sg) : Option Int32 :=
  f10_most_b0 s
def f10_needOf_b0 (s : sf_Sg) (x1 : Int32) : Option Int32 :=
  (f10_restOf s x1).bind fun v2 =>
  (sf_ld s 150 6 x1).bind fun v11 =>
  if v11 = 1 then
    (f10_isShared s x1).bind fun v46 =>
    if v46 = 0 then
      some v2
    else
      some (f10_notBelow (v2 - (1 : Int32)))
  else if v11 = 3 then
    (sf_ld s 155 31 (30 : Int32)).bind fun v69 =>
    if (sf_rem v69 (2 : Int32)) = (1 : Int32) then
      some (1000000 : Int32)
    else
      some v2
  else if v11 = 4 then
    (f10_isAugust s).bind fun v84 =>
    if v84 = 0 then
      some (0 : Int32)
    else
      some v2
  else 
    some v2
def f10_needOf (s : sf_Sg) (x1 : Int32) : Option Int32 :=
  f10_needOf_b0 s x1
def f10_stuffFor_b50 (s : sf_Sg) (k23 : Int32 → Int32 → Int32 → Option Int32) (x1 : Int32) (x3 : Int32) (t1 : Int32) (t0 : Int32) : Option Int32 :=
  k23 x1 (t0 + t1) (x3 + 1)
def f10_stuffFor_b58 (s : sf_Sg) (x2 : Int32) : Option Int32 :=
  if (1000000 : Int32) ≤ x2 then
    some (-1 : Int32)
  else
    some x2
def f10_stuffFor_b23 (s : sf_Sg) (k23 : Int32 → Int32 → Int32 → Option Int32) (x1 : Int32) (x2 : Int32) (x3 : Int32) : Option Int32 :=
  if (s 149 2) ≤ x3 then
    f10_stuffFor_b58 s x2
  else
    (f10_bears s x3 x1).bind fun v35 =>
    if v35 = 0 then
      f10_stuffFor_b50 s k23 x1 x3 (0 : Int32) x2
    else
      (f10_needOf s x3).bind fun v43 =>
      f10_stuffFor_b50 s k23 x1 x3 v43 x2
def f10_stuffFor_L23 (s : sf_Sg) : Int32 → Int32 → Int32 → Option Int32 :=
  sf_it (f10_stuffFor_b23 s) (fun _ _ _ => none) sf_FU
def f10_stuffFor_b20 (s : sf_Sg) (x1 : Int32) (t0 : Int32) : Option Int32 :=
  f10_stuffFor_L23 s x1 t0 (0 : Int32)
def f10_stuffFor_b0 (s : sf_Sg) (x1 : Int32) : Option Int32 :=
  (f10_partsOf s x1).bind fun v2 =>
  (sf_ld s 153 5 x1).bind fun v10 =>
  if v2 ≤ v10 then
    f10_stuffFor_b20 s x1 (0 : Int32)
  else
    f10_stuffFor_b20 s x1 (1000000 : Int32)
def f10_stuffFor (s : sf_Sg) (x1 : Int32) : Option Int32 :=
  f10_stuffFor_b0 s x1
def f10_stuffForAll_b33 (s : sf_Sg) (k4 : Int32 → Int32 → Option Int32) (x2 : Int32) (t1 : Int32) (t0 : Int32) : Option Int32 :=
  k4 (t0 + t1) (x2 + 1)
def f10_stuffForAll_b74 (s : sf_Sg) (k43 : Int32 → Int32 → Option Int32) (x2 : Int32) (t1 : Int32) (t0 : Int32) : Option Int32 :=
  k43 (t0 + t1) (x2 + 1)
def f10_stuffForAll_b82 (s : sf_Sg) (x1 : Int32) : Option Int32 :=
  if (1000000 : Int32) ≤ x1 then
    some (-1 : Int32)
  else
    some x1
def f10_stuffForAll_b43 (s : sf_Sg) (k43 : Int32 → Int32 → Option Int32) (x1 : Int32) (x2 : Int32) : Option Int32 :=
  if (s 149 2) ≤ x2 then
    f10_stuffForAll_b82 s x1
  else
    (sf_ld s 155 31 ((12 : Int32) + x2)).bind fun v60 =>
    if v60 = (-1 : Int32) then
      f10_stuffForAll_b74 s k43 x2 (0 : Int32) x1
    else
      (f10_needOf s x2).bind fun v67 =>
      f10_stuffForAll_b74 s k43 x2 v67 x1
def f10_stuffForAll_L43 (s : sf_Sg) : Int32 → Int32 → Option Int32 :=
  sf_it (f10_stuffForAll_b43 s) (fun _ _ => none) sf_FU
def f10_stuffForAll_b41 (s : sf_Sg) (x1 : Int32) : Option Int32 :=
  f10_stuffForAll_L43 s x1 (0 : Int32)
def f10_stuffForAll_b4 (s : sf_Sg) (k4 : Int32 → Int32 → Option Int32) (x1 : Int32) (x2 : Int32) : Option Int32 :=
  if (s 149 6) ≤ x2 then
    f10_stuffForAll_b41 s x1
  else
    (f10_partsOf s x2).bind fun v15 =>
    (sf_ld s 153 5 x2).bind fun v23 =>
    if v15 ≤ v23 then
      f10_stuffForAll_b33 s k4 x2 (0 : Int32) x1
    else
      f10_stuffForAll_b33 s k4 x2 (1000000 : Int32) x1
def f10_stuffForAll_L4 (s : sf_Sg) : Int32 → Int32 → Option Int32 :=
  sf_it (f10_stuffForAll_b4 s) (fun _ _ => none) sf_FU
def f10_stuffForAll_b0 (s : sf_Sg) : Option Int32 :=
  f10_stuffForAll_L4 s (0 : Int32) (0 : Int32)
def f10_stuffForAll (s : sf_Sg) : Option Int32 :=
  f10_stuffForAll_b0 s
def f10_ringOf_b77 (s : sf_Sg) (k6 : Int32 → Int32 → Option Int32) (k14 : Int32 → Int32 → Int32 → Option Int32) (x3 : Int32) (x4 : Int32) (t1 : Int32) (t0 : Int32) : Option Int32 :=
  k14 (t0 ||| t1) x3 (x4 + 1)
def f10_ringOf_b61 (s : sf_Sg) (k6 : Int32 → Int32 → Option Int32) (k14 : Int32 → Int32 → Int32 → Option Int32) (x2 : Int32) (x3 : Int32) (x4 : Int32) (t0 : Int32) : Option Int32 :=
  if (x2 &&& t0) = 0 then
    f10_ringOf_b77 s k6 k14 x3 x4 (0 : Int32) x2
  else
    f10_ringOf_b77 s k6 k14 x3 x4 t0 x2
def f10_ringOf_b85 (s : sf_Sg) (k6 : Int32 → Int32 → Option Int32) (x2 : Int32) (x3 : Int32) : Option Int32 :=
  k6 x2 (x3 + 1)
def f10_ringOf_b14 (s : sf_Sg) (k6 : Int32 → Int32 → Option Int32) (k14 : Int32 → Int32 → Int32 → Option Int32) (x2 : Int32) (x3 : Int32) (x4 : Int32) : Option Int32 :=
  if (s 149 2) ≤ x4 then
    f10_ringOf_b85 s k6 x2 x3
  else
    (f10_isShared s x4).bind fun v26 =>
    if v26 = 0 then
      f10_ringOf_b61 s k6 k14 x2 x3 x4 (0 : Int32)
    else
      (sf_ld s 155 31 ((12 : Int32) + x4)).bind fun v42 =>
      (sf_ld s 155 31 ((18 : Int32) + x4)).bind fun v54 =>
      f10_ringOf_b61 s k6 k14 x2 x3 x4 (((1 : Int32) <<< (v42 &&& 31)) ||| ((1 : Int32) <<< (v54 &&& 31)))
def f10_ringOf_L14 (s : sf_Sg) (k6 : Int32 → Int32 → Option Int32) : Int32 → Int32 → Int32 → Option Int32 :=
  sf_it (f10_ringOf_b14 s k6) (fun _ _ _ => none) sf_FU
def f10_ringOf_b6 (s : sf_Sg) (k6 : Int32 → Int32 → Option Int32) (x2 : Int32) (x3 : Int32) : Option Int32 :=
  if (5 : Int32) ≤ x3 then
    some x2
  else
    f10_ringOf_L14 s k6 x2 x3 (0 : Int32)
def f10_ringOf_L6 (s : sf_Sg) : Int32 → Int32 → Option Int32 :=
  sf_it (f10_ringOf_b6 s) (fun _ _ => none) sf_FU
def f10_ringOf_b0 (s : sf_Sg) (x1 : Int32) : Option Int32 :=
  f10_ringOf_L6 s ((1 : Int32) <<< (x1 &&& 31)) (0 : Int32)
def f10_ringOf (s : sf_Sg) (x1 : Int32) : Option Int32 :=
  f10_ringOf_b0 s x1
def f10_told_b0 (s : sf_Sg) (x1 : Int32) : Option Int32 :=
  if x1 = 0 then
    some (s 149 2)
  else if x1 = 1 then
    some (s 149 6)
  else if x1 = 2 then
    some (s 149 12)
  else if x1 = 3 then
    (sf_ld s 155 31 (30 : Int32)).bind fun v97 =>
    some v97
  else if x1 = 4 then
    (sf_ld s 155 31 (29 : Int32)).bind fun v105 =>
    some v105
  else if x1 = 5 then
    (f10_galledOnes s).bind fun v108 =>
    some v108
  else if x1 = 6 then
    (f10_allGalling s).bind fun v113 =>
    some v113
  else if x1 = 7 then
    (f10_freeOnes s).bind fun v118 =>
    some v118
  else if x1 = 8 then
    (f10_sharedOnes s).bind fun v123 =>
    some v123
  else if x1 = 9 then
    (f10_most s).bind fun v128 =>
    some v128
  else if x1 = 10 then
    (f10_isAugust s).bind fun v133 =>
    if v133 = 0 then
      some (0 : Int32)
    else
      some (1 : Int32)
  else if x1 = 11 then
    some (s 149 32)
  else if x1 = 12 then
    some (s 149 37)
  else if x1 = 13 then
    some (s 149 26)
  else if x1 = 14 then
    (f10_stuffForAll s).bind fun v161 =>
    some v161
  else 
    some (-1000000002 : Int32)
def f10_told (s : sf_Sg) (x1 : Int32) : Option Int32 :=
  f10_told_b0 s x1
def f10_burden_b0 (s : sf_Sg) (x1 : Int32) (x2 : Int32) : Option Int32 :=
  if (f10_isBurden s x1) = 0 then
    some (-1000000001 : Int32)
  else
    if x2 = 0 then
      (sf_ld s 150 6 x1).bind fun v57 =>
      some v57
    else if x2 = 1 then
      (sf_ld s 155 31 x1).bind fun v64 =>
      some v64
    else if x2 = 2 then
      (sf_ld s 152 6 x1).bind fun v71 =>
      some v71
    else if x2 = 3 then
      (sf_ld s 155 31 ((6 : Int32) + x1)).bind fun v81 =>
      some v81
    else if x2 = 4 then
      (sf_ld s 155 31 ((12 : Int32) + x1)).bind fun v91 =>
      some v91
    else if x2 = 5 then
      (sf_ld s 155 31 ((18 : Int32) + x1)).bind fun v101 =>
      some v101
    else 
      some (-1000000002 : Int32)
def f10_burden (s : sf_Sg) (x1 : Int32) (x2 : Int32) : Option Int32 :=
  f10_burden_b0 s x1 x2
def f10_back_b0 (s : sf_Sg) (x1 : Int32) (x2 : Int32) : Option Int32 :=
  if (f10_isBack s x1) = 0 then
    some (-1000000001 : Int32)
  else
    if x2 = 0 then
      (sf_ld s 153 5 x1).bind fun v65 =>
      some v65
    else if x2 = 1 then
      (sf_ld s 154 5 x1).bind fun v72 =>
      some v72
    else if x2 = 2 then
      (sf_ld s 155 31 ((24 : Int32) + x1)).bind fun v82 =>
      some v82
    else if x2 = 3 then
      (f10_gallingOf s x1).bind fun v86 =>
      some v86
    else if x2 = 4 then
      (f10_carriedBy s x1).bind fun v92 =>
      some v92
    else if x2 = 5 then
      (f10_partsOf s x1).bind fun v98 =>
      some v98
    else if x2 = 6 then
      (f10_stuffFor s x1).bind fun v104 =>
      some v104
    else if x2 = 7 then
      (f10_ringOf s x1).bind fun v110 =>
      some v110
    else 
      some (-1000000002 : Int32)
def f10_back (s : sf_Sg) (x1 : Int32) (x2 : Int32) : Option Int32 :=
  f10_back_b0 s x1 x2
def f10_remember_b84 (s : sf_Sg) : Option sf_Sg :=
  some (sf_s1 s 149 26 ((s 149 26) + (1 : Int32)))
def f10_remember_b52 (k52 : sf_Sg → Int32 → Option sf_Sg) (s : sf_Sg) (x1 : Int32) : Option sf_Sg :=
  if (31 : Int32) ≤ x1 then
    f10_remember_b84 s
  else
    (sf_ld s 155 31 x1).bind fun v76 =>
    (sf_st s 162 496 (((31 : Int32) * (s 149 26)) + x1) v76).bind fun s77 =>
    k52 s77 (x1 + 1)
def f10_remember_L52 : sf_Sg → Int32 → Option sf_Sg :=
  sf_it (f10_remember_b52) (fun _ _ => none) sf_FU
def f10_remember_b50 (s : sf_Sg) : Option sf_Sg :=
  f10_remember_L52 s (0 : Int32)
def f10_remember_b40 (s : sf_Sg) : Option sf_Sg :=
  f10_remember_b50 (sf_s1 s 149 26 ((s 149 26) - (1 : Int32)))
def f10_remember_b12 (k12 : sf_Sg → Int32 → Option sf_Sg) (s : sf_Sg) (x1 : Int32) : Option sf_Sg :=
  if (496 : Int32) ≤ x1 then
    f10_remember_b40 s
  else
    (sf_ld s 162 496 x1).bind fun v32 =>
    (sf_st s 162 496 (x1 - (31 : Int32)) v32).bind fun s33 =>
    k12 s33 (x1 + 1)
def f10_remember_L12 : sf_Sg → Int32 → Option sf_Sg :=
  sf_it (f10_remember_b12) (fun _ _ => none) sf_FU
def f10_remember_b0 (s : sf_Sg) : Option sf_Sg :=
  if (s 149 26) = (16 : Int32) then
    f10_remember_L12 s (31 : Int32)
  else
    f10_remember_b50 s
def f10_remember (s : sf_Sg) : Option sf_Sg :=
  f10_remember_b0 s
def f10_pass_b64 (k2 : sf_Sg → Int32 → Option sf_Sg) (s : sf_Sg) (x1 : Int32) (t2 : Int32) (t1 : Int32) : Option sf_Sg :=
  (sf_st s 155 31 t1 t2).bind fun s64 =>
  k2 s64 (x1 + 1)
def f10_pass_b37 (k2 : sf_Sg → Int32 → Option sf_Sg) (s : sf_Sg) (x1 : Int32) (t1 : Int32) (t0 : Int32) : Option sf_Sg :=
  if (t0 + t1) ≤ (9999 : Int32) then
    f10_pass_b64 k2 s x1 (f10_notBelow (t0 + t1)) ((24 : Int32) + x1)
  else
    f10_pass_b64 k2 s x1 (9999 : Int32) ((24 : Int32) + x1)
def f10_pass_b71 (s : sf_Sg) : Option sf_Sg :=
  (sf_ld s 155 31 (30 : Int32)).bind fun v78 =>
  (sf_st s 155 31 (30 : Int32) (v78 + (1 : Int32))).bind fun s81 =>
  some s81
def f10_pass_b2 (k2 : sf_Sg → Int32 → Option sf_Sg) (s : sf_Sg) (x1 : Int32) : Option sf_Sg :=
  if (s 149 6) ≤ x1 then
    f10_pass_b71 s
  else
    (sf_ld s 155 31 ((24 : Int32) + x1)).bind fun v18 =>
    (f10_carriedBy s x1).bind fun v21 =>
    if v21 = 0 then
      f10_pass_b37 k2 s x1 (-3 : Int32) v18
    else
      (f10_gallingOf s x1).bind fun v34 =>
      f10_pass_b37 k2 s x1 v34 v18
def f10_pass_L2 : sf_Sg → Int32 → Option sf_Sg :=
  sf_it (f10_pass_b2) (fun _ _ => none) sf_FU
def f10_pass_b0 (s : sf_Sg) : Option sf_Sg :=
  f10_pass_L2 s (0 : Int32)
def f10_pass (s : sf_Sg) : Option sf_Sg :=
  f10_pass_b0 s
def f10_daysRefused_b0 (s : sf_Sg) (x1 : Int32) : Option Int32 :=
  if (f10_in x1.toInt64 (1 : Int64) (60 : Int64)) = 0 then
    some (-1000000002 : Int32)
  else
    if (s 149 0) = 0 then
      some (-1000000003 : Int32)
    else
      (sf_ld s 155 31 (30 : Int32)).bind fun v33 =>
      if v33 ≤ (9000 : Int32) then
        some (0 : Int32)
      else
        some (-1000000004 : Int32)
def f10_daysRefused (s : sf_Sg) (x1 : Int32) : Option Int32 :=
  f10_daysRefused_b0 s x1
def f10_day_b33 (s : sf_Sg) : Option (Int32 × sf_Sg) :=
  (f10_galledOnes s).bind fun v34 =>
  some (v34, s)
def f10_day_b18 (k18 : sf_Sg → Int32 → Int32 → Option (Int32 × sf_Sg)) (s : sf_Sg) (x1 : Int32) (x3 : Int32) : Option (Int32 × sf_Sg) :=
  if x1 ≤ x3 then
    f10_day_b33 s
  else
    (f10_pass s).bind fun s24 =>
    k18 s24 x1 (x3 + 1)
def f10_day_L18 : sf_Sg → Int32 → Int32 → Option (Int32 × sf_Sg) :=
  sf_it (f10_day_b18) (fun _ _ _ => none) sf_FU
def f10_day_b0 (s : sf_Sg) (x1 : Int32) : Option (Int32 × sf_Sg) :=
  (f10_daysRefused s x1).bind fun v2 =>
  if v2 = 0 then
    (f10_remember s).bind fun s13 =>
    f10_day_L18 s13 x1 (0 : Int32)
  else
    some (v2, s)
def f10_day (s : sf_Sg) (x1 : Int32) : Option (Int32 × sf_Sg) :=
  f10_day_b0 s x1
def f10_take_b0 (s : sf_Sg) (x1 : Int32) (x2 : Int32) : Option (Int32 × sf_Sg) :=
  if (f10_isBurden s x1) = 0 then
    some ((-1000000001 : Int32), s)
  else
    if (f10_isBack s x2) = 0 then
      some ((-1000000001 : Int32), s)
    else
      (sf_ld s 155 31 ((12 : Int32) + x1)).bind fun v27 =>
      if v27 = (-1 : Int32) then
        (f10_remember s).bind fun s36 =>
        (sf_st s36 155 31 ((12 : Int32) + x1) x2).bind fun s48 =>
        (f10_gallingOf s48 x2).bind fun v51 =>
        some (v51, s48)
      else
        some ((-1000000003 : Int32), s)
def f10_take (s : sf_Sg) (x1 : Int32) (x2 : Int32) : Option (Int32 × sf_Sg) :=
  f10_take_b0 s x1 x2
def f10_canShare_b38 (s : sf_Sg) : Option Int32 :=
  some (0 : Int32)
def f10_canShare_b0 (s : sf_Sg) (x1 : Int32) (x2 : Int32) : Option Int32 :=
  (sf_ld s 155 31 ((12 : Int32) + x1)).bind fun v8 =>
  if v8 = (-1 : Int32) then
    f10_canShare_b38 s
  else
    (f10_isShared s x1).bind fun v15 =>
    if v15 = 0 then
      (sf_ld s 155 31 ((12 : Int32) + x1)).bind fun v29 =>
      if v29 = x2 then
        f10_canShare_b38 s
      else
        some (1 : Int32)
    else
      f10_canShare_b38 s
def f10_canShare (s : sf_Sg) (x1 : Int32) (x2 : Int32) : Option Int32 :=
  f10_canShare_b0 s x1 x2
def f10_share_b0 (s : sf_Sg) (x1 : Int32) (x2 : Int32) : Option (Int32 × sf_Sg) :=
  if (f10_isBurden s x1) = 0 then
    some ((-1000000001 : Int32), s)
  else
    if (f10_isBack s x2) = 0 then
      some ((-1000000001 : Int32), s)
    else
      (f10_canShare s x1 x2).bind fun v22 =>
      if v22 = 0 then
        some ((-1000000003 : Int32), s)
      else
        (f10_remember s).bind fun s32 =>
        (sf_st s32 155 31 ((18 : Int32) + x1) x2).bind fun s44 =>
        (f10_gallingOf s44 x2).bind fun v47 =>
        some (v47, s44)
def f10_share (s : sf_Sg) (x1 : Int32) (x2 : Int32) : Option (Int32 × sf_Sg) :=
  f10_share_b0 s x1 x2
def f10_downNow_b42 (s : sf_Sg) (x1 : Int32) (t2 : Int32) (t1 : Int32) : Option sf_Sg :=
  (sf_st s 155 31 t1 t2).bind fun s42 =>
  (sf_st s42 155 31 ((18 : Int32) + x1) (-1 : Int32)).bind fun s52 =>
  some s52
def f10_downNow_b0 (s : sf_Sg) (x1 : Int32) (x2 : Int32) : Option sf_Sg :=
  (sf_ld s 155 31 ((12 : Int32) + x1)).bind fun v16 =>
  if v16 = x2 then
    (sf_ld s 155 31 ((18 : Int32) + x1)).bind fun v29 =>
    f10_downNow_b42 s x1 v29 ((12 : Int32) + x1)
  else
    (sf_ld s 155 31 ((12 : Int32) + x1)).bind fun v41 =>
    f10_downNow_b42 s x1 v41 ((12 : Int32) + x1)
def f10_downNow (s : sf_Sg) (x1 : Int32) (x2 : Int32) : Option sf_Sg :=
  f10_downNow_b0 s x1 x2
def f10_down_b0 (s : sf_Sg) (x1 : Int32) (x2 : Int32) : Option (Int32 × sf_Sg) :=
  if (f10_isBurden s x1) = 0 then
    some ((-1000000001 : Int32), s)
  else
    if (f10_isBack s x2) = 0 then
      some ((-1000000001 : Int32), s)
    else
      (f10_bears s x1 x2).bind fun v22 =>
      if v22 = 0 then
        some ((-1000000003 : Int32), s)
      else
        (f10_remember s).bind fun s32 =>
        (f10_downNow s32 x1 x2).bind fun s38 =>
        (f10_gallingOf s38 x2).bind fun v43 =>
        some (v43, s38)
def f10_down (s : sf_Sg) (x1 : Int32) (x2 : Int32) : Option (Int32 × sf_Sg) :=
  f10_down_b0 s x1 x2
def f10_hand_b85 (s : sf_Sg) (x3 : Int32) (t1 : Int32) : Option (Int32 × sf_Sg) :=
  (sf_st s 155 31 t1 x3).bind fun s86 =>
  (f10_gallingOf s86 x3).bind fun v89 =>
  some (v89, s86)
def f10_hand_b0 (s : sf_Sg) (x1 : Int32) (x2 : Int32) (x3 : Int32) : Option (Int32 × sf_Sg) :=
  if (f10_isBurden s x1) = 0 then
    some ((-1000000001 : Int32), s)
  else
    if (f10_isBack s x2) = 0 then
      some ((-1000000001 : Int32), s)
    else
      if (f10_isBack s x3) = 0 then
        some ((-1000000001 : Int32), s)
      else
        if x2 = x3 then
          some ((-1000000001 : Int32), s)
        else
          (f10_bears s x1 x2).bind fun v35 =>
          if v35 = 0 then
            some ((-1000000003 : Int32), s)
          else
            (f10_bears s x1 x3).bind fun v44 =>
            if v44 = 0 then
              (f10_remember s).bind fun s54 =>
              (sf_ld s54 155 31 ((12 : Int32) + x1)).bind fun v69 =>
              if v69 = x2 then
                f10_hand_b85 s54 x3 ((12 : Int32) + x1)
              else
                f10_hand_b85 s54 x3 ((18 : Int32) + x1)
            else
              some ((-1000000003 : Int32), s)
def f10_hand (s : sf_Sg) (x1 : Int32) (x2 : Int32) (x3 : Int32) : Option (Int32 × sf_Sg) :=
  f10_hand_b0 s x1 x2 x3
def f10_stuff_b0 (s : sf_Sg) (x1 : Int32) (x2 : Int32) : Option (Int32 × sf_Sg) :=
  if (f10_isBurden s x1) = 0 then
    some ((-1000000001 : Int32), s)
  else
    if (f10_in x2.toInt64 (-30 : Int64) (30 : Int64)) = 0 then
      some ((-1000000002 : Int32), s)
    else
      (sf_ld s 155 31 ((6 : Int32) + x1)).bind fun v36 =>
      if (f10_in ((v36 + x2).toInt64) (0 : Int64) (30 : Int64)) = 0 then
        some ((-1000000003 : Int32), s)
      else
        (sf_ld s 155 31 (29 : Int32)).bind fun v56 =>
        if x2 ≤ v56 then
          (f10_remember s).bind fun s65 =>
          (sf_ld s65 155 31 ((6 : Int32) + x1)).bind fun v77 =>
          (sf_st s65 155 31 ((6 : Int32) + x1) (v77 + x2)).bind fun s80 =>
          (sf_ld s80 155 31 (29 : Int32)).bind fun v88 =>
          (sf_st s80 155 31 (29 : Int32) (v88 - x2)).bind fun s91 =>
          (sf_ld s91 155 31 ((6 : Int32) + x1)).bind fun v100 =>
          some (v100, s91)
        else
          some ((-1000000003 : Int32), s)
def f10_stuff (s : sf_Sg) (x1 : Int32) (x2 : Int32) : Option (Int32 × sf_Sg) :=
  f10_stuff_b0 s x1 x2
def f10_weigh_b0 (s : sf_Sg) (x1 : Int32) (x2 : Int32) : Option (Int32 × sf_Sg) :=
  if (f10_isBurden s x1) = 0 then
    some ((-1000000001 : Int32), s)
  else
    if (f10_in x2.toInt64 (1 : Int64) (60 : Int64)) = 0 then
      some ((-1000000002 : Int32), s)
    else
      (f10_remember s).bind fun s27 =>
      (sf_ld s27 155 31 x1).bind fun v35 =>
      (sf_st s27 155 31 x1 x2).bind fun s43 =>
      some (v35, s43)
def f10_weigh (s : sf_Sg) (x1 : Int32) (x2 : Int32) : Option (Int32 × sf_Sg) :=
  f10_weigh_b0 s x1 x2
def f10_draw_b0 (s : sf_Sg) (x1 : Int32) : Option (Int32 × sf_Sg) :=
  (sf_mod (((sf_s1 s 149 10 ((sf_lmod (((s 149 10).toInt64 * (1103515245 : Int64)) + (12345 : Int64)) (2147483648 : Int64)).toInt32)) 149 10) / (65536 : Int32)) x1).bind fun v31 =>
  some (v31, (sf_s1 s 149 10 ((sf_lmod (((s 149 10).toInt64 * (1103515245 : Int64)) + (12345 : Int64)) (2147483648 : Int64)).toInt32)))
def f10_draw (s : sf_Sg) (x1 : Int32) : Option (Int32 × sf_Sg) :=
  f10_draw_b0 s x1
def f10_chance_b81 (s : sf_Sg) (x1 : Int32) (x2 : Int32) (x3 : Int32) : Option sf_Sg :=
  if x1 = (2 : Int32) then
    (f10_bears s x2 x3).bind fun v89 =>
    if v89 = 0 then
      some s
    else
      (f10_downNow s x2 x3).bind fun s98 =>
      some s98
  else
    some s
def f10_chance_b54 (s : sf_Sg) (x1 : Int32) (x2 : Int32) (x3 : Int32) : Option sf_Sg :=
  if x1 = (1 : Int32) then
    (f10_canShare s x2 x3).bind fun v62 =>
    if v62 = 0 then
      f10_chance_b81 s x1 x2 x3
    else
      (sf_st s 155 31 ((18 : Int32) + x2) x3).bind fun s77 =>
      some s77
  else
    f10_chance_b81 s x1 x2 x3
def f10_chance_b0 (s : sf_Sg) : Option sf_Sg :=
  (f10_draw s (4 : Int32)).bind fun q2 =>
  (f10_draw q2.2 (q2.2 149 2)).bind fun q11 =>
  (f10_draw q11.2 (q11.2 149 6)).bind fun q20 =>
  if q2.1 = 0 then
    (sf_ld q20.2 155 31 ((12 : Int32) + q11.1)).bind fun v36 =>
    if v36 = (-1 : Int32) then
      (sf_st q20.2 155 31 ((12 : Int32) + q11.1) q20.1).bind fun s50 =>
      some s50
    else
      f10_chance_b54 q20.2 q2.1 q11.1 q20.1
  else
    f10_chance_b54 q20.2 q2.1 q11.1 q20.1
def f10_chance (s : sf_Sg) : Option sf_Sg :=
  f10_chance_b0 s
def f10_drift_b41 (k18 : sf_Sg → Int32 → Int32 → Option (Int32 × sf_Sg)) (s : sf_Sg) (x1 : Int32) (x3 : Int32) : Option (Int32 × sf_Sg) :=
  (f10_pass s).bind fun s42 =>
  k18 s42 x1 (x3 + 1)
def f10_drift_b51 (s : sf_Sg) : Option (Int32 × sf_Sg) :=
  (f10_galledOnes s).bind fun v52 =>
  some (v52, s)
def f10_drift_b18 (k18 : sf_Sg → Int32 → Int32 → Option (Int32 × sf_Sg)) (s : sf_Sg) (x1 : Int32) (x3 : Int32) : Option (Int32 × sf_Sg) :=
  if x1 ≤ x3 then
    f10_drift_b51 s
  else
    if (s 149 2) ≤ 0 then
      f10_drift_b41 k18 s x1 x3
    else
      if (s 149 6) ≤ 0 then
        f10_drift_b41 k18 s x1 x3
      else
        (f10_chance s).bind fun s38 =>
        f10_drift_b41 k18 s38 x1 x3
def f10_drift_L18 : sf_Sg → Int32 → Int32 → Option (Int32 × sf_Sg) :=
  sf_it (f10_drift_b18) (fun _ _ _ => none) sf_FU
def f10_drift_b0 (s : sf_Sg) (x1 : Int32) : Option (Int32 × sf_Sg) :=
  (f10_daysRefused s x1).bind fun v2 =>
  if v2 = 0 then
    (f10_remember s).bind fun s13 =>
    f10_drift_L18 s13 x1 (0 : Int32)
  else
    some (v2, s)
def f10_drift (s : sf_Sg) (x1 : Int32) : Option (Int32 × sf_Sg) :=
  f10_drift_b0 s x1
def f10_undo_b22 (k22 : sf_Sg → Int32 → Option (Int32 × sf_Sg)) (s : sf_Sg) (x1 : Int32) : Option (Int32 × sf_Sg) :=
  if (31 : Int32) ≤ x1 then
    some ((s 149 26), s)
  else
    (sf_ld s 162 496 (((31 : Int32) * (s 149 26)) + x1)).bind fun v46 =>
    (sf_st s 155 31 x1 v46).bind fun s47 =>
    k22 s47 (x1 + 1)
def f10_undo_L22 : sf_Sg → Int32 → Option (Int32 × sf_Sg) :=
  sf_it (f10_undo_b22) (fun _ _ => none) sf_FU
def f10_undo_b0 (s : sf_Sg) : Option (Int32 × sf_Sg) :=
  if (s 149 26) = 0 then
    some ((-1000000003 : Int32), s)
  else
    f10_undo_L22 (sf_s1 s 149 26 ((s 149 26) - (1 : Int32))) (0 : Int32)
def f10_undo (s : sf_Sg) : Option (Int32 × sf_Sg) :=
  f10_undo_b0 s
def f10_sore_b56 (s : sf_Sg) (x1 : Int32) : Option (Int32 × sf_Sg) :=
  (sf_ld s 155 31 ((24 : Int32) + x1)).bind fun v64 =>
  (f10_copyRow 163 31 155 31 s (31 : Int32)).bind fun s76 =>
  some (v64, s76)
def f10_sore_b41 (k41 : sf_Sg → Int32 → Int32 → Int32 → Option (Int32 × sf_Sg)) (s : sf_Sg) (x1 : Int32) (x2 : Int32) (x3 : Int32) : Option (Int32 × sf_Sg) :=
  if x2 ≤ x3 then
    f10_sore_b56 s x1
  else
    (f10_pass s).bind fun s47 =>
    k41 s47 x1 x2 (x3 + 1)
def f10_sore_L41 : sf_Sg → Int32 → Int32 → Int32 → Option (Int32 × sf_Sg) :=
  sf_it (f10_sore_b41) (fun _ _ _ _ => none) sf_FU
def f10_sore_b0 (s : sf_Sg) (x1 : Int32) (x2 : Int32) : Option (Int32 × sf_Sg) :=
  if (f10_isBack s x1) = 0 then
    some ((-1000000001 : Int32), s)
  else
    if (f10_in x2.toInt64 (0 : Int64) (200 : Int64)) = 0 then
      some ((-1000000002 : Int32), s)
    else
      (f10_copyRow 155 31 163 31 s (31 : Int32)).bind fun s36 =>
      f10_sore_L41 s36 x1 x2 (0 : Int32)
def f10_sore (s : sf_Sg) (x1 : Int32) (x2 : Int32) : Option (Int32 × sf_Sg) :=
  f10_sore_b0 s x1 x2
def f10_when_b76 (s : sf_Sg) (t0 : Int32) : Option (Int32 × sf_Sg) :=
  (f10_copyRow 163 31 155 31 s (31 : Int32)).bind fun s87 =>
  some (t0, s87)
def f10_when_b57 (s : sf_Sg) (x1 : Int32) (x2 : Int32) : Option (Int32 × sf_Sg) :=
  (sf_ld s 155 31 ((24 : Int32) + x1)).bind fun v65 =>
  if (20 : Int32) ≤ v65 then
    f10_when_b76 s x2
  else
    f10_when_b76 s (-1 : Int32)
def f10_when_b26 (k26 : sf_Sg → Int32 → Int32 → Option (Int32 × sf_Sg)) (s : sf_Sg) (x1 : Int32) (x2 : Int32) : Option (Int32 × sf_Sg) :=
  if (200 : Int32) ≤ x2 then
    f10_when_b57 s x1 x2
  else
    (sf_ld s 155 31 ((24 : Int32) + x1)).bind fun v41 =>
    if (20 : Int32) ≤ v41 then
      f10_when_b57 s x1 x2
    else
      (f10_pass s).bind fun s48 =>
      k26 s48 x1 (x2 + 1)
def f10_when_L26 : sf_Sg → Int32 → Int32 → Option (Int32 × sf_Sg) :=
  sf_it (f10_when_b26) (fun _ _ _ => none) sf_FU
def f10_when_b0 (s : sf_Sg) (x1 : Int32) : Option (Int32 × sf_Sg) :=
  if (f10_isBack s x1) = 0 then
    some ((-1000000001 : Int32), s)
  else
    (f10_copyRow 155 31 163 31 s (31 : Int32)).bind fun s21 =>
    f10_when_L26 s21 x1 (0 : Int32)
def f10_when (s : sf_Sg) (x1 : Int32) : Option (Int32 × sf_Sg) :=
  f10_when_b0 s x1
def f10_worst_b96 (k56 : sf_Sg → Int32 → Int32 → Int32 → Int32 → Int32 → Option (Int32 × sf_Sg)) (s : sf_Sg) (x1 : Int32) (x2 : Int32) (x3 : Int32) (x5 : Int32) (t0 : Int32) : Option (Int32 × sf_Sg) :=
  (f10_pass s).bind fun s99 =>
  k56 s99 x1 x2 x3 t0 (x5 + 1)
def f10_worst_b81 (k56 : sf_Sg → Int32 → Int32 → Int32 → Int32 → Int32 → Option (Int32 × sf_Sg)) (s : sf_Sg) (x1 : Int32) (x2 : Int32) (x4 : Int32) (x5 : Int32) (x6 : Int32) (t0 : Int32) : Option (Int32 × sf_Sg) :=
  if x6 ≤ x4 then
    f10_worst_b96 k56 s x1 x2 t0 x5 x4
  else
    f10_worst_b96 k56 s x1 x2 t0 x5 x6
def f10_worst_b108 (s : sf_Sg) (x2 : Int32) (x3 : Int32) (x4 : Int32) : Option (Int32 × sf_Sg) :=
  (f10_copyRow 163 31 155 31 s (31 : Int32)).bind fun s118 =>
  if x2 = 0 then
    some (x3, s118)
  else
    some (x4, s118)
def f10_worst_b56 (k56 : sf_Sg → Int32 → Int32 → Int32 → Int32 → Int32 → Option (Int32 × sf_Sg)) (s : sf_Sg) (x1 : Int32) (x2 : Int32) (x3 : Int32) (x4 : Int32) (x5 : Int32) : Option (Int32 × sf_Sg) :=
  if x1 ≤ x5 then
    f10_worst_b108 s x2 x3 x4
  else
    (f10_allGalling s).bind fun v63 =>
    if v63 ≤ x4 then
      f10_worst_b81 k56 s x1 x2 x4 x5 v63 x3
    else
      f10_worst_b81 k56 s x1 x2 x4 x5 v63 x5
def f10_worst_L56 : sf_Sg → Int32 → Int32 → Int32 → Int32 → Int32 → Option (Int32 × sf_Sg) :=
  sf_it (f10_worst_b56) (fun _ _ _ _ _ _ => none) sf_FU
def f10_worst_b0 (s : sf_Sg) (x1 : Int32) (x2 : Int32) : Option (Int32 × sf_Sg) :=
  if (f10_in x1.toInt64 (1 : Int64) (60 : Int64)) = 0 then
    some ((-1000000002 : Int32), s)
  else
    if (f10_in x2.toInt64 (0 : Int64) (1 : Int64)) = 0 then
      some ((-1000000002 : Int32), s)
    else
      if (s 149 0) = 0 then
        some ((-1000000003 : Int32), s)
      else
        (f10_copyRow 155 31 163 31 s (31 : Int32)).bind fun s45 =>
        f10_worst_L56 s45 x1 x2 (-1 : Int32) (-1 : Int32) (0 : Int32)
def f10_worst (s : sf_Sg) (x1 : Int32) (x2 : Int32) : Option (Int32 × sf_Sg) :=
  f10_worst_b0 s x1 x2
def f10_ways_b4 (s : sf_Sg) (k4 : Int32 → Int32 → Option Int32) (x1 : Int32) (x2 : Int32) : Option Int32 :=
  if (s 149 2) ≤ x2 then
    some x1
  else
    k4 (x1 * (s 149 6)) (x2 + 1)
def f10_ways_L4 (s : sf_Sg) : Int32 → Int32 → Option Int32 :=
  sf_it (f10_ways_b4 s) (fun _ _ => none) sf_FU
def f10_ways_b0 (s : sf_Sg) : Option Int32 :=
  f10_ways_L4 s (1 : Int32) (0 : Int32)
def f10_ways (s : sf_Sg) : Option Int32 :=
  f10_ways_b0 s
def f10_carryBy_b9 (k9 : sf_Sg → Int32 → Int32 → Option sf_Sg) (s : sf_Sg) (x2 : Int32) (x3 : Int32) : Option sf_Sg :=
  if x3 < 0 then
    some s
  else
    (sf_mod x2 (s 149 6)).bind fun v26 =>
    (sf_st s 155 31 ((12 : Int32) + x3) v26).bind fun s27 =>
    (sf_st s27 155 31 ((18 : Int32) + x3) (-1 : Int32)).bind fun s37 =>
    (sf_div x2 (s37 149 6)).bind fun v43 =>
    k9 s37 v43 (x3 + (-1))
def f10_carryBy_L9 : sf_Sg → Int32 → Int32 → Option sf_Sg :=
  sf_it (f10_carryBy_b9) (fun _ _ _ => none) sf_FU
def f10_carryBy_b0 (s : sf_Sg) (x1 : Int32) : Option sf_Sg :=
  f10_carryBy_L9 s x1 ((s 149 2) - (1 : Int32))
def f10_carryBy (s : sf_Sg) (x1 : Int32) : Option sf_Sg :=
  f10_carryBy_b0 s x1
def f10_findFit_b76 (k21 : sf_Sg → Int32 → Option sf_Sg) (s : sf_Sg) (x1 : Int32) (t1 : Int32) : Option sf_Sg :=
  k21 (sf_s1 s 149 29 t1) (x1 + 1)
def f10_findFit_b56 (k21 : sf_Sg → Int32 → Option sf_Sg) (s : sf_Sg) (x1 : Int32) (x2 : Int32) (t1 : Int32) : Option sf_Sg :=
  if ((sf_s1 s 149 30 t1) 149 29) ≤ x2 then
    f10_findFit_b76 k21 (sf_s1 s 149 30 t1) x1 ((sf_s1 s 149 30 t1) 149 29)
  else
    f10_findFit_b76 k21 (sf_s1 s 149 30 t1) x1 x2
def f10_findFit_b124 (s : sf_Sg) : Option sf_Sg :=
  (f10_copyRow 163 31 155 31 s (31 : Int32)).bind fun s134 =>
  some s134
def f10_findFit_b95 (k95 : sf_Sg → Int32 → Option sf_Sg) (s : sf_Sg) (x1 : Int32) : Option sf_Sg :=
  if (s 149 2) ≤ x1 then
    f10_findFit_b124 s
  else
    (sf_ld s 155 31 ((12 : Int32) + x1)).bind fun v116 =>
    (sf_st s 164 6 x1 v116).bind fun s117 =>
    k95 s117 (x1 + 1)
def f10_findFit_L95 : sf_Sg → Int32 → Option sf_Sg :=
  sf_it (f10_findFit_b95) (fun _ _ => none) sf_FU
def f10_findFit_b85 (s : sf_Sg) : Option sf_Sg :=
  (f10_carryBy s (s 149 30)).bind fun s90 =>
  f10_findFit_L95 s90 (0 : Int32)
def f10_findFit_b21 (k21 : sf_Sg → Int32 → Option sf_Sg) (s : sf_Sg) (x1 : Int32) : Option sf_Sg :=
  (f10_ways s).bind fun v23 =>
  if v23 ≤ x1 then
    f10_findFit_b85 s
  else
    (f10_carryBy s x1).bind fun s31 =>
    (f10_allGalling s31).bind fun v35 =>
    if (s31 149 29) ≤ v35 then
      f10_findFit_b56 k21 s31 x1 v35 (s31 149 30)
    else
      f10_findFit_b56 k21 s31 x1 v35 x1
def f10_findFit_L21 : sf_Sg → Int32 → Option sf_Sg :=
  sf_it (f10_findFit_b21) (fun _ _ => none) sf_FU
def f10_findFit_b0 (s : sf_Sg) : Option sf_Sg :=
  (f10_copyRow 155 31 163 31 s (31 : Int32)).bind fun s10 =>
  f10_findFit_L21 (sf_s1 s10 149 29 (1000000 : Int32)) (0 : Int32)
def f10_findFit (s : sf_Sg) : Option sf_Sg :=
  f10_findFit_b0 s
def f10_fit_b16 (s : sf_Sg) (x1 : Int32) : Option (Int32 × sf_Sg) :=
  if (s 149 6) = 0 then
    some ((-1 : Int32), s)
  else
    (f10_findFit s).bind fun s26 =>
    if x1 = (-1 : Int32) then
      some ((s26 149 29), s26)
    else
      (sf_ld s26 164 6 x1).bind fun v46 =>
      some (v46, s26)
def f10_fit_b0 (s : sf_Sg) (x1 : Int32) : Option (Int32 × sf_Sg) :=
  if x1 = (-1 : Int32) then
    f10_fit_b16 s x1
  else
    if (f10_isBurden s x1) = 0 then
      some ((-1000000001 : Int32), s)
    else
      f10_fit_b16 s x1
def f10_fit (s : sf_Sg) (x1 : Int32) : Option (Int32 × sf_Sg) :=
  f10_fit_b0 s x1
def f10_byTwo_b175 (k46 : sf_Sg → Int32 → Int32 → Int32 → Int32 → Int32 → Option (Int32 × sf_Sg)) (k86 : sf_Sg → Int32 → Int32 → Int32 → Int32 → Int32 → Int32 → Int32 → Option (Int32 × sf_Sg)) (s : sf_Sg) (x1 : Int32) (x2 : Int32) (x3 : Int32) (x5 : Int32) (x6 : Int32) (x7 : Int32) (t0 : Int32) : Option (Int32 × sf_Sg) :=
  k86 s x1 x2 x3 t0 x5 x6 (x7 + 1)
def f10_byTwo_b162 (k46 : sf_Sg → Int32 → Int32 → Int32 → Int32 → Int32 → Option (Int32 × sf_Sg)) (k86 : sf_Sg → Int32 → Int32 → Int32 → Int32 → Int32 → Int32 → Int32 → Option (Int32 × sf_Sg)) (s : sf_Sg) (x1 : Int32) (x2 : Int32) (x4 : Int32) (x5 : Int32) (x6 : Int32) (x7 : Int32) (x8 : Int32) (x9 : Int32) (t0 : Int32) : Option (Int32 × sf_Sg) :=
  if x9 = 0 then
    f10_byTwo_b175 k46 k86 s x1 x2 t0 x5 x6 x7 x4
  else
    f10_byTwo_b175 k46 k86 s x1 x2 t0 x5 x6 x7 x8
def f10_byTwo_b143 (k46 : sf_Sg → Int32 → Int32 → Int32 → Int32 → Int32 → Option (Int32 × sf_Sg)) (k86 : sf_Sg → Int32 → Int32 → Int32 → Int32 → Int32 → Int32 → Int32 → Option (Int32 × sf_Sg)) (s : sf_Sg) (x1 : Int32) (x2 : Int32) (x3 : Int32) (x4 : Int32) (x5 : Int32) (x6 : Int32) (x7 : Int32) (x8 : Int32) (t0 : Int32) : Option (Int32 × sf_Sg) :=
  if t0 = 0 then
    f10_byTwo_b162 k46 k86 s x1 x2 x4 x5 x6 x7 x8 t0 x3
  else
    f10_byTwo_b162 k46 k86 s x1 x2 x4 x5 x6 x7 x8 t0 (((10 : Int32) * x6) + x7)
def f10_byTwo_b138 (k46 : sf_Sg → Int32 → Int32 → Int32 → Int32 → Int32 → Option (Int32 × sf_Sg)) (k86 : sf_Sg → Int32 → Int32 → Int32 → Int32 → Int32 → Int32 → Int32 → Option (Int32 × sf_Sg)) (s : sf_Sg) (x1 : Int32) (x2 : Int32) (x3 : Int32) (x4 : Int32) (x5 : Int32) (x6 : Int32) (x7 : Int32) (x8 : Int32) : Option (Int32 × sf_Sg) :=
  f10_byTwo_b143 k46 k86 s x1 x2 x3 x4 x5 x6 x7 x8 (1 : Int32)
def f10_byTwo_b142 (k46 : sf_Sg → Int32 → Int32 → Int32 → Int32 → Int32 → Option (Int32 × sf_Sg)) (k86 : sf_Sg → Int32 → Int32 → Int32 → Int32 → Int32 → Int32 → Int32 → Option (Int32 × sf_Sg)) (s : sf_Sg) (x1 : Int32) (x2 : Int32) (x3 : Int32) (x4 : Int32) (x5 : Int32) (x6 : Int32) (x7 : Int32) (x8 : Int32) : Option (Int32 × sf_Sg) :=
  f10_byTwo_b143 k46 k86 s x1 x2 x3 x4 x5 x6 x7 x8 (0 : Int32)
def f10_byTwo_b183 (k46 : sf_Sg → Int32 → Int32 → Int32 → Int32 → Int32 → Option (Int32 × sf_Sg)) (s : sf_Sg) (x1 : Int32) (x2 : Int32) (x3 : Int32) (x4 : Int32) (x5 : Int32) : Option (Int32 × sf_Sg) :=
  k46 s x1 x2 x3 x4 (x5 + 1)
def f10_byTwo_b86 (k46 : sf_Sg → Int32 → Int32 → Int32 → Int32 → Int32 → Option (Int32 × sf_Sg)) (k86 : sf_Sg → Int32 → Int32 → Int32 → Int32 → Int32 → Int32 → Int32 → Option (Int32 × sf_Sg)) (s : sf_Sg) (x1 : Int32) (x2 : Int32) (x3 : Int32) (x4 : Int32) (x5 : Int32) (x6 : Int32) (x7 : Int32) : Option (Int32 × sf_Sg) :=
  if (s 149 6) ≤ x7 then
    f10_byTwo_b183 k46 s x1 x2 x3 x4 x5
  else
    (sf_st s 155 31 ((18 : Int32) + x1) x7).bind fun s105 =>
    (f10_allGalling s105).bind fun v107 =>
    if v107 < x4 then
      f10_byTwo_b138 k46 k86 s105 x1 x2 x3 x4 x5 x6 x7 v107
    else
      if v107 = x4 then
        if x3 ≤ (((10 : Int32) * x6) + x7) then
          f10_byTwo_b142 k46 k86 s105 x1 x2 x3 x4 x5 x6 x7 v107
        else
          f10_byTwo_b138 k46 k86 s105 x1 x2 x3 x4 x5 x6 x7 v107
      else
        f10_byTwo_b142 k46 k86 s105 x1 x2 x3 x4 x5 x6 x7 v107
def f10_byTwo_L86 (k46 : sf_Sg → Int32 → Int32 → Int32 → Int32 → Int32 → Option (Int32 × sf_Sg)) : sf_Sg → Int32 → Int32 → Int32 → Int32 → Int32 → Int32 → Int32 → Option (Int32 × sf_Sg) :=
  sf_it (f10_byTwo_b86 k46) (fun _ _ _ _ _ _ _ _ => none) sf_FU
def f10_byTwo_b211 (s : sf_Sg) (x3 : Int32) : Option (Int32 × sf_Sg) :=
  some (x3, s)
def f10_byTwo_b189 (s : sf_Sg) (x2 : Int32) (x3 : Int32) (x4 : Int32) : Option (Int32 × sf_Sg) :=
  (f10_copyRow 163 31 155 31 s (31 : Int32)).bind fun s199 =>
  if x3 < 0 then
    f10_byTwo_b211 s199 x3
  else
    if x2 = (1 : Int32) then
      f10_byTwo_b211 s199 x3
    else
      some (x4, s199)
def f10_byTwo_b46 (k46 : sf_Sg → Int32 → Int32 → Int32 → Int32 → Int32 → Option (Int32 × sf_Sg)) (s : sf_Sg) (x1 : Int32) (x2 : Int32) (x3 : Int32) (x4 : Int32) (x5 : Int32) : Option (Int32 × sf_Sg) :=
  (f10_ways s).bind fun v49 =>
  if v49 ≤ x5 then
    f10_byTwo_b189 s x2 x3 x4
  else
    if (s 149 6) ≤ (1 : Int32) then
      f10_byTwo_b189 s x2 x3 x4
    else
      (f10_carryBy s x5).bind fun s66 =>
      (sf_ld s66 155 31 ((12 : Int32) + x1)).bind fun v77 =>
      f10_byTwo_L86 k46 s66 x1 x2 x3 x4 x5 v77 (v77 + (1 : Int32))
def f10_byTwo_L46 : sf_Sg → Int32 → Int32 → Int32 → Int32 → Int32 → Option (Int32 × sf_Sg) :=
  sf_it (f10_byTwo_b46) (fun _ _ _ _ _ _ => none) sf_FU
def f10_byTwo_b0 (s : sf_Sg) (x1 : Int32) (x2 : Int32) : Option (Int32 × sf_Sg) :=
  if (f10_isBurden s x1) = 0 then
    some ((-1000000001 : Int32), s)
  else
    if (f10_in x2.toInt64 (0 : Int64) (1 : Int64)) = 0 then
      some ((-1000000002 : Int32), s)
    else
      (f10_copyRow 155 31 163 31 s (31 : Int32)).bind fun s34 =>
      f10_byTwo_L46 s34 x1 x2 (-1 : Int32) (1000000 : Int32) (0 : Int32)
def f10_byTwo (s : sf_Sg) (x1 : Int32) (x2 : Int32) : Option (Int32 × sf_Sg) :=
  f10_byTwo_b0 s x1 x2
def f10_soreBy_b102 (k31 : sf_Sg → Int32 → Int32 → Int32 → Int32 → Int32 → Int32 → Option (Int32 × sf_Sg)) (s : sf_Sg) (x1 : Int32) (x2 : Int32) (x3 : Int32) (x4 : Int32) (x5 : Int32) (x6 : Int32) : Option (Int32 × sf_Sg) :=
  k31 s x1 x2 x3 x4 x5 (x6 + 1)
def f10_soreBy_b84 (k31 : sf_Sg → Int32 → Int32 → Int32 → Int32 → Int32 → Int32 → Option (Int32 × sf_Sg)) (s : sf_Sg) (x1 : Int32) (x2 : Int32) (x3 : Int32) (x4 : Int32) (x6 : Int32) (x7 : Int32) (t0 : Int32) : Option (Int32 × sf_Sg) :=
  if t0 = 0 then
    f10_soreBy_b102 k31 s x1 x2 x3 x4 t0 x6
  else
    (f10_downNow s x7 x1).bind fun s95 =>
    (f10_pass s95).bind fun s99 =>
    f10_soreBy_b102 k31 s99 x1 x2 x3 x4 t0 x6
def f10_soreBy_b83 (k31 : sf_Sg → Int32 → Int32 → Int32 → Int32 → Int32 → Int32 → Option (Int32 × sf_Sg)) (s : sf_Sg) (x1 : Int32) (x2 : Int32) (x3 : Int32) (x4 : Int32) (x6 : Int32) (x7 : Int32) : Option (Int32 × sf_Sg) :=
  f10_soreBy_b84 k31 s x1 x2 x3 x4 x6 x7 (0 : Int32)
def f10_soreBy_b108 (s : sf_Sg) (x1 : Int32) (x5 : Int32) : Option (Int32 × sf_Sg) :=
  if x5 = 0 then
    some ((1000000 : Int32), s)
  else
    (sf_ld s 155 31 ((24 : Int32) + x1)).bind fun v121 =>
    some (v121, s)
def f10_soreBy_b31 (k31 : sf_Sg → Int32 → Int32 → Int32 → Int32 → Int32 → Int32 → Option (Int32 × sf_Sg)) (s : sf_Sg) (x1 : Int32) (x2 : Int32) (x3 : Int32) (x4 : Int32) (x5 : Int32) (x6 : Int32) : Option (Int32 × sf_Sg) :=
  if x3 ≤ x6 then
    f10_soreBy_b108 s x1 x5
  else
    if x5 = 0 then
      f10_soreBy_b108 s x1 x5
    else
      (sf_div x2 x4).bind fun v45 =>
      if (f10_isBurden s ((sf_rem v45 (10 : Int32)) - (1 : Int32))) = 0 then
        f10_soreBy_b83 k31 s x1 x2 x3 (x4 / (10 : Int32)) x6 ((sf_rem v45 (10 : Int32)) - (1 : Int32))
      else
        (f10_bears s ((sf_rem v45 (10 : Int32)) - (1 : Int32)) x1).bind fun v73 =>
        if v73 = 0 then
          f10_soreBy_b83 k31 s x1 x2 x3 (x4 / (10 : Int32)) x6 ((sf_rem v45 (10 : Int32)) - (1 : Int32))
        else
          f10_soreBy_b84 k31 s x1 x2 x3 (x4 / (10 : Int32)) x6 ((sf_rem v45 (10 : Int32)) - (1 : Int32)) (1 : Int32)
def f10_soreBy_L31 : sf_Sg → Int32 → Int32 → Int32 → Int32 → Int32 → Int32 → Option (Int32 × sf_Sg) :=
  sf_it (f10_soreBy_b31) (fun _ _ _ _ _ _ _ => none) sf_FU
def f10_soreBy_b25 (s : sf_Sg) (x1 : Int32) (x2 : Int32) (x3 : Int32) (x4 : Int32) : Option (Int32 × sf_Sg) :=
  f10_soreBy_L31 s x1 x2 x3 x4 (1 : Int32) (0 : Int32)
def f10_soreBy_b6 (k6 : sf_Sg → Int32 → Int32 → Int32 → Int32 → Int32 → Option (Int32 × sf_Sg)) (s : sf_Sg) (x1 : Int32) (x2 : Int32) (x3 : Int32) (x4 : Int32) (x5 : Int32) : Option (Int32 × sf_Sg) :=
  if x3 ≤ x5 then
    f10_soreBy_b25 s x1 x2 x3 x4
  else
    k6 s x1 x2 x3 (x4 * (10 : Int32)) (x5 + 1)
def f10_soreBy_L6 : sf_Sg → Int32 → Int32 → Int32 → Int32 → Int32 → Option (Int32 × sf_Sg) :=
  sf_it (f10_soreBy_b6) (fun _ _ _ _ _ _ => none) sf_FU
def f10_soreBy_b0 (s : sf_Sg) (x1 : Int32) (x2 : Int32) (x3 : Int32) : Option (Int32 × sf_Sg) :=
  f10_soreBy_L6 s x1 x2 x3 (1 : Int32) (1 : Int32)
def f10_soreBy (s : sf_Sg) (x1 : Int32) (x2 : Int32) (x3 : Int32) : Option (Int32 × sf_Sg) :=
  f10_soreBy_b0 s x1 x2 x3
def f10_order_b77 (k39 : sf_Sg → Int32 → Int32 → Int32 → Int32 → Int32 → Int32 → Option (Int32 × sf_Sg)) (s : sf_Sg) (x1 : Int32) (x2 : Int32) (x3 : Int32) (x4 : Int32) (x6 : Int32) (t1 : Int32) (t0 : Int32) : Option (Int32 × sf_Sg) :=
  k39 s x1 x2 x3 x4 (t0 * t1) (x6 + 1)
def f10_order_b157 (k109 : sf_Sg → Int32 → Int32 → Int32 → Int32 → Int32 → Int32 → Int32 → Option (Int32 × sf_Sg)) (s : sf_Sg) (x1 : Int32) (x2 : Int32) (x4 : Int32) (x5 : Int32) (x6 : Int32) (x8 : Int32) (t0 : Int32) : Option (Int32 × sf_Sg) :=
  (f10_copyRow 163 31 155 31 s (31 : Int32)).bind fun s169 =>
  k109 s169 x1 x2 x4 x5 x6 t0 (x8 + 1)
def f10_order_b141 (k109 : sf_Sg → Int32 → Int32 → Int32 → Int32 → Int32 → Int32 → Int32 → Option (Int32 × sf_Sg)) (s : sf_Sg) (x1 : Int32) (x2 : Int32) (x4 : Int32) (x5 : Int32) (x7 : Int32) (x8 : Int32) (x9 : Int32) (t0 : Int32) : Option (Int32 × sf_Sg) :=
  if x7 ≤ x9 then
    f10_order_b157 k109 s x1 x2 x4 x5 t0 x8 x7
  else
    f10_order_b157 k109 s x1 x2 x4 x5 t0 x8 x9
def f10_order_b178 (s : sf_Sg) (x2 : Int32) (x6 : Int32) (x7 : Int32) : Option (Int32 × sf_Sg) :=
  if x2 = 0 then
    some (x7, s)
  else
    some (x6, s)
def f10_order_b109 (k109 : sf_Sg → Int32 → Int32 → Int32 → Int32 → Int32 → Int32 → Int32 → Option (Int32 × sf_Sg)) (s : sf_Sg) (x1 : Int32) (x2 : Int32) (x4 : Int32) (x5 : Int32) (x6 : Int32) (x7 : Int32) (x8 : Int32) : Option (Int32 × sf_Sg) :=
  if x5 ≤ x8 then
    f10_order_b178 s x2 x6 x7
  else
    (f10_soreBy s x1 x8 x4).bind fun q122 =>
    if x7 ≤ q122.1 then
      f10_order_b141 k109 q122.2 x1 x2 x4 x5 x7 x8 q122.1 x6
    else
      f10_order_b141 k109 q122.2 x1 x2 x4 x5 x7 x8 q122.1 x8
def f10_order_L109 : sf_Sg → Int32 → Int32 → Int32 → Int32 → Int32 → Int32 → Int32 → Option (Int32 × sf_Sg) :=
  sf_it (f10_order_b109) (fun _ _ _ _ _ _ _ _ => none) sf_FU
def f10_order_b86 (s : sf_Sg) (x1 : Int32) (x2 : Int32) (x4 : Int32) (x5 : Int32) : Option (Int32 × sf_Sg) :=
  (f10_copyRow 155 31 163 31 s (31 : Int32)).bind fun s96 =>
  f10_order_L109 s96 x1 x2 x4 x5 (0 : Int32) (1000000 : Int32) (0 : Int32)
def f10_order_b39 (k39 : sf_Sg → Int32 → Int32 → Int32 → Int32 → Int32 → Int32 → Option (Int32 × sf_Sg)) (s : sf_Sg) (x1 : Int32) (x2 : Int32) (x3 : Int32) (x4 : Int32) (x5 : Int32) (x6 : Int32) : Option (Int32 × sf_Sg) :=
  if (s 149 2) ≤ x6 then
    f10_order_b86 s x1 x2 x4 x5
  else
    if ((x3 >>> (x6 &&& 31)) &&& (1 : Int32)) = (1 : Int32) then
      f10_order_b77 k39 s x1 x2 x3 (x4 + ((x3 >>> (x6 &&& 31)) &&& (1 : Int32))) x6 (10 : Int32) x5
    else
      f10_order_b77 k39 s x1 x2 x3 (x4 + ((x3 >>> (x6 &&& 31)) &&& (1 : Int32))) x6 (1 : Int32) x5
def f10_order_L39 : sf_Sg → Int32 → Int32 → Int32 → Int32 → Int32 → Int32 → Option (Int32 × sf_Sg) :=
  sf_it (f10_order_b39) (fun _ _ _ _ _ _ _ => none) sf_FU
def f10_order_b0 (s : sf_Sg) (x1 : Int32) (x2 : Int32) : Option (Int32 × sf_Sg) :=
  if (f10_isBack s x1) = 0 then
    some ((-1000000001 : Int32), s)
  else
    if (f10_in x2.toInt64 (0 : Int64) (1 : Int64)) = 0 then
      some ((-1000000002 : Int32), s)
    else
      (f10_carriedBy s x1).bind fun v26 =>
      f10_order_L39 s x1 x2 v26 (0 : Int32) (1 : Int32) (0 : Int32)
def f10_order (s : sf_Sg) (x1 : Int32) (x2 : Int32) : Option (Int32 × sf_Sg) :=
  f10_order_b0 s x1 x2
def f10_could_b74 (k31 : sf_Sg → Int32 → Int32 → Int32 → Option (Int32 × sf_Sg)) (s : sf_Sg) (x1 : Int32) (x3 : Int32) (t1 : Int32) (t0 : Int32) : Option (Int32 × sf_Sg) :=
  (sf_st s 155 31 ((12 : Int32) + x1) (-1 : Int32)).bind fun s85 =>
  k31 s85 x1 (t0 ||| t1) (x3 + 1)
def f10_could_b31 (k31 : sf_Sg → Int32 → Int32 → Int32 → Option (Int32 × sf_Sg)) (s : sf_Sg) (x1 : Int32) (x2 : Int32) (x3 : Int32) : Option (Int32 × sf_Sg) :=
  if (s 149 6) ≤ x3 then
    some (x2, s)
  else
    (f10_gallingOf s x3).bind fun v41 =>
    (sf_st s 155 31 ((12 : Int32) + x1) x3).bind fun s55 =>
    (f10_gallingOf s55 x3).bind fun v59 =>
    if v41 < v59 then
      f10_could_b74 k31 s55 x1 x3 (0 : Int32) x2
    else
      f10_could_b74 k31 s55 x1 x3 ((1 : Int32) <<< (x3 &&& 31)) x2
def f10_could_L31 : sf_Sg → Int32 → Int32 → Int32 → Option (Int32 × sf_Sg) :=
  sf_it (f10_could_b31) (fun _ _ _ _ => none) sf_FU
def f10_could_b0 (s : sf_Sg) (x1 : Int32) : Option (Int32 × sf_Sg) :=
  if (f10_isBurden s x1) = 0 then
    some ((-1000000001 : Int32), s)
  else
    (sf_ld s 155 31 ((12 : Int32) + x1)).bind fun v19 =>
    if v19 = (-1 : Int32) then
      f10_could_L31 s x1 (0 : Int32) (0 : Int32)
    else
      some ((-1000000003 : Int32), s)
def f10_could (s : sf_Sg) (x1 : Int32) : Option (Int32 × sf_Sg) :=
  f10_could_b0 s x1
def f10_shareOf_b0 (s : sf_Sg) (x1 : Int32) (x2 : Int32) (x3 : Int32) : Option Int32 :=
  if (f10_isBurden s x1) = 0 then
    some (-1000000001 : Int32)
  else
    if (f10_isBack s x2) = 0 then
      some (-1000000001 : Int32)
    else
      if (f10_isBack s x3) = 0 then
        some (-1000000001 : Int32)
      else
        if x2 = x3 then
          some (-1000000001 : Int32)
        else
          (sf_ld s 155 31 x1).bind fun v37 =>
          (sf_ld s 155 31 x1).bind fun v43 =>
          (sf_ld s 153 5 x3).bind fun v49 =>
          (sf_ld s 153 5 x2).bind fun v56 =>
          (sf_ld s 153 5 x3).bind fun v62 =>
          (sf_div (v43 * v49) (v56 + v62)).bind fun v64 =>
          some (v37 - v64)
def f10_shareOf (s : sf_Sg) (x1 : Int32) (x2 : Int32) (x3 : Int32) : Option Int32 :=
  f10_shareOf_b0 s x1 x2 x3
def f10_fair_b34 (k34 : Int32 → Int32 → Int64 → Int32 → Option Int32) (x1 : Int32) (x2 : Int32) (x3 : Int64) (x5 : Int32) : Option Int32 :=
  if x1 ≤ x5 then
    some x3.toInt32
  else
    k34 x1 x2 ((x3 * x2.toInt64) / (100 : Int64)) (x5 + 1)
def f10_fair_L34 : Int32 → Int32 → Int64 → Int32 → Option Int32 :=
  sf_it (f10_fair_b34) (fun _ _ _ _ => none) sf_FU
def f10_fair_b0 (x1 : Int32) (x2 : Int32) : Option Int32 :=
  if (f10_in x1.toInt64 (0 : Int64) (60 : Int64)) = 0 then
    some (-1000000002 : Int32)
  else
    if (f10_in x2.toInt64 (0 : Int64) (100 : Int64)) = 0 then
      some (-1000000002 : Int32)
    else
      f10_fair_L34 x1 x2 (1000000000 : Int64) (0 : Int32)
def f10_fair (x1 : Int32) (x2 : Int32) : Option Int32 :=
  f10_fair_b0 x1 x2
def f10_feel_b0 (s : sf_Sg) (x1 : Int32) (x2 : Int32) (x3 : Int32) : Option (Int32 × sf_Sg) :=
  if (f10_in x1.toInt64 (1 : Int64) (99 : Int64)) = 0 then
    some ((-1000000002 : Int32), s)
  else
    if (f10_in x2.toInt64 (0 : Int64) (30 : Int64)) = 0 then
      some ((-1000000002 : Int32), s)
    else
      if (f10_in x3.toInt64 (0 : Int64) (99 : Int64)) = 0 then
        some ((-1000000002 : Int32), s)
      else
        if (s 149 32) = (6 : Int32) then
          some ((-1000000004 : Int32), s)
        else
          (sf_st s 165 6 (s 149 32) x1).bind fun s60 =>
          (sf_st s60 166 6 (s60 149 32) x2).bind fun s70 =>
          (sf_st s70 167 6 (s70 149 32) x3).bind fun s80 =>
          some (((sf_s1 s80 149 32 ((s80 149 32) + (1 : Int32))) 149 32), (sf_s1 s80 149 32 ((s80 149 32) + (1 : Int32))))
def f10_feel (s : sf_Sg) (x1 : Int32) (x2 : Int32) (x3 : Int32) : Option (Int32 × sf_Sg) :=
  f10_feel_b0 s x1 x2 x3
def f10_gallsBy_b0 (x0 : Int32) (x1 : Int32) (x2 : Int32) : Int32 :=
  ((f10_notBelow (((x0 / (21 : Int32)) + (1 : Int32)) - x1)) + (f10_notBelow ((sf_rem x0 (21 : Int32)) - x2)))
def f10_gallsBy (x0 : Int32) (x1 : Int32) (x2 : Int32) : Int32 :=
  f10_gallsBy_b0 x0 x1 x2
def f10_couldBe_b46 (s : sf_Sg) (k4 : Int32 → Int32 → Int32 → Option Int32) (x1 : Int32) (x3 : Int32) (t0 : Int32) : Option Int32 :=
  k4 x1 t0 (x3 + 1)
def f10_couldBe_b4 (s : sf_Sg) (k4 : Int32 → Int32 → Int32 → Option Int32) (x1 : Int32) (x2 : Int32) (x3 : Int32) : Option Int32 :=
  if (s 149 32) ≤ x3 then
    (sf_bo x2).bind fun v54 =>
    some v54
  else
    if x2 = 0 then
      (sf_bo x2).bind fun v54 =>
      some v54
    else
      (sf_ld s 165 6 x3).bind fun v22 =>
      (sf_ld s 166 6 x3).bind fun v28 =>
      (sf_ld s 167 6 x3).bind fun v37 =>
      if (f10_gallsBy x1 v22 v28) = v37 then
        f10_couldBe_b46 s k4 x1 x3 (1 : Int32)
      else
        f10_couldBe_b46 s k4 x1 x3 (0 : Int32)
def f10_couldBe_L4 (s : sf_Sg) : Int32 → Int32 → Int32 → Option Int32 :=
  sf_it (f10_couldBe_b4 s) (fun _ _ _ => none) sf_FU
def f10_couldBe_b0 (s : sf_Sg) (x1 : Int32) : Option Int32 :=
  f10_couldBe_L4 s x1 (1 : Int32) (0 : Int32)
def f10_couldBe (s : sf_Sg) (x1 : Int32) : Option Int32 :=
  f10_couldBe_b0 s x1
def f10_carries_b44 (s : sf_Sg) (k24 : Int32 → Int32 → Int32 → Int32 → Option Int32) (x1 : Int32) (x2 : Int32) (x3 : Int32) (x4 : Int32) : Option Int32 :=
  k24 x1 x2 x3 (x4 + (-1))
def f10_carries_b50 (s : sf_Sg) (x1 : Int32) (x2 : Int32) (x3 : Int32) : Option Int32 :=
  if x1 = 0 then
    some x2
  else
    if 0 ≤ x3 then
      if x1 = (1 : Int32) then
        some ((x3 / (21 : Int32)) + (1 : Int32))
      else
        some (sf_rem x3 (21 : Int32))
    else
      some (-1 : Int32)
def f10_carries_b24 (s : sf_Sg) (k24 : Int32 → Int32 → Int32 → Int32 → Option Int32) (x1 : Int32) (x2 : Int32) (x3 : Int32) (x4 : Int32) : Option Int32 :=
  if x4 < 0 then
    f10_carries_b50 s x1 x2 x3
  else
    (f10_couldBe s x4).bind fun v32 =>
    if v32 = 0 then
      f10_carries_b44 s k24 x1 x2 x3 x4
    else
      f10_carries_b44 s k24 x1 (x2 + 1) x4 x4
def f10_carries_L24 (s : sf_Sg) : Int32 → Int32 → Int32 → Int32 → Option Int32 :=
  sf_it (f10_carries_b24 s) (fun _ _ _ _ => none) sf_FU
def f10_carries_b0 (s : sf_Sg) (x1 : Int32) : Option Int32 :=
  if (f10_in x1.toInt64 (0 : Int64) (2 : Int64)) = 0 then
    some (-1000000002 : Int32)
  else
    f10_carries_L24 s x1 (0 : Int32) (-1 : Int32) (1259 : Int32)
def f10_carries (s : sf_Sg) (x1 : Int32) : Option Int32 :=
  f10_carries_b0 s x1
def f10_greatestPart_b82 (k25 : sf_Sg → Int32 → Int32 → Int32 → Option (Int32 × sf_Sg)) (s : sf_Sg) (x1 : Int32) (x2 : Int32) (x3 : Int32) : Option (Int32 × sf_Sg) :=
  k25 s x1 x2 (x3 + 1)
def f10_greatestPart_b81 (k25 : sf_Sg → Int32 → Int32 → Int32 → Option (Int32 × sf_Sg)) (s : sf_Sg) (x1 : Int32) (x3 : Int32) (t0 : Int32) : Option (Int32 × sf_Sg) :=
  f10_greatestPart_b82 k25 s x1 t0 x3
def f10_greatestPart_b25 (k25 : sf_Sg → Int32 → Int32 → Int32 → Option (Int32 × sf_Sg)) (s : sf_Sg) (x1 : Int32) (x2 : Int32) (x3 : Int32) : Option (Int32 × sf_Sg) :=
  if (1260 : Int32) ≤ x3 then
    some (x2, s)
  else
    (f10_couldBe s x3).bind fun v34 =>
    if v34 = 0 then
      f10_greatestPart_b82 k25 s x1 x2 x3
    else
      (sf_ld s 168 80 (f10_gallsBy x3 x1 (0 : Int32))).bind fun v55 =>
      (sf_st s 168 80 (f10_gallsBy x3 x1 (0 : Int32)) (v55 + (1 : Int32))).bind fun s58 =>
      (sf_ld s58 168 80 (f10_gallsBy x3 x1 (0 : Int32))).bind fun v65 =>
      if v65 ≤ x2 then
        f10_greatestPart_b81 k25 s58 x1 x3 x2
      else
        (sf_ld s58 168 80 (f10_gallsBy x3 x1 (0 : Int32))).bind fun v76 =>
        f10_greatestPart_b81 k25 s58 x1 x3 v76
def f10_greatestPart_L25 : sf_Sg → Int32 → Int32 → Int32 → Option (Int32 × sf_Sg) :=
  sf_it (f10_greatestPart_b25) (fun _ _ _ _ => none) sf_FU
def f10_greatestPart_b23 (s : sf_Sg) (x1 : Int32) (x2 : Int32) : Option (Int32 × sf_Sg) :=
  f10_greatestPart_L25 s x1 x2 (0 : Int32)
def f10_greatestPart_b4 (k4 : sf_Sg → Int32 → Int32 → Int32 → Option (Int32 × sf_Sg)) (s : sf_Sg) (x1 : Int32) (x2 : Int32) (x3 : Int32) : Option (Int32 × sf_Sg) :=
  if (80 : Int32) ≤ x3 then
    f10_greatestPart_b23 s x1 x2
  else
    (sf_st s 168 80 x3 (0 : Int32)).bind fun s16 =>
    k4 s16 x1 x2 (x3 + 1)
def f10_greatestPart_L4 : sf_Sg → Int32 → Int32 → Int32 → Option (Int32 × sf_Sg) :=
  sf_it (f10_greatestPart_b4) (fun _ _ _ _ => none) sf_FU
def f10_greatestPart_b0 (s : sf_Sg) (x1 : Int32) : Option (Int32 × sf_Sg) :=
  f10_greatestPart_L4 s x1 (0 : Int32) (0 : Int32)
def f10_greatestPart (s : sf_Sg) (x1 : Int32) : Option (Int32 × sf_Sg) :=
  f10_greatestPart_b0 s x1
def f10_tryNext_b47 (k10 : sf_Sg → Int32 → Int32 → Int32 → Option (Int32 × sf_Sg)) (s : sf_Sg) (x1 : Int32) (x3 : Int32) (t0 : Int32) : Option (Int32 × sf_Sg) :=
  k10 s x1 t0 (x3 + 1)
def f10_tryNext_b34 (k10 : sf_Sg → Int32 → Int32 → Int32 → Option (Int32 × sf_Sg)) (s : sf_Sg) (x2 : Int32) (x3 : Int32) (x4 : Int32) (t0 : Int32) : Option (Int32 × sf_Sg) :=
  if x2 ≤ x4 then
    f10_tryNext_b47 k10 s t0 x3 x2
  else
    f10_tryNext_b47 k10 s t0 x3 x4
def f10_tryNext_b10 (k10 : sf_Sg → Int32 → Int32 → Int32 → Option (Int32 × sf_Sg)) (s : sf_Sg) (x1 : Int32) (x2 : Int32) (x3 : Int32) : Option (Int32 × sf_Sg) :=
  if (60 : Int32) < x3 then
    some (x1, s)
  else
    (f10_greatestPart s x3).bind fun q18 =>
    if x2 ≤ q18.1 then
      f10_tryNext_b34 k10 q18.2 x2 x3 q18.1 x1
    else
      f10_tryNext_b34 k10 q18.2 x2 x3 q18.1 x3
def f10_tryNext_L10 : sf_Sg → Int32 → Int32 → Int32 → Option (Int32 × sf_Sg) :=
  sf_it (f10_tryNext_b10) (fun _ _ _ _ => none) sf_FU
def f10_tryNext_b0 (s : sf_Sg) : Option (Int32 × sf_Sg) :=
  (f10_carries s (0 : Int32)).bind fun v4 =>
  f10_tryNext_L10 s (-1 : Int32) v4 (1 : Int32)
def f10_tryNext (s : sf_Sg) : Option (Int32 × sf_Sg) :=
  f10_tryNext_b0 s
def f10_write_b0 (s : sf_Sg) (x1 : Int32) (x2 : Int32) : Option (Int32 × sf_Sg) :=
  if (f10_isBack s x1) = 0 then
    some ((-1000000001 : Int32), s)
  else
    if (f10_in x2.toInt64 (0 : Int64) (9999 : Int64)) = 0 then
      some ((-1000000002 : Int32), s)
    else
      if (s 149 37) = (15 : Int32) then
        some ((-1000000004 : Int32), s)
      else
        (sf_st s 169 15 (s 149 37) x1).bind fun s47 =>
        (sf_st s47 170 15 (s47 149 37) x2).bind fun s57 =>
        some (((sf_s1 s57 149 37 ((s57 149 37) + (1 : Int32))) 149 37), (sf_s1 s57 149 37 ((s57 149 37) + (1 : Int32))))
def f10_write (s : sf_Sg) (x1 : Int32) (x2 : Int32) : Option (Int32 × sf_Sg) :=
  f10_write_b0 s x1 x2
def f10_tear_b0 (s : sf_Sg) : (Int32 × sf_Sg) :=
  (((s 149 32) + (s 149 37)), (sf_s1 (sf_s1 s 149 32 (0 : Int32)) 149 37 (0 : Int32)))
def f10_tear (s : sf_Sg) : (Int32 × sf_Sg) :=
  f10_tear_b0 s
def f10_judge_b2 (s : sf_Sg) (k2 : Int32 → Option Int32) (x1 : Int32) : Option Int32 :=
  if (s 149 37) ≤ x1 then
    some (-1 : Int32)
  else
    (sf_ld s 169 15 x1).bind fun v21 =>
    (sf_ld s 155 31 ((24 : Int32) + v21)).bind fun v23 =>
    (sf_ld s 170 15 x1).bind fun v29 =>
    if v23 = v29 then
      k2 (x1 + 1)
    else
      some x1
def f10_judge_L2 (s : sf_Sg) : Int32 → Option Int32 :=
  sf_it (f10_judge_b2 s) (fun _ => none) sf_FU
def f10_judge_b0 (s : sf_Sg) : Option Int32 :=
  f10_judge_L2 s (0 : Int32)
def f10_judge (s : sf_Sg) : Option Int32 :=
  f10_judge_b0 s
def f10_seed_b0 (s : sf_Sg) (x1 : Int32) : (Int32 × sf_Sg) :=
  if 0 ≤ x1 then
    ((s 149 10), (sf_s1 s 149 10 x1))
  else
    ((-1000000002 : Int32), s)
def f10_seed (s : sf_Sg) (x1 : Int32) : (Int32 × sf_Sg) :=
  f10_seed_b0 s x1
def f10_keep_b44 (s : sf_Sg) (x1 : Int32) : Option (Int32 × sf_Sg) :=
  (sf_st s 171 64 (((32 : Int32) * x1) + (31 : Int32)) (s 149 10)).bind fun s59 =>
  (sf_st s59 172 2 x1 (1 : Int32)).bind fun s66 =>
  some ((1 : Int32), (sf_s1 s66 149 26 (0 : Int32)))
def f10_keep_b15 (k15 : sf_Sg → Int32 → Int32 → Option (Int32 × sf_Sg)) (s : sf_Sg) (x1 : Int32) (x2 : Int32) : Option (Int32 × sf_Sg) :=
  if (31 : Int32) ≤ x2 then
    f10_keep_b44 s x1
  else
    (sf_ld s 155 31 x2).bind fun v36 =>
    (sf_st s 171 64 (((32 : Int32) * x1) + x2) v36).bind fun s37 =>
    k15 s37 x1 (x2 + 1)
def f10_keep_L15 : sf_Sg → Int32 → Int32 → Option (Int32 × sf_Sg) :=
  sf_it (f10_keep_b15) (fun _ _ _ => none) sf_FU
def f10_keep_b0 (s : sf_Sg) (x1 : Int32) : Option (Int32 × sf_Sg) :=
  if (f10_in x1.toInt64 (0 : Int64) (1 : Int64)) = 0 then
    some ((-1000000001 : Int32), s)
  else
    f10_keep_L15 s x1 (0 : Int32)
def f10_keep (s : sf_Sg) (x1 : Int32) : Option (Int32 × sf_Sg) :=
  f10_keep_b0 s x1
def f10_goBack_b56 (s : sf_Sg) (x1 : Int32) : Option (Int32 × sf_Sg) :=
  (sf_ld s 171 64 (((32 : Int32) * x1) + (31 : Int32))).bind fun v68 =>
  some ((1 : Int32), (sf_s1 (sf_s1 s 149 10 v68) 149 26 (0 : Int32)))
def f10_goBack_b27 (k27 : sf_Sg → Int32 → Int32 → Option (Int32 × sf_Sg)) (s : sf_Sg) (x1 : Int32) (x2 : Int32) : Option (Int32 × sf_Sg) :=
  if (31 : Int32) ≤ x2 then
    f10_goBack_b56 s x1
  else
    (sf_ld s 171 64 (((32 : Int32) * x1) + x2)).bind fun v48 =>
    (sf_st s 155 31 x2 v48).bind fun s49 =>
    k27 s49 x1 (x2 + 1)
def f10_goBack_L27 : sf_Sg → Int32 → Int32 → Option (Int32 × sf_Sg) :=
  sf_it (f10_goBack_b27) (fun _ _ _ => none) sf_FU
def f10_goBack_b0 (s : sf_Sg) (x1 : Int32) : Option (Int32 × sf_Sg) :=
  if (f10_in x1.toInt64 (0 : Int64) (1 : Int64)) = 0 then
    some ((-1000000001 : Int32), s)
  else
    (sf_ld s 172 2 x1).bind fun v18 =>
    if v18 = 0 then
      some ((-1000000003 : Int32), s)
    else
      f10_goBack_L27 s x1 (0 : Int32)
def f10_goBack (s : sf_Sg) (x1 : Int32) : Option (Int32 × sf_Sg) :=
  f10_goBack_b0 s x1
theorem sf_nb_in (a b c : Int64) : narrow .boolean (.int (f10_in a b c)) = .int (f10_in a b c) := by
  unfold f10_in f10_in_b0
  (repeat' split) <;> rfl
