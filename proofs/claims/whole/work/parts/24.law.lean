def f_law_18 (xs : Nat → Int32) (L : Nat) (r18 : (Mem × Int32) → Option (Bool × Mem)) (M : Mem) (x3 : Int32) : Option (Bool × Mem) :=
  if ((Int32.ofNat L) - (6 : Int32)) < x3 then (
    some (true, M)
  ) else (
    chk (ixb x3 L) <|
    nm (((xs x3.toNatClampNeg) &&& (63 : Int32))) fun xsw =>
    if xsw = (0 : Int32) then (
      chk (ixb (x3 + (1 : Int32)) L) <|
      chk (ixb (x3 + (2 : Int32)) L) <|
      chk (ixb (x3 + (3 : Int32)) L) <|
      (f_X8_row M (xs (x3 + (1 : Int32)).toNatClampNeg) (xs (x3 + (2 : Int32)).toNatClampNeg) (xs (x3 + (3 : Int32)).toNatClampNeg)).bind fun q208 =>
      (f_X9_row q208.2 (xs (x3 + (1 : Int32)).toNatClampNeg) (xs (x3 + (2 : Int32)).toNatClampNeg) (xs (x3 + (3 : Int32)).toNatClampNeg)).bind fun q227 =>
      if q208.1 = q227.1 then (
        nm (x3 + (6 : Int32)) fun x3_1200 =>
        r18 (q227.2, x3_1200)
      ) else (
        some (false, q227.2)
      )
    ) else (
    if xsw = (1 : Int32) then (
      chk (ixb (x3 + (1 : Int32)) L) <|
      chk (ixb (x3 + (2 : Int32)) L) <|
      chk (ixb (x3 + (3 : Int32)) L) <|
      (f_X8_set M (xs (x3 + (1 : Int32)).toNatClampNeg) (xs (x3 + (2 : Int32)).toNatClampNeg) (xs (x3 + (3 : Int32)).toNatClampNeg)).bind fun q251 =>
      (f_X9_set q251.2 (xs (x3 + (1 : Int32)).toNatClampNeg) (xs (x3 + (2 : Int32)).toNatClampNeg) (xs (x3 + (3 : Int32)).toNatClampNeg)).bind fun q270 =>
      if q251.1 = q270.1 then (
        nm (x3 + (6 : Int32)) fun x3_1200 =>
        r18 (q270.2, x3_1200)
      ) else (
        some (false, q270.2)
      )
    ) else (
    if xsw = (2 : Int32) then (
      chk (ixb (x3 + (1 : Int32)) L) <|
      chk (ixb (x3 + (2 : Int32)) L) <|
      chk (ixb (x3 + (3 : Int32)) L) <|
      chk (ixb (x3 + (4 : Int32)) L) <|
      chk (ixb (x3 + (5 : Int32)) L) <|
      (f_X8_copy M (xs (x3 + (1 : Int32)).toNatClampNeg) (xs (x3 + (2 : Int32)).toNatClampNeg) (xs (x3 + (3 : Int32)).toNatClampNeg) (xs (x3 + (4 : Int32)).toNatClampNeg) (xs (x3 + (5 : Int32)).toNatClampNeg)).bind fun q304 =>
      (f_X9_copy q304.2 (xs (x3 + (1 : Int32)).toNatClampNeg) (xs (x3 + (2 : Int32)).toNatClampNeg) (xs (x3 + (3 : Int32)).toNatClampNeg) (xs (x3 + (4 : Int32)).toNatClampNeg) (xs (x3 + (5 : Int32)).toNatClampNeg)).bind fun q333 =>
      if q304.1 = q333.1 then (
        nm (x3 + (6 : Int32)) fun x3_1200 =>
        r18 (q333.2, x3_1200)
      ) else (
        some (false, q333.2)
      )
    ) else (
    if xsw = (3 : Int32) then (
      chk (ixb (x3 + (1 : Int32)) L) <|
      (f_X8_drop M (xs (x3 + (1 : Int32)).toNatClampNeg)).bind fun q347 =>
      (f_X9_drop q347.2 (xs (x3 + (1 : Int32)).toNatClampNeg)).bind fun q356 =>
      if q347.1 = q356.1 then (
        nm (x3 + (6 : Int32)) fun x3_1200 =>
        r18 (q356.2, x3_1200)
      ) else (
        some (false, q356.2)
      )
    ) else (
    if xsw = (4 : Int32) then (
      chk (ixb (x3 + (1 : Int32)) L) <|
      (f_X8_feed M (xs (x3 + (1 : Int32)).toNatClampNeg)).bind fun q370 =>
      (f_X9_feed q370.2 (xs (x3 + (1 : Int32)).toNatClampNeg)).bind fun q379 =>
      if q370.1 = q379.1 then (
        nm (x3 + (6 : Int32)) fun x3_1200 =>
        r18 (q379.2, x3_1200)
      ) else (
        some (false, q379.2)
      )
    ) else (
    if xsw = (5 : Int32) then (
      (f_X8_flight M).bind fun q388 =>
      (f_X9_flight q388.2).bind fun q392 =>
      if q388.1 = q392.1 then (
        nm (x3 + (6 : Int32)) fun x3_1200 =>
        r18 (q392.2, x3_1200)
      ) else (
        some (false, q392.2)
      )
    ) else (
    if xsw = (6 : Int32) then (
      if (f_X8_fault M) = (f_X9_fault M) then (
        nm (x3 + (6 : Int32)) fun x3_1200 =>
        r18 (M, x3_1200)
      ) else (
        some (false, M)
      )
    ) else (
    if xsw = (7 : Int32) then (
      (f_X8_fly M).bind fun q414 =>
      (f_X9_fly q414.2).bind fun q418 =>
      if q414.1 = q418.1 then (
        nm (x3 + (6 : Int32)) fun x3_1200 =>
        r18 (q418.2, x3_1200)
      ) else (
        some (false, q418.2)
      )
    ) else (
    if xsw = (8 : Int32) then (
      chk (ixb (x3 + (1 : Int32)) L) <|
      (f_X8_eat M (xs (x3 + (1 : Int32)).toNatClampNeg)).bind fun q432 =>
      (f_X9_eat q432.2 (xs (x3 + (1 : Int32)).toNatClampNeg)).bind fun q441 =>
      if q432.1 = q441.1 then (
        nm (x3 + (6 : Int32)) fun x3_1200 =>
        r18 (q441.2, x3_1200)
      ) else (
        some (false, q441.2)
      )
    ) else (
    if xsw = (9 : Int32) then (
      chk (ixb (x3 + (1 : Int32)) L) <|
      chk (ixb (x3 + (2 : Int32)) L) <|
      (f_X8_keep M (xs (x3 + (1 : Int32)).toNatClampNeg) (xs (x3 + (2 : Int32)).toNatClampNeg)).bind fun q460 =>
      (f_X9_keep q460.2 (xs (x3 + (1 : Int32)).toNatClampNeg) (xs (x3 + (2 : Int32)).toNatClampNeg)).bind fun q474 =>
      if q460.1 = q474.1 then (
        nm (x3 + (6 : Int32)) fun x3_1200 =>
        r18 (q474.2, x3_1200)
      ) else (
        some (false, q474.2)
      )
    ) else (
    if xsw = (10 : Int32) then (
      chk (ixb (x3 + (1 : Int32)) L) <|
      (f_X8_call M (xs (x3 + (1 : Int32)).toNatClampNeg)).bind fun q488 =>
      (f_X9_call q488.2 (xs (x3 + (1 : Int32)).toNatClampNeg)).bind fun q497 =>
      if q488.1 = q497.1 then (
        nm (x3 + (6 : Int32)) fun x3_1200 =>
        r18 (q497.2, x3_1200)
      ) else (
        some (false, q497.2)
      )
    ) else (
    if xsw = (11 : Int32) then (
      (f_X8_swap M).bind fun q506 =>
      (f_X9_swap q506.2).bind fun q510 =>
      if q506.1 = q510.1 then (
        nm (x3 + (6 : Int32)) fun x3_1200 =>
        r18 (q510.2, x3_1200)
      ) else (
        some (false, q510.2)
      )
    ) else (
    if xsw = (12 : Int32) then (
      (f_X8_undo M).bind fun q519 =>
      (f_X9_undo q519.2).bind fun q523 =>
      if q519.1 = q523.1 then (
        nm (x3 + (6 : Int32)) fun x3_1200 =>
        r18 (q523.2, x3_1200)
      ) else (
        some (false, q523.2)
      )
    ) else (
    if xsw = (13 : Int32) then (
      chk (ixb (x3 + (1 : Int32)) L) <|
      chk (ixb (x3 + (2 : Int32)) L) <|
      (f_X8_bird M (xs (x3 + (1 : Int32)).toNatClampNeg) (xs (x3 + (2 : Int32)).toNatClampNeg)).bind fun q542 =>
      (f_X9_bird M (xs (x3 + (1 : Int32)).toNatClampNeg) (xs (x3 + (2 : Int32)).toNatClampNeg)).bind fun q556 =>
      if q542 = q556 then (
        nm (x3 + (6 : Int32)) fun x3_1200 =>
        r18 (M, x3_1200)
      ) else (
        some (false, M)
      )
    ) else (
    if xsw = (14 : Int32) then (
      chk (ixb (x3 + (1 : Int32)) L) <|
      chk (ixb (x3 + (2 : Int32)) L) <|
      (f_X8_valley M (xs (x3 + (1 : Int32)).toNatClampNeg) (xs (x3 + (2 : Int32)).toNatClampNeg)).bind fun q575 =>
      (f_X9_valley M (xs (x3 + (1 : Int32)).toNatClampNeg) (xs (x3 + (2 : Int32)).toNatClampNeg)).bind fun q589 =>
      if q575 = q589 then (
        nm (x3 + (6 : Int32)) fun x3_1200 =>
        r18 (M, x3_1200)
      ) else (
        some (false, M)
      )
    ) else (
    if xsw = (15 : Int32) then (
      (f_X8_arrive M).bind fun q598 =>
      (f_X9_arrive q598.2).bind fun q602 =>
      if q598.1 = q602.1 then (
        nm (x3 + (6 : Int32)) fun x3_1200 =>
        r18 (q602.2, x3_1200)
      ) else (
        some (false, q602.2)
      )
    ) else (
    if xsw = (16 : Int32) then (
      chk (ixb (x3 + (1 : Int32)) L) <|
      (f_X8_where M (xs (x3 + (1 : Int32)).toNatClampNeg)).bind fun q616 =>
      (f_X9_where q616.2 (xs (x3 + (1 : Int32)).toNatClampNeg)).bind fun q625 =>
      if q616.1 = q625.1 then (
        nm (x3 + (6 : Int32)) fun x3_1200 =>
        r18 (q625.2, x3_1200)
      ) else (
        some (false, q625.2)
      )
    ) else (
    if xsw = (17 : Int32) then (
      chk (ixb (x3 + (1 : Int32)) L) <|
      chk (ixb (x3 + (2 : Int32)) L) <|
      (f_X8_strength M (xs (x3 + (1 : Int32)).toNatClampNeg) (xs (x3 + (2 : Int32)).toNatClampNeg)).bind fun q644 =>
      (f_X9_strength q644.2 (xs (x3 + (1 : Int32)).toNatClampNeg) (xs (x3 + (2 : Int32)).toNatClampNeg)).bind fun q658 =>
      if q644.1 = q658.1 then (
        nm (x3 + (6 : Int32)) fun x3_1200 =>
        r18 (q658.2, x3_1200)
      ) else (
        some (false, q658.2)
      )
    ) else (
    if xsw = (18 : Int32) then (
      chk (ixb (x3 + (1 : Int32)) L) <|
      (f_X8_order M (xs (x3 + (1 : Int32)).toNatClampNeg)).bind fun q672 =>
      (f_X9_order q672.2 (xs (x3 + (1 : Int32)).toNatClampNeg)).bind fun q681 =>
      if q672.1 = q681.1 then (
        nm (x3 + (6 : Int32)) fun x3_1200 =>
        r18 (q681.2, x3_1200)
      ) else (
        some (false, q681.2)
      )
    ) else (
    if xsw = (19 : Int32) then (
      chk (ixb (x3 + (1 : Int32)) L) <|
      (f_X8_toKeep M (xs (x3 + (1 : Int32)).toNatClampNeg)).bind fun q695 =>
      (f_X9_toKeep q695.2 (xs (x3 + (1 : Int32)).toNatClampNeg)).bind fun q704 =>
      if q695.1 = q704.1 then (
        nm (x3 + (6 : Int32)) fun x3_1200 =>
        r18 (q704.2, x3_1200)
      ) else (
        some (false, q704.2)
      )
    ) else (
    if xsw = (20 : Int32) then (
      chk (ixb (x3 + (1 : Int32)) L) <|
      chk (ixb (x3 + (2 : Int32)) L) <|
      (f_X8_whole M (xs (x3 + (1 : Int32)).toNatClampNeg) (xs (x3 + (2 : Int32)).toNatClampNeg)).bind fun q723 =>
      (f_X9_whole q723.2 (xs (x3 + (1 : Int32)).toNatClampNeg) (xs (x3 + (2 : Int32)).toNatClampNeg)).bind fun q737 =>
      if q723.1 = q737.1 then (
        nm (x3 + (6 : Int32)) fun x3_1200 =>
        r18 (q737.2, x3_1200)
      ) else (
        some (false, q737.2)
      )
    ) else (
    if xsw = (21 : Int32) then (
      chk (ixb (x3 + (1 : Int32)) L) <|
      (f_X8_meal M (xs (x3 + (1 : Int32)).toNatClampNeg)).bind fun q751 =>
      (f_X9_meal q751.2 (xs (x3 + (1 : Int32)).toNatClampNeg)).bind fun q760 =>
      if q751.1 = q760.1 then (
        nm (x3 + (6 : Int32)) fun x3_1200 =>
        r18 (q760.2, x3_1200)
      ) else (
        some (false, q760.2)
      )
    ) else (
    if xsw = (22 : Int32) then (
      chk (ixb (x3 + (1 : Int32)) L) <|
      (f_X8_catches M (xs (x3 + (1 : Int32)).toNatClampNeg)).bind fun q774 =>
      (f_X9_catches q774.2 (xs (x3 + (1 : Int32)).toNatClampNeg)).bind fun q783 =>
      if q774.1 = q783.1 then (
        nm (x3 + (6 : Int32)) fun x3_1200 =>
        r18 (q783.2, x3_1200)
      ) else (
        some (false, q783.2)
      )
    ) else (
    if xsw = (23 : Int32) then (
      chk (ixb (x3 + (1 : Int32)) L) <|
      (f_X8_beloved M (xs (x3 + (1 : Int32)).toNatClampNeg)).bind fun q797 =>
      (f_X9_beloved M (xs (x3 + (1 : Int32)).toNatClampNeg)).bind fun q806 =>
      if q797 = q806 then (
        nm (x3 + (6 : Int32)) fun x3_1200 =>
        r18 (M, x3_1200)
      ) else (
        some (false, M)
      )
    ) else (
    if xsw = (24 : Int32) then (
      chk (ixb (x3 + (1 : Int32)) L) <|
      chk (ixb (x3 + (2 : Int32)) L) <|
      chk (ixb (x3 + (3 : Int32)) L) <|
      chk (ixb (x3 + (4 : Int32)) L) <|
      chk (ixb (x3 + (5 : Int32)) L) <|
      (f_X8_fits M (xs (x3 + (1 : Int32)).toNatClampNeg) (xs (x3 + (2 : Int32)).toNatClampNeg) (xs (x3 + (3 : Int32)).toNatClampNeg) (xs (x3 + (4 : Int32)).toNatClampNeg) (xs (x3 + (5 : Int32)).toNatClampNeg)).bind fun q840 =>
      (f_X9_fits q840.2 (xs (x3 + (1 : Int32)).toNatClampNeg) (xs (x3 + (2 : Int32)).toNatClampNeg) (xs (x3 + (3 : Int32)).toNatClampNeg) (xs (x3 + (4 : Int32)).toNatClampNeg) (xs (x3 + (5 : Int32)).toNatClampNeg)).bind fun q869 =>
      if q840.1 = q869.1 then (
        nm (x3 + (6 : Int32)) fun x3_1200 =>
        r18 (q869.2, x3_1200)
      ) else (
        some (false, q869.2)
      )
    ) else (
    if xsw = (25 : Int32) then (
      chk (ixb (x3 + (1 : Int32)) L) <|
      chk (ixb (x3 + (2 : Int32)) L) <|
      chk (ixb (x3 + (3 : Int32)) L) <|
      (f_X8_asked M (xs (x3 + (1 : Int32)).toNatClampNeg) (xs (x3 + (2 : Int32)).toNatClampNeg) (xs (x3 + (3 : Int32)).toNatClampNeg)).bind fun q893 =>
      (f_X9_asked q893.2 (xs (x3 + (1 : Int32)).toNatClampNeg) (xs (x3 + (2 : Int32)).toNatClampNeg) (xs (x3 + (3 : Int32)).toNatClampNeg)).bind fun q912 =>
      if q893.1 = q912.1 then (
        nm (x3 + (6 : Int32)) fun x3_1200 =>
        r18 (q912.2, x3_1200)
      ) else (
        some (false, q912.2)
      )
    ) else (
    if xsw = (26 : Int32) then (
      chk (ixb (x3 + (1 : Int32)) L) <|
      chk (ixb (x3 + (2 : Int32)) L) <|
      chk (ixb (x3 + (3 : Int32)) L) <|
      (f_X8_storm M (xs (x3 + (1 : Int32)).toNatClampNeg) (xs (x3 + (2 : Int32)).toNatClampNeg) (xs (x3 + (3 : Int32)).toNatClampNeg)).bind fun q936 =>
      (f_X9_storm q936.2 (xs (x3 + (1 : Int32)).toNatClampNeg) (xs (x3 + (2 : Int32)).toNatClampNeg) (xs (x3 + (3 : Int32)).toNatClampNeg)).bind fun q955 =>
      if q936.1 = q955.1 then (
        nm (x3 + (6 : Int32)) fun x3_1200 =>
        r18 (q955.2, x3_1200)
      ) else (
        some (false, q955.2)
      )
    ) else (
    if xsw = (27 : Int32) then (
      chk (ixb (x3 + (1 : Int32)) L) <|
      chk (ixb (x3 + (2 : Int32)) L) <|
      chk (ixb (x3 + (3 : Int32)) L) <|
      (f_X8_drawn M (xs (x3 + (1 : Int32)).toNatClampNeg) (xs (x3 + (2 : Int32)).toNatClampNeg) (xs (x3 + (3 : Int32)).toNatClampNeg)).bind fun q979 =>
      (f_X9_drawn q979.2 (xs (x3 + (1 : Int32)).toNatClampNeg) (xs (x3 + (2 : Int32)).toNatClampNeg) (xs (x3 + (3 : Int32)).toNatClampNeg)).bind fun q998 =>
      if q979.1 = q998.1 then (
        nm (x3 + (6 : Int32)) fun x3_1200 =>
        r18 (q998.2, x3_1200)
      ) else (
        some (false, q998.2)
      )
    ) else (
    if xsw = (28 : Int32) then (
      chk (ixb (x3 + (1 : Int32)) L) <|
      (f_X8_image M (xs (x3 + (1 : Int32)).toNatClampNeg)).bind fun q1012 =>
      (f_X9_image q1012.2 (xs (x3 + (1 : Int32)).toNatClampNeg)).bind fun q1021 =>
      if q1012.1 = q1021.1 then (
        nm (x3 + (6 : Int32)) fun x3_1200 =>
        r18 (q1021.2, x3_1200)
      ) else (
        some (false, q1021.2)
      )
    ) else (
    if xsw = (29 : Int32) then (
      chk (ixb (x3 + (1 : Int32)) L) <|
      (f_X8_restore M (xs (x3 + (1 : Int32)).toNatClampNeg)).bind fun q1035 =>
      (f_X9_restore q1035.2 (xs (x3 + (1 : Int32)).toNatClampNeg)).bind fun q1044 =>
      if q1035.1 = q1044.1 then (
        nm (x3 + (6 : Int32)) fun x3_1200 =>
        r18 (q1044.2, x3_1200)
      ) else (
        some (false, q1044.2)
      )
    ) else (
    if xsw = (30 : Int32) then (
      chk (ixb (x3 + (1 : Int32)) L) <|
      (f_X8_kind M (xs (x3 + (1 : Int32)).toNatClampNeg)).bind fun q1058 =>
      (f_X9_kind M (xs (x3 + (1 : Int32)).toNatClampNeg)).bind fun q1067 =>
      if q1058 = q1067 then (
        nm (x3 + (6 : Int32)) fun x3_1200 =>
        r18 (M, x3_1200)
      ) else (
        some (false, M)
      )
    ) else (
    if xsw = (31 : Int32) then (
      chk (ixb (x3 + (1 : Int32)) L) <|
      chk (ixb (x3 + (2 : Int32)) L) <|
      (f_X8_as M (xs (x3 + (1 : Int32)).toNatClampNeg) (xs (x3 + (2 : Int32)).toNatClampNeg)).bind fun q1086 =>
      (f_X9_as q1086.2 (xs (x3 + (1 : Int32)).toNatClampNeg) (xs (x3 + (2 : Int32)).toNatClampNeg)).bind fun q1100 =>
      if q1086.1 = q1100.1 then (
        nm (x3 + (6 : Int32)) fun x3_1200 =>
        r18 (q1100.2, x3_1200)
      ) else (
        some (false, q1100.2)
      )
    ) else (
    if xsw = (32 : Int32) then (
      chk (ixb (x3 + (1 : Int32)) L) <|
      chk (ixb (x3 + (2 : Int32)) L) <|
      (f_X8_ask M (xs (x3 + (1 : Int32)).toNatClampNeg) (xs (x3 + (2 : Int32)).toNatClampNeg)).bind fun q1119 =>
      (f_X9_ask q1119.2 (xs (x3 + (1 : Int32)).toNatClampNeg) (xs (x3 + (2 : Int32)).toNatClampNeg)).bind fun q1133 =>
      if q1119.1 = q1133.1 then (
        nm (x3 + (6 : Int32)) fun x3_1200 =>
        r18 (q1133.2, x3_1200)
      ) else (
        some (false, q1133.2)
      )
    ) else (
    if xsw = (33 : Int32) then (
      chk (ixb (x3 + (1 : Int32)) L) <|
      (f_X8_trace M (xs (x3 + (1 : Int32)).toNatClampNeg)).bind fun q1147 =>
      (f_X9_trace M (xs (x3 + (1 : Int32)).toNatClampNeg)).bind fun q1156 =>
      if q1147 = q1156 then (
        nm (x3 + (6 : Int32)) fun x3_1200 =>
        r18 (M, x3_1200)
      ) else (
        some (false, M)
      )
    ) else (
    if xsw = (34 : Int32) then (
      chk (ixb (x3 + (1 : Int32)) L) <|
      (f_X8_count M (xs (x3 + (1 : Int32)).toNatClampNeg)).bind fun q1170 =>
      (f_X9_count M (xs (x3 + (1 : Int32)).toNatClampNeg)).bind fun q1179 =>
      if q1170 = q1179 then (
        nm (x3 + (6 : Int32)) fun x3_1200 =>
        r18 (M, x3_1200)
      ) else (
        some (false, M)
      )
    ) else (
    if xsw = (35 : Int32) then (
      if (f_X8_status M) = (f_X9_status M) then (
        nm (x3 + (6 : Int32)) fun x3_1200 =>
        r18 (M, x3_1200)
      ) else (
        some (false, M)
      )
    ) else (
      nm (x3 + (6 : Int32)) fun x3_1200 =>
      r18 (M, x3_1200)
    ))))))))))))))))))))))))))))))))))))
  )
/-- the law, behind the two constructors -/
def f_law (xs : Nat → Int32) (L : Nat) (M : Mem) : Option (Bool × Mem) := iter (fun rec a => f_law_18 xs L rec a.1 a.2) fuel (M, (0 : Int32))
set_option maxHeartbeats 8000000 in
set_option maxRecDepth 100000 in
theorem law_walk {p : Program} {l : Launch} {e : Env} {s : State} {m : MethodId} {below : List Frame} {meth : Method} {c : Code} {Q : State → Prop} {D : va_G} {cs : Nat → ClassId} {ad : Nat → Nat} {b L : Nat} {xs : Nat → Int32} (C : GC p s m #[Value.ref b] c D cs ad code 4 RL) (hX : va_X b L xs s s.heap) (hbl : b < s.heap.size) (hbA : ¬ gA ad b) {z : Bool × Mem}
    (hr : ∀ {v : Int32} {M : Mem} {pc : Nat} {H : Heap} {locs : List Loc} {ls : Array Slot}, v = bi z.1 → M = z.2 → GH D cs ad s M H locs → decode code pc = .ok (.ireturn, 1) → W p l e room_1 s m #[Value.ref b] below meth c H locs 155 3389 Q (F0 m pc ls [.int v]))
    (M : Mem) (h : f_law xs L M = some z) : GP p l e room_1 s m #[Value.ref b] below meth c 155 3389 Q D cs ad 4 18 [(0, .ref b), (1, .ref (ad 0)), (2, .ref (ad 140)), (3, .int 0)] [] M := by
  have hx := C.1
  have hb := C.2.1
  have hown := C.2.2.2.1
  have hts := C.2.2.2.2.1
  have J_18 : ∀ (n : Nat) (a : Mem × Int32), iter (fun rec a => f_law_18 xs L rec a.1 a.2) n a = some z → GP p l e room_1 s m #[Value.ref b] below meth c 155 3389 Q D cs ad 4 18 [(0, .ref b), (1, .ref (ad 0)), (2, .ref (ad 140)), (3, .int a.2)] [] a.1 := by
    refine iter_ind (fun r18 hr18 a h => ?_)
    obtain ⟨M, x3⟩ := a
    have h : f_law_18 xs L r18 M x3 = some z := h
    intro H locs hG ls hl
    have hG : GH D cs ad s M H locs := hG
    have hl : lv_has ls 4 [(0, .ref b), (1, .ref (ad 0)), (2, .ref (ad 140)), (3, .int x3)] := hl
    unfold f_law_18 at h
    refine lv_iload_n hx hb dL_law_18 rfl (lv_at hl 3 rfl) ?_
    refine lv_aload_n hx hb dL_law_19 rfl (lv_at hl 0 rfl) ?_
    refine va_slen hx hb hX hbl hbA hG.2 dL_law_20 ?_
    refine lv_bipush (v := 6) hx hb dL_law_21 (by decide) ?_
    refine lv_isub hx hb dL_law_23 ?_
    refine lv_icmp_gt (tgt := 1206) hx hb dL_law_24 (by decide) (fun c_24 => ?_) (fun c_24 => ?_)
    · have h := if_t c_24 h
      refine lv_iconst (v := 1) hx hb dL_law_1206 (by decide) ?_
      exact hr (congrArg bi (pf1 (Option.some.inj h))) (pf2 (Option.some.inj h)) hG dL_law_1207
    · have h := if_f c_24 h
      refine lv_aload_n hx hb dL_law_27 rfl (lv_at hl 0 rfl) ?_
      refine lv_iload_n hx hb dL_law_28 rfl (lv_at hl 3 rfl) ?_
      obtain ⟨hi_29, h⟩ := ix_e h
      refine va_sld hx hb hX hbl hbA hG.2 hi_29 dL_law_29 ?_
      refine lv_bipush (v := 63) hx hb dL_law_30 (by decide) ?_
      refine lv_iand hx hb dL_law_32 ?_
      refine lv_topi (fun xsw esw => ?_)
      have h := nm_at esw h
      by_cases c_33_0 : xsw = (0 : Int32)
      · have h := if_t c_33_0 h
        refine g_tsw (tgt := 192) (off := 159) hx hb dL_law_33 (by rw [c_33_0]; rfl) (by decide) ?_
        refine lv_aload_n hx hb dL_law_192 rfl (lv_at hl 1 rfl) ?_
        refine lv_aload_n hx hb dL_law_193 rfl (lv_at hl 0 rfl) ?_
        refine lv_iload_n hx hb dL_law_194 rfl (lv_at hl 3 rfl) ?_
        refine lv_iconst (v := 1) hx hb dL_law_195 (by decide) ?_
        refine lv_iadd hx hb dL_law_196 ?_
        obtain ⟨hi_197, h⟩ := ix_e h
        refine va_sld hx hb hX hbl hbA hG.2 hi_197 dL_law_197 ?_
        refine lv_aload_n hx hb dL_law_198 rfl (lv_at hl 0 rfl) ?_
        refine lv_iload_n hx hb dL_law_199 rfl (lv_at hl 3 rfl) ?_
        refine lv_iconst (v := 2) hx hb dL_law_200 (by decide) ?_
        refine lv_iadd hx hb dL_law_201 ?_
        obtain ⟨hi_202, h⟩ := ix_e h
        refine va_sld hx hb hX hbl hbA hG.2 hi_202 dL_law_202 ?_
        refine lv_aload_n hx hb dL_law_203 rfl (lv_at hl 0 rfl) ?_
        refine lv_iload_n hx hb dL_law_204 rfl (lv_at hl 3 rfl) ?_
        refine lv_iconst (v := 3) hx hb dL_law_205 (by decide) ?_
        refine lv_iadd hx hb dL_law_206 ?_
        obtain ⟨hi_207, h⟩ := ix_e h
        refine va_sld hx hb hX hbl hbA hG.2 hi_207 dL_law_207 ?_
        obtain ⟨q208, e_208, h⟩ := bd_e h
        refine g_ci hG (g_runV C hG (gR_8 gk_0) (c_X8_row l D cs ad M (xs (x3 + (1 : Int32)).toNatClampNeg) (xs (x3 + (2 : Int32)).toNatClampNeg) (xs (x3 + (3 : Int32)).toNatClampNeg) e_208) wm_L_13 wi_X8_row ws_X8_row wz_X8 wc_X8_row e_X8_row (by decide) hl.1 (Nat.le_of_ble_eq_true rfl) dL_law_208) (fun H locs hG => ?_)
        refine lv_aload_n hx hb dL_law_211 rfl (lv_at hl 2 rfl) ?_
        refine lv_aload_n hx hb dL_law_212 rfl (lv_at hl 0 rfl) ?_
        refine lv_iload_n hx hb dL_law_213 rfl (lv_at hl 3 rfl) ?_
        refine lv_iconst (v := 1) hx hb dL_law_214 (by decide) ?_
        refine lv_iadd hx hb dL_law_215 ?_
        refine va_sld hx hb hX hbl hbA hG.2 hi_197 dL_law_216 ?_
        refine lv_aload_n hx hb dL_law_217 rfl (lv_at hl 0 rfl) ?_
        refine lv_iload_n hx hb dL_law_218 rfl (lv_at hl 3 rfl) ?_
        refine lv_iconst (v := 2) hx hb dL_law_219 (by decide) ?_
        refine lv_iadd hx hb dL_law_220 ?_
        refine va_sld hx hb hX hbl hbA hG.2 hi_202 dL_law_221 ?_
        refine lv_aload_n hx hb dL_law_222 rfl (lv_at hl 0 rfl) ?_
        refine lv_iload_n hx hb dL_law_223 rfl (lv_at hl 3 rfl) ?_
        refine lv_iconst (v := 3) hx hb dL_law_224 (by decide) ?_
        refine lv_iadd hx hb dL_law_225 ?_
        refine va_sld hx hb hX hbl hbA hG.2 hi_207 dL_law_226 ?_
        obtain ⟨q227, e_227, h⟩ := bd_e h
        refine g_ci hG (g_runV C hG (gR_9 gk_140) (c_X9_row l D cs ad q208.2 (xs (x3 + (1 : Int32)).toNatClampNeg) (xs (x3 + (2 : Int32)).toNatClampNeg) (xs (x3 + (3 : Int32)).toNatClampNeg) e_227) wm_L_17 wi_X9_row ws_X9_row wz_X9 wc_X9_row e_X9_row (by decide) hl.1 (Nat.le_of_ble_eq_true rfl) dL_law_227) (fun H locs hG => ?_)
        refine lv_icmp_eq (tgt := 1200) hx hb dL_law_230 (by decide) (fun c_230 => ?_) (fun c_230 => ?_)
        · have h := if_t c_230 h
          obtain ⟨x3_1200, e3_1200⟩ : ∃ y : Int32, y = x3 + (6 : Int32) := ⟨_, rfl⟩
          have h := nm_at e3_1200 h
          refine lv_iinc (v := x3_1200) (lv' := [(3, .int x3_1200), (0, .ref b), (1, .ref (ad 0)), (2, .ref (ad 140))]) hx hb dL_law_1200 hl (k := 3) rfl (by rw [e3_1200]; rfl) (by decide) rfl (fun ls hl => ?_)
          refine lv_goto (tgt := 18) hx hb dL_law_1203 (by decide) ?_
          exact hr18 (q227.2, x3_1200) h H locs hG ls (lv_sub hl [1, 2, 3, 0] rfl)
        · have h := if_f c_230 h
          refine lv_iconst (v := 0) hx hb dL_law_233 (by decide) ?_
          exact hr (congrArg bi (pf1 (Option.some.inj h))) (pf2 (Option.some.inj h)) hG dL_law_234
      have h := if_f c_33_0 h
      by_cases c_33_1 : xsw = (1 : Int32)
      · have h := if_t c_33_1 h
        refine g_tsw (tgt := 235) (off := 202) hx hb dL_law_33 (by rw [c_33_1]; rfl) (by decide) ?_
        refine lv_aload_n hx hb dL_law_235 rfl (lv_at hl 1 rfl) ?_
        refine lv_aload_n hx hb dL_law_236 rfl (lv_at hl 0 rfl) ?_
        refine lv_iload_n hx hb dL_law_237 rfl (lv_at hl 3 rfl) ?_
        refine lv_iconst (v := 1) hx hb dL_law_238 (by decide) ?_
        refine lv_iadd hx hb dL_law_239 ?_
        obtain ⟨hi_240, h⟩ := ix_e h
        refine va_sld hx hb hX hbl hbA hG.2 hi_240 dL_law_240 ?_
        refine lv_aload_n hx hb dL_law_241 rfl (lv_at hl 0 rfl) ?_
        refine lv_iload_n hx hb dL_law_242 rfl (lv_at hl 3 rfl) ?_
        refine lv_iconst (v := 2) hx hb dL_law_243 (by decide) ?_
        refine lv_iadd hx hb dL_law_244 ?_
        obtain ⟨hi_245, h⟩ := ix_e h
        refine va_sld hx hb hX hbl hbA hG.2 hi_245 dL_law_245 ?_
        refine lv_aload_n hx hb dL_law_246 rfl (lv_at hl 0 rfl) ?_
        refine lv_iload_n hx hb dL_law_247 rfl (lv_at hl 3 rfl) ?_
        refine lv_iconst (v := 3) hx hb dL_law_248 (by decide) ?_
        refine lv_iadd hx hb dL_law_249 ?_
        obtain ⟨hi_250, h⟩ := ix_e h
        refine va_sld hx hb hX hbl hbA hG.2 hi_250 dL_law_250 ?_
        obtain ⟨q251, e_251, h⟩ := bd_e h
        refine g_ci hG (g_runV C hG (gR_8 gk_0) (c_X8_set l D cs ad M (xs (x3 + (1 : Int32)).toNatClampNeg) (xs (x3 + (2 : Int32)).toNatClampNeg) (xs (x3 + (3 : Int32)).toNatClampNeg) e_251) wm_L_18 wi_X8_set ws_X8_set wz_X8 wc_X8_set e_X8_set (by decide) hl.1 (Nat.le_of_ble_eq_true rfl) dL_law_251) (fun H locs hG => ?_)
        refine lv_aload_n hx hb dL_law_254 rfl (lv_at hl 2 rfl) ?_
        refine lv_aload_n hx hb dL_law_255 rfl (lv_at hl 0 rfl) ?_
        refine lv_iload_n hx hb dL_law_256 rfl (lv_at hl 3 rfl) ?_
        refine lv_iconst (v := 1) hx hb dL_law_257 (by decide) ?_
        refine lv_iadd hx hb dL_law_258 ?_
        refine va_sld hx hb hX hbl hbA hG.2 hi_240 dL_law_259 ?_
        refine lv_aload_n hx hb dL_law_260 rfl (lv_at hl 0 rfl) ?_
        refine lv_iload_n hx hb dL_law_261 rfl (lv_at hl 3 rfl) ?_
        refine lv_iconst (v := 2) hx hb dL_law_262 (by decide) ?_
        refine lv_iadd hx hb dL_law_263 ?_
        refine va_sld hx hb hX hbl hbA hG.2 hi_245 dL_law_264 ?_
        refine lv_aload_n hx hb dL_law_265 rfl (lv_at hl 0 rfl) ?_
        refine lv_iload_n hx hb dL_law_266 rfl (lv_at hl 3 rfl) ?_
        refine lv_iconst (v := 3) hx hb dL_law_267 (by decide) ?_
        refine lv_iadd hx hb dL_law_268 ?_
        refine va_sld hx hb hX hbl hbA hG.2 hi_250 dL_law_269 ?_
        obtain ⟨q270, e_270, h⟩ := bd_e h
        refine g_ci hG (g_runV C hG (gR_9 gk_140) (c_X9_set l D cs ad q251.2 (xs (x3 + (1 : Int32)).toNatClampNeg) (xs (x3 + (2 : Int32)).toNatClampNeg) (xs (x3 + (3 : Int32)).toNatClampNeg) e_270) wm_L_21 wi_X9_set ws_X9_set wz_X9 wc_X9_set e_X9_set (by decide) hl.1 (Nat.le_of_ble_eq_true rfl) dL_law_270) (fun H locs hG => ?_)
        refine lv_icmp_eq (tgt := 1200) hx hb dL_law_273 (by decide) (fun c_273 => ?_) (fun c_273 => ?_)
        · have h := if_t c_273 h
          obtain ⟨x3_1200, e3_1200⟩ : ∃ y : Int32, y = x3 + (6 : Int32) := ⟨_, rfl⟩
          have h := nm_at e3_1200 h
          refine lv_iinc (v := x3_1200) (lv' := [(3, .int x3_1200), (0, .ref b), (1, .ref (ad 0)), (2, .ref (ad 140))]) hx hb dL_law_1200 hl (k := 3) rfl (by rw [e3_1200]; rfl) (by decide) rfl (fun ls hl => ?_)
          refine lv_goto (tgt := 18) hx hb dL_law_1203 (by decide) ?_
          exact hr18 (q270.2, x3_1200) h H locs hG ls (lv_sub hl [1, 2, 3, 0] rfl)
        · have h := if_f c_273 h
          refine lv_iconst (v := 0) hx hb dL_law_276 (by decide) ?_
          exact hr (congrArg bi (pf1 (Option.some.inj h))) (pf2 (Option.some.inj h)) hG dL_law_277
      have h := if_f c_33_1 h
      by_cases c_33_2 : xsw = (2 : Int32)
      · have h := if_t c_33_2 h
        refine g_tsw (tgt := 278) (off := 245) hx hb dL_law_33 (by rw [c_33_2]; rfl) (by decide) ?_
        refine lv_aload_n hx hb dL_law_278 rfl (lv_at hl 1 rfl) ?_
        refine lv_aload_n hx hb dL_law_279 rfl (lv_at hl 0 rfl) ?_
        refine lv_iload_n hx hb dL_law_280 rfl (lv_at hl 3 rfl) ?_
        refine lv_iconst (v := 1) hx hb dL_law_281 (by decide) ?_
        refine lv_iadd hx hb dL_law_282 ?_
        obtain ⟨hi_283, h⟩ := ix_e h
        refine va_sld hx hb hX hbl hbA hG.2 hi_283 dL_law_283 ?_
        refine lv_aload_n hx hb dL_law_284 rfl (lv_at hl 0 rfl) ?_
        refine lv_iload_n hx hb dL_law_285 rfl (lv_at hl 3 rfl) ?_
        refine lv_iconst (v := 2) hx hb dL_law_286 (by decide) ?_
        refine lv_iadd hx hb dL_law_287 ?_
        obtain ⟨hi_288, h⟩ := ix_e h
        refine va_sld hx hb hX hbl hbA hG.2 hi_288 dL_law_288 ?_
        refine lv_aload_n hx hb dL_law_289 rfl (lv_at hl 0 rfl) ?_
        refine lv_iload_n hx hb dL_law_290 rfl (lv_at hl 3 rfl) ?_
        refine lv_iconst (v := 3) hx hb dL_law_291 (by decide) ?_
        refine lv_iadd hx hb dL_law_292 ?_
        obtain ⟨hi_293, h⟩ := ix_e h
        refine va_sld hx hb hX hbl hbA hG.2 hi_293 dL_law_293 ?_
        refine lv_aload_n hx hb dL_law_294 rfl (lv_at hl 0 rfl) ?_
        refine lv_iload_n hx hb dL_law_295 rfl (lv_at hl 3 rfl) ?_
        refine lv_iconst (v := 4) hx hb dL_law_296 (by decide) ?_
        refine lv_iadd hx hb dL_law_297 ?_
        obtain ⟨hi_298, h⟩ := ix_e h
        refine va_sld hx hb hX hbl hbA hG.2 hi_298 dL_law_298 ?_
        refine lv_aload_n hx hb dL_law_299 rfl (lv_at hl 0 rfl) ?_
        refine lv_iload_n hx hb dL_law_300 rfl (lv_at hl 3 rfl) ?_
        refine lv_iconst (v := 5) hx hb dL_law_301 (by decide) ?_
        refine lv_iadd hx hb dL_law_302 ?_
        obtain ⟨hi_303, h⟩ := ix_e h
        refine va_sld hx hb hX hbl hbA hG.2 hi_303 dL_law_303 ?_
        obtain ⟨q304, e_304, h⟩ := bd_e h
        refine g_ci hG (g_runV C hG (gR_8 gk_0) (c_X8_copy l D cs ad M (xs (x3 + (1 : Int32)).toNatClampNeg) (xs (x3 + (2 : Int32)).toNatClampNeg) (xs (x3 + (3 : Int32)).toNatClampNeg) (xs (x3 + (4 : Int32)).toNatClampNeg) (xs (x3 + (5 : Int32)).toNatClampNeg) e_304) wm_L_22 wi_X8_copy ws_X8_copy wz_X8 wc_X8_copy e_X8_copy (by decide) hl.1 (Nat.le_of_ble_eq_true rfl) dL_law_304) (fun H locs hG => ?_)
        refine lv_aload_n hx hb dL_law_307 rfl (lv_at hl 2 rfl) ?_
        refine lv_aload_n hx hb dL_law_308 rfl (lv_at hl 0 rfl) ?_
        refine lv_iload_n hx hb dL_law_309 rfl (lv_at hl 3 rfl) ?_
        refine lv_iconst (v := 1) hx hb dL_law_310 (by decide) ?_
        refine lv_iadd hx hb dL_law_311 ?_
        refine va_sld hx hb hX hbl hbA hG.2 hi_283 dL_law_312 ?_
        refine lv_aload_n hx hb dL_law_313 rfl (lv_at hl 0 rfl) ?_
        refine lv_iload_n hx hb dL_law_314 rfl (lv_at hl 3 rfl) ?_
        refine lv_iconst (v := 2) hx hb dL_law_315 (by decide) ?_
        refine lv_iadd hx hb dL_law_316 ?_
        refine va_sld hx hb hX hbl hbA hG.2 hi_288 dL_law_317 ?_
        refine lv_aload_n hx hb dL_law_318 rfl (lv_at hl 0 rfl) ?_
        refine lv_iload_n hx hb dL_law_319 rfl (lv_at hl 3 rfl) ?_
        refine lv_iconst (v := 3) hx hb dL_law_320 (by decide) ?_
        refine lv_iadd hx hb dL_law_321 ?_
        refine va_sld hx hb hX hbl hbA hG.2 hi_293 dL_law_322 ?_
        refine lv_aload_n hx hb dL_law_323 rfl (lv_at hl 0 rfl) ?_
        refine lv_iload_n hx hb dL_law_324 rfl (lv_at hl 3 rfl) ?_
        refine lv_iconst (v := 4) hx hb dL_law_325 (by decide) ?_
        refine lv_iadd hx hb dL_law_326 ?_
        refine va_sld hx hb hX hbl hbA hG.2 hi_298 dL_law_327 ?_
        refine lv_aload_n hx hb dL_law_328 rfl (lv_at hl 0 rfl) ?_
        refine lv_iload_n hx hb dL_law_329 rfl (lv_at hl 3 rfl) ?_
        refine lv_iconst (v := 5) hx hb dL_law_330 (by decide) ?_
        refine lv_iadd hx hb dL_law_331 ?_
        refine va_sld hx hb hX hbl hbA hG.2 hi_303 dL_law_332 ?_
        obtain ⟨q333, e_333, h⟩ := bd_e h
        refine g_ci hG (g_runV C hG (gR_9 gk_140) (c_X9_copy l D cs ad q304.2 (xs (x3 + (1 : Int32)).toNatClampNeg) (xs (x3 + (2 : Int32)).toNatClampNeg) (xs (x3 + (3 : Int32)).toNatClampNeg) (xs (x3 + (4 : Int32)).toNatClampNeg) (xs (x3 + (5 : Int32)).toNatClampNeg) e_333) wm_L_26 wi_X9_copy ws_X9_copy wz_X9 wc_X9_copy e_X9_copy (by decide) hl.1 (Nat.le_of_ble_eq_true rfl) dL_law_333) (fun H locs hG => ?_)
        refine lv_icmp_eq (tgt := 1200) hx hb dL_law_336 (by decide) (fun c_336 => ?_) (fun c_336 => ?_)
        · have h := if_t c_336 h
          obtain ⟨x3_1200, e3_1200⟩ : ∃ y : Int32, y = x3 + (6 : Int32) := ⟨_, rfl⟩
          have h := nm_at e3_1200 h
          refine lv_iinc (v := x3_1200) (lv' := [(3, .int x3_1200), (0, .ref b), (1, .ref (ad 0)), (2, .ref (ad 140))]) hx hb dL_law_1200 hl (k := 3) rfl (by rw [e3_1200]; rfl) (by decide) rfl (fun ls hl => ?_)
          refine lv_goto (tgt := 18) hx hb dL_law_1203 (by decide) ?_
          exact hr18 (q333.2, x3_1200) h H locs hG ls (lv_sub hl [1, 2, 3, 0] rfl)
        · have h := if_f c_336 h
          refine lv_iconst (v := 0) hx hb dL_law_339 (by decide) ?_
          exact hr (congrArg bi (pf1 (Option.some.inj h))) (pf2 (Option.some.inj h)) hG dL_law_340
      have h := if_f c_33_2 h
      by_cases c_33_3 : xsw = (3 : Int32)
      · have h := if_t c_33_3 h
        refine g_tsw (tgt := 341) (off := 308) hx hb dL_law_33 (by rw [c_33_3]; rfl) (by decide) ?_
        refine lv_aload_n hx hb dL_law_341 rfl (lv_at hl 1 rfl) ?_
        refine lv_aload_n hx hb dL_law_342 rfl (lv_at hl 0 rfl) ?_
        refine lv_iload_n hx hb dL_law_343 rfl (lv_at hl 3 rfl) ?_
        refine lv_iconst (v := 1) hx hb dL_law_344 (by decide) ?_
        refine lv_iadd hx hb dL_law_345 ?_
        obtain ⟨hi_346, h⟩ := ix_e h
        refine va_sld hx hb hX hbl hbA hG.2 hi_346 dL_law_346 ?_
        obtain ⟨q347, e_347, h⟩ := bd_e h
        refine g_ci hG (g_runV C hG (gR_8 gk_0) (c_X8_drop l D cs ad M (xs (x3 + (1 : Int32)).toNatClampNeg) e_347) wm_L_27 wi_X8_drop ws_X8_drop wz_X8 wc_X8_drop e_X8_drop (by decide) hl.1 (Nat.le_of_ble_eq_true rfl) dL_law_347) (fun H locs hG => ?_)
        refine lv_aload_n hx hb dL_law_350 rfl (lv_at hl 2 rfl) ?_
        refine lv_aload_n hx hb dL_law_351 rfl (lv_at hl 0 rfl) ?_
        refine lv_iload_n hx hb dL_law_352 rfl (lv_at hl 3 rfl) ?_
        refine lv_iconst (v := 1) hx hb dL_law_353 (by decide) ?_
        refine lv_iadd hx hb dL_law_354 ?_
        refine va_sld hx hb hX hbl hbA hG.2 hi_346 dL_law_355 ?_
        obtain ⟨q356, e_356, h⟩ := bd_e h
        refine g_ci hG (g_runV C hG (gR_9 gk_140) (c_X9_drop l D cs ad q347.2 (xs (x3 + (1 : Int32)).toNatClampNeg) e_356) wm_L_31 wi_X9_drop ws_X9_drop wz_X9 wc_X9_drop e_X9_drop (by decide) hl.1 (Nat.le_of_ble_eq_true rfl) dL_law_356) (fun H locs hG => ?_)
        refine lv_icmp_eq (tgt := 1200) hx hb dL_law_359 (by decide) (fun c_359 => ?_) (fun c_359 => ?_)
        · have h := if_t c_359 h
          obtain ⟨x3_1200, e3_1200⟩ : ∃ y : Int32, y = x3 + (6 : Int32) := ⟨_, rfl⟩
          have h := nm_at e3_1200 h
          refine lv_iinc (v := x3_1200) (lv' := [(3, .int x3_1200), (0, .ref b), (1, .ref (ad 0)), (2, .ref (ad 140))]) hx hb dL_law_1200 hl (k := 3) rfl (by rw [e3_1200]; rfl) (by decide) rfl (fun ls hl => ?_)
          refine lv_goto (tgt := 18) hx hb dL_law_1203 (by decide) ?_
          exact hr18 (q356.2, x3_1200) h H locs hG ls (lv_sub hl [1, 2, 3, 0] rfl)
        · have h := if_f c_359 h
          refine lv_iconst (v := 0) hx hb dL_law_362 (by decide) ?_
          exact hr (congrArg bi (pf1 (Option.some.inj h))) (pf2 (Option.some.inj h)) hG dL_law_363
      have h := if_f c_33_3 h
      by_cases c_33_4 : xsw = (4 : Int32)
      · have h := if_t c_33_4 h
        refine g_tsw (tgt := 364) (off := 331) hx hb dL_law_33 (by rw [c_33_4]; rfl) (by decide) ?_
        refine lv_aload_n hx hb dL_law_364 rfl (lv_at hl 1 rfl) ?_
        refine lv_aload_n hx hb dL_law_365 rfl (lv_at hl 0 rfl) ?_
        refine lv_iload_n hx hb dL_law_366 rfl (lv_at hl 3 rfl) ?_
        refine lv_iconst (v := 1) hx hb dL_law_367 (by decide) ?_
        refine lv_iadd hx hb dL_law_368 ?_
        obtain ⟨hi_369, h⟩ := ix_e h
        refine va_sld hx hb hX hbl hbA hG.2 hi_369 dL_law_369 ?_
        obtain ⟨q370, e_370, h⟩ := bd_e h
        refine g_ci hG (g_runV C hG (gR_8 gk_0) (c_X8_feed l D cs ad M (xs (x3 + (1 : Int32)).toNatClampNeg) e_370) wm_L_32 wi_X8_feed ws_X8_feed wz_X8 wc_X8_feed e_X8_feed (by decide) hl.1 (Nat.le_of_ble_eq_true rfl) dL_law_370) (fun H locs hG => ?_)
        refine lv_aload_n hx hb dL_law_373 rfl (lv_at hl 2 rfl) ?_
        refine lv_aload_n hx hb dL_law_374 rfl (lv_at hl 0 rfl) ?_
        refine lv_iload_n hx hb dL_law_375 rfl (lv_at hl 3 rfl) ?_
        refine lv_iconst (v := 1) hx hb dL_law_376 (by decide) ?_
        refine lv_iadd hx hb dL_law_377 ?_
        refine va_sld hx hb hX hbl hbA hG.2 hi_369 dL_law_378 ?_
        obtain ⟨q379, e_379, h⟩ := bd_e h
        refine g_ci hG (g_runV C hG (gR_9 gk_140) (c_X9_feed l D cs ad q370.2 (xs (x3 + (1 : Int32)).toNatClampNeg) e_379) wm_L_35 wi_X9_feed ws_X9_feed wz_X9 wc_X9_feed e_X9_feed (by decide) hl.1 (Nat.le_of_ble_eq_true rfl) dL_law_379) (fun H locs hG => ?_)
        refine lv_icmp_eq (tgt := 1200) hx hb dL_law_382 (by decide) (fun c_382 => ?_) (fun c_382 => ?_)
        · have h := if_t c_382 h
          obtain ⟨x3_1200, e3_1200⟩ : ∃ y : Int32, y = x3 + (6 : Int32) := ⟨_, rfl⟩
          have h := nm_at e3_1200 h
          refine lv_iinc (v := x3_1200) (lv' := [(3, .int x3_1200), (0, .ref b), (1, .ref (ad 0)), (2, .ref (ad 140))]) hx hb dL_law_1200 hl (k := 3) rfl (by rw [e3_1200]; rfl) (by decide) rfl (fun ls hl => ?_)
          refine lv_goto (tgt := 18) hx hb dL_law_1203 (by decide) ?_
          exact hr18 (q379.2, x3_1200) h H locs hG ls (lv_sub hl [1, 2, 3, 0] rfl)
        · have h := if_f c_382 h
          refine lv_iconst (v := 0) hx hb dL_law_385 (by decide) ?_
          exact hr (congrArg bi (pf1 (Option.some.inj h))) (pf2 (Option.some.inj h)) hG dL_law_386
      have h := if_f c_33_4 h
      by_cases c_33_5 : xsw = (5 : Int32)
      · have h := if_t c_33_5 h
        refine g_tsw (tgt := 387) (off := 354) hx hb dL_law_33 (by rw [c_33_5]; rfl) (by decide) ?_
        refine lv_aload_n hx hb dL_law_387 rfl (lv_at hl 1 rfl) ?_
        obtain ⟨q388, e_388, h⟩ := bd_e h
        refine g_ci hG (g_runV C hG (gR_8 gk_0) (c_X8_flight l D cs ad M e_388) wm_L_36 wi_X8_flight ws_X8_flight wz_X8 wc_X8_flight e_X8_flight (by decide) hl.1 (Nat.le_of_ble_eq_true rfl) dL_law_388) (fun H locs hG => ?_)
        refine lv_aload_n hx hb dL_law_391 rfl (lv_at hl 2 rfl) ?_
        obtain ⟨q392, e_392, h⟩ := bd_e h
        refine g_ci hG (g_runV C hG (gR_9 gk_140) (c_X9_flight l D cs ad q388.2 e_392) wm_L_40 wi_X9_flight ws_X9_flight wz_X9 wc_X9_flight e_X9_flight (by decide) hl.1 (Nat.le_of_ble_eq_true rfl) dL_law_392) (fun H locs hG => ?_)
        refine lv_icmp_eq (tgt := 1200) hx hb dL_law_395 (by decide) (fun c_395 => ?_) (fun c_395 => ?_)
        · have h := if_t c_395 h
          obtain ⟨x3_1200, e3_1200⟩ : ∃ y : Int32, y = x3 + (6 : Int32) := ⟨_, rfl⟩
          have h := nm_at e3_1200 h
          refine lv_iinc (v := x3_1200) (lv' := [(3, .int x3_1200), (0, .ref b), (1, .ref (ad 0)), (2, .ref (ad 140))]) hx hb dL_law_1200 hl (k := 3) rfl (by rw [e3_1200]; rfl) (by decide) rfl (fun ls hl => ?_)
          refine lv_goto (tgt := 18) hx hb dL_law_1203 (by decide) ?_
          exact hr18 (q392.2, x3_1200) h H locs hG ls (lv_sub hl [1, 2, 3, 0] rfl)
        · have h := if_f c_395 h
          refine lv_iconst (v := 0) hx hb dL_law_398 (by decide) ?_
          exact hr (congrArg bi (pf1 (Option.some.inj h))) (pf2 (Option.some.inj h)) hG dL_law_399
      have h := if_f c_33_5 h
      by_cases c_33_6 : xsw = (6 : Int32)
      · have h := if_t c_33_6 h
        refine g_tsw (tgt := 400) (off := 367) hx hb dL_law_33 (by rw [c_33_6]; rfl) (by decide) ?_
        refine lv_aload_n hx hb dL_law_400 rfl (lv_at hl 1 rfl) ?_
        refine g_ci hG (g_runV C hG (gR_8 gk_0) (c_X8_fault l D cs ad M rfl) wm_L_41 wi_X8_fault ws_X8_fault wz_X8 wc_X8_fault e_X8_fault (by decide) hl.1 (Nat.le_of_ble_eq_true rfl) dL_law_401) (fun H locs hG => ?_)
        refine lv_aload_n hx hb dL_law_404 rfl (lv_at hl 2 rfl) ?_
        refine g_ci hG (g_runV C hG (gR_9 gk_140) (c_X9_fault l D cs ad M rfl) wm_L_44 wi_X9_fault ws_X9_fault wz_X9 wc_X9_fault e_X9_fault (by decide) hl.1 (Nat.le_of_ble_eq_true rfl) dL_law_405) (fun H locs hG => ?_)
        refine lv_icmp_eq (tgt := 1200) hx hb dL_law_408 (by decide) (fun c_408 => ?_) (fun c_408 => ?_)
        · have h := if_t c_408 h
          obtain ⟨x3_1200, e3_1200⟩ : ∃ y : Int32, y = x3 + (6 : Int32) := ⟨_, rfl⟩
          have h := nm_at e3_1200 h
          refine lv_iinc (v := x3_1200) (lv' := [(3, .int x3_1200), (0, .ref b), (1, .ref (ad 0)), (2, .ref (ad 140))]) hx hb dL_law_1200 hl (k := 3) rfl (by rw [e3_1200]; rfl) (by decide) rfl (fun ls hl => ?_)
          refine lv_goto (tgt := 18) hx hb dL_law_1203 (by decide) ?_
          exact hr18 (M, x3_1200) h H locs hG ls (lv_sub hl [1, 2, 3, 0] rfl)
        · have h := if_f c_408 h
          refine lv_iconst (v := 0) hx hb dL_law_411 (by decide) ?_
          exact hr (congrArg bi (pf1 (Option.some.inj h))) (pf2 (Option.some.inj h)) hG dL_law_412
      have h := if_f c_33_6 h
      by_cases c_33_7 : xsw = (7 : Int32)
      · have h := if_t c_33_7 h
        refine g_tsw (tgt := 413) (off := 380) hx hb dL_law_33 (by rw [c_33_7]; rfl) (by decide) ?_
        refine lv_aload_n hx hb dL_law_413 rfl (lv_at hl 1 rfl) ?_
        obtain ⟨q414, e_414, h⟩ := bd_e h
        refine g_ci hG (g_runV C hG (gR_8 gk_0) (c_X8_fly l D cs ad M e_414) wm_L_45 wi_X8_fly ws_X8_fly wz_X8 wc_X8_fly e_X8_fly (by decide) hl.1 (Nat.le_of_ble_eq_true rfl) dL_law_414) (fun H locs hG => ?_)
        refine lv_aload_n hx hb dL_law_417 rfl (lv_at hl 2 rfl) ?_
        obtain ⟨q418, e_418, h⟩ := bd_e h
        refine g_ci hG (g_runV C hG (gR_9 gk_140) (c_X9_fly l D cs ad q414.2 e_418) wm_L_48 wi_X9_fly ws_X9_fly wz_X9 wc_X9_fly e_X9_fly (by decide) hl.1 (Nat.le_of_ble_eq_true rfl) dL_law_418) (fun H locs hG => ?_)
        refine lv_icmp_eq (tgt := 1200) hx hb dL_law_421 (by decide) (fun c_421 => ?_) (fun c_421 => ?_)
        · have h := if_t c_421 h
          obtain ⟨x3_1200, e3_1200⟩ : ∃ y : Int32, y = x3 + (6 : Int32) := ⟨_, rfl⟩
          have h := nm_at e3_1200 h
          refine lv_iinc (v := x3_1200) (lv' := [(3, .int x3_1200), (0, .ref b), (1, .ref (ad 0)), (2, .ref (ad 140))]) hx hb dL_law_1200 hl (k := 3) rfl (by rw [e3_1200]; rfl) (by decide) rfl (fun ls hl => ?_)
          refine lv_goto (tgt := 18) hx hb dL_law_1203 (by decide) ?_
          exact hr18 (q418.2, x3_1200) h H locs hG ls (lv_sub hl [1, 2, 3, 0] rfl)
        · have h := if_f c_421 h
          refine lv_iconst (v := 0) hx hb dL_law_424 (by decide) ?_
          exact hr (congrArg bi (pf1 (Option.some.inj h))) (pf2 (Option.some.inj h)) hG dL_law_425
      have h := if_f c_33_7 h
      by_cases c_33_8 : xsw = (8 : Int32)
      · have h := if_t c_33_8 h
        refine g_tsw (tgt := 426) (off := 393) hx hb dL_law_33 (by rw [c_33_8]; rfl) (by decide) ?_
        refine lv_aload_n hx hb dL_law_426 rfl (lv_at hl 1 rfl) ?_
        refine lv_aload_n hx hb dL_law_427 rfl (lv_at hl 0 rfl) ?_
        refine lv_iload_n hx hb dL_law_428 rfl (lv_at hl 3 rfl) ?_
        refine lv_iconst (v := 1) hx hb dL_law_429 (by decide) ?_
        refine lv_iadd hx hb dL_law_430 ?_
        obtain ⟨hi_431, h⟩ := ix_e h
        refine va_sld hx hb hX hbl hbA hG.2 hi_431 dL_law_431 ?_
        obtain ⟨q432, e_432, h⟩ := bd_e h
        refine g_ci hG (g_runV C hG (gR_8 gk_0) (c_X8_eat l D cs ad M (xs (x3 + (1 : Int32)).toNatClampNeg) e_432) wm_L_49 wi_X8_eat ws_X8_eat wz_X8 wc_X8_eat e_X8_eat (by decide) hl.1 (Nat.le_of_ble_eq_true rfl) dL_law_432) (fun H locs hG => ?_)
        refine lv_aload_n hx hb dL_law_435 rfl (lv_at hl 2 rfl) ?_
        refine lv_aload_n hx hb dL_law_436 rfl (lv_at hl 0 rfl) ?_
        refine lv_iload_n hx hb dL_law_437 rfl (lv_at hl 3 rfl) ?_
        refine lv_iconst (v := 1) hx hb dL_law_438 (by decide) ?_
        refine lv_iadd hx hb dL_law_439 ?_
        refine va_sld hx hb hX hbl hbA hG.2 hi_431 dL_law_440 ?_
        obtain ⟨q441, e_441, h⟩ := bd_e h
        refine g_ci hG (g_runV C hG (gR_9 gk_140) (c_X9_eat l D cs ad q432.2 (xs (x3 + (1 : Int32)).toNatClampNeg) e_441) wm_L_52 wi_X9_eat ws_X9_eat wz_X9 wc_X9_eat e_X9_eat (by decide) hl.1 (Nat.le_of_ble_eq_true rfl) dL_law_441) (fun H locs hG => ?_)
        refine lv_icmp_eq (tgt := 1200) hx hb dL_law_444 (by decide) (fun c_444 => ?_) (fun c_444 => ?_)
        · have h := if_t c_444 h
          obtain ⟨x3_1200, e3_1200⟩ : ∃ y : Int32, y = x3 + (6 : Int32) := ⟨_, rfl⟩
          have h := nm_at e3_1200 h
          refine lv_iinc (v := x3_1200) (lv' := [(3, .int x3_1200), (0, .ref b), (1, .ref (ad 0)), (2, .ref (ad 140))]) hx hb dL_law_1200 hl (k := 3) rfl (by rw [e3_1200]; rfl) (by decide) rfl (fun ls hl => ?_)
          refine lv_goto (tgt := 18) hx hb dL_law_1203 (by decide) ?_
          exact hr18 (q441.2, x3_1200) h H locs hG ls (lv_sub hl [1, 2, 3, 0] rfl)
        · have h := if_f c_444 h
          refine lv_iconst (v := 0) hx hb dL_law_447 (by decide) ?_
          exact hr (congrArg bi (pf1 (Option.some.inj h))) (pf2 (Option.some.inj h)) hG dL_law_448
      have h := if_f c_33_8 h
      by_cases c_33_9 : xsw = (9 : Int32)
      · have h := if_t c_33_9 h
        refine g_tsw (tgt := 449) (off := 416) hx hb dL_law_33 (by rw [c_33_9]; rfl) (by decide) ?_
        refine lv_aload_n hx hb dL_law_449 rfl (lv_at hl 1 rfl) ?_
        refine lv_aload_n hx hb dL_law_450 rfl (lv_at hl 0 rfl) ?_
        refine lv_iload_n hx hb dL_law_451 rfl (lv_at hl 3 rfl) ?_
        refine lv_iconst (v := 1) hx hb dL_law_452 (by decide) ?_
        refine lv_iadd hx hb dL_law_453 ?_
        obtain ⟨hi_454, h⟩ := ix_e h
        refine va_sld hx hb hX hbl hbA hG.2 hi_454 dL_law_454 ?_
        refine lv_aload_n hx hb dL_law_455 rfl (lv_at hl 0 rfl) ?_
        refine lv_iload_n hx hb dL_law_456 rfl (lv_at hl 3 rfl) ?_
        refine lv_iconst (v := 2) hx hb dL_law_457 (by decide) ?_
        refine lv_iadd hx hb dL_law_458 ?_
        obtain ⟨hi_459, h⟩ := ix_e h
        refine va_sld hx hb hX hbl hbA hG.2 hi_459 dL_law_459 ?_
        obtain ⟨q460, e_460, h⟩ := bd_e h
        refine g_ci hG (g_runV C hG (gR_8 gk_0) (c_X8_keep l D cs ad M (xs (x3 + (1 : Int32)).toNatClampNeg) (xs (x3 + (2 : Int32)).toNatClampNeg) e_460) wm_L_53 wi_X8_keep ws_X8_keep wz_X8 wc_X8_keep e_X8_keep (by decide) hl.1 (Nat.le_of_ble_eq_true rfl) dL_law_460) (fun H locs hG => ?_)
        refine lv_aload_n hx hb dL_law_463 rfl (lv_at hl 2 rfl) ?_
        refine lv_aload_n hx hb dL_law_464 rfl (lv_at hl 0 rfl) ?_
        refine lv_iload_n hx hb dL_law_465 rfl (lv_at hl 3 rfl) ?_
        refine lv_iconst (v := 1) hx hb dL_law_466 (by decide) ?_
        refine lv_iadd hx hb dL_law_467 ?_
        refine va_sld hx hb hX hbl hbA hG.2 hi_454 dL_law_468 ?_
        refine lv_aload_n hx hb dL_law_469 rfl (lv_at hl 0 rfl) ?_
        refine lv_iload_n hx hb dL_law_470 rfl (lv_at hl 3 rfl) ?_
        refine lv_iconst (v := 2) hx hb dL_law_471 (by decide) ?_
        refine lv_iadd hx hb dL_law_472 ?_
        refine va_sld hx hb hX hbl hbA hG.2 hi_459 dL_law_473 ?_
        obtain ⟨q474, e_474, h⟩ := bd_e h
        refine g_ci hG (g_runV C hG (gR_9 gk_140) (c_X9_keep l D cs ad q460.2 (xs (x3 + (1 : Int32)).toNatClampNeg) (xs (x3 + (2 : Int32)).toNatClampNeg) e_474) wm_L_57 wi_X9_keep ws_X9_keep wz_X9 wc_X9_keep e_X9_keep (by decide) hl.1 (Nat.le_of_ble_eq_true rfl) dL_law_474) (fun H locs hG => ?_)
        refine lv_icmp_eq (tgt := 1200) hx hb dL_law_477 (by decide) (fun c_477 => ?_) (fun c_477 => ?_)
        · have h := if_t c_477 h
          obtain ⟨x3_1200, e3_1200⟩ : ∃ y : Int32, y = x3 + (6 : Int32) := ⟨_, rfl⟩
          have h := nm_at e3_1200 h
          refine lv_iinc (v := x3_1200) (lv' := [(3, .int x3_1200), (0, .ref b), (1, .ref (ad 0)), (2, .ref (ad 140))]) hx hb dL_law_1200 hl (k := 3) rfl (by rw [e3_1200]; rfl) (by decide) rfl (fun ls hl => ?_)
          refine lv_goto (tgt := 18) hx hb dL_law_1203 (by decide) ?_
          exact hr18 (q474.2, x3_1200) h H locs hG ls (lv_sub hl [1, 2, 3, 0] rfl)
        · have h := if_f c_477 h
          refine lv_iconst (v := 0) hx hb dL_law_480 (by decide) ?_
          exact hr (congrArg bi (pf1 (Option.some.inj h))) (pf2 (Option.some.inj h)) hG dL_law_481
      have h := if_f c_33_9 h
      by_cases c_33_10 : xsw = (10 : Int32)
      · have h := if_t c_33_10 h
        refine g_tsw (tgt := 482) (off := 449) hx hb dL_law_33 (by rw [c_33_10]; rfl) (by decide) ?_
        refine lv_aload_n hx hb dL_law_482 rfl (lv_at hl 1 rfl) ?_
        refine lv_aload_n hx hb dL_law_483 rfl (lv_at hl 0 rfl) ?_
        refine lv_iload_n hx hb dL_law_484 rfl (lv_at hl 3 rfl) ?_
        refine lv_iconst (v := 1) hx hb dL_law_485 (by decide) ?_
        refine lv_iadd hx hb dL_law_486 ?_
        obtain ⟨hi_487, h⟩ := ix_e h
        refine va_sld hx hb hX hbl hbA hG.2 hi_487 dL_law_487 ?_
        obtain ⟨q488, e_488, h⟩ := bd_e h
        refine g_ci hG (g_runV C hG (gR_8 gk_0) (c_X8_call l D cs ad M (xs (x3 + (1 : Int32)).toNatClampNeg) e_488) wm_L_58 wi_X8_call ws_X8_call wz_X8 wc_X8_call e_X8_call (by decide) hl.1 (Nat.le_of_ble_eq_true rfl) dL_law_488) (fun H locs hG => ?_)
        refine lv_aload_n hx hb dL_law_491 rfl (lv_at hl 2 rfl) ?_
        refine lv_aload_n hx hb dL_law_492 rfl (lv_at hl 0 rfl) ?_
        refine lv_iload_n hx hb dL_law_493 rfl (lv_at hl 3 rfl) ?_
        refine lv_iconst (v := 1) hx hb dL_law_494 (by decide) ?_
        refine lv_iadd hx hb dL_law_495 ?_
        refine va_sld hx hb hX hbl hbA hG.2 hi_487 dL_law_496 ?_
        obtain ⟨q497, e_497, h⟩ := bd_e h
        refine g_ci hG (g_runV C hG (gR_9 gk_140) (c_X9_call l D cs ad q488.2 (xs (x3 + (1 : Int32)).toNatClampNeg) e_497) wm_L_61 wi_X9_call ws_X9_call wz_X9 wc_X9_call e_X9_call (by decide) hl.1 (Nat.le_of_ble_eq_true rfl) dL_law_497) (fun H locs hG => ?_)
        refine lv_icmp_eq (tgt := 1200) hx hb dL_law_500 (by decide) (fun c_500 => ?_) (fun c_500 => ?_)
        · have h := if_t c_500 h
          obtain ⟨x3_1200, e3_1200⟩ : ∃ y : Int32, y = x3 + (6 : Int32) := ⟨_, rfl⟩
          have h := nm_at e3_1200 h
          refine lv_iinc (v := x3_1200) (lv' := [(3, .int x3_1200), (0, .ref b), (1, .ref (ad 0)), (2, .ref (ad 140))]) hx hb dL_law_1200 hl (k := 3) rfl (by rw [e3_1200]; rfl) (by decide) rfl (fun ls hl => ?_)
          refine lv_goto (tgt := 18) hx hb dL_law_1203 (by decide) ?_
          exact hr18 (q497.2, x3_1200) h H locs hG ls (lv_sub hl [1, 2, 3, 0] rfl)
        · have h := if_f c_500 h
          refine lv_iconst (v := 0) hx hb dL_law_503 (by decide) ?_
          exact hr (congrArg bi (pf1 (Option.some.inj h))) (pf2 (Option.some.inj h)) hG dL_law_504
      have h := if_f c_33_10 h
      by_cases c_33_11 : xsw = (11 : Int32)
      · have h := if_t c_33_11 h
        refine g_tsw (tgt := 505) (off := 472) hx hb dL_law_33 (by rw [c_33_11]; rfl) (by decide) ?_
        refine lv_aload_n hx hb dL_law_505 rfl (lv_at hl 1 rfl) ?_
        obtain ⟨q506, e_506, h⟩ := bd_e h
        refine g_ci hG (g_runV C hG (gR_8 gk_0) (c_X8_swap l D cs ad M e_506) wm_L_62 wi_X8_swap ws_X8_swap wz_X8 wc_X8_swap e_X8_swap (by decide) hl.1 (Nat.le_of_ble_eq_true rfl) dL_law_506) (fun H locs hG => ?_)
        refine lv_aload_n hx hb dL_law_509 rfl (lv_at hl 2 rfl) ?_
        obtain ⟨q510, e_510, h⟩ := bd_e h
        refine g_ci hG (g_runV C hG (gR_9 gk_140) (c_X9_swap l D cs ad q506.2 e_510) wm_L_65 wi_X9_swap ws_X9_swap wz_X9 wc_X9_swap e_X9_swap (by decide) hl.1 (Nat.le_of_ble_eq_true rfl) dL_law_510) (fun H locs hG => ?_)
        refine lv_icmp_eq (tgt := 1200) hx hb dL_law_513 (by decide) (fun c_513 => ?_) (fun c_513 => ?_)
        · have h := if_t c_513 h
          obtain ⟨x3_1200, e3_1200⟩ : ∃ y : Int32, y = x3 + (6 : Int32) := ⟨_, rfl⟩
          have h := nm_at e3_1200 h
          refine lv_iinc (v := x3_1200) (lv' := [(3, .int x3_1200), (0, .ref b), (1, .ref (ad 0)), (2, .ref (ad 140))]) hx hb dL_law_1200 hl (k := 3) rfl (by rw [e3_1200]; rfl) (by decide) rfl (fun ls hl => ?_)
          refine lv_goto (tgt := 18) hx hb dL_law_1203 (by decide) ?_
          exact hr18 (q510.2, x3_1200) h H locs hG ls (lv_sub hl [1, 2, 3, 0] rfl)
        · have h := if_f c_513 h
          refine lv_iconst (v := 0) hx hb dL_law_516 (by decide) ?_
          exact hr (congrArg bi (pf1 (Option.some.inj h))) (pf2 (Option.some.inj h)) hG dL_law_517
      have h := if_f c_33_11 h
      by_cases c_33_12 : xsw = (12 : Int32)
      · have h := if_t c_33_12 h
        refine g_tsw (tgt := 518) (off := 485) hx hb dL_law_33 (by rw [c_33_12]; rfl) (by decide) ?_
        refine lv_aload_n hx hb dL_law_518 rfl (lv_at hl 1 rfl) ?_
        obtain ⟨q519, e_519, h⟩ := bd_e h
        refine g_ci hG (g_runV C hG (gR_8 gk_0) (c_X8_undo l D cs ad M e_519) wm_L_66 wi_X8_undo ws_X8_undo wz_X8 wc_X8_undo e_X8_undo (by decide) hl.1 (Nat.le_of_ble_eq_true rfl) dL_law_519) (fun H locs hG => ?_)
        refine lv_aload_n hx hb dL_law_522 rfl (lv_at hl 2 rfl) ?_
        obtain ⟨q523, e_523, h⟩ := bd_e h
        refine g_ci hG (g_runV C hG (gR_9 gk_140) (c_X9_undo l D cs ad q519.2 e_523) wm_L_69 wi_X9_undo ws_X9_undo wz_X9 wc_X9_undo e_X9_undo (by decide) hl.1 (Nat.le_of_ble_eq_true rfl) dL_law_523) (fun H locs hG => ?_)
        refine lv_icmp_eq (tgt := 1200) hx hb dL_law_526 (by decide) (fun c_526 => ?_) (fun c_526 => ?_)
        · have h := if_t c_526 h
          obtain ⟨x3_1200, e3_1200⟩ : ∃ y : Int32, y = x3 + (6 : Int32) := ⟨_, rfl⟩
          have h := nm_at e3_1200 h
          refine lv_iinc (v := x3_1200) (lv' := [(3, .int x3_1200), (0, .ref b), (1, .ref (ad 0)), (2, .ref (ad 140))]) hx hb dL_law_1200 hl (k := 3) rfl (by rw [e3_1200]; rfl) (by decide) rfl (fun ls hl => ?_)
          refine lv_goto (tgt := 18) hx hb dL_law_1203 (by decide) ?_
          exact hr18 (q523.2, x3_1200) h H locs hG ls (lv_sub hl [1, 2, 3, 0] rfl)
        · have h := if_f c_526 h
          refine lv_iconst (v := 0) hx hb dL_law_529 (by decide) ?_
          exact hr (congrArg bi (pf1 (Option.some.inj h))) (pf2 (Option.some.inj h)) hG dL_law_530
      have h := if_f c_33_12 h
      by_cases c_33_13 : xsw = (13 : Int32)
      · have h := if_t c_33_13 h
        refine g_tsw (tgt := 531) (off := 498) hx hb dL_law_33 (by rw [c_33_13]; rfl) (by decide) ?_
        refine lv_aload_n hx hb dL_law_531 rfl (lv_at hl 1 rfl) ?_
        refine lv_aload_n hx hb dL_law_532 rfl (lv_at hl 0 rfl) ?_
        refine lv_iload_n hx hb dL_law_533 rfl (lv_at hl 3 rfl) ?_
        refine lv_iconst (v := 1) hx hb dL_law_534 (by decide) ?_
        refine lv_iadd hx hb dL_law_535 ?_
        obtain ⟨hi_536, h⟩ := ix_e h
        refine va_sld hx hb hX hbl hbA hG.2 hi_536 dL_law_536 ?_
        refine lv_aload_n hx hb dL_law_537 rfl (lv_at hl 0 rfl) ?_
        refine lv_iload_n hx hb dL_law_538 rfl (lv_at hl 3 rfl) ?_
        refine lv_iconst (v := 2) hx hb dL_law_539 (by decide) ?_
        refine lv_iadd hx hb dL_law_540 ?_
        obtain ⟨hi_541, h⟩ := ix_e h
        refine va_sld hx hb hX hbl hbA hG.2 hi_541 dL_law_541 ?_
        obtain ⟨q542, e_542, h⟩ := bd_e h
        refine g_ci hG (g_runV C hG (gR_8 gk_0) (c_X8_bird l D cs ad M (xs (x3 + (1 : Int32)).toNatClampNeg) (xs (x3 + (2 : Int32)).toNatClampNeg) e_542) wm_L_70 wi_X8_bird ws_X8_bird wz_X8 wc_X8_bird e_X8_bird (by decide) hl.1 (Nat.le_of_ble_eq_true rfl) dL_law_542) (fun H locs hG => ?_)
        refine lv_aload_n hx hb dL_law_545 rfl (lv_at hl 2 rfl) ?_
        refine lv_aload_n hx hb dL_law_546 rfl (lv_at hl 0 rfl) ?_
        refine lv_iload_n hx hb dL_law_547 rfl (lv_at hl 3 rfl) ?_
        refine lv_iconst (v := 1) hx hb dL_law_548 (by decide) ?_
        refine lv_iadd hx hb dL_law_549 ?_
        refine va_sld hx hb hX hbl hbA hG.2 hi_536 dL_law_550 ?_
        refine lv_aload_n hx hb dL_law_551 rfl (lv_at hl 0 rfl) ?_
        refine lv_iload_n hx hb dL_law_552 rfl (lv_at hl 3 rfl) ?_
        refine lv_iconst (v := 2) hx hb dL_law_553 (by decide) ?_
        refine lv_iadd hx hb dL_law_554 ?_
        refine va_sld hx hb hX hbl hbA hG.2 hi_541 dL_law_555 ?_
        obtain ⟨q556, e_556, h⟩ := bd_e h
        refine g_ci hG (g_runV C hG (gR_9 gk_140) (c_X9_bird l D cs ad M (xs (x3 + (1 : Int32)).toNatClampNeg) (xs (x3 + (2 : Int32)).toNatClampNeg) e_556) wm_L_73 wi_X9_bird ws_X9_bird wz_X9 wc_X9_bird e_X9_bird (by decide) hl.1 (Nat.le_of_ble_eq_true rfl) dL_law_556) (fun H locs hG => ?_)
        refine lv_icmp_eq (tgt := 1200) hx hb dL_law_559 (by decide) (fun c_559 => ?_) (fun c_559 => ?_)
        · have h := if_t c_559 h
          obtain ⟨x3_1200, e3_1200⟩ : ∃ y : Int32, y = x3 + (6 : Int32) := ⟨_, rfl⟩
          have h := nm_at e3_1200 h
          refine lv_iinc (v := x3_1200) (lv' := [(3, .int x3_1200), (0, .ref b), (1, .ref (ad 0)), (2, .ref (ad 140))]) hx hb dL_law_1200 hl (k := 3) rfl (by rw [e3_1200]; rfl) (by decide) rfl (fun ls hl => ?_)
          refine lv_goto (tgt := 18) hx hb dL_law_1203 (by decide) ?_
          exact hr18 (M, x3_1200) h H locs hG ls (lv_sub hl [1, 2, 3, 0] rfl)
        · have h := if_f c_559 h
          refine lv_iconst (v := 0) hx hb dL_law_562 (by decide) ?_
          exact hr (congrArg bi (pf1 (Option.some.inj h))) (pf2 (Option.some.inj h)) hG dL_law_563
      have h := if_f c_33_13 h
      by_cases c_33_14 : xsw = (14 : Int32)
      · have h := if_t c_33_14 h
        refine g_tsw (tgt := 564) (off := 531) hx hb dL_law_33 (by rw [c_33_14]; rfl) (by decide) ?_
        refine lv_aload_n hx hb dL_law_564 rfl (lv_at hl 1 rfl) ?_
        refine lv_aload_n hx hb dL_law_565 rfl (lv_at hl 0 rfl) ?_
        refine lv_iload_n hx hb dL_law_566 rfl (lv_at hl 3 rfl) ?_
        refine lv_iconst (v := 1) hx hb dL_law_567 (by decide) ?_
        refine lv_iadd hx hb dL_law_568 ?_
        obtain ⟨hi_569, h⟩ := ix_e h
        refine va_sld hx hb hX hbl hbA hG.2 hi_569 dL_law_569 ?_
        refine lv_aload_n hx hb dL_law_570 rfl (lv_at hl 0 rfl) ?_
        refine lv_iload_n hx hb dL_law_571 rfl (lv_at hl 3 rfl) ?_
        refine lv_iconst (v := 2) hx hb dL_law_572 (by decide) ?_
        refine lv_iadd hx hb dL_law_573 ?_
        obtain ⟨hi_574, h⟩ := ix_e h
        refine va_sld hx hb hX hbl hbA hG.2 hi_574 dL_law_574 ?_
        obtain ⟨q575, e_575, h⟩ := bd_e h
        refine g_ci hG (g_runV C hG (gR_8 gk_0) (c_X8_valley l D cs ad M (xs (x3 + (1 : Int32)).toNatClampNeg) (xs (x3 + (2 : Int32)).toNatClampNeg) e_575) wm_L_74 wi_X8_valley ws_X8_valley wz_X8 wc_X8_valley e_X8_valley (by decide) hl.1 (Nat.le_of_ble_eq_true rfl) dL_law_575) (fun H locs hG => ?_)
        refine lv_aload_n hx hb dL_law_578 rfl (lv_at hl 2 rfl) ?_
        refine lv_aload_n hx hb dL_law_579 rfl (lv_at hl 0 rfl) ?_
        refine lv_iload_n hx hb dL_law_580 rfl (lv_at hl 3 rfl) ?_
        refine lv_iconst (v := 1) hx hb dL_law_581 (by decide) ?_
        refine lv_iadd hx hb dL_law_582 ?_
        refine va_sld hx hb hX hbl hbA hG.2 hi_569 dL_law_583 ?_
        refine lv_aload_n hx hb dL_law_584 rfl (lv_at hl 0 rfl) ?_
        refine lv_iload_n hx hb dL_law_585 rfl (lv_at hl 3 rfl) ?_
        refine lv_iconst (v := 2) hx hb dL_law_586 (by decide) ?_
        refine lv_iadd hx hb dL_law_587 ?_
        refine va_sld hx hb hX hbl hbA hG.2 hi_574 dL_law_588 ?_
        obtain ⟨q589, e_589, h⟩ := bd_e h
        refine g_ci hG (g_runV C hG (gR_9 gk_140) (c_X9_valley l D cs ad M (xs (x3 + (1 : Int32)).toNatClampNeg) (xs (x3 + (2 : Int32)).toNatClampNeg) e_589) wm_L_77 wi_X9_valley ws_X9_valley wz_X9 wc_X9_valley e_X9_valley (by decide) hl.1 (Nat.le_of_ble_eq_true rfl) dL_law_589) (fun H locs hG => ?_)
        refine lv_icmp_eq (tgt := 1200) hx hb dL_law_592 (by decide) (fun c_592 => ?_) (fun c_592 => ?_)
        · have h := if_t c_592 h
          obtain ⟨x3_1200, e3_1200⟩ : ∃ y : Int32, y = x3 + (6 : Int32) := ⟨_, rfl⟩
          have h := nm_at e3_1200 h
          refine lv_iinc (v := x3_1200) (lv' := [(3, .int x3_1200), (0, .ref b), (1, .ref (ad 0)), (2, .ref (ad 140))]) hx hb dL_law_1200 hl (k := 3) rfl (by rw [e3_1200]; rfl) (by decide) rfl (fun ls hl => ?_)
          refine lv_goto (tgt := 18) hx hb dL_law_1203 (by decide) ?_
          exact hr18 (M, x3_1200) h H locs hG ls (lv_sub hl [1, 2, 3, 0] rfl)
        · have h := if_f c_592 h
          refine lv_iconst (v := 0) hx hb dL_law_595 (by decide) ?_
          exact hr (congrArg bi (pf1 (Option.some.inj h))) (pf2 (Option.some.inj h)) hG dL_law_596
      have h := if_f c_33_14 h
      by_cases c_33_15 : xsw = (15 : Int32)
      · have h := if_t c_33_15 h
        refine g_tsw (tgt := 597) (off := 564) hx hb dL_law_33 (by rw [c_33_15]; rfl) (by decide) ?_
        refine lv_aload_n hx hb dL_law_597 rfl (lv_at hl 1 rfl) ?_
        obtain ⟨q598, e_598, h⟩ := bd_e h
        refine g_ci hG (g_runV C hG (gR_8 gk_0) (c_X8_arrive l D cs ad M e_598) wm_L_78 wi_X8_arrive ws_X8_arrive wz_X8 wc_X8_arrive e_X8_arrive (by decide) hl.1 (Nat.le_of_ble_eq_true rfl) dL_law_598) (fun H locs hG => ?_)
        refine lv_aload_n hx hb dL_law_601 rfl (lv_at hl 2 rfl) ?_
        obtain ⟨q602, e_602, h⟩ := bd_e h
        refine g_ci hG (g_runV C hG (gR_9 gk_140) (c_X9_arrive l D cs ad q598.2 e_602) wm_L_81 wi_X9_arrive ws_X9_arrive wz_X9 wc_X9_arrive e_X9_arrive (by decide) hl.1 (Nat.le_of_ble_eq_true rfl) dL_law_602) (fun H locs hG => ?_)
        refine lv_icmp_eq (tgt := 1200) hx hb dL_law_605 (by decide) (fun c_605 => ?_) (fun c_605 => ?_)
        · have h := if_t c_605 h
          obtain ⟨x3_1200, e3_1200⟩ : ∃ y : Int32, y = x3 + (6 : Int32) := ⟨_, rfl⟩
          have h := nm_at e3_1200 h
          refine lv_iinc (v := x3_1200) (lv' := [(3, .int x3_1200), (0, .ref b), (1, .ref (ad 0)), (2, .ref (ad 140))]) hx hb dL_law_1200 hl (k := 3) rfl (by rw [e3_1200]; rfl) (by decide) rfl (fun ls hl => ?_)
          refine lv_goto (tgt := 18) hx hb dL_law_1203 (by decide) ?_
          exact hr18 (q602.2, x3_1200) h H locs hG ls (lv_sub hl [1, 2, 3, 0] rfl)
        · have h := if_f c_605 h
          refine lv_iconst (v := 0) hx hb dL_law_608 (by decide) ?_
          exact hr (congrArg bi (pf1 (Option.some.inj h))) (pf2 (Option.some.inj h)) hG dL_law_609
      have h := if_f c_33_15 h
      by_cases c_33_16 : xsw = (16 : Int32)
      · have h := if_t c_33_16 h
        refine g_tsw (tgt := 610) (off := 577) hx hb dL_law_33 (by rw [c_33_16]; rfl) (by decide) ?_
        refine lv_aload_n hx hb dL_law_610 rfl (lv_at hl 1 rfl) ?_
        refine lv_aload_n hx hb dL_law_611 rfl (lv_at hl 0 rfl) ?_
        refine lv_iload_n hx hb dL_law_612 rfl (lv_at hl 3 rfl) ?_
        refine lv_iconst (v := 1) hx hb dL_law_613 (by decide) ?_
        refine lv_iadd hx hb dL_law_614 ?_
        obtain ⟨hi_615, h⟩ := ix_e h
        refine va_sld hx hb hX hbl hbA hG.2 hi_615 dL_law_615 ?_
        obtain ⟨q616, e_616, h⟩ := bd_e h
        refine g_ci hG (g_runV C hG (gR_8 gk_0) (c_X8_where l D cs ad M (xs (x3 + (1 : Int32)).toNatClampNeg) e_616) wm_L_82 wi_X8_where ws_X8_where wz_X8 wc_X8_where e_X8_where (by decide) hl.1 (Nat.le_of_ble_eq_true rfl) dL_law_616) (fun H locs hG => ?_)
        refine lv_aload_n hx hb dL_law_619 rfl (lv_at hl 2 rfl) ?_
        refine lv_aload_n hx hb dL_law_620 rfl (lv_at hl 0 rfl) ?_
        refine lv_iload_n hx hb dL_law_621 rfl (lv_at hl 3 rfl) ?_
        refine lv_iconst (v := 1) hx hb dL_law_622 (by decide) ?_
        refine lv_iadd hx hb dL_law_623 ?_
        refine va_sld hx hb hX hbl hbA hG.2 hi_615 dL_law_624 ?_
        obtain ⟨q625, e_625, h⟩ := bd_e h
        refine g_ci hG (g_runV C hG (gR_9 gk_140) (c_X9_where l D cs ad q616.2 (xs (x3 + (1 : Int32)).toNatClampNeg) e_625) wm_L_85 wi_X9_where ws_X9_where wz_X9 wc_X9_where e_X9_where (by decide) hl.1 (Nat.le_of_ble_eq_true rfl) dL_law_625) (fun H locs hG => ?_)
        refine lv_icmp_eq (tgt := 1200) hx hb dL_law_628 (by decide) (fun c_628 => ?_) (fun c_628 => ?_)
        · have h := if_t c_628 h
          obtain ⟨x3_1200, e3_1200⟩ : ∃ y : Int32, y = x3 + (6 : Int32) := ⟨_, rfl⟩
          have h := nm_at e3_1200 h
          refine lv_iinc (v := x3_1200) (lv' := [(3, .int x3_1200), (0, .ref b), (1, .ref (ad 0)), (2, .ref (ad 140))]) hx hb dL_law_1200 hl (k := 3) rfl (by rw [e3_1200]; rfl) (by decide) rfl (fun ls hl => ?_)
          refine lv_goto (tgt := 18) hx hb dL_law_1203 (by decide) ?_
          exact hr18 (q625.2, x3_1200) h H locs hG ls (lv_sub hl [1, 2, 3, 0] rfl)
        · have h := if_f c_628 h
          refine lv_iconst (v := 0) hx hb dL_law_631 (by decide) ?_
          exact hr (congrArg bi (pf1 (Option.some.inj h))) (pf2 (Option.some.inj h)) hG dL_law_632
      have h := if_f c_33_16 h
      by_cases c_33_17 : xsw = (17 : Int32)
      · have h := if_t c_33_17 h
        refine g_tsw (tgt := 633) (off := 600) hx hb dL_law_33 (by rw [c_33_17]; rfl) (by decide) ?_
        refine lv_aload_n hx hb dL_law_633 rfl (lv_at hl 1 rfl) ?_
        refine lv_aload_n hx hb dL_law_634 rfl (lv_at hl 0 rfl) ?_
        refine lv_iload_n hx hb dL_law_635 rfl (lv_at hl 3 rfl) ?_
        refine lv_iconst (v := 1) hx hb dL_law_636 (by decide) ?_
        refine lv_iadd hx hb dL_law_637 ?_
        obtain ⟨hi_638, h⟩ := ix_e h
        refine va_sld hx hb hX hbl hbA hG.2 hi_638 dL_law_638 ?_
        refine lv_aload_n hx hb dL_law_639 rfl (lv_at hl 0 rfl) ?_
        refine lv_iload_n hx hb dL_law_640 rfl (lv_at hl 3 rfl) ?_
        refine lv_iconst (v := 2) hx hb dL_law_641 (by decide) ?_
        refine lv_iadd hx hb dL_law_642 ?_
        obtain ⟨hi_643, h⟩ := ix_e h
        refine va_sld hx hb hX hbl hbA hG.2 hi_643 dL_law_643 ?_
        obtain ⟨q644, e_644, h⟩ := bd_e h
        refine g_ci hG (g_runV C hG (gR_8 gk_0) (c_X8_strength l D cs ad M (xs (x3 + (1 : Int32)).toNatClampNeg) (xs (x3 + (2 : Int32)).toNatClampNeg) e_644) wm_L_86 wi_X8_strength ws_X8_strength wz_X8 wc_X8_strength e_X8_strength (by decide) hl.1 (Nat.le_of_ble_eq_true rfl) dL_law_644) (fun H locs hG => ?_)
        refine lv_aload_n hx hb dL_law_647 rfl (lv_at hl 2 rfl) ?_
        refine lv_aload_n hx hb dL_law_648 rfl (lv_at hl 0 rfl) ?_
        refine lv_iload_n hx hb dL_law_649 rfl (lv_at hl 3 rfl) ?_
        refine lv_iconst (v := 1) hx hb dL_law_650 (by decide) ?_
        refine lv_iadd hx hb dL_law_651 ?_
        refine va_sld hx hb hX hbl hbA hG.2 hi_638 dL_law_652 ?_
        refine lv_aload_n hx hb dL_law_653 rfl (lv_at hl 0 rfl) ?_
        refine lv_iload_n hx hb dL_law_654 rfl (lv_at hl 3 rfl) ?_
        refine lv_iconst (v := 2) hx hb dL_law_655 (by decide) ?_
        refine lv_iadd hx hb dL_law_656 ?_
        refine va_sld hx hb hX hbl hbA hG.2 hi_643 dL_law_657 ?_
        obtain ⟨q658, e_658, h⟩ := bd_e h
        refine g_ci hG (g_runV C hG (gR_9 gk_140) (c_X9_strength l D cs ad q644.2 (xs (x3 + (1 : Int32)).toNatClampNeg) (xs (x3 + (2 : Int32)).toNatClampNeg) e_658) wm_L_89 wi_X9_strength ws_X9_strength wz_X9 wc_X9_strength e_X9_strength (by decide) hl.1 (Nat.le_of_ble_eq_true rfl) dL_law_658) (fun H locs hG => ?_)
        refine lv_icmp_eq (tgt := 1200) hx hb dL_law_661 (by decide) (fun c_661 => ?_) (fun c_661 => ?_)
        · have h := if_t c_661 h
          obtain ⟨x3_1200, e3_1200⟩ : ∃ y : Int32, y = x3 + (6 : Int32) := ⟨_, rfl⟩
          have h := nm_at e3_1200 h
          refine lv_iinc (v := x3_1200) (lv' := [(3, .int x3_1200), (0, .ref b), (1, .ref (ad 0)), (2, .ref (ad 140))]) hx hb dL_law_1200 hl (k := 3) rfl (by rw [e3_1200]; rfl) (by decide) rfl (fun ls hl => ?_)
          refine lv_goto (tgt := 18) hx hb dL_law_1203 (by decide) ?_
          exact hr18 (q658.2, x3_1200) h H locs hG ls (lv_sub hl [1, 2, 3, 0] rfl)
        · have h := if_f c_661 h
          refine lv_iconst (v := 0) hx hb dL_law_664 (by decide) ?_
          exact hr (congrArg bi (pf1 (Option.some.inj h))) (pf2 (Option.some.inj h)) hG dL_law_665
      have h := if_f c_33_17 h
      by_cases c_33_18 : xsw = (18 : Int32)
      · have h := if_t c_33_18 h
        refine g_tsw (tgt := 666) (off := 633) hx hb dL_law_33 (by rw [c_33_18]; rfl) (by decide) ?_
        refine lv_aload_n hx hb dL_law_666 rfl (lv_at hl 1 rfl) ?_
        refine lv_aload_n hx hb dL_law_667 rfl (lv_at hl 0 rfl) ?_
        refine lv_iload_n hx hb dL_law_668 rfl (lv_at hl 3 rfl) ?_
        refine lv_iconst (v := 1) hx hb dL_law_669 (by decide) ?_
        refine lv_iadd hx hb dL_law_670 ?_
        obtain ⟨hi_671, h⟩ := ix_e h
        refine va_sld hx hb hX hbl hbA hG.2 hi_671 dL_law_671 ?_
        obtain ⟨q672, e_672, h⟩ := bd_e h
        refine g_ci hG (g_runV C hG (gR_8 gk_0) (c_X8_order l D cs ad M (xs (x3 + (1 : Int32)).toNatClampNeg) e_672) wm_L_90 wi_X8_order ws_X8_order wz_X8 wc_X8_order e_X8_order (by decide) hl.1 (Nat.le_of_ble_eq_true rfl) dL_law_672) (fun H locs hG => ?_)
        refine lv_aload_n hx hb dL_law_675 rfl (lv_at hl 2 rfl) ?_
        refine lv_aload_n hx hb dL_law_676 rfl (lv_at hl 0 rfl) ?_
        refine lv_iload_n hx hb dL_law_677 rfl (lv_at hl 3 rfl) ?_
        refine lv_iconst (v := 1) hx hb dL_law_678 (by decide) ?_
        refine lv_iadd hx hb dL_law_679 ?_
        refine va_sld hx hb hX hbl hbA hG.2 hi_671 dL_law_680 ?_
        obtain ⟨q681, e_681, h⟩ := bd_e h
        refine g_ci hG (g_runV C hG (gR_9 gk_140) (c_X9_order l D cs ad q672.2 (xs (x3 + (1 : Int32)).toNatClampNeg) e_681) wm_L_93 wi_X9_order ws_X9_order wz_X9 wc_X9_order e_X9_order (by decide) hl.1 (Nat.le_of_ble_eq_true rfl) dL_law_681) (fun H locs hG => ?_)
        refine lv_icmp_eq (tgt := 1200) hx hb dL_law_684 (by decide) (fun c_684 => ?_) (fun c_684 => ?_)
        · have h := if_t c_684 h
          obtain ⟨x3_1200, e3_1200⟩ : ∃ y : Int32, y = x3 + (6 : Int32) := ⟨_, rfl⟩
          have h := nm_at e3_1200 h
          refine lv_iinc (v := x3_1200) (lv' := [(3, .int x3_1200), (0, .ref b), (1, .ref (ad 0)), (2, .ref (ad 140))]) hx hb dL_law_1200 hl (k := 3) rfl (by rw [e3_1200]; rfl) (by decide) rfl (fun ls hl => ?_)
          refine lv_goto (tgt := 18) hx hb dL_law_1203 (by decide) ?_
          exact hr18 (q681.2, x3_1200) h H locs hG ls (lv_sub hl [1, 2, 3, 0] rfl)
        · have h := if_f c_684 h
          refine lv_iconst (v := 0) hx hb dL_law_687 (by decide) ?_
          exact hr (congrArg bi (pf1 (Option.some.inj h))) (pf2 (Option.some.inj h)) hG dL_law_688
      have h := if_f c_33_18 h
      by_cases c_33_19 : xsw = (19 : Int32)
      · have h := if_t c_33_19 h
        refine g_tsw (tgt := 689) (off := 656) hx hb dL_law_33 (by rw [c_33_19]; rfl) (by decide) ?_
        refine lv_aload_n hx hb dL_law_689 rfl (lv_at hl 1 rfl) ?_
        refine lv_aload_n hx hb dL_law_690 rfl (lv_at hl 0 rfl) ?_
        refine lv_iload_n hx hb dL_law_691 rfl (lv_at hl 3 rfl) ?_
        refine lv_iconst (v := 1) hx hb dL_law_692 (by decide) ?_
        refine lv_iadd hx hb dL_law_693 ?_
        obtain ⟨hi_694, h⟩ := ix_e h
        refine va_sld hx hb hX hbl hbA hG.2 hi_694 dL_law_694 ?_
        obtain ⟨q695, e_695, h⟩ := bd_e h
        refine g_ci hG (g_runV C hG (gR_8 gk_0) (c_X8_toKeep l D cs ad M (xs (x3 + (1 : Int32)).toNatClampNeg) e_695) wm_L_94 wi_X8_toKeep ws_X8_toKeep wz_X8 wc_X8_toKeep e_X8_toKeep (by decide) hl.1 (Nat.le_of_ble_eq_true rfl) dL_law_695) (fun H locs hG => ?_)
        refine lv_aload_n hx hb dL_law_698 rfl (lv_at hl 2 rfl) ?_
        refine lv_aload_n hx hb dL_law_699 rfl (lv_at hl 0 rfl) ?_
        refine lv_iload_n hx hb dL_law_700 rfl (lv_at hl 3 rfl) ?_
        refine lv_iconst (v := 1) hx hb dL_law_701 (by decide) ?_
        refine lv_iadd hx hb dL_law_702 ?_
        refine va_sld hx hb hX hbl hbA hG.2 hi_694 dL_law_703 ?_
        obtain ⟨q704, e_704, h⟩ := bd_e h
        refine g_ci hG (g_runV C hG (gR_9 gk_140) (c_X9_toKeep l D cs ad q695.2 (xs (x3 + (1 : Int32)).toNatClampNeg) e_704) wm_L_97 wi_X9_toKeep ws_X9_toKeep wz_X9 wc_X9_toKeep e_X9_toKeep (by decide) hl.1 (Nat.le_of_ble_eq_true rfl) dL_law_704) (fun H locs hG => ?_)
        refine lv_icmp_eq (tgt := 1200) hx hb dL_law_707 (by decide) (fun c_707 => ?_) (fun c_707 => ?_)
        · have h := if_t c_707 h
          obtain ⟨x3_1200, e3_1200⟩ : ∃ y : Int32, y = x3 + (6 : Int32) := ⟨_, rfl⟩
          have h := nm_at e3_1200 h
          refine lv_iinc (v := x3_1200) (lv' := [(3, .int x3_1200), (0, .ref b), (1, .ref (ad 0)), (2, .ref (ad 140))]) hx hb dL_law_1200 hl (k := 3) rfl (by rw [e3_1200]; rfl) (by decide) rfl (fun ls hl => ?_)
          refine lv_goto (tgt := 18) hx hb dL_law_1203 (by decide) ?_
          exact hr18 (q704.2, x3_1200) h H locs hG ls (lv_sub hl [1, 2, 3, 0] rfl)
        · have h := if_f c_707 h
          refine lv_iconst (v := 0) hx hb dL_law_710 (by decide) ?_
          exact hr (congrArg bi (pf1 (Option.some.inj h))) (pf2 (Option.some.inj h)) hG dL_law_711
      have h := if_f c_33_19 h
      by_cases c_33_20 : xsw = (20 : Int32)
      · have h := if_t c_33_20 h
        refine g_tsw (tgt := 712) (off := 679) hx hb dL_law_33 (by rw [c_33_20]; rfl) (by decide) ?_
        refine lv_aload_n hx hb dL_law_712 rfl (lv_at hl 1 rfl) ?_
        refine lv_aload_n hx hb dL_law_713 rfl (lv_at hl 0 rfl) ?_
        refine lv_iload_n hx hb dL_law_714 rfl (lv_at hl 3 rfl) ?_
        refine lv_iconst (v := 1) hx hb dL_law_715 (by decide) ?_
        refine lv_iadd hx hb dL_law_716 ?_
        obtain ⟨hi_717, h⟩ := ix_e h
        refine va_sld hx hb hX hbl hbA hG.2 hi_717 dL_law_717 ?_
        refine lv_aload_n hx hb dL_law_718 rfl (lv_at hl 0 rfl) ?_
        refine lv_iload_n hx hb dL_law_719 rfl (lv_at hl 3 rfl) ?_
        refine lv_iconst (v := 2) hx hb dL_law_720 (by decide) ?_
        refine lv_iadd hx hb dL_law_721 ?_
        obtain ⟨hi_722, h⟩ := ix_e h
        refine va_sld hx hb hX hbl hbA hG.2 hi_722 dL_law_722 ?_
        obtain ⟨q723, e_723, h⟩ := bd_e h
        refine g_ci hG (g_runV C hG (gR_8 gk_0) (c_X8_whole l D cs ad M (xs (x3 + (1 : Int32)).toNatClampNeg) (xs (x3 + (2 : Int32)).toNatClampNeg) e_723) wm_L_98 wi_X8_whole ws_X8_whole wz_X8 wc_X8_whole e_X8_whole (by decide) hl.1 (Nat.le_of_ble_eq_true rfl) dL_law_723) (fun H locs hG => ?_)
        refine lv_aload_n hx hb dL_law_726 rfl (lv_at hl 2 rfl) ?_
        refine lv_aload_n hx hb dL_law_727 rfl (lv_at hl 0 rfl) ?_
        refine lv_iload_n hx hb dL_law_728 rfl (lv_at hl 3 rfl) ?_
        refine lv_iconst (v := 1) hx hb dL_law_729 (by decide) ?_
        refine lv_iadd hx hb dL_law_730 ?_
        refine va_sld hx hb hX hbl hbA hG.2 hi_717 dL_law_731 ?_
        refine lv_aload_n hx hb dL_law_732 rfl (lv_at hl 0 rfl) ?_
        refine lv_iload_n hx hb dL_law_733 rfl (lv_at hl 3 rfl) ?_
        refine lv_iconst (v := 2) hx hb dL_law_734 (by decide) ?_
        refine lv_iadd hx hb dL_law_735 ?_
        refine va_sld hx hb hX hbl hbA hG.2 hi_722 dL_law_736 ?_
        obtain ⟨q737, e_737, h⟩ := bd_e h
        refine g_ci hG (g_runV C hG (gR_9 gk_140) (c_X9_whole l D cs ad q723.2 (xs (x3 + (1 : Int32)).toNatClampNeg) (xs (x3 + (2 : Int32)).toNatClampNeg) e_737) wm_L_101 wi_X9_whole ws_X9_whole wz_X9 wc_X9_whole e_X9_whole (by decide) hl.1 (Nat.le_of_ble_eq_true rfl) dL_law_737) (fun H locs hG => ?_)
        refine lv_icmp_eq (tgt := 1200) hx hb dL_law_740 (by decide) (fun c_740 => ?_) (fun c_740 => ?_)
        · have h := if_t c_740 h
          obtain ⟨x3_1200, e3_1200⟩ : ∃ y : Int32, y = x3 + (6 : Int32) := ⟨_, rfl⟩
          have h := nm_at e3_1200 h
          refine lv_iinc (v := x3_1200) (lv' := [(3, .int x3_1200), (0, .ref b), (1, .ref (ad 0)), (2, .ref (ad 140))]) hx hb dL_law_1200 hl (k := 3) rfl (by rw [e3_1200]; rfl) (by decide) rfl (fun ls hl => ?_)
          refine lv_goto (tgt := 18) hx hb dL_law_1203 (by decide) ?_
          exact hr18 (q737.2, x3_1200) h H locs hG ls (lv_sub hl [1, 2, 3, 0] rfl)
        · have h := if_f c_740 h
          refine lv_iconst (v := 0) hx hb dL_law_743 (by decide) ?_
          exact hr (congrArg bi (pf1 (Option.some.inj h))) (pf2 (Option.some.inj h)) hG dL_law_744
      have h := if_f c_33_20 h
      by_cases c_33_21 : xsw = (21 : Int32)
      · have h := if_t c_33_21 h
        refine g_tsw (tgt := 745) (off := 712) hx hb dL_law_33 (by rw [c_33_21]; rfl) (by decide) ?_
        refine lv_aload_n hx hb dL_law_745 rfl (lv_at hl 1 rfl) ?_
        refine lv_aload_n hx hb dL_law_746 rfl (lv_at hl 0 rfl) ?_
        refine lv_iload_n hx hb dL_law_747 rfl (lv_at hl 3 rfl) ?_
        refine lv_iconst (v := 1) hx hb dL_law_748 (by decide) ?_
        refine lv_iadd hx hb dL_law_749 ?_
        obtain ⟨hi_750, h⟩ := ix_e h
        refine va_sld hx hb hX hbl hbA hG.2 hi_750 dL_law_750 ?_
        obtain ⟨q751, e_751, h⟩ := bd_e h
        refine g_ci hG (g_runV C hG (gR_8 gk_0) (c_X8_meal l D cs ad M (xs (x3 + (1 : Int32)).toNatClampNeg) e_751) wm_L_102 wi_X8_meal ws_X8_meal wz_X8 wc_X8_meal e_X8_meal (by decide) hl.1 (Nat.le_of_ble_eq_true rfl) dL_law_751) (fun H locs hG => ?_)
        refine lv_aload_n hx hb dL_law_754 rfl (lv_at hl 2 rfl) ?_
        refine lv_aload_n hx hb dL_law_755 rfl (lv_at hl 0 rfl) ?_
        refine lv_iload_n hx hb dL_law_756 rfl (lv_at hl 3 rfl) ?_
        refine lv_iconst (v := 1) hx hb dL_law_757 (by decide) ?_
        refine lv_iadd hx hb dL_law_758 ?_
        refine va_sld hx hb hX hbl hbA hG.2 hi_750 dL_law_759 ?_
        obtain ⟨q760, e_760, h⟩ := bd_e h
        refine g_ci hG (g_runV C hG (gR_9 gk_140) (c_X9_meal l D cs ad q751.2 (xs (x3 + (1 : Int32)).toNatClampNeg) e_760) wm_L_105 wi_X9_meal ws_X9_meal wz_X9 wc_X9_meal e_X9_meal (by decide) hl.1 (Nat.le_of_ble_eq_true rfl) dL_law_760) (fun H locs hG => ?_)
        refine lv_icmp_eq (tgt := 1200) hx hb dL_law_763 (by decide) (fun c_763 => ?_) (fun c_763 => ?_)
        · have h := if_t c_763 h
          obtain ⟨x3_1200, e3_1200⟩ : ∃ y : Int32, y = x3 + (6 : Int32) := ⟨_, rfl⟩
          have h := nm_at e3_1200 h
          refine lv_iinc (v := x3_1200) (lv' := [(3, .int x3_1200), (0, .ref b), (1, .ref (ad 0)), (2, .ref (ad 140))]) hx hb dL_law_1200 hl (k := 3) rfl (by rw [e3_1200]; rfl) (by decide) rfl (fun ls hl => ?_)
          refine lv_goto (tgt := 18) hx hb dL_law_1203 (by decide) ?_
          exact hr18 (q760.2, x3_1200) h H locs hG ls (lv_sub hl [1, 2, 3, 0] rfl)
        · have h := if_f c_763 h
          refine lv_iconst (v := 0) hx hb dL_law_766 (by decide) ?_
          exact hr (congrArg bi (pf1 (Option.some.inj h))) (pf2 (Option.some.inj h)) hG dL_law_767
      have h := if_f c_33_21 h
      by_cases c_33_22 : xsw = (22 : Int32)
      · have h := if_t c_33_22 h
        refine g_tsw (tgt := 768) (off := 735) hx hb dL_law_33 (by rw [c_33_22]; rfl) (by decide) ?_
        refine lv_aload_n hx hb dL_law_768 rfl (lv_at hl 1 rfl) ?_
        refine lv_aload_n hx hb dL_law_769 rfl (lv_at hl 0 rfl) ?_
        refine lv_iload_n hx hb dL_law_770 rfl (lv_at hl 3 rfl) ?_
        refine lv_iconst (v := 1) hx hb dL_law_771 (by decide) ?_
        refine lv_iadd hx hb dL_law_772 ?_
        obtain ⟨hi_773, h⟩ := ix_e h
        refine va_sld hx hb hX hbl hbA hG.2 hi_773 dL_law_773 ?_
        obtain ⟨q774, e_774, h⟩ := bd_e h
        refine g_ci hG (g_runV C hG (gR_8 gk_0) (c_X8_catches l D cs ad M (xs (x3 + (1 : Int32)).toNatClampNeg) e_774) wm_L_106 wi_X8_catches ws_X8_catches wz_X8 wc_X8_catches e_X8_catches (by decide) hl.1 (Nat.le_of_ble_eq_true rfl) dL_law_774) (fun H locs hG => ?_)
        refine lv_aload_n hx hb dL_law_777 rfl (lv_at hl 2 rfl) ?_
        refine lv_aload_n hx hb dL_law_778 rfl (lv_at hl 0 rfl) ?_
        refine lv_iload_n hx hb dL_law_779 rfl (lv_at hl 3 rfl) ?_
        refine lv_iconst (v := 1) hx hb dL_law_780 (by decide) ?_
        refine lv_iadd hx hb dL_law_781 ?_
        refine va_sld hx hb hX hbl hbA hG.2 hi_773 dL_law_782 ?_
        obtain ⟨q783, e_783, h⟩ := bd_e h
        refine g_ci hG (g_runV C hG (gR_9 gk_140) (c_X9_catches l D cs ad q774.2 (xs (x3 + (1 : Int32)).toNatClampNeg) e_783) wm_L_109 wi_X9_catches ws_X9_catches wz_X9 wc_X9_catches e_X9_catches (by decide) hl.1 (Nat.le_of_ble_eq_true rfl) dL_law_783) (fun H locs hG => ?_)
        refine lv_icmp_eq (tgt := 1200) hx hb dL_law_786 (by decide) (fun c_786 => ?_) (fun c_786 => ?_)
        · have h := if_t c_786 h
          obtain ⟨x3_1200, e3_1200⟩ : ∃ y : Int32, y = x3 + (6 : Int32) := ⟨_, rfl⟩
          have h := nm_at e3_1200 h
          refine lv_iinc (v := x3_1200) (lv' := [(3, .int x3_1200), (0, .ref b), (1, .ref (ad 0)), (2, .ref (ad 140))]) hx hb dL_law_1200 hl (k := 3) rfl (by rw [e3_1200]; rfl) (by decide) rfl (fun ls hl => ?_)
          refine lv_goto (tgt := 18) hx hb dL_law_1203 (by decide) ?_
          exact hr18 (q783.2, x3_1200) h H locs hG ls (lv_sub hl [1, 2, 3, 0] rfl)
        · have h := if_f c_786 h
          refine lv_iconst (v := 0) hx hb dL_law_789 (by decide) ?_
          exact hr (congrArg bi (pf1 (Option.some.inj h))) (pf2 (Option.some.inj h)) hG dL_law_790
      have h := if_f c_33_22 h
      by_cases c_33_23 : xsw = (23 : Int32)
      · have h := if_t c_33_23 h
        refine g_tsw (tgt := 791) (off := 758) hx hb dL_law_33 (by rw [c_33_23]; rfl) (by decide) ?_
        refine lv_aload_n hx hb dL_law_791 rfl (lv_at hl 1 rfl) ?_
        refine lv_aload_n hx hb dL_law_792 rfl (lv_at hl 0 rfl) ?_
        refine lv_iload_n hx hb dL_law_793 rfl (lv_at hl 3 rfl) ?_
        refine lv_iconst (v := 1) hx hb dL_law_794 (by decide) ?_
        refine lv_iadd hx hb dL_law_795 ?_
        obtain ⟨hi_796, h⟩ := ix_e h
        refine va_sld hx hb hX hbl hbA hG.2 hi_796 dL_law_796 ?_
        obtain ⟨q797, e_797, h⟩ := bd_e h
        refine g_ci hG (g_runV C hG (gR_8 gk_0) (c_X8_beloved l D cs ad M (xs (x3 + (1 : Int32)).toNatClampNeg) e_797) wm_L_110 wi_X8_beloved ws_X8_beloved wz_X8 wc_X8_beloved e_X8_beloved (by decide) hl.1 (Nat.le_of_ble_eq_true rfl) dL_law_797) (fun H locs hG => ?_)
        refine lv_aload_n hx hb dL_law_800 rfl (lv_at hl 2 rfl) ?_
        refine lv_aload_n hx hb dL_law_801 rfl (lv_at hl 0 rfl) ?_
        refine lv_iload_n hx hb dL_law_802 rfl (lv_at hl 3 rfl) ?_
        refine lv_iconst (v := 1) hx hb dL_law_803 (by decide) ?_
        refine lv_iadd hx hb dL_law_804 ?_
        refine va_sld hx hb hX hbl hbA hG.2 hi_796 dL_law_805 ?_
        obtain ⟨q806, e_806, h⟩ := bd_e h
        refine g_ci hG (g_runV C hG (gR_9 gk_140) (c_X9_beloved l D cs ad M (xs (x3 + (1 : Int32)).toNatClampNeg) e_806) wm_L_113 wi_X9_beloved ws_X9_beloved wz_X9 wc_X9_beloved e_X9_beloved (by decide) hl.1 (Nat.le_of_ble_eq_true rfl) dL_law_806) (fun H locs hG => ?_)
        refine lv_icmp_eq (tgt := 1200) hx hb dL_law_809 (by decide) (fun c_809 => ?_) (fun c_809 => ?_)
        · have h := if_t c_809 h
          obtain ⟨x3_1200, e3_1200⟩ : ∃ y : Int32, y = x3 + (6 : Int32) := ⟨_, rfl⟩
          have h := nm_at e3_1200 h
          refine lv_iinc (v := x3_1200) (lv' := [(3, .int x3_1200), (0, .ref b), (1, .ref (ad 0)), (2, .ref (ad 140))]) hx hb dL_law_1200 hl (k := 3) rfl (by rw [e3_1200]; rfl) (by decide) rfl (fun ls hl => ?_)
          refine lv_goto (tgt := 18) hx hb dL_law_1203 (by decide) ?_
          exact hr18 (M, x3_1200) h H locs hG ls (lv_sub hl [1, 2, 3, 0] rfl)
        · have h := if_f c_809 h
          refine lv_iconst (v := 0) hx hb dL_law_812 (by decide) ?_
          exact hr (congrArg bi (pf1 (Option.some.inj h))) (pf2 (Option.some.inj h)) hG dL_law_813
      have h := if_f c_33_23 h
      by_cases c_33_24 : xsw = (24 : Int32)
      · have h := if_t c_33_24 h
        refine g_tsw (tgt := 814) (off := 781) hx hb dL_law_33 (by rw [c_33_24]; rfl) (by decide) ?_
        refine lv_aload_n hx hb dL_law_814 rfl (lv_at hl 1 rfl) ?_
        refine lv_aload_n hx hb dL_law_815 rfl (lv_at hl 0 rfl) ?_
        refine lv_iload_n hx hb dL_law_816 rfl (lv_at hl 3 rfl) ?_
        refine lv_iconst (v := 1) hx hb dL_law_817 (by decide) ?_
        refine lv_iadd hx hb dL_law_818 ?_
        obtain ⟨hi_819, h⟩ := ix_e h
        refine va_sld hx hb hX hbl hbA hG.2 hi_819 dL_law_819 ?_
        refine lv_aload_n hx hb dL_law_820 rfl (lv_at hl 0 rfl) ?_
        refine lv_iload_n hx hb dL_law_821 rfl (lv_at hl 3 rfl) ?_
        refine lv_iconst (v := 2) hx hb dL_law_822 (by decide) ?_
        refine lv_iadd hx hb dL_law_823 ?_
        obtain ⟨hi_824, h⟩ := ix_e h
        refine va_sld hx hb hX hbl hbA hG.2 hi_824 dL_law_824 ?_
        refine lv_aload_n hx hb dL_law_825 rfl (lv_at hl 0 rfl) ?_
        refine lv_iload_n hx hb dL_law_826 rfl (lv_at hl 3 rfl) ?_
        refine lv_iconst (v := 3) hx hb dL_law_827 (by decide) ?_
        refine lv_iadd hx hb dL_law_828 ?_
        obtain ⟨hi_829, h⟩ := ix_e h
        refine va_sld hx hb hX hbl hbA hG.2 hi_829 dL_law_829 ?_
        refine lv_aload_n hx hb dL_law_830 rfl (lv_at hl 0 rfl) ?_
        refine lv_iload_n hx hb dL_law_831 rfl (lv_at hl 3 rfl) ?_
        refine lv_iconst (v := 4) hx hb dL_law_832 (by decide) ?_
        refine lv_iadd hx hb dL_law_833 ?_
        obtain ⟨hi_834, h⟩ := ix_e h
        refine va_sld hx hb hX hbl hbA hG.2 hi_834 dL_law_834 ?_
        refine lv_aload_n hx hb dL_law_835 rfl (lv_at hl 0 rfl) ?_
        refine lv_iload_n hx hb dL_law_836 rfl (lv_at hl 3 rfl) ?_
        refine lv_iconst (v := 5) hx hb dL_law_837 (by decide) ?_
        refine lv_iadd hx hb dL_law_838 ?_
        obtain ⟨hi_839, h⟩ := ix_e h
        refine va_sld hx hb hX hbl hbA hG.2 hi_839 dL_law_839 ?_
        obtain ⟨q840, e_840, h⟩ := bd_e h
        refine g_ci hG (g_runV C hG (gR_8 gk_0) (c_X8_fits l D cs ad M (xs (x3 + (1 : Int32)).toNatClampNeg) (xs (x3 + (2 : Int32)).toNatClampNeg) (xs (x3 + (3 : Int32)).toNatClampNeg) (xs (x3 + (4 : Int32)).toNatClampNeg) (xs (x3 + (5 : Int32)).toNatClampNeg) e_840) wm_L_114 wi_X8_fits ws_X8_fits wz_X8 wc_X8_fits e_X8_fits (by decide) hl.1 (Nat.le_of_ble_eq_true rfl) dL_law_840) (fun H locs hG => ?_)
        refine lv_aload_n hx hb dL_law_843 rfl (lv_at hl 2 rfl) ?_
        refine lv_aload_n hx hb dL_law_844 rfl (lv_at hl 0 rfl) ?_
        refine lv_iload_n hx hb dL_law_845 rfl (lv_at hl 3 rfl) ?_
        refine lv_iconst (v := 1) hx hb dL_law_846 (by decide) ?_
        refine lv_iadd hx hb dL_law_847 ?_
        refine va_sld hx hb hX hbl hbA hG.2 hi_819 dL_law_848 ?_
        refine lv_aload_n hx hb dL_law_849 rfl (lv_at hl 0 rfl) ?_
        refine lv_iload_n hx hb dL_law_850 rfl (lv_at hl 3 rfl) ?_
        refine lv_iconst (v := 2) hx hb dL_law_851 (by decide) ?_
        refine lv_iadd hx hb dL_law_852 ?_
        refine va_sld hx hb hX hbl hbA hG.2 hi_824 dL_law_853 ?_
        refine lv_aload_n hx hb dL_law_854 rfl (lv_at hl 0 rfl) ?_
        refine lv_iload_n hx hb dL_law_855 rfl (lv_at hl 3 rfl) ?_
        refine lv_iconst (v := 3) hx hb dL_law_856 (by decide) ?_
        refine lv_iadd hx hb dL_law_857 ?_
        refine va_sld hx hb hX hbl hbA hG.2 hi_829 dL_law_858 ?_
        refine lv_aload_n hx hb dL_law_859 rfl (lv_at hl 0 rfl) ?_
        refine lv_iload_n hx hb dL_law_860 rfl (lv_at hl 3 rfl) ?_
        refine lv_iconst (v := 4) hx hb dL_law_861 (by decide) ?_
        refine lv_iadd hx hb dL_law_862 ?_
        refine va_sld hx hb hX hbl hbA hG.2 hi_834 dL_law_863 ?_
        refine lv_aload_n hx hb dL_law_864 rfl (lv_at hl 0 rfl) ?_
        refine lv_iload_n hx hb dL_law_865 rfl (lv_at hl 3 rfl) ?_
        refine lv_iconst (v := 5) hx hb dL_law_866 (by decide) ?_
        refine lv_iadd hx hb dL_law_867 ?_
        refine va_sld hx hb hX hbl hbA hG.2 hi_839 dL_law_868 ?_
        obtain ⟨q869, e_869, h⟩ := bd_e h
        refine g_ci hG (g_runV C hG (gR_9 gk_140) (c_X9_fits l D cs ad q840.2 (xs (x3 + (1 : Int32)).toNatClampNeg) (xs (x3 + (2 : Int32)).toNatClampNeg) (xs (x3 + (3 : Int32)).toNatClampNeg) (xs (x3 + (4 : Int32)).toNatClampNeg) (xs (x3 + (5 : Int32)).toNatClampNeg) e_869) wm_L_117 wi_X9_fits ws_X9_fits wz_X9 wc_X9_fits e_X9_fits (by decide) hl.1 (Nat.le_of_ble_eq_true rfl) dL_law_869) (fun H locs hG => ?_)
        refine lv_icmp_eq (tgt := 1200) hx hb dL_law_872 (by decide) (fun c_872 => ?_) (fun c_872 => ?_)
        · have h := if_t c_872 h
          obtain ⟨x3_1200, e3_1200⟩ : ∃ y : Int32, y = x3 + (6 : Int32) := ⟨_, rfl⟩
          have h := nm_at e3_1200 h
          refine lv_iinc (v := x3_1200) (lv' := [(3, .int x3_1200), (0, .ref b), (1, .ref (ad 0)), (2, .ref (ad 140))]) hx hb dL_law_1200 hl (k := 3) rfl (by rw [e3_1200]; rfl) (by decide) rfl (fun ls hl => ?_)
          refine lv_goto (tgt := 18) hx hb dL_law_1203 (by decide) ?_
          exact hr18 (q869.2, x3_1200) h H locs hG ls (lv_sub hl [1, 2, 3, 0] rfl)
        · have h := if_f c_872 h
          refine lv_iconst (v := 0) hx hb dL_law_875 (by decide) ?_
          exact hr (congrArg bi (pf1 (Option.some.inj h))) (pf2 (Option.some.inj h)) hG dL_law_876
      have h := if_f c_33_24 h
      by_cases c_33_25 : xsw = (25 : Int32)
      · have h := if_t c_33_25 h
        refine g_tsw (tgt := 877) (off := 844) hx hb dL_law_33 (by rw [c_33_25]; rfl) (by decide) ?_
        refine lv_aload_n hx hb dL_law_877 rfl (lv_at hl 1 rfl) ?_
        refine lv_aload_n hx hb dL_law_878 rfl (lv_at hl 0 rfl) ?_
        refine lv_iload_n hx hb dL_law_879 rfl (lv_at hl 3 rfl) ?_
        refine lv_iconst (v := 1) hx hb dL_law_880 (by decide) ?_
        refine lv_iadd hx hb dL_law_881 ?_
        obtain ⟨hi_882, h⟩ := ix_e h
        refine va_sld hx hb hX hbl hbA hG.2 hi_882 dL_law_882 ?_
        refine lv_aload_n hx hb dL_law_883 rfl (lv_at hl 0 rfl) ?_
        refine lv_iload_n hx hb dL_law_884 rfl (lv_at hl 3 rfl) ?_
        refine lv_iconst (v := 2) hx hb dL_law_885 (by decide) ?_
        refine lv_iadd hx hb dL_law_886 ?_
        obtain ⟨hi_887, h⟩ := ix_e h
        refine va_sld hx hb hX hbl hbA hG.2 hi_887 dL_law_887 ?_
        refine lv_aload_n hx hb dL_law_888 rfl (lv_at hl 0 rfl) ?_
        refine lv_iload_n hx hb dL_law_889 rfl (lv_at hl 3 rfl) ?_
        refine lv_iconst (v := 3) hx hb dL_law_890 (by decide) ?_
        refine lv_iadd hx hb dL_law_891 ?_
        obtain ⟨hi_892, h⟩ := ix_e h
        refine va_sld hx hb hX hbl hbA hG.2 hi_892 dL_law_892 ?_
        obtain ⟨q893, e_893, h⟩ := bd_e h
        refine g_ci hG (g_runV C hG (gR_8 gk_0) (c_X8_asked l D cs ad M (xs (x3 + (1 : Int32)).toNatClampNeg) (xs (x3 + (2 : Int32)).toNatClampNeg) (xs (x3 + (3 : Int32)).toNatClampNeg) e_893) wm_L_118 wi_X8_asked ws_X8_asked wz_X8 wc_X8_asked e_X8_asked (by decide) hl.1 (Nat.le_of_ble_eq_true rfl) dL_law_893) (fun H locs hG => ?_)
        refine lv_aload_n hx hb dL_law_896 rfl (lv_at hl 2 rfl) ?_
        refine lv_aload_n hx hb dL_law_897 rfl (lv_at hl 0 rfl) ?_
        refine lv_iload_n hx hb dL_law_898 rfl (lv_at hl 3 rfl) ?_
        refine lv_iconst (v := 1) hx hb dL_law_899 (by decide) ?_
        refine lv_iadd hx hb dL_law_900 ?_
        refine va_sld hx hb hX hbl hbA hG.2 hi_882 dL_law_901 ?_
        refine lv_aload_n hx hb dL_law_902 rfl (lv_at hl 0 rfl) ?_
        refine lv_iload_n hx hb dL_law_903 rfl (lv_at hl 3 rfl) ?_
        refine lv_iconst (v := 2) hx hb dL_law_904 (by decide) ?_
        refine lv_iadd hx hb dL_law_905 ?_
        refine va_sld hx hb hX hbl hbA hG.2 hi_887 dL_law_906 ?_
        refine lv_aload_n hx hb dL_law_907 rfl (lv_at hl 0 rfl) ?_
        refine lv_iload_n hx hb dL_law_908 rfl (lv_at hl 3 rfl) ?_
        refine lv_iconst (v := 3) hx hb dL_law_909 (by decide) ?_
        refine lv_iadd hx hb dL_law_910 ?_
        refine va_sld hx hb hX hbl hbA hG.2 hi_892 dL_law_911 ?_
        obtain ⟨q912, e_912, h⟩ := bd_e h
        refine g_ci hG (g_runV C hG (gR_9 gk_140) (c_X9_asked l D cs ad q893.2 (xs (x3 + (1 : Int32)).toNatClampNeg) (xs (x3 + (2 : Int32)).toNatClampNeg) (xs (x3 + (3 : Int32)).toNatClampNeg) e_912) wm_L_121 wi_X9_asked ws_X9_asked wz_X9 wc_X9_asked e_X9_asked (by decide) hl.1 (Nat.le_of_ble_eq_true rfl) dL_law_912) (fun H locs hG => ?_)
        refine lv_icmp_eq (tgt := 1200) hx hb dL_law_915 (by decide) (fun c_915 => ?_) (fun c_915 => ?_)
        · have h := if_t c_915 h
          obtain ⟨x3_1200, e3_1200⟩ : ∃ y : Int32, y = x3 + (6 : Int32) := ⟨_, rfl⟩
          have h := nm_at e3_1200 h
          refine lv_iinc (v := x3_1200) (lv' := [(3, .int x3_1200), (0, .ref b), (1, .ref (ad 0)), (2, .ref (ad 140))]) hx hb dL_law_1200 hl (k := 3) rfl (by rw [e3_1200]; rfl) (by decide) rfl (fun ls hl => ?_)
          refine lv_goto (tgt := 18) hx hb dL_law_1203 (by decide) ?_
          exact hr18 (q912.2, x3_1200) h H locs hG ls (lv_sub hl [1, 2, 3, 0] rfl)
        · have h := if_f c_915 h
          refine lv_iconst (v := 0) hx hb dL_law_918 (by decide) ?_
          exact hr (congrArg bi (pf1 (Option.some.inj h))) (pf2 (Option.some.inj h)) hG dL_law_919
      have h := if_f c_33_25 h
      by_cases c_33_26 : xsw = (26 : Int32)
      · have h := if_t c_33_26 h
        refine g_tsw (tgt := 920) (off := 887) hx hb dL_law_33 (by rw [c_33_26]; rfl) (by decide) ?_
        refine lv_aload_n hx hb dL_law_920 rfl (lv_at hl 1 rfl) ?_
        refine lv_aload_n hx hb dL_law_921 rfl (lv_at hl 0 rfl) ?_
        refine lv_iload_n hx hb dL_law_922 rfl (lv_at hl 3 rfl) ?_
        refine lv_iconst (v := 1) hx hb dL_law_923 (by decide) ?_
        refine lv_iadd hx hb dL_law_924 ?_
        obtain ⟨hi_925, h⟩ := ix_e h
        refine va_sld hx hb hX hbl hbA hG.2 hi_925 dL_law_925 ?_
        refine lv_aload_n hx hb dL_law_926 rfl (lv_at hl 0 rfl) ?_
        refine lv_iload_n hx hb dL_law_927 rfl (lv_at hl 3 rfl) ?_
        refine lv_iconst (v := 2) hx hb dL_law_928 (by decide) ?_
        refine lv_iadd hx hb dL_law_929 ?_
        obtain ⟨hi_930, h⟩ := ix_e h
        refine va_sld hx hb hX hbl hbA hG.2 hi_930 dL_law_930 ?_
        refine lv_aload_n hx hb dL_law_931 rfl (lv_at hl 0 rfl) ?_
        refine lv_iload_n hx hb dL_law_932 rfl (lv_at hl 3 rfl) ?_
        refine lv_iconst (v := 3) hx hb dL_law_933 (by decide) ?_
        refine lv_iadd hx hb dL_law_934 ?_
        obtain ⟨hi_935, h⟩ := ix_e h
        refine va_sld hx hb hX hbl hbA hG.2 hi_935 dL_law_935 ?_
        obtain ⟨q936, e_936, h⟩ := bd_e h
        refine g_ci hG (g_runV C hG (gR_8 gk_0) (c_X8_storm l D cs ad M (xs (x3 + (1 : Int32)).toNatClampNeg) (xs (x3 + (2 : Int32)).toNatClampNeg) (xs (x3 + (3 : Int32)).toNatClampNeg) e_936) wm_L_122 wi_X8_storm ws_X8_storm wz_X8 wc_X8_storm e_X8_storm (by decide) hl.1 (Nat.le_of_ble_eq_true rfl) dL_law_936) (fun H locs hG => ?_)
        refine lv_aload_n hx hb dL_law_939 rfl (lv_at hl 2 rfl) ?_
        refine lv_aload_n hx hb dL_law_940 rfl (lv_at hl 0 rfl) ?_
        refine lv_iload_n hx hb dL_law_941 rfl (lv_at hl 3 rfl) ?_
        refine lv_iconst (v := 1) hx hb dL_law_942 (by decide) ?_
        refine lv_iadd hx hb dL_law_943 ?_
        refine va_sld hx hb hX hbl hbA hG.2 hi_925 dL_law_944 ?_
        refine lv_aload_n hx hb dL_law_945 rfl (lv_at hl 0 rfl) ?_
        refine lv_iload_n hx hb dL_law_946 rfl (lv_at hl 3 rfl) ?_
        refine lv_iconst (v := 2) hx hb dL_law_947 (by decide) ?_
        refine lv_iadd hx hb dL_law_948 ?_
        refine va_sld hx hb hX hbl hbA hG.2 hi_930 dL_law_949 ?_
        refine lv_aload_n hx hb dL_law_950 rfl (lv_at hl 0 rfl) ?_
        refine lv_iload_n hx hb dL_law_951 rfl (lv_at hl 3 rfl) ?_
        refine lv_iconst (v := 3) hx hb dL_law_952 (by decide) ?_
        refine lv_iadd hx hb dL_law_953 ?_
        refine va_sld hx hb hX hbl hbA hG.2 hi_935 dL_law_954 ?_
        obtain ⟨q955, e_955, h⟩ := bd_e h
        refine g_ci hG (g_runV C hG (gR_9 gk_140) (c_X9_storm l D cs ad q936.2 (xs (x3 + (1 : Int32)).toNatClampNeg) (xs (x3 + (2 : Int32)).toNatClampNeg) (xs (x3 + (3 : Int32)).toNatClampNeg) e_955) wm_L_125 wi_X9_storm ws_X9_storm wz_X9 wc_X9_storm e_X9_storm (by decide) hl.1 (Nat.le_of_ble_eq_true rfl) dL_law_955) (fun H locs hG => ?_)
        refine lv_icmp_eq (tgt := 1200) hx hb dL_law_958 (by decide) (fun c_958 => ?_) (fun c_958 => ?_)
        · have h := if_t c_958 h
          obtain ⟨x3_1200, e3_1200⟩ : ∃ y : Int32, y = x3 + (6 : Int32) := ⟨_, rfl⟩
          have h := nm_at e3_1200 h
          refine lv_iinc (v := x3_1200) (lv' := [(3, .int x3_1200), (0, .ref b), (1, .ref (ad 0)), (2, .ref (ad 140))]) hx hb dL_law_1200 hl (k := 3) rfl (by rw [e3_1200]; rfl) (by decide) rfl (fun ls hl => ?_)
          refine lv_goto (tgt := 18) hx hb dL_law_1203 (by decide) ?_
          exact hr18 (q955.2, x3_1200) h H locs hG ls (lv_sub hl [1, 2, 3, 0] rfl)
        · have h := if_f c_958 h
          refine lv_iconst (v := 0) hx hb dL_law_961 (by decide) ?_
          exact hr (congrArg bi (pf1 (Option.some.inj h))) (pf2 (Option.some.inj h)) hG dL_law_962
      have h := if_f c_33_26 h
      by_cases c_33_27 : xsw = (27 : Int32)
      · have h := if_t c_33_27 h
        refine g_tsw (tgt := 963) (off := 930) hx hb dL_law_33 (by rw [c_33_27]; rfl) (by decide) ?_
        refine lv_aload_n hx hb dL_law_963 rfl (lv_at hl 1 rfl) ?_
        refine lv_aload_n hx hb dL_law_964 rfl (lv_at hl 0 rfl) ?_
        refine lv_iload_n hx hb dL_law_965 rfl (lv_at hl 3 rfl) ?_
        refine lv_iconst (v := 1) hx hb dL_law_966 (by decide) ?_
        refine lv_iadd hx hb dL_law_967 ?_
        obtain ⟨hi_968, h⟩ := ix_e h
        refine va_sld hx hb hX hbl hbA hG.2 hi_968 dL_law_968 ?_
        refine lv_aload_n hx hb dL_law_969 rfl (lv_at hl 0 rfl) ?_
        refine lv_iload_n hx hb dL_law_970 rfl (lv_at hl 3 rfl) ?_
        refine lv_iconst (v := 2) hx hb dL_law_971 (by decide) ?_
        refine lv_iadd hx hb dL_law_972 ?_
        obtain ⟨hi_973, h⟩ := ix_e h
        refine va_sld hx hb hX hbl hbA hG.2 hi_973 dL_law_973 ?_
        refine lv_aload_n hx hb dL_law_974 rfl (lv_at hl 0 rfl) ?_
        refine lv_iload_n hx hb dL_law_975 rfl (lv_at hl 3 rfl) ?_
        refine lv_iconst (v := 3) hx hb dL_law_976 (by decide) ?_
        refine lv_iadd hx hb dL_law_977 ?_
        obtain ⟨hi_978, h⟩ := ix_e h
        refine va_sld hx hb hX hbl hbA hG.2 hi_978 dL_law_978 ?_
        obtain ⟨q979, e_979, h⟩ := bd_e h
        refine g_ci hG (g_runV C hG (gR_8 gk_0) (c_X8_drawn l D cs ad M (xs (x3 + (1 : Int32)).toNatClampNeg) (xs (x3 + (2 : Int32)).toNatClampNeg) (xs (x3 + (3 : Int32)).toNatClampNeg) e_979) wm_L_126 wi_X8_drawn ws_X8_drawn wz_X8 wc_X8_drawn e_X8_drawn (by decide) hl.1 (Nat.le_of_ble_eq_true rfl) dL_law_979) (fun H locs hG => ?_)
        refine lv_aload_n hx hb dL_law_982 rfl (lv_at hl 2 rfl) ?_
        refine lv_aload_n hx hb dL_law_983 rfl (lv_at hl 0 rfl) ?_
        refine lv_iload_n hx hb dL_law_984 rfl (lv_at hl 3 rfl) ?_
        refine lv_iconst (v := 1) hx hb dL_law_985 (by decide) ?_
        refine lv_iadd hx hb dL_law_986 ?_
        refine va_sld hx hb hX hbl hbA hG.2 hi_968 dL_law_987 ?_
        refine lv_aload_n hx hb dL_law_988 rfl (lv_at hl 0 rfl) ?_
        refine lv_iload_n hx hb dL_law_989 rfl (lv_at hl 3 rfl) ?_
        refine lv_iconst (v := 2) hx hb dL_law_990 (by decide) ?_
        refine lv_iadd hx hb dL_law_991 ?_
        refine va_sld hx hb hX hbl hbA hG.2 hi_973 dL_law_992 ?_
        refine lv_aload_n hx hb dL_law_993 rfl (lv_at hl 0 rfl) ?_
        refine lv_iload_n hx hb dL_law_994 rfl (lv_at hl 3 rfl) ?_
        refine lv_iconst (v := 3) hx hb dL_law_995 (by decide) ?_
        refine lv_iadd hx hb dL_law_996 ?_
        refine va_sld hx hb hX hbl hbA hG.2 hi_978 dL_law_997 ?_
        obtain ⟨q998, e_998, h⟩ := bd_e h
        refine g_ci hG (g_runV C hG (gR_9 gk_140) (c_X9_drawn l D cs ad q979.2 (xs (x3 + (1 : Int32)).toNatClampNeg) (xs (x3 + (2 : Int32)).toNatClampNeg) (xs (x3 + (3 : Int32)).toNatClampNeg) e_998) wm_L_129 wi_X9_drawn ws_X9_drawn wz_X9 wc_X9_drawn e_X9_drawn (by decide) hl.1 (Nat.le_of_ble_eq_true rfl) dL_law_998) (fun H locs hG => ?_)
        refine lv_icmp_eq (tgt := 1200) hx hb dL_law_1001 (by decide) (fun c_1001 => ?_) (fun c_1001 => ?_)
        · have h := if_t c_1001 h
          obtain ⟨x3_1200, e3_1200⟩ : ∃ y : Int32, y = x3 + (6 : Int32) := ⟨_, rfl⟩
          have h := nm_at e3_1200 h
          refine lv_iinc (v := x3_1200) (lv' := [(3, .int x3_1200), (0, .ref b), (1, .ref (ad 0)), (2, .ref (ad 140))]) hx hb dL_law_1200 hl (k := 3) rfl (by rw [e3_1200]; rfl) (by decide) rfl (fun ls hl => ?_)
          refine lv_goto (tgt := 18) hx hb dL_law_1203 (by decide) ?_
          exact hr18 (q998.2, x3_1200) h H locs hG ls (lv_sub hl [1, 2, 3, 0] rfl)
        · have h := if_f c_1001 h
          refine lv_iconst (v := 0) hx hb dL_law_1004 (by decide) ?_
          exact hr (congrArg bi (pf1 (Option.some.inj h))) (pf2 (Option.some.inj h)) hG dL_law_1005
      have h := if_f c_33_27 h
      by_cases c_33_28 : xsw = (28 : Int32)
      · have h := if_t c_33_28 h
        refine g_tsw (tgt := 1006) (off := 973) hx hb dL_law_33 (by rw [c_33_28]; rfl) (by decide) ?_
        refine lv_aload_n hx hb dL_law_1006 rfl (lv_at hl 1 rfl) ?_
        refine lv_aload_n hx hb dL_law_1007 rfl (lv_at hl 0 rfl) ?_
        refine lv_iload_n hx hb dL_law_1008 rfl (lv_at hl 3 rfl) ?_
        refine lv_iconst (v := 1) hx hb dL_law_1009 (by decide) ?_
        refine lv_iadd hx hb dL_law_1010 ?_
        obtain ⟨hi_1011, h⟩ := ix_e h
        refine va_sld hx hb hX hbl hbA hG.2 hi_1011 dL_law_1011 ?_
        obtain ⟨q1012, e_1012, h⟩ := bd_e h
        refine g_ci hG (g_runV C hG (gR_8 gk_0) (c_X8_image l D cs ad M (xs (x3 + (1 : Int32)).toNatClampNeg) e_1012) wm_L_130 wi_X8_image ws_X8_image wz_X8 wc_X8_image e_X8_image (by decide) hl.1 (Nat.le_of_ble_eq_true rfl) dL_law_1012) (fun H locs hG => ?_)
        refine lv_aload_n hx hb dL_law_1015 rfl (lv_at hl 2 rfl) ?_
        refine lv_aload_n hx hb dL_law_1016 rfl (lv_at hl 0 rfl) ?_
        refine lv_iload_n hx hb dL_law_1017 rfl (lv_at hl 3 rfl) ?_
        refine lv_iconst (v := 1) hx hb dL_law_1018 (by decide) ?_
        refine lv_iadd hx hb dL_law_1019 ?_
        refine va_sld hx hb hX hbl hbA hG.2 hi_1011 dL_law_1020 ?_
        obtain ⟨q1021, e_1021, h⟩ := bd_e h
        refine g_ci hG (g_runV C hG (gR_9 gk_140) (c_X9_image l D cs ad q1012.2 (xs (x3 + (1 : Int32)).toNatClampNeg) e_1021) wm_L_133 wi_X9_image ws_X9_image wz_X9 wc_X9_image e_X9_image (by decide) hl.1 (Nat.le_of_ble_eq_true rfl) dL_law_1021) (fun H locs hG => ?_)
        refine lv_icmp_eq (tgt := 1200) hx hb dL_law_1024 (by decide) (fun c_1024 => ?_) (fun c_1024 => ?_)
        · have h := if_t c_1024 h
          obtain ⟨x3_1200, e3_1200⟩ : ∃ y : Int32, y = x3 + (6 : Int32) := ⟨_, rfl⟩
          have h := nm_at e3_1200 h
          refine lv_iinc (v := x3_1200) (lv' := [(3, .int x3_1200), (0, .ref b), (1, .ref (ad 0)), (2, .ref (ad 140))]) hx hb dL_law_1200 hl (k := 3) rfl (by rw [e3_1200]; rfl) (by decide) rfl (fun ls hl => ?_)
          refine lv_goto (tgt := 18) hx hb dL_law_1203 (by decide) ?_
          exact hr18 (q1021.2, x3_1200) h H locs hG ls (lv_sub hl [1, 2, 3, 0] rfl)
        · have h := if_f c_1024 h
          refine lv_iconst (v := 0) hx hb dL_law_1027 (by decide) ?_
          exact hr (congrArg bi (pf1 (Option.some.inj h))) (pf2 (Option.some.inj h)) hG dL_law_1028
      have h := if_f c_33_28 h
      by_cases c_33_29 : xsw = (29 : Int32)
      · have h := if_t c_33_29 h
        refine g_tsw (tgt := 1029) (off := 996) hx hb dL_law_33 (by rw [c_33_29]; rfl) (by decide) ?_
        refine lv_aload_n hx hb dL_law_1029 rfl (lv_at hl 1 rfl) ?_
        refine lv_aload_n hx hb dL_law_1030 rfl (lv_at hl 0 rfl) ?_
        refine lv_iload_n hx hb dL_law_1031 rfl (lv_at hl 3 rfl) ?_
        refine lv_iconst (v := 1) hx hb dL_law_1032 (by decide) ?_
        refine lv_iadd hx hb dL_law_1033 ?_
        obtain ⟨hi_1034, h⟩ := ix_e h
        refine va_sld hx hb hX hbl hbA hG.2 hi_1034 dL_law_1034 ?_
        obtain ⟨q1035, e_1035, h⟩ := bd_e h
        refine g_ci hG (g_runV C hG (gR_8 gk_0) (c_X8_restore l D cs ad M (xs (x3 + (1 : Int32)).toNatClampNeg) e_1035) wm_L_134 wi_X8_restore ws_X8_restore wz_X8 wc_X8_restore e_X8_restore (by decide) hl.1 (Nat.le_of_ble_eq_true rfl) dL_law_1035) (fun H locs hG => ?_)
        refine lv_aload_n hx hb dL_law_1038 rfl (lv_at hl 2 rfl) ?_
        refine lv_aload_n hx hb dL_law_1039 rfl (lv_at hl 0 rfl) ?_
        refine lv_iload_n hx hb dL_law_1040 rfl (lv_at hl 3 rfl) ?_
        refine lv_iconst (v := 1) hx hb dL_law_1041 (by decide) ?_
        refine lv_iadd hx hb dL_law_1042 ?_
        refine va_sld hx hb hX hbl hbA hG.2 hi_1034 dL_law_1043 ?_
        obtain ⟨q1044, e_1044, h⟩ := bd_e h
        refine g_ci hG (g_runV C hG (gR_9 gk_140) (c_X9_restore l D cs ad q1035.2 (xs (x3 + (1 : Int32)).toNatClampNeg) e_1044) wm_L_137 wi_X9_restore ws_X9_restore wz_X9 wc_X9_restore e_X9_restore (by decide) hl.1 (Nat.le_of_ble_eq_true rfl) dL_law_1044) (fun H locs hG => ?_)
        refine lv_icmp_eq (tgt := 1200) hx hb dL_law_1047 (by decide) (fun c_1047 => ?_) (fun c_1047 => ?_)
        · have h := if_t c_1047 h
          obtain ⟨x3_1200, e3_1200⟩ : ∃ y : Int32, y = x3 + (6 : Int32) := ⟨_, rfl⟩
          have h := nm_at e3_1200 h
          refine lv_iinc (v := x3_1200) (lv' := [(3, .int x3_1200), (0, .ref b), (1, .ref (ad 0)), (2, .ref (ad 140))]) hx hb dL_law_1200 hl (k := 3) rfl (by rw [e3_1200]; rfl) (by decide) rfl (fun ls hl => ?_)
          refine lv_goto (tgt := 18) hx hb dL_law_1203 (by decide) ?_
          exact hr18 (q1044.2, x3_1200) h H locs hG ls (lv_sub hl [1, 2, 3, 0] rfl)
        · have h := if_f c_1047 h
          refine lv_iconst (v := 0) hx hb dL_law_1050 (by decide) ?_
          exact hr (congrArg bi (pf1 (Option.some.inj h))) (pf2 (Option.some.inj h)) hG dL_law_1051
      have h := if_f c_33_29 h
      by_cases c_33_30 : xsw = (30 : Int32)
      · have h := if_t c_33_30 h
        refine g_tsw (tgt := 1052) (off := 1019) hx hb dL_law_33 (by rw [c_33_30]; rfl) (by decide) ?_
        refine lv_aload_n hx hb dL_law_1052 rfl (lv_at hl 1 rfl) ?_
        refine lv_aload_n hx hb dL_law_1053 rfl (lv_at hl 0 rfl) ?_
        refine lv_iload_n hx hb dL_law_1054 rfl (lv_at hl 3 rfl) ?_
        refine lv_iconst (v := 1) hx hb dL_law_1055 (by decide) ?_
        refine lv_iadd hx hb dL_law_1056 ?_
        obtain ⟨hi_1057, h⟩ := ix_e h
        refine va_sld hx hb hX hbl hbA hG.2 hi_1057 dL_law_1057 ?_
        obtain ⟨q1058, e_1058, h⟩ := bd_e h
        refine g_ci hG (g_runV C hG (gR_8 gk_0) (c_X8_kind l D cs ad M (xs (x3 + (1 : Int32)).toNatClampNeg) e_1058) wm_L_138 wi_X8_kind ws_X8_kind wz_X8 wc_X8_kind e_X8_kind (by decide) hl.1 (Nat.le_of_ble_eq_true rfl) dL_law_1058) (fun H locs hG => ?_)
        refine lv_aload_n hx hb dL_law_1061 rfl (lv_at hl 2 rfl) ?_
        refine lv_aload_n hx hb dL_law_1062 rfl (lv_at hl 0 rfl) ?_
        refine lv_iload_n hx hb dL_law_1063 rfl (lv_at hl 3 rfl) ?_
        refine lv_iconst (v := 1) hx hb dL_law_1064 (by decide) ?_
        refine lv_iadd hx hb dL_law_1065 ?_
        refine va_sld hx hb hX hbl hbA hG.2 hi_1057 dL_law_1066 ?_
        obtain ⟨q1067, e_1067, h⟩ := bd_e h
        refine g_ci hG (g_runV C hG (gR_9 gk_140) (c_X9_kind l D cs ad M (xs (x3 + (1 : Int32)).toNatClampNeg) e_1067) wm_L_141 wi_X9_kind ws_X9_kind wz_X9 wc_X9_kind e_X9_kind (by decide) hl.1 (Nat.le_of_ble_eq_true rfl) dL_law_1067) (fun H locs hG => ?_)
        refine lv_icmp_eq (tgt := 1200) hx hb dL_law_1070 (by decide) (fun c_1070 => ?_) (fun c_1070 => ?_)
        · have h := if_t c_1070 h
          obtain ⟨x3_1200, e3_1200⟩ : ∃ y : Int32, y = x3 + (6 : Int32) := ⟨_, rfl⟩
          have h := nm_at e3_1200 h
          refine lv_iinc (v := x3_1200) (lv' := [(3, .int x3_1200), (0, .ref b), (1, .ref (ad 0)), (2, .ref (ad 140))]) hx hb dL_law_1200 hl (k := 3) rfl (by rw [e3_1200]; rfl) (by decide) rfl (fun ls hl => ?_)
          refine lv_goto (tgt := 18) hx hb dL_law_1203 (by decide) ?_
          exact hr18 (M, x3_1200) h H locs hG ls (lv_sub hl [1, 2, 3, 0] rfl)
        · have h := if_f c_1070 h
          refine lv_iconst (v := 0) hx hb dL_law_1073 (by decide) ?_
          exact hr (congrArg bi (pf1 (Option.some.inj h))) (pf2 (Option.some.inj h)) hG dL_law_1074
      have h := if_f c_33_30 h
      by_cases c_33_31 : xsw = (31 : Int32)
      · have h := if_t c_33_31 h
        refine g_tsw (tgt := 1075) (off := 1042) hx hb dL_law_33 (by rw [c_33_31]; rfl) (by decide) ?_
        refine lv_aload_n hx hb dL_law_1075 rfl (lv_at hl 1 rfl) ?_
        refine lv_aload_n hx hb dL_law_1076 rfl (lv_at hl 0 rfl) ?_
        refine lv_iload_n hx hb dL_law_1077 rfl (lv_at hl 3 rfl) ?_
        refine lv_iconst (v := 1) hx hb dL_law_1078 (by decide) ?_
        refine lv_iadd hx hb dL_law_1079 ?_
        obtain ⟨hi_1080, h⟩ := ix_e h
        refine va_sld hx hb hX hbl hbA hG.2 hi_1080 dL_law_1080 ?_
        refine lv_aload_n hx hb dL_law_1081 rfl (lv_at hl 0 rfl) ?_
        refine lv_iload_n hx hb dL_law_1082 rfl (lv_at hl 3 rfl) ?_
        refine lv_iconst (v := 2) hx hb dL_law_1083 (by decide) ?_
        refine lv_iadd hx hb dL_law_1084 ?_
        obtain ⟨hi_1085, h⟩ := ix_e h
        refine va_sld hx hb hX hbl hbA hG.2 hi_1085 dL_law_1085 ?_
        obtain ⟨q1086, e_1086, h⟩ := bd_e h
        refine g_ci hG (g_runV C hG (gR_8 gk_0) (c_X8_as l D cs ad M (xs (x3 + (1 : Int32)).toNatClampNeg) (xs (x3 + (2 : Int32)).toNatClampNeg) e_1086) wm_L_142 wi_X8_as ws_X8_as wz_X8 wc_X8_as e_X8_as (by decide) hl.1 (Nat.le_of_ble_eq_true rfl) dL_law_1086) (fun H locs hG => ?_)
        refine lv_aload_n hx hb dL_law_1089 rfl (lv_at hl 2 rfl) ?_
        refine lv_aload_n hx hb dL_law_1090 rfl (lv_at hl 0 rfl) ?_
        refine lv_iload_n hx hb dL_law_1091 rfl (lv_at hl 3 rfl) ?_
        refine lv_iconst (v := 1) hx hb dL_law_1092 (by decide) ?_
        refine lv_iadd hx hb dL_law_1093 ?_
        refine va_sld hx hb hX hbl hbA hG.2 hi_1080 dL_law_1094 ?_
        refine lv_aload_n hx hb dL_law_1095 rfl (lv_at hl 0 rfl) ?_
        refine lv_iload_n hx hb dL_law_1096 rfl (lv_at hl 3 rfl) ?_
        refine lv_iconst (v := 2) hx hb dL_law_1097 (by decide) ?_
        refine lv_iadd hx hb dL_law_1098 ?_
        refine va_sld hx hb hX hbl hbA hG.2 hi_1085 dL_law_1099 ?_
        obtain ⟨q1100, e_1100, h⟩ := bd_e h
        refine g_ci hG (g_runV C hG (gR_9 gk_140) (c_X9_as l D cs ad q1086.2 (xs (x3 + (1 : Int32)).toNatClampNeg) (xs (x3 + (2 : Int32)).toNatClampNeg) e_1100) wm_L_145 wi_X9_as ws_X9_as wz_X9 wc_X9_as e_X9_as (by decide) hl.1 (Nat.le_of_ble_eq_true rfl) dL_law_1100) (fun H locs hG => ?_)
        refine lv_icmp_eq (tgt := 1200) hx hb dL_law_1103 (by decide) (fun c_1103 => ?_) (fun c_1103 => ?_)
        · have h := if_t c_1103 h
          obtain ⟨x3_1200, e3_1200⟩ : ∃ y : Int32, y = x3 + (6 : Int32) := ⟨_, rfl⟩
          have h := nm_at e3_1200 h
          refine lv_iinc (v := x3_1200) (lv' := [(3, .int x3_1200), (0, .ref b), (1, .ref (ad 0)), (2, .ref (ad 140))]) hx hb dL_law_1200 hl (k := 3) rfl (by rw [e3_1200]; rfl) (by decide) rfl (fun ls hl => ?_)
          refine lv_goto (tgt := 18) hx hb dL_law_1203 (by decide) ?_
          exact hr18 (q1100.2, x3_1200) h H locs hG ls (lv_sub hl [1, 2, 3, 0] rfl)
        · have h := if_f c_1103 h
          refine lv_iconst (v := 0) hx hb dL_law_1106 (by decide) ?_
          exact hr (congrArg bi (pf1 (Option.some.inj h))) (pf2 (Option.some.inj h)) hG dL_law_1107
      have h := if_f c_33_31 h
      by_cases c_33_32 : xsw = (32 : Int32)
      · have h := if_t c_33_32 h
        refine g_tsw (tgt := 1108) (off := 1075) hx hb dL_law_33 (by rw [c_33_32]; rfl) (by decide) ?_
        refine lv_aload_n hx hb dL_law_1108 rfl (lv_at hl 1 rfl) ?_
        refine lv_aload_n hx hb dL_law_1109 rfl (lv_at hl 0 rfl) ?_
        refine lv_iload_n hx hb dL_law_1110 rfl (lv_at hl 3 rfl) ?_
        refine lv_iconst (v := 1) hx hb dL_law_1111 (by decide) ?_
        refine lv_iadd hx hb dL_law_1112 ?_
        obtain ⟨hi_1113, h⟩ := ix_e h
        refine va_sld hx hb hX hbl hbA hG.2 hi_1113 dL_law_1113 ?_
        refine lv_aload_n hx hb dL_law_1114 rfl (lv_at hl 0 rfl) ?_
        refine lv_iload_n hx hb dL_law_1115 rfl (lv_at hl 3 rfl) ?_
        refine lv_iconst (v := 2) hx hb dL_law_1116 (by decide) ?_
        refine lv_iadd hx hb dL_law_1117 ?_
        obtain ⟨hi_1118, h⟩ := ix_e h
        refine va_sld hx hb hX hbl hbA hG.2 hi_1118 dL_law_1118 ?_
        obtain ⟨q1119, e_1119, h⟩ := bd_e h
        refine g_ci hG (g_runV C hG (gR_8 gk_0) (c_X8_ask l D cs ad M (xs (x3 + (1 : Int32)).toNatClampNeg) (xs (x3 + (2 : Int32)).toNatClampNeg) e_1119) wm_L_146 wi_X8_ask ws_X8_ask wz_X8 wc_X8_ask e_X8_ask (by decide) hl.1 (Nat.le_of_ble_eq_true rfl) dL_law_1119) (fun H locs hG => ?_)
        refine lv_aload_n hx hb dL_law_1122 rfl (lv_at hl 2 rfl) ?_
        refine lv_aload_n hx hb dL_law_1123 rfl (lv_at hl 0 rfl) ?_
        refine lv_iload_n hx hb dL_law_1124 rfl (lv_at hl 3 rfl) ?_
        refine lv_iconst (v := 1) hx hb dL_law_1125 (by decide) ?_
        refine lv_iadd hx hb dL_law_1126 ?_
        refine va_sld hx hb hX hbl hbA hG.2 hi_1113 dL_law_1127 ?_
        refine lv_aload_n hx hb dL_law_1128 rfl (lv_at hl 0 rfl) ?_
        refine lv_iload_n hx hb dL_law_1129 rfl (lv_at hl 3 rfl) ?_
        refine lv_iconst (v := 2) hx hb dL_law_1130 (by decide) ?_
        refine lv_iadd hx hb dL_law_1131 ?_
        refine va_sld hx hb hX hbl hbA hG.2 hi_1118 dL_law_1132 ?_
        obtain ⟨q1133, e_1133, h⟩ := bd_e h
        refine g_ci hG (g_runV C hG (gR_9 gk_140) (c_X9_ask l D cs ad q1119.2 (xs (x3 + (1 : Int32)).toNatClampNeg) (xs (x3 + (2 : Int32)).toNatClampNeg) e_1133) wm_L_149 wi_X9_ask ws_X9_ask wz_X9 wc_X9_ask e_X9_ask (by decide) hl.1 (Nat.le_of_ble_eq_true rfl) dL_law_1133) (fun H locs hG => ?_)
        refine lv_icmp_eq (tgt := 1200) hx hb dL_law_1136 (by decide) (fun c_1136 => ?_) (fun c_1136 => ?_)
        · have h := if_t c_1136 h
          obtain ⟨x3_1200, e3_1200⟩ : ∃ y : Int32, y = x3 + (6 : Int32) := ⟨_, rfl⟩
          have h := nm_at e3_1200 h
          refine lv_iinc (v := x3_1200) (lv' := [(3, .int x3_1200), (0, .ref b), (1, .ref (ad 0)), (2, .ref (ad 140))]) hx hb dL_law_1200 hl (k := 3) rfl (by rw [e3_1200]; rfl) (by decide) rfl (fun ls hl => ?_)
          refine lv_goto (tgt := 18) hx hb dL_law_1203 (by decide) ?_
          exact hr18 (q1133.2, x3_1200) h H locs hG ls (lv_sub hl [1, 2, 3, 0] rfl)
        · have h := if_f c_1136 h
          refine lv_iconst (v := 0) hx hb dL_law_1139 (by decide) ?_
          exact hr (congrArg bi (pf1 (Option.some.inj h))) (pf2 (Option.some.inj h)) hG dL_law_1140
      have h := if_f c_33_32 h
      by_cases c_33_33 : xsw = (33 : Int32)
      · have h := if_t c_33_33 h
        refine g_tsw (tgt := 1141) (off := 1108) hx hb dL_law_33 (by rw [c_33_33]; rfl) (by decide) ?_
        refine lv_aload_n hx hb dL_law_1141 rfl (lv_at hl 1 rfl) ?_
        refine lv_aload_n hx hb dL_law_1142 rfl (lv_at hl 0 rfl) ?_
        refine lv_iload_n hx hb dL_law_1143 rfl (lv_at hl 3 rfl) ?_
        refine lv_iconst (v := 1) hx hb dL_law_1144 (by decide) ?_
        refine lv_iadd hx hb dL_law_1145 ?_
        obtain ⟨hi_1146, h⟩ := ix_e h
        refine va_sld hx hb hX hbl hbA hG.2 hi_1146 dL_law_1146 ?_
        obtain ⟨q1147, e_1147, h⟩ := bd_e h
        refine g_ci hG (g_runV C hG (gR_8 gk_0) (c_X8_trace l D cs ad M (xs (x3 + (1 : Int32)).toNatClampNeg) e_1147) wm_L_150 wi_X8_trace ws_X8_trace wz_X8 wc_X8_trace e_X8_trace (by decide) hl.1 (Nat.le_of_ble_eq_true rfl) dL_law_1147) (fun H locs hG => ?_)
        refine lv_aload_n hx hb dL_law_1150 rfl (lv_at hl 2 rfl) ?_
        refine lv_aload_n hx hb dL_law_1151 rfl (lv_at hl 0 rfl) ?_
        refine lv_iload_n hx hb dL_law_1152 rfl (lv_at hl 3 rfl) ?_
        refine lv_iconst (v := 1) hx hb dL_law_1153 (by decide) ?_
        refine lv_iadd hx hb dL_law_1154 ?_
        refine va_sld hx hb hX hbl hbA hG.2 hi_1146 dL_law_1155 ?_
        obtain ⟨q1156, e_1156, h⟩ := bd_e h
        refine g_ci hG (g_runV C hG (gR_9 gk_140) (c_X9_trace l D cs ad M (xs (x3 + (1 : Int32)).toNatClampNeg) e_1156) wm_L_153 wi_X9_trace ws_X9_trace wz_X9 wc_X9_trace e_X9_trace (by decide) hl.1 (Nat.le_of_ble_eq_true rfl) dL_law_1156) (fun H locs hG => ?_)
        refine lv_icmp_eq (tgt := 1200) hx hb dL_law_1159 (by decide) (fun c_1159 => ?_) (fun c_1159 => ?_)
        · have h := if_t c_1159 h
          obtain ⟨x3_1200, e3_1200⟩ : ∃ y : Int32, y = x3 + (6 : Int32) := ⟨_, rfl⟩
          have h := nm_at e3_1200 h
          refine lv_iinc (v := x3_1200) (lv' := [(3, .int x3_1200), (0, .ref b), (1, .ref (ad 0)), (2, .ref (ad 140))]) hx hb dL_law_1200 hl (k := 3) rfl (by rw [e3_1200]; rfl) (by decide) rfl (fun ls hl => ?_)
          refine lv_goto (tgt := 18) hx hb dL_law_1203 (by decide) ?_
          exact hr18 (M, x3_1200) h H locs hG ls (lv_sub hl [1, 2, 3, 0] rfl)
        · have h := if_f c_1159 h
          refine lv_iconst (v := 0) hx hb dL_law_1162 (by decide) ?_
          exact hr (congrArg bi (pf1 (Option.some.inj h))) (pf2 (Option.some.inj h)) hG dL_law_1163
      have h := if_f c_33_33 h
      by_cases c_33_34 : xsw = (34 : Int32)
      · have h := if_t c_33_34 h
        refine g_tsw (tgt := 1164) (off := 1131) hx hb dL_law_33 (by rw [c_33_34]; rfl) (by decide) ?_
        refine lv_aload_n hx hb dL_law_1164 rfl (lv_at hl 1 rfl) ?_
        refine lv_aload_n hx hb dL_law_1165 rfl (lv_at hl 0 rfl) ?_
        refine lv_iload_n hx hb dL_law_1166 rfl (lv_at hl 3 rfl) ?_
        refine lv_iconst (v := 1) hx hb dL_law_1167 (by decide) ?_
        refine lv_iadd hx hb dL_law_1168 ?_
        obtain ⟨hi_1169, h⟩ := ix_e h
        refine va_sld hx hb hX hbl hbA hG.2 hi_1169 dL_law_1169 ?_
        obtain ⟨q1170, e_1170, h⟩ := bd_e h
        refine g_ci hG (g_runV C hG (gR_8 gk_0) (c_X8_count l D cs ad M (xs (x3 + (1 : Int32)).toNatClampNeg) e_1170) wm_L_154 wi_X8_count ws_X8_count wz_X8 wc_X8_count e_X8_count (by decide) hl.1 (Nat.le_of_ble_eq_true rfl) dL_law_1170) (fun H locs hG => ?_)
        refine lv_aload_n hx hb dL_law_1173 rfl (lv_at hl 2 rfl) ?_
        refine lv_aload_n hx hb dL_law_1174 rfl (lv_at hl 0 rfl) ?_
        refine lv_iload_n hx hb dL_law_1175 rfl (lv_at hl 3 rfl) ?_
        refine lv_iconst (v := 1) hx hb dL_law_1176 (by decide) ?_
        refine lv_iadd hx hb dL_law_1177 ?_
        refine va_sld hx hb hX hbl hbA hG.2 hi_1169 dL_law_1178 ?_
        obtain ⟨q1179, e_1179, h⟩ := bd_e h
        refine g_ci hG (g_runV C hG (gR_9 gk_140) (c_X9_count l D cs ad M (xs (x3 + (1 : Int32)).toNatClampNeg) e_1179) wm_L_157 wi_X9_count ws_X9_count wz_X9 wc_X9_count e_X9_count (by decide) hl.1 (Nat.le_of_ble_eq_true rfl) dL_law_1179) (fun H locs hG => ?_)
        refine lv_icmp_eq (tgt := 1200) hx hb dL_law_1182 (by decide) (fun c_1182 => ?_) (fun c_1182 => ?_)
        · have h := if_t c_1182 h
          obtain ⟨x3_1200, e3_1200⟩ : ∃ y : Int32, y = x3 + (6 : Int32) := ⟨_, rfl⟩
          have h := nm_at e3_1200 h
          refine lv_iinc (v := x3_1200) (lv' := [(3, .int x3_1200), (0, .ref b), (1, .ref (ad 0)), (2, .ref (ad 140))]) hx hb dL_law_1200 hl (k := 3) rfl (by rw [e3_1200]; rfl) (by decide) rfl (fun ls hl => ?_)
          refine lv_goto (tgt := 18) hx hb dL_law_1203 (by decide) ?_
          exact hr18 (M, x3_1200) h H locs hG ls (lv_sub hl [1, 2, 3, 0] rfl)
        · have h := if_f c_1182 h
          refine lv_iconst (v := 0) hx hb dL_law_1185 (by decide) ?_
          exact hr (congrArg bi (pf1 (Option.some.inj h))) (pf2 (Option.some.inj h)) hG dL_law_1186
      have h := if_f c_33_34 h
      by_cases c_33_35 : xsw = (35 : Int32)
      · have h := if_t c_33_35 h
        refine g_tsw (tgt := 1187) (off := 1154) hx hb dL_law_33 (by rw [c_33_35]; rfl) (by decide) ?_
        refine lv_aload_n hx hb dL_law_1187 rfl (lv_at hl 1 rfl) ?_
        refine g_ci hG (g_runV C hG (gR_8 gk_0) (c_X8_status l D cs ad M rfl) wm_L_158 wi_X8_status ws_X8_status wz_X8 wc_X8_status e_X8_status (by decide) hl.1 (Nat.le_of_ble_eq_true rfl) dL_law_1188) (fun H locs hG => ?_)
        refine lv_aload_n hx hb dL_law_1191 rfl (lv_at hl 2 rfl) ?_
        refine g_ci hG (g_runV C hG (gR_9 gk_140) (c_X9_status l D cs ad M rfl) wm_L_161 wi_X9_status ws_X9_status wz_X9 wc_X9_status e_X9_status (by decide) hl.1 (Nat.le_of_ble_eq_true rfl) dL_law_1192) (fun H locs hG => ?_)
        refine lv_icmp_eq (tgt := 1200) hx hb dL_law_1195 (by decide) (fun c_1195 => ?_) (fun c_1195 => ?_)
        · have h := if_t c_1195 h
          obtain ⟨x3_1200, e3_1200⟩ : ∃ y : Int32, y = x3 + (6 : Int32) := ⟨_, rfl⟩
          have h := nm_at e3_1200 h
          refine lv_iinc (v := x3_1200) (lv' := [(3, .int x3_1200), (0, .ref b), (1, .ref (ad 0)), (2, .ref (ad 140))]) hx hb dL_law_1200 hl (k := 3) rfl (by rw [e3_1200]; rfl) (by decide) rfl (fun ls hl => ?_)
          refine lv_goto (tgt := 18) hx hb dL_law_1203 (by decide) ?_
          exact hr18 (M, x3_1200) h H locs hG ls (lv_sub hl [1, 2, 3, 0] rfl)
        · have h := if_f c_1195 h
          refine lv_iconst (v := 0) hx hb dL_law_1198 (by decide) ?_
          exact hr (congrArg bi (pf1 (Option.some.inj h))) (pf2 (Option.some.inj h)) hG dL_law_1199
      have h := if_f c_33_35 h
      refine g_tsw (tgt := 1200) (off := 1167) hx hb dL_law_33 ?_ (by decide) ?_
      · have n_0 := i32_ne c_33_0 (j := 0) rfl
        have n_1 := i32_ne c_33_1 (j := 1) rfl
        have n_2 := i32_ne c_33_2 (j := 2) rfl
        have n_3 := i32_ne c_33_3 (j := 3) rfl
        have n_4 := i32_ne c_33_4 (j := 4) rfl
        have n_5 := i32_ne c_33_5 (j := 5) rfl
        have n_6 := i32_ne c_33_6 (j := 6) rfl
        have n_7 := i32_ne c_33_7 (j := 7) rfl
        have n_8 := i32_ne c_33_8 (j := 8) rfl
        have n_9 := i32_ne c_33_9 (j := 9) rfl
        have n_10 := i32_ne c_33_10 (j := 10) rfl
        have n_11 := i32_ne c_33_11 (j := 11) rfl
        have n_12 := i32_ne c_33_12 (j := 12) rfl
        have n_13 := i32_ne c_33_13 (j := 13) rfl
        have n_14 := i32_ne c_33_14 (j := 14) rfl
        have n_15 := i32_ne c_33_15 (j := 15) rfl
        have n_16 := i32_ne c_33_16 (j := 16) rfl
        have n_17 := i32_ne c_33_17 (j := 17) rfl
        have n_18 := i32_ne c_33_18 (j := 18) rfl
        have n_19 := i32_ne c_33_19 (j := 19) rfl
        have n_20 := i32_ne c_33_20 (j := 20) rfl
        have n_21 := i32_ne c_33_21 (j := 21) rfl
        have n_22 := i32_ne c_33_22 (j := 22) rfl
        have n_23 := i32_ne c_33_23 (j := 23) rfl
        have n_24 := i32_ne c_33_24 (j := 24) rfl
        have n_25 := i32_ne c_33_25 (j := 25) rfl
        have n_26 := i32_ne c_33_26 (j := 26) rfl
        have n_27 := i32_ne c_33_27 (j := 27) rfl
        have n_28 := i32_ne c_33_28 (j := 28) rfl
        have n_29 := i32_ne c_33_29 (j := 29) rfl
        have n_30 := i32_ne c_33_30 (j := 30) rfl
        have n_31 := i32_ne c_33_31 (j := 31) rfl
        have n_32 := i32_ne c_33_32 (j := 32) rfl
        have n_33 := i32_ne c_33_33 (j := 33) rfl
        have n_34 := i32_ne c_33_34 (j := 34) rfl
        have n_35 := i32_ne c_33_35 (j := 35) rfl
        rcases (show (xsw).toInt < 0 ∨ 35 < (xsw).toInt by omega) with q | q
        · exact if_pos (Or.inl q)
        · exact if_pos (Or.inr q)
      · obtain ⟨x3_1200, e3_1200⟩ : ∃ y : Int32, y = x3 + (6 : Int32) := ⟨_, rfl⟩
        have h := nm_at e3_1200 h
        refine lv_iinc (v := x3_1200) (lv' := [(3, .int x3_1200), (0, .ref b), (1, .ref (ad 0)), (2, .ref (ad 140))]) hx hb dL_law_1200 hl (k := 3) rfl (by rw [e3_1200]; rfl) (by decide) rfl (fun ls hl => ?_)
        refine lv_goto (tgt := 18) hx hb dL_law_1203 (by decide) ?_
        exact hr18 (M, x3_1200) h H locs hG ls (lv_sub hl [1, 2, 3, 0] rfl)
  exact J_18 _ (M, 0) h
