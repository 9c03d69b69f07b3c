/-! ===== the pure programs, printed by gen/walk.py ===== -/
def f_X0_forgetAll  (S : zS) : Option (zS) :=
  zlet ((upd S.1 20 (0 : Int32), S.2) : zS) fun S_1 =>
  some S_1
def f_X2_storeIn (k1 : Nat) (a2 : Int32) (S : zS) : Option (zS) :=
  zlet (a2 * (4 : Int32)) fun x3_1 =>
  zjoin (fun (S_2 : zS) =>
    some S_2) fun k_3 =>
  if x3_1 < 0 then
    k_3 S
  else
    if ((Int32.ofNat (xlen k1)) - (4 : Int32)) < x3_1 then
      k_3 S
    else
      gd (zin x3_1 (xlen k1)) <|
      zlet ((S.1, S.2.1, zur S.2.2 k1 (upd (S.2.2 k1) (x3_1).toNatClampNeg (S.1 15))) : zS) fun S_5 =>
      gd (zin (x3_1 + (1 : Int32)) (xlen k1)) <|
      zlet ((S_5.1, S_5.2.1, zur S_5.2.2 k1 (upd (S_5.2.2 k1) ((x3_1 + (1 : Int32))).toNatClampNeg (S_5.1 16))) : zS) fun S_7 =>
      gd (zin (x3_1 + (2 : Int32)) (xlen k1)) <|
      zlet ((S_7.1, S_7.2.1, zur S_7.2.2 k1 (upd (S_7.2.2 k1) ((x3_1 + (2 : Int32))).toNatClampNeg (S_7.1 17))) : zS) fun S_9 =>
      gd (zin (x3_1 + (3 : Int32)) (xlen k1)) <|
      zlet ((S_9.1, S_9.2.1, zur S_9.2.2 k1 (upd (S_9.2.2 k1) ((x3_1 + (3 : Int32))).toNatClampNeg (S_9.1 18))) : zS) fun S_11 =>
      k_3 S_11
def f_X0_remember  (S : zS) : Option (zS) :=
  zjoin (fun (S_1 : zS) =>
    (f_X2_storeIn 7 (zrem ((S_1.1 19) + (S_1.1 20)) (14 : Int32)) S_1).bind fun S_4 =>
    zlet ((upd S_4.1 20 ((S_4.1 20) + (1 : Int32)), S_4.2) : zS) fun S_5 =>
    some S_5) fun k_2 =>
  if (S.1 20) < (14 : Int32) then
    k_2 S
  else
    zlet ((upd S.1 19 (zrem ((S.1 19) + (1 : Int32)) (14 : Int32)), S.2) : zS) fun S_6 =>
    zlet ((upd S_6.1 20 ((S_6.1 20) - (1 : Int32)), S_6.2) : zS) fun S_7 =>
    k_2 S_7
def f_X2_fetchFrom (k1 : Nat) (a2 : Int32) (S : zS) : Option (zS) :=
  zlet (a2 * (4 : Int32)) fun x3_1 =>
  zjoin (fun (S_2 : zS) =>
    some S_2) fun k_3 =>
  if x3_1 < 0 then
    k_3 S
  else
    if ((Int32.ofNat (xlen k1)) - (4 : Int32)) < x3_1 then
      k_3 S
    else
      gd (zin x3_1 (xlen k1)) <|
      zlet ((upd S.1 15 (S.2.2 k1 (x3_1).toNatClampNeg), S.2) : zS) fun S_5 =>
      gd (zin (x3_1 + (1 : Int32)) (xlen k1)) <|
      zlet ((upd S_5.1 16 (S_5.2.2 k1 ((x3_1 + (1 : Int32))).toNatClampNeg), S_5.2) : zS) fun S_7 =>
      gd (zin (x3_1 + (2 : Int32)) (xlen k1)) <|
      zlet ((upd S_7.1 17 (S_7.2.2 k1 ((x3_1 + (2 : Int32))).toNatClampNeg), S_7.2) : zS) fun S_9 =>
      gd (zin (x3_1 + (3 : Int32)) (xlen k1)) <|
      zlet ((upd S_9.1 18 (S_9.2.2 k1 ((x3_1 + (3 : Int32))).toNatClampNeg), S_9.2) : zS) fun S_11 =>
      k_3 S_11
def f_X0_takeBack  (S : zS) : Option (zS) :=
  zlet ((upd S.1 20 ((S.1 20) - (1 : Int32)), S.2) : zS) fun S_1 =>
  (f_X2_fetchFrom 7 (zrem ((S_1.1 19) + (S_1.1 20)) (14 : Int32)) S_1).bind fun S_3 =>
  some S_3
def f_X1_layOut (a1 : Int32) (S : zS) : Option (zS) :=
  zlet ((upd S.1 10 a1, S.2) : zS) fun S_1 =>
  zlet ((upd S_1.1 11 (0 : Int32), S_1.2) : zS) fun S_2 =>
  zlet ((upd S_2.1 12 (0 : Int32), S_2.2) : zS) fun S_3 =>
  zlet ((upd S_3.1 13 (0 : Int32), S_3.2) : zS) fun S_4 =>
  zlet ((upd S_4.1 14 (0 : Int32), S_4.2) : zS) fun S_5 =>
  some S_5
def f_X1_addLegger (a1 : Int32) (S : zS) : Option (zS) :=
  zlet ((upd S.1 13 ((S.1 13) ||| (zshl a1 ((2 : Int32) * (S.1 11)))), S.2) : zS) fun S_1 =>
  zlet ((upd S_1.1 11 ((S_1.1 11) + (1 : Int32)), S_1.2) : zS) fun S_2 =>
  some S_2
def f_X1_addBoat (a1 : Int32) (S : zS) : Option (zS) :=
  zlet ((upd S.1 14 ((S.1 14) ||| (zshl a1 ((4 : Int32) * (S.1 12)))), S.2) : zS) fun S_1 =>
  zlet ((upd S_1.1 12 ((S_1.1 12) + (1 : Int32)), S_1.2) : zS) fun S_2 =>
  some S_2
def f_X1_hasLegger (a1 : Int32) (S : zS) : Option (Int32) :=
  zjoin (fun (s_1 : Int32) =>
    gd (zb s_1) <|
    some s_1) fun k_2 =>
  zjoin (fun (_ : Unit) =>
    k_2 (0 : Int32)) fun k_3 =>
  if a1 < 0 then
    k_3 ()
  else
    if (S.1 11) ≤ a1 then
      k_3 ()
    else
      k_2 (1 : Int32)
def f_X1_hasBoat (a1 : Int32) (S : zS) : Option (Int32) :=
  zjoin (fun (s_1 : Int32) =>
    gd (zb s_1) <|
    some s_1) fun k_2 =>
  zjoin (fun (_ : Unit) =>
    k_2 (0 : Int32)) fun k_3 =>
  if a1 < 0 then
    k_3 ()
  else
    if (S.1 12) ≤ a1 then
      k_3 ()
    else
      k_2 (1 : Int32)
def f_X1_allLeggers  (S : zS) : Option (Int32) :=
  some ((zshl (1 : Int32) (S.1 11)) - (1 : Int32))
def f_X1_allBoats  (S : zS) : Option (Int32) :=
  some ((zshl (1 : Int32) (S.1 12)) - (1 : Int32))
def f_X1_kindOf (a1 : Int32) (S : zS) : Option (Int32) :=
  some ((zushr (S.1 13) ((2 : Int32) * a1)) &&& (3 : Int32))
def f_X1_loadOf (a1 : Int32) (S : zS) : Option (Int32) :=
  some ((zushr (S.1 14) ((4 : Int32) * a1)) &&& (15 : Int32))
def f_X2_clear  (S : zS) : Option (zS) :=
  zlet ((upd S.1 15 (0 : Int32), S.2) : zS) fun S_1 =>
  zlet ((upd S_1.1 16 (0 : Int32), S_1.2) : zS) fun S_2 =>
  zlet ((upd S_2.1 17 (0 : Int32), S_2.2) : zS) fun S_3 =>
  zlet ((upd S_3.1 18 (0 : Int32), S_3.2) : zS) fun S_4 =>
  some S_4
def f_X4_groundIn (a0 : Int32) (a1 : Int32) : Option (Int32) :=
  some ((zushr a0 ((2 : Int32) * a1)) &&& (3 : Int32))
def f_X2_groundAt (a1 : Int32) (a2 : Int32) (S : zS) : Option (Int32) :=
  (f_X4_groundIn (zushr (S.1 15) ((8 : Int32) * a1)) a2).bind fun r_2 =>
  some r_2
def f_X2_cover (a1 : Int32) (a2 : Int32) (a3 : Int32) (S : zS) : Option (zS) :=
  zlet (((8 : Int32) * a1) + ((2 : Int32) * a2)) fun x4_1 =>
  zlet ((upd S.1 15 (((S.1 15) &&& ((zshl (3 : Int32) x4_1) ^^^ (-1 : Int32))) ||| (zshl a3 x4_1)), S.2) : zS) fun S_2 =>
  some S_2
def F_X2_wetPlaces_4 (a1 : Int32) (S : zS) (rec_3 : Int32 × Int32 → Option (Int32)) (e_ : Int32 × Int32) : Option (Int32) := match e_ with
  | (x2_1, x3_2) =>
    if (4 : Int32) ≤ x3_2 then
      some x2_1
    else
      (f_X2_groundAt a1 x3_2 S).bind fun r_5 =>
      zjoin (fun (s_6 : Int32) =>
        zlet (x2_1 + s_6) fun x2_8 =>
        rec_3 (x2_8, (x3_2 + (1 : Int32)))) fun k_7 =>
      if r_5 = (2 : Int32) then
        k_7 (1 : Int32)
      else
        k_7 (0 : Int32)
def f_X2_wetPlaces (a1 : Int32) (S : zS) : Option (Int32) :=
  zfix (F_X2_wetPlaces_4 a1 S) zN ((0 : Int32), (0 : Int32))
def f_X3_append (a1 : Int32) (S : zS) : Option (Int32 × zS) :=
  zjoin (fun (_ : Unit) =>
    some ((0 : Int32), S)) fun k_1 =>
  if (S.1 9) < 0 then
    k_1 ()
  else
    if (S.1 9) < (40 : Int32) then
      gd (zin (S.1 9) 40) <|
      zlet ((S.1, S.2.1, zur S.2.2 6 (upd (S.2.2 6) ((S.1 9)).toNatClampNeg a1)) : zS) fun S_3 =>
      zlet ((upd S_3.1 9 ((S_3.1 9) + (1 : Int32)), S_3.2) : zS) fun S_4 =>
      some ((1 : Int32), S_4)
    else
      k_1 ()
def f_X3_letterAt (a1 : Int32) (S : zS) : Option (Int32) :=
  zjoin (fun (s_1 : Int32) =>
    some s_1) fun k_2 =>
  zjoin (fun (_ : Unit) =>
    k_2 (-1 : Int32)) fun k_3 =>
  if a1 < 0 then
    k_3 ()
  else
    if (S.1 9) ≤ a1 then
      k_3 ()
    else
      if (40 : Int32) ≤ a1 then
        k_3 ()
      else
        gd (zin a1 40) <|
        k_2 (S.2.2 6 (a1).toNatClampNeg)
def f_X3_figureAt (a1 : Int32) (S : zS) : Option (Int32) :=
  (f_X3_letterAt a1 S).bind fun r_2 =>
  some (r_2 - (48 : Int32))
def F_X3_firstFault_17 (S : zS) (rec_7 : Int32 × Int32 × Int32 × Int32 × Int32 × Int32 → Option (Int32)) (e_ : Int32 × Int32 × Int32 × Int32 × Int32 × Int32) : Option (Int32) := match e_ with
  | (x1_1, x2_2, x3_3, x4_4, x5_5, x6_6) =>
    if (S.1 9) ≤ x6_6 then
      zjoin (fun (s_8 : Int32) =>
        some s_8) fun k_9 =>
      zjoin (fun (_ : Unit) =>
        k_9 (S.1 9)) fun k_10 =>
      if (S.1 9) = 0 then
        k_10 ()
      else
        if x3_3 ≤ 0 then
          k_9 (-9 : Int32)
        else
          k_10 ()
    else
      (f_X3_letterAt x6_6 S).bind fun r_14 =>
      zjoin (fun (e_ : (Int32 × Int32 × Int32 × Int32 × Int32)) => match e_ with
          | (x1_15, x2_16, x3_17, x4_18, x5_19) =>
            rec_7 (x1_15, x2_16, x3_17, x4_18, x5_19, (x6_6 + (1 : Int32)))) fun k_20 =>
      if x3_3 ≤ 0 then
        zjoin (fun (_ : Unit) =>
          zjoin (fun (_ : Unit) =>
            zjoin (fun (_ : Unit) =>
              some x6_6) fun k_23 =>
            if x6_6 ≤ 0 then
              k_23 ()
            else
              if r_14 = (66 : Int32) then
                if (3 : Int32) ≤ x2_2 then
                  k_23 ()
                else
                  k_20 (x1_1, (x2_2 + (1 : Int32)), (1 : Int32), (48 : Int32), (57 : Int32))
              else
                k_23 ()) fun k_22 =>
          if x6_6 ≤ 0 then
            k_22 ()
          else
            if r_14 = (71 : Int32) then
              if (4 : Int32) ≤ x1_1 then
                k_22 ()
              else
                k_20 ((x1_1 + (1 : Int32)), x2_2, (5 : Int32), (48 : Int32), (51 : Int32))
            else
              k_22 ()) fun k_21 =>
        if x6_6 = 0 then
          if r_14 = (76 : Int32) then
            k_20 (x1_1, x2_2, (1 : Int32), (49 : Int32), (54 : Int32))
          else
            k_21 ()
        else
          k_21 ()
      else
        zjoin (fun (_ : Unit) =>
          some x6_6) fun k_32 =>
        if r_14 < x4_4 then
          k_32 ()
        else
          if r_14 ≤ x5_5 then
            k_20 (x1_1, x2_2, (x3_3 + (-1 : Int32)), x4_4, x5_5)
          else
            k_32 ()
def f_X3_firstFault  (S : zS) : Option (Int32) :=
  zfix (F_X3_firstFault_17 S) zN ((0 : Int32), (0 : Int32), (0 : Int32), (48 : Int32), (48 : Int32), (0 : Int32))
def f_X4_write (a1 : Int32) (S : zS) : Option (Int32 × zS) :=
  zjoin (fun (_ : Unit) =>
    some ((-2 : Int32), S)) fun k_1 =>
  if a1 < 0 then
    k_1 ()
  else
    if a1 ≤ (255 : Int32) then
      (f_X3_append a1 S).bind fun (r_3, S_4) =>
      zjoin (fun (s_5 : Int32) =>
        some (s_5, S_4)) fun k_6 =>
      if r_3 = 0 then
        k_6 (-4 : Int32)
      else
        k_6 (S_4.1 9)
    else
      k_1 ()
def f_X4_wipe  (S : zS) : Option (Int32 × zS) :=
  zlet (S.1 9) fun x1_1 =>
  zlet ((upd S.1 9 (0 : Int32), S.2) : zS) fun S_2 =>
  some (x1_1, S_2)
def f_X4_fault  (S : zS) : Option (Int32) :=
  (f_X3_firstFault  S).bind fun r_2 =>
  some r_2
def F_X4_readTunnel_50 (x1_7 : Int32) (rec_9 : Int32 × zS → Option (zS)) (rec_18 : Int32 × zS → Option (zS)) (e_ : Int32 × zS) : Option (zS) := match e_ with
  | (x2_16, S_17) =>
    if (4 : Int32) ≤ x2_16 then
      (f_X3_figureAt (x1_7 + (1 : Int32)) S_17).bind fun r_20 =>
      (f_X1_addLegger r_20 S_17).bind fun S_22 =>
      rec_9 ((x1_7 + (6 : Int32)), S_22)
    else
      (f_X3_figureAt ((x1_7 + (2 : Int32)) + x2_16) S_17).bind fun r_24 =>
      (f_X2_cover (S_17.1 11) x2_16 r_24 S_17).bind fun S_26 =>
      rec_18 ((x2_16 + (1 : Int32)), S_26)
def F_X4_readTunnel_24 (rec_9 : Int32 × zS → Option (zS)) (e_ : Int32 × zS) : Option (zS) := match e_ with
  | (x1_7, S_8) =>
    if (S_8.1 9) ≤ x1_7 then
      some S_8
    else
      (f_X3_letterAt x1_7 S_8).bind fun r_11 =>
      if r_11 = (71 : Int32) then
        zfix (F_X4_readTunnel_50 x1_7 rec_9) zN ((0 : Int32), S_8)
      else
        (f_X3_figureAt (x1_7 + (1 : Int32)) S_8).bind fun r_13 =>
        (f_X1_addBoat r_13 S_8).bind fun S_15 =>
        rec_9 ((x1_7 + (2 : Int32)), S_15)
def f_X4_readTunnel  (S : zS) : Option (zS) :=
  (f_X3_figureAt (1 : Int32) S).bind fun r_2 =>
  (f_X1_layOut r_2 S).bind fun S_4 =>
  (f_X2_clear  S_4).bind fun S_6 =>
  zfix F_X4_readTunnel_24 zN ((2 : Int32), S_6)
def f_X4_tunnel  (S : zS) : Option (Int32 × zS) :=
  (f_X3_firstFault  S).bind fun r_2 =>
  if r_2 = (-9 : Int32) then
    (f_X4_readTunnel  S).bind fun S_4 =>
    (f_X0_forgetAll  S_4).bind fun S_6 =>
    zlet ((upd S_6.1 6 (0 : Int32), S_6.2) : zS) fun S_7 =>
    some ((((10 : Int32) * (S_7.1 11)) + (S_7.1 12)), S_7)
  else
    some ((-3 : Int32), S)
def f_X4_about (a1 : Int32) (S : zS) : Option (Int32) :=
  if a1 = (0 : Int32) then
    some (S.1 10)
  else
    if a1 = (1 : Int32) then
      some (S.1 11)
    else
      if a1 = (2 : Int32) then
        some (S.1 12)
      else
        if a1 = (3 : Int32) then
          some (S.1 17)
        else
          if a1 = (4 : Int32) then
            some (S.1 18)
          else
            if a1 = (5 : Int32) then
              some (S.1 20)
            else
              if a1 = (6 : Int32) then
                some (S.1 8)
              else
                if a1 = (7 : Int32) then
                  some (S.1 9)
                else
                  some (-2 : Int32)
def f_X4_isPlace (a0 : Int32) : Option (Int32) :=
  zjoin (fun (s_1 : Int32) =>
    gd (zb s_1) <|
    some s_1) fun k_2 =>
  zjoin (fun (_ : Unit) =>
    k_2 (0 : Int32)) fun k_3 =>
  if a0 < 0 then
    k_3 ()
  else
    if (4 : Int32) ≤ a0 then
      k_3 ()
    else
      k_2 (1 : Int32)
def f_X4_timesTired (a0 : Int32) (a1 : Int32) : Option (Int32) :=
  some ((zushr a0 ((2 : Int32) * a1)) &&& (3 : Int32))
def f_X4_legger (a1 : Int32) (a2 : Int32) (S : zS) : Option (Int32) :=
  (f_X1_hasLegger a1 S).bind fun r_2 =>
  if r_2 = 0 then
    some (-1 : Int32)
  else
    (f_X4_isPlace a2).bind fun r_4 =>
    if r_4 = 0 then
      if a2 = (4 : Int32) then
        (f_X1_kindOf a1 S).bind fun r_7 =>
        some r_7
      else
        if a2 = (5 : Int32) then
          (f_X4_timesTired (S.1 16) a1).bind fun r_10 =>
          some r_10
        else
          some (-2 : Int32)
    else
      (f_X2_groundAt a1 a2 S).bind fun r_12 =>
      some r_12
def f_X4_load (a1 : Int32) (S : zS) : Option (Int32) :=
  (f_X1_hasBoat a1 S).bind fun r_2 =>
  zjoin (fun (s_3 : Int32) =>
    some s_3) fun k_4 =>
  if r_2 = 0 then
    k_4 (-1 : Int32)
  else
    (f_X1_loadOf a1 S).bind fun r_6 =>
    k_4 r_6
def f_X4_pairRefusal (a1 : Int32) (a2 : Int32) (a3 : Int32) (S : zS) : Option (Int32) :=
  (f_X1_hasBoat a1 S).bind fun r_2 =>
  zjoin (fun (_ : Unit) =>
    some (-1 : Int32)) fun k_3 =>
  if r_2 = 0 then
    k_3 ()
  else
    (f_X1_hasLegger a2 S).bind fun r_5 =>
    if r_5 = 0 then
      k_3 ()
    else
      (f_X1_hasLegger a3 S).bind fun r_7 =>
      if r_7 = 0 then
        k_3 ()
      else
        zjoin (fun (s_8 : Int32) =>
          some s_8) fun k_9 =>
        if a2 = a3 then
          k_9 (-2 : Int32)
        else
          k_9 (0 : Int32)
def f_X4_isIn (a0 : Int32) (a1 : Int32) : Option (Int32) :=
  zjoin (fun (s_1 : Int32) =>
    gd (zb s_1) <|
    some s_1) fun k_2 =>
  if ((zushr a0 a1) &&& (1 : Int32)) = 0 then
    k_2 (0 : Int32)
  else
    k_2 (1 : Int32)
def f_X4_minutesOver (a0 : Int32) : Option (Int32) :=
  if a0 = (1 : Int32) then
    some (2 : Int32)
  else
    if a0 = (3 : Int32) then
      some (3 : Int32)
    else
      some (1 : Int32)
def f_X4_stepMinutes (a1 : Int32) (a2 : Int32) (a3 : Int32) (a4 : Int32) (S : zS) : Option (Int32) :=
  (f_X4_minutesOver a2).bind fun r_2 =>
  (f_X1_kindOf a1 S).bind fun r_4 =>
  zjoin (fun (x5_5 : Int32) =>
    (f_X4_timesTired a4 a1).bind fun r_8 =>
    some (x5_5 + r_8)) fun k_6 =>
  if r_4 = (1 : Int32) then
    k_6 (r_2 + (1 : Int32))
  else
    if r_4 = (2 : Int32) then
      zlet (if (1 : Int32) < (r_2 - (1 : Int32)) then (r_2 - (1 : Int32)) else (1 : Int32)) fun t_11 =>
      k_6 t_11
    else
      if r_4 = (3 : Int32) then
        zjoin (fun (s_13 : Int32) =>
          zlet (r_2 + s_13) fun x5_15 =>
          k_6 x5_15) fun k_14 =>
        if a3 = ((S.1 10) / (2 : Int32)) then
          k_14 (2 : Int32)
        else
          k_14 (0 : Int32)
      else
        k_6 r_2
def f_X4_placeBehind (a0 : Int32) (a1 : Int32) : Option (Int32) :=
  zjoin (fun (s_1 : Int32) =>
    some (zrem (a0 + s_1) (4 : Int32))) fun k_2 =>
  if a1 = (2 : Int32) then
    k_2 (2 : Int32)
  else
    k_2 (1 : Int32)
def F_X4_pairMinutes_13 (S : zS) (a1 : Int32) (a2 : Int32) (a5 : Int32) (rec_5 : Int32 × Int32 × Int32 × Int32 → Option (Int32)) (e_ : Int32 × Int32 × Int32 × Int32) : Option (Int32) := match e_ with
  | (x6_1, x7_2, x8_3, x9_4) =>
    if (S.1 10) ≤ x9_4 then
      some x6_1
    else
      (f_X2_groundAt a1 x7_2 S).bind fun r_7 =>
      (f_X2_groundAt a2 x8_3 S).bind fun r_9 =>
      (f_X4_stepMinutes a1 r_7 x9_4 a5 S).bind fun r_11 =>
      (f_X4_stepMinutes a2 r_9 x9_4 a5 S).bind fun r_13 =>
      zlet (if r_11 < r_13 then r_13 else r_11) fun t_14 =>
      zlet (x6_1 + t_14) fun x6_15 =>
      zjoin (fun (s_16 : Int32) =>
        zlet (x6_15 + s_16) fun x6_18 =>
        (f_X4_placeBehind x7_2 r_7).bind fun r_20 =>
        (f_X4_placeBehind x8_3 r_9).bind fun r_22 =>
        rec_5 (x6_18, r_20, r_22, (x9_4 + (1 : Int32)))) fun k_17 =>
      if r_7 = r_9 then
        k_17 (0 : Int32)
      else
        k_17 (1 : Int32)
def f_X4_pairMinutes (a1 : Int32) (a2 : Int32) (a3 : Int32) (a4 : Int32) (a5 : Int32) (S : zS) : Option (Int32) :=
  zfix (F_X4_pairMinutes_13 S a1 a2 a5) zN ((0 : Int32), a3, a4, (0 : Int32))
def f_X4_tireOne (a0 : Int32) (a1 : Int32) : Option (Int32) :=
  (f_X4_timesTired a0 a1).bind fun r_2 =>
  zjoin (fun (s_3 : Int32) =>
    some s_3) fun k_4 =>
  if r_2 < (3 : Int32) then
    k_4 (a0 + (zshl (1 : Int32) ((2 : Int32) * a1)))
  else
    k_4 a0
def f_X4_tireBoth (a0 : Int32) (a1 : Int32) (a2 : Int32) : Option (Int32) :=
  (f_X4_tireOne a0 a1).bind fun r_2 =>
  (f_X4_tireOne r_2 a2).bind fun r_4 =>
  some r_4
def f_X4_leg (a1 : Int32) (a2 : Int32) (a3 : Int32) (S : zS) : Option (Int32 × zS) :=
  (f_X4_pairRefusal a1 a2 a3 S).bind fun r_2 =>
  if r_2 = 0 then
    (f_X4_isIn (S.1 17) a1).bind fun r_4 =>
    if r_4 = 0 then
      (f_X0_remember  S).bind fun S_6 =>
      (f_X4_pairMinutes a2 a3 (0 : Int32) (0 : Int32) (S_6.1 16) S_6).bind fun r_8 =>
      (f_X1_loadOf a1 S_6).bind fun r_10 =>
      zlet ((upd S_6.1 18 ((S_6.1 18) + (r_8 + r_10)), S_6.2) : zS) fun S_11 =>
      zlet ((upd S_11.1 17 ((S_11.1 17) ||| (zshl (1 : Int32) a1)), S_11.2) : zS) fun S_12 =>
      (f_X4_tireBoth (S_12.1 16) a2 a3).bind fun r_14 =>
      zlet ((upd S_12.1 16 r_14, S_12.2) : zS) fun S_15 =>
      some ((S_15.1 18), S_15)
    else
      some ((-3 : Int32), S)
  else
    some (r_2, S)
def f_X4_rest (a1 : Int32) (S : zS) : Option (Int32 × zS) :=
  (f_X1_hasLegger a1 S).bind fun r_2 =>
  if r_2 = 0 then
    some ((-1 : Int32), S)
  else
    (f_X4_timesTired (S.1 16) a1).bind fun r_4 =>
    if r_4 = 0 then
      some ((-3 : Int32), S)
    else
      (f_X0_remember  S).bind fun S_6 =>
      zlet ((upd S_6.1 16 ((S_6.1 16) &&& ((zshl (3 : Int32) ((2 : Int32) * a1)) ^^^ (-1 : Int32))), S_6.2) : zS) fun S_7 =>
      zlet ((upd S_7.1 18 ((S_7.1 18) + (5 : Int32)), S_7.2) : zS) fun S_8 =>
      some ((S_8.1 18), S_8)
def f_X4_placeRefusal (a1 : Int32) (a2 : Int32) (S : zS) : Option (Int32) :=
  (f_X1_hasLegger a1 S).bind fun r_2 =>
  if r_2 = 0 then
    some (-1 : Int32)
  else
    (f_X4_isPlace a2).bind fun r_4 =>
    zjoin (fun (s_5 : Int32) =>
      some s_5) fun k_6 =>
    if r_4 = 0 then
      k_6 (-2 : Int32)
    else
      k_6 (0 : Int32)
def f_X4_wet (a1 : Int32) (a2 : Int32) (S : zS) : Option (Int32 × zS) :=
  (f_X4_placeRefusal a1 a2 S).bind fun r_2 =>
  if r_2 = 0 then
    (f_X2_groundAt a1 a2 S).bind fun r_4 =>
    if r_4 = (2 : Int32) then
      some ((-3 : Int32), S)
    else
      (f_X0_remember  S).bind fun S_6 =>
      (f_X2_cover a1 a2 (2 : Int32) S_6).bind fun S_8 =>
      some (r_4, S_8)
  else
    some (r_2, S)
def f_X4_dry (a1 : Int32) (a2 : Int32) (S : zS) : Option (Int32 × zS) :=
  (f_X4_placeRefusal a1 a2 S).bind fun r_2 =>
  if r_2 = 0 then
    (f_X2_groundAt a1 a2 S).bind fun r_4 =>
    if r_4 = (2 : Int32) then
      (f_X0_remember  S).bind fun S_6 =>
      (f_X2_cover a1 a2 (0 : Int32) S_6).bind fun S_8 =>
      (f_X2_wetPlaces a1 S_8).bind fun r_10 =>
      some (r_10, S_8)
    else
      some ((-3 : Int32), S)
  else
    some (r_2, S)
def f_X4_undo  (S : zS) : Option (Int32 × zS) :=
  if (S.1 20) = 0 then
    some ((-3 : Int32), S)
  else
    (f_X0_takeBack  S).bind fun S_2 =>
    some ((S_2.1 20), S_2)
def F_X4_aloneMinutes_8 (S : zS) (a1 : Int32) (rec_4 : Int32 × Int32 × Int32 → Option (Int32)) (e_ : Int32 × Int32 × Int32) : Option (Int32) := match e_ with
  | (x3_1, x4_2, x5_3) =>
    if (S.1 10) ≤ x5_3 then
      some x3_1
    else
      (f_X2_groundAt a1 x4_2 S).bind fun r_6 =>
      (f_X4_stepMinutes a1 r_6 x5_3 (S.1 16) S).bind fun r_8 =>
      zlet (x3_1 + r_8) fun x3_9 =>
      (f_X4_placeBehind x4_2 r_6).bind fun r_11 =>
      rec_4 (x3_9, r_11, (x5_3 + (1 : Int32)))
def f_X4_aloneMinutes (a1 : Int32) (a2 : Int32) (S : zS) : Option (Int32) :=
  zfix (F_X4_aloneMinutes_8 S a1) zN ((0 : Int32), a2, (0 : Int32))
def f_X4_alone (a1 : Int32) (a2 : Int32) (S : zS) : Option (Int32) :=
  (f_X4_placeRefusal a1 a2 S).bind fun r_2 =>
  zjoin (fun (s_3 : Int32) =>
    some s_3) fun k_4 =>
  if r_2 = 0 then
    (f_X4_aloneMinutes a1 a2 S).bind fun r_6 =>
    k_4 r_6
  else
    k_4 r_2
def f_X4_time (a1 : Int32) (a2 : Int32) (a3 : Int32) (a4 : Int32) (a5 : Int32) (S : zS) : Option (Int32) :=
  (f_X4_pairRefusal a1 a2 a3 S).bind fun r_2 =>
  if r_2 = 0 then
    (f_X4_isPlace a4).bind fun r_4 =>
    zjoin (fun (_ : Unit) =>
      some (-2 : Int32)) fun k_5 =>
    if r_4 = 0 then
      k_5 ()
    else
      (f_X4_isPlace a5).bind fun r_7 =>
      if r_7 = 0 then
        k_5 ()
      else
        (f_X4_pairMinutes a2 a3 a4 a5 (S.1 16) S).bind fun r_9 =>
        (f_X1_loadOf a1 S).bind fun r_11 =>
        some (r_9 + r_11)
  else
    some r_2
def F_X4_leastPair_21 (S : zS) (rec_3 : Int32 × Int32 → Option (Int32)) (x3_2 : Int32) (a1 : Int32) (rec_7 : Int32 × Int32 → Option (Int32)) (e_ : Int32 × Int32) : Option (Int32) := match e_ with
  | (x2_5, x4_6) =>
    if (S.1 11) ≤ x4_6 then
      rec_3 (x2_5, (x3_2 + (1 : Int32)))
    else
      (f_X4_isIn a1 x3_2).bind fun r_9 =>
      zjoin (fun (x2_10 : Int32) =>
        rec_7 (x2_10, (x4_6 + (1 : Int32)))) fun k_11 =>
      if r_9 = 0 then
        k_11 x2_5
      else
        (f_X4_isIn a1 x4_6).bind fun r_13 =>
        if r_13 = 0 then
          k_11 x2_5
        else
          (f_X4_pairMinutes x3_2 x4_6 (0 : Int32) (0 : Int32) (S.1 16) S).bind fun r_15 =>
          zlet (((r_15 * (100 : Int32)) + ((10 : Int32) * x3_2)) + x4_6) fun x6_16 =>
          zjoin (fun (s_17 : Int32) =>
            k_11 s_17) fun k_18 =>
          if x2_5 = (-9 : Int32) then
            k_18 x6_16
          else
            zlet (if x6_16 < x2_5 then x6_16 else x2_5) fun t_19 =>
            k_18 t_19
def F_X4_leastPair_5 (S : zS) (a1 : Int32) (rec_3 : Int32 × Int32 → Option (Int32)) (e_ : Int32 × Int32) : Option (Int32) := match e_ with
  | (x2_1, x3_2) =>
    if (S.1 11) ≤ x3_2 then
      some x2_1
    else
      zlet (x3_2 + (1 : Int32)) fun x4_4 =>
      zfix (F_X4_leastPair_21 S rec_3 x3_2 a1) zN (x2_1, x4_4)
def f_X4_leastPair (a1 : Int32) (S : zS) : Option (Int32) :=
  zfix (F_X4_leastPair_5 S a1) zN ((-9 : Int32), (0 : Int32))
def f_X4_best (a1 : Int32) (a2 : Int32) (S : zS) : Option (Int32) :=
  (f_X1_hasBoat a1 S).bind fun r_2 =>
  if r_2 = 0 then
    some (-1 : Int32)
  else
    zjoin (fun (_ : Unit) =>
      (f_X1_allLeggers  S).bind fun r_5 =>
      (f_X4_leastPair r_5 S).bind fun r_7 =>
      if r_7 = (-9 : Int32) then
        some (-9 : Int32)
      else
        zjoin (fun (s_8 : Int32) =>
          some s_8) fun k_9 =>
        if a2 = 0 then
          k_9 (zrem r_7 (100 : Int32))
        else
          (f_X1_loadOf a1 S).bind fun r_11 =>
          k_9 ((r_7 / (100 : Int32)) + r_11)) fun k_3 =>
    if a2 = 0 then
      k_3 ()
    else
      if a2 = (1 : Int32) then
        k_3 ()
      else
        some (-2 : Int32)
def F_X4_leastBegin_16 (rec_3 : Int32 × Int32 → Option (Int32)) (x4_2 : Int32) (a1 : Int32) (a2 : Int32) (S : zS) (rec_6 : Int32 × Int32 → Option (Int32)) (e_ : Int32 × Int32) : Option (Int32) := match e_ with
  | (x3_4, x5_5) =>
    if (4 : Int32) ≤ x5_5 then
      rec_3 (x3_4, (x4_2 + (1 : Int32)))
    else
      (f_X4_pairMinutes a1 a2 x4_2 x5_5 (S.1 16) S).bind fun r_8 =>
      zlet (if (((r_8 * (100 : Int32)) + ((10 : Int32) * x4_2)) + x5_5) < x3_4 then (((r_8 * (100 : Int32)) + ((10 : Int32) * x4_2)) + x5_5) else x3_4) fun t_9 =>
      rec_6 (t_9, (x5_5 + (1 : Int32)))
def F_X4_leastBegin_7 (a1 : Int32) (a2 : Int32) (S : zS) (rec_3 : Int32 × Int32 → Option (Int32)) (e_ : Int32 × Int32) : Option (Int32) := match e_ with
  | (x3_1, x4_2) =>
    if (4 : Int32) ≤ x4_2 then
      some x3_1
    else
      zfix (F_X4_leastBegin_16 rec_3 x4_2 a1 a2 S) zN (x3_1, (0 : Int32))
def f_X4_leastBegin (a1 : Int32) (a2 : Int32) (S : zS) : Option (Int32) :=
  zfix (F_X4_leastBegin_7 a1 a2 S) zN ((100000 : Int32), (0 : Int32))
def f_X4_begin (a1 : Int32) (a2 : Int32) (a3 : Int32) (a4 : Int32) (S : zS) : Option (Int32) :=
  (f_X4_pairRefusal a1 a2 a3 S).bind fun r_2 =>
  if r_2 = 0 then
    zjoin (fun (_ : Unit) =>
      (f_X4_leastBegin a2 a3 S).bind fun r_5 =>
      zjoin (fun (s_6 : Int32) =>
        some s_6) fun k_7 =>
      if a4 = 0 then
        k_7 (zrem r_5 (100 : Int32))
      else
        (f_X1_loadOf a1 S).bind fun r_9 =>
        k_7 ((r_5 / (100 : Int32)) + r_9)) fun k_3 =>
    if a4 = 0 then
      k_3 ()
    else
      if a4 = (1 : Int32) then
        k_3 ()
      else
        some (-2 : Int32)
  else
    some r_2
def F_X4_nextToLeg_2 (S : zS) (rec_2 : Int32 → Option (Int32)) (e_ : Int32) : Option (Int32) := match e_ with
  | x2_1 =>
    zjoin (fun (_ : Unit) =>
      some x2_1) fun k_3 =>
    if (S.1 12) ≤ x2_1 then
      k_3 ()
    else
      (f_X4_isIn (S.1 17) x2_1).bind fun r_5 =>
      if r_5 = 0 then
        k_3 ()
      else
        rec_2 (x2_1 + (1 : Int32))
def f_X4_nextToLeg (a1 : Int32) (S : zS) : Option (Int32) :=
  zfix (F_X4_nextToLeg_2 S) zN a1
def g_X4_leastBehind (S : zS) (rec_ : Int32 × Int32 × Int32 × Int32 × Int64 → Option Int64) (a1 : Int32) (a2 : Int32) (a3 : Int32) (a4 : Int32) (a5 : Int32) (a6 : Int32) (b7 : Int64) : Option (Int64) :=
  (f_X4_pairMinutes a2 a3 (0 : Int32) (0 : Int32) a4 S).bind fun r_2 =>
  (f_X1_loadOf a1 S).bind fun r_4 =>
  zlet ((a5 + r_2) + r_4) fun x9_5 =>
  zlet ((((a6 * (1000 : Int32)) + ((100 : Int32) * a1)) + ((10 : Int32) * a2)) + a3) fun x10_6 =>
  (f_X4_tireBoth a4 a2 a3).bind fun r_8 =>
  (rec_ ((a1 + (1 : Int32)), r_8, x9_5, x10_6, b7)).bind fun r_10 =>
  some r_10
def F_X4_leastLegs_75 (S : zS) (rec_6 : Int64 × Int32 → Option (Int64)) (x12_5 : Int32) (rec_ : Int32 × Int32 × Int32 × Int32 × Int64 → Option (Int64)) (r_3 : Int32) (a2 : Int32) (a3 : Int32) (a4 : Int32) (rec_10 : Int64 × Int32 → Option (Int64)) (e_ : Int64 × Int32) : Option (Int64) := match e_ with
  | (x10_8, x13_9) =>
    if (S.1 11) ≤ x13_9 then
      rec_6 (x10_8, (x12_5 + (1 : Int32)))
    else
      (g_X4_leastBehind S rec_ r_3 x12_5 x13_9 a2 a3 a4 x10_8).bind fun r_12 =>
      rec_10 (r_12, (x13_9 + (1 : Int32)))
def F_X4_leastLegs_57 (S : zS) (rec_ : Int32 × Int32 × Int32 × Int32 × Int64 → Option (Int64)) (r_3 : Int32) (a2 : Int32) (a3 : Int32) (a4 : Int32) (rec_6 : Int64 × Int32 → Option (Int64)) (e_ : Int64 × Int32) : Option (Int64) := match e_ with
  | (x10_4, x12_5) =>
    if (S.1 11) ≤ x12_5 then
      some x10_4
    else
      zlet (x12_5 + (1 : Int32)) fun x13_7 =>
      zfix (F_X4_leastLegs_75 S rec_6 x12_5 rec_ r_3 a2 a3 a4) zN (x10_4, x13_7)
def F_X4_leastLegs (S : zS) (rec_ : Int32 × Int32 × Int32 × Int32 × Int64 → Option Int64) (e_ : Int32 × Int32 × Int32 × Int32 × Int64) : Option (Int64) := match e_ with
  | (a1, a2, a3, a4, b5) =>
    zlet (a3.toInt64 * (1000000000 : Int64)) fun x7_1 =>
    if (lg_cmp x7_1 b5) < 0 then
      (f_X4_nextToLeg a1 S).bind fun r_3 =>
      if r_3 < (S.1 12) then
        zfix (F_X4_leastLegs_57 S rec_ r_3 a2 a3 a4) zN (b5, (0 : Int32))
      else
        zlet (if (x7_1 + a4.toInt64) < b5 then (x7_1 + a4.toInt64) else b5) fun t_15 =>
        some t_15
    else
      some b5
def f_X4_soonestLegs  (S : zS) : Option (Int64) :=
  (f_X1_allBoats  S).bind fun r_2 =>
  zlet (r_2 &&& ((S.1 17) ^^^ (-1 : Int32))) fun x1_3 =>
  zjoin (fun (_ : Unit) =>
    (zfix (F_X4_leastLegs S) 8 ((0 : Int32), (S.1 16), (0 : Int32), (0 : Int32), (1000000000000 : Int64))).bind fun r_6 =>
    some r_6) fun k_4 =>
  if x1_3 = 0 then
    k_4 ()
  else
    if (2 : Int32) ≤ (S.1 11) then
      k_4 ()
    else
      some (-9 : Int64)
def f_X4_soonest (a1 : Int32) (S : zS) : Option (Int32) :=
  (f_X4_soonestLegs  S).bind fun r_2 =>
  if (lg_cmp r_2 (-9 : Int64)) = 0 then
    some (-9 : Int32)
  else
    zjoin (fun (s_3 : Int64) =>
      some s_3.toInt32) fun k_4 =>
    if a1 = 0 then
      k_4 (r_2 / (1000000000 : Int64))
    else
      k_4 (zremL r_2 (1000000000 : Int64))
def F_X4_legTold_4 (a1 : Int32) (rec_3 : Int32 × Int32 → Option (Int32)) (e_ : Int32 × Int32) : Option (Int32) := match e_ with
  | (x2_1, x3_2) =>
    if a1 ≤ x3_2 then
      some x2_1
    else
      zlet (x2_1 / (1000 : Int32)) fun x2_4 =>
      rec_3 (x2_4, (x3_2 + (1 : Int32)))
def f_X4_legTold (a0 : Int32) (a1 : Int32) : Option (Int32) :=
  zfix (F_X4_legTold_4 a1) zN (a0, (0 : Int32))
def F_X4_judge_36 (a1 : Int32) (a2 : Int32) (S : zS) (rec_7 : Int32 × Int32 → Option (Int32)) (e_ : Int32 × Int32) : Option (Int32) := match e_ with
  | (x3_5, x4_6) =>
    if a1 ≤ x4_6 then
      some (-9 : Int32)
    else
      (f_X4_legTold a2 ((a1 - (1 : Int32)) - x4_6)).bind fun r_9 =>
      zlet (zrem r_9 (1000 : Int32)) fun x5_10 =>
      zlet (x5_10 / (100 : Int32)) fun x6_11 =>
      (f_X4_pairRefusal x6_11 (zrem (x5_10 / (10 : Int32)) (10 : Int32)) (zrem x5_10 (10 : Int32)) S).bind fun r_13 =>
      zjoin (fun (_ : Unit) =>
        some x4_6) fun k_14 =>
      if r_13 = 0 then
        (f_X4_isIn x3_5 x6_11).bind fun r_16 =>
        if r_16 = 0 then
          zlet (x3_5 ||| (zshl (1 : Int32) x6_11)) fun x3_17 =>
          rec_7 (x3_17, (x4_6 + (1 : Int32)))
        else
          k_14 ()
      else
        k_14 ()
def f_X4_judge (a1 : Int32) (a2 : Int32) (S : zS) : Option (Int32) :=
  zjoin (fun (_ : Unit) =>
    some (-2 : Int32)) fun k_1 =>
  if a1 < (1 : Int32) then
    k_1 ()
  else
    if (3 : Int32) < a1 then
      k_1 ()
    else
      if a2 < 0 then
        k_1 ()
      else
        (f_X4_legTold a2 a1).bind fun r_3 =>
        if r_3 = 0 then
          zlet (S.1 17) fun x3_4 =>
          zfix (F_X4_judge_36 a1 a2 S) zN (x3_4, (0 : Int32))
        else
          k_1 ()
def f_X4_worth (a1 : Int32) (a2 : Int32) (S : zS) : Option (Int32) :=
  (f_X4_leastPair a2 S).bind fun r_2 =>
  zjoin (fun (s_3 : Int32) =>
    some s_3) fun k_4 =>
  if r_2 = (-9 : Int32) then
    k_4 (0 : Int32)
  else
    (f_X1_loadOf a1 S).bind fun r_6 =>
    k_4 (((200 : Int32) - (r_2 / (100 : Int32))) - r_6)
def f_J6_bitCount_0f7a4 (a0 : Int32) : Option (Int32) :=
  zlet (a0 - ((zushr a0 (1 : Int32)) &&& (1431655765 : Int32))) fun x0_1 =>
  zlet ((x0_1 &&& (858993459 : Int32)) + ((zushr x0_1 (2 : Int32)) &&& (858993459 : Int32))) fun x0_2 =>
  zlet ((x0_2 + (zushr x0_2 (4 : Int32))) &&& (252645135 : Int32)) fun x0_3 =>
  zlet (x0_3 + (zushr x0_3 (8 : Int32))) fun x0_4 =>
  zlet (x0_4 + (zushr x0_4 (16 : Int32))) fun x0_5 =>
  some (x0_5 &&& (63 : Int32))
def F_X4_factorial_4 (a0 : Int32) (rec_3 : Int32 × Int32 → Option (Int32)) (e_ : Int32 × Int32) : Option (Int32) := match e_ with
  | (x1_1, x2_2) =>
    if a0 < x2_2 then
      some x1_1
    else
      zlet (x1_1 * x2_2) fun x1_4 =>
      rec_3 (x1_4, (x2_2 + (1 : Int32)))
def f_X4_factorial (a0 : Int32) : Option (Int32) :=
  zfix (F_X4_factorial_4 a0) zN ((1 : Int32), (2 : Int32))
def f_X4_ordersBehind (a1 : Int32) (S : zS) : Option (Int32) :=
  (f_X4_factorial a1).bind fun r_2 =>
  (f_X4_factorial (((S.1 11) - (1 : Int32)) - a1)).bind fun r_4 =>
  some (r_2 * r_4)
def F_X4_fraction_8 (a2 : Int32) (a1 : Int32) (a0 : Int32) (rec_4 : Int32 × Int32 × Int32 → Option (Int32)) (e_ : Int32 × Int32 × Int32) : Option (Int32) := match e_ with
  | (x3_1, x4_2, x5_3) =>
    zjoin (fun (_ : Unit) =>
      zjoin (fun (s_6 : Int32) =>
        zjoin (fun (s_8 : Int32) =>
          some s_8) fun k_9 =>
        if x3_1 = 0 then
          k_9 s_6
        else
          gd (¬ x3_1 = 0) <|
          k_9 (s_6 / x3_1)) fun k_7 =>
      if a2 = 0 then
        k_7 a1
      else
        k_7 a0) fun k_5 =>
    if (100 : Int32) ≤ x5_3 then
      k_5 ()
    else
      if x4_2 = 0 then
        k_5 ()
      else
        gd (¬ x4_2 = 0) <|
        zlet (zrem x3_1 x4_2) fun x6_14 =>
        rec_4 (x4_2, x6_14, (x5_3 + (1 : Int32)))
def f_X4_fraction (a0 : Int32) (a1 : Int32) (a2 : Int32) : Option (Int32) :=
  zfix (F_X4_fraction_8 a2 a1 a0) zN (a1, a0, (0 : Int32))
def F_X4_share_30 (S : zS) (a3 : Int32) (a1 : Int32) (a2 : Int32) (rec_8 : Int32 × Int32 → Option (Int32)) (e_ : Int32 × Int32) : Option (Int32) := match e_ with
  | (x4_6, x5_7) =>
    (f_X1_allLeggers  S).bind fun r_10 =>
    if r_10 < x5_7 then
      (f_X4_factorial (S.1 11)).bind fun r_12 =>
      (f_X4_fraction x4_6 r_12 a3).bind fun r_14 =>
      some r_14
    else
      (f_X4_isIn x5_7 a1).bind fun r_16 =>
      zjoin (fun (x4_17 : Int32) =>
        rec_8 (x4_17, (x5_7 + (1 : Int32)))) fun k_18 =>
      if r_16 = 0 then
        (f_X4_worth a2 (x5_7 ||| (zshl (1 : Int32) a1)) S).bind fun r_20 =>
        (f_X4_worth a2 x5_7 S).bind fun r_22 =>
        zlet (r_20 - r_22) fun x6_23 =>
        (f_J6_bitCount_0f7a4 x5_7).bind fun r_25 =>
        (f_X4_ordersBehind r_25 S).bind fun r_27 =>
        zlet (x4_6 + (x6_23 * r_27)) fun x4_28 =>
        k_18 x4_28
      else
        k_18 x4_6
def f_X4_share (a1 : Int32) (a2 : Int32) (a3 : Int32) (S : zS) : Option (Int32) :=
  (f_X1_hasLegger a1 S).bind fun r_2 =>
  zjoin (fun (_ : Unit) =>
    some (-1 : Int32)) fun k_3 =>
  if r_2 = 0 then
    k_3 ()
  else
    (f_X1_hasBoat a2 S).bind fun r_5 =>
    if r_5 = 0 then
      k_3 ()
    else
      zfix (F_X4_share_30 S a3 a1 a2) zN ((0 : Int32), (0 : Int32))
def f_X4_see (a1 : Int32) (a2 : Int32) (S : zS) : Option (Int32 × zS) :=
  zjoin (fun (_ : Unit) =>
    some ((-2 : Int32), S)) fun k_1 =>
  if a1 < 0 then
    k_1 ()
  else
    if (6 : Int32) ≤ a1 then
      k_1 ()
    else
      if a2 < (1 : Int32) then
        k_1 ()
      else
        if a2 ≤ (3 : Int32) then
          if (S.1 8) < (6 : Int32) then
            zlet ((upd S.1 7 ((S.1 7) ||| (zshl (1 : Int32) (((4 : Int32) * a1) + a2))), S.2) : zS) fun S_2 =>
            zlet ((upd S_2.1 8 ((S_2.1 8) + (1 : Int32)), S_2.2) : zS) fun S_3 =>
            some ((S_3.1 8), S_3)
          else
            some ((-4 : Int32), S)
        else
          k_1 ()
def f_X4_unsee  (S : zS) : Option (Int32 × zS) :=
  zlet (S.1 8) fun x1_1 =>
  zlet ((upd S.1 8 (0 : Int32), S.2) : zS) fun S_2 =>
  zlet ((upd S_2.1 7 (0 : Int32), S_2.2) : zS) fun S_3 =>
  some (x1_1, S_3)
def F_X4_isAsSeen_4 (a1 : Int32) (S : zS) (rec_3 : Int32 × Int32 → Option (Int32)) (e_ : Int32 × Int32) : Option (Int32) := match e_ with
  | (x2_1, x3_2) =>
    if (6 : Int32) ≤ x3_2 then
      some (1 : Int32)
    else
      (f_X4_groundIn a1 x2_1).bind fun r_5 =>
      zlet ((zushr (S.1 7) ((4 : Int32) * x3_2)) &&& (15 : Int32)) fun x5_6 =>
      (f_X4_minutesOver r_5).bind fun r_8 =>
      if (x5_6 &&& ((zshl (1 : Int32) r_8) ^^^ (-1 : Int32))) = 0 then
        (f_X4_placeBehind x2_1 r_5).bind fun r_10 =>
        rec_3 (r_10, (x3_2 + (1 : Int32)))
      else
        some (0 : Int32)
def f_X4_isAsSeen (a1 : Int32) (S : zS) : Option (Int32) :=
  zfix (F_X4_isAsSeen_4 a1 S) zN ((0 : Int32), (0 : Int32))
def F_X4_lives_22 (a1 : Int32) (S : zS) (rec_5 : Int32 × Int32 × Int32 → Option (Int32)) (e_ : Int32 × Int32 × Int32) : Option (Int32) := match e_ with
  | (x2_2, x3_3, x4_4) =>
    if (256 : Int32) ≤ x4_4 then
      zjoin (fun (s_6 : Int32) =>
        some s_6) fun k_7 =>
      if 0 ≤ a1 then
        k_7 x3_3
      else
        k_7 x2_2
    else
      (f_X4_isAsSeen x4_4 S).bind fun r_10 =>
      zjoin (fun (e_ : (Int32 × Int32)) => match e_ with
          | (x2_11, x3_12) =>
            rec_5 (x2_11, x3_12, (x4_4 + (1 : Int32)))) fun k_13 =>
      if r_10 = 0 then
        k_13 (x2_2, x3_3)
      else
        zjoin (fun (s_14 : Int32) =>
          zlet (x3_3 ||| s_14) fun x3_16 =>
          k_13 ((x2_2 + (1 : Int32)), x3_16)) fun k_15 =>
        if 0 ≤ a1 then
          (f_X4_groundIn x4_4 a1).bind fun r_18 =>
          k_15 (zshl (1 : Int32) r_18)
        else
          k_15 (0 : Int32)
def f_X4_lives (a1 : Int32) (S : zS) : Option (Int32) :=
  zjoin (fun (_ : Unit) =>
    zfix (F_X4_lives_22 a1 S) zN ((0 : Int32), (0 : Int32), (0 : Int32))) fun k_1 =>
  if a1 = (-1 : Int32) then
    k_1 ()
  else
    (f_X4_isPlace a1).bind fun r_23 =>
    if r_23 = 0 then
      some (-2 : Int32)
    else
      k_1 ()
def f_X4_loss (a0 : Int32) (a1 : Int32) (a2 : Int32) : Option (Int32) :=
  if a1 = a2 then
    some ((6 : Int32) + a0)
  else
    zjoin (fun (s_1 : Int32) =>
      some s_1) fun k_2 =>
    if a1 ≤ a2 then
      k_2 a1
    else
      k_2 (a0 + a1)
def F_X4_staysWith_2 (a0 : Int32) (a2 : Int32) (a1 : Int32) (rec_2 : Int32 → Option (Int32)) (e_ : Int32) : Option (Int32) := match e_ with
  | x3_1 =>
    if (3 : Int32) < x3_1 then
      some (1 : Int32)
    else
      (f_X4_loss a0 x3_1 a2).bind fun r_4 =>
      (f_X4_loss a0 a1 a2).bind fun r_6 =>
      if r_6 ≤ r_4 then
        rec_2 (x3_1 + (1 : Int32))
      else
        some (0 : Int32)
def f_X4_staysWith (a0 : Int32) (a1 : Int32) (a2 : Int32) : Option (Int32) :=
  zfix (F_X4_staysWith_2 a0 a2 a1) zN (0 : Int32)
def F_X4_rests_60 (rec_11 : Int32 × Int32 × Int32 → Option (Int32)) (x6_10 : Int32) (a1 : Int32) (S : zS) (a2 : Int32) (rec_18 : Int32 × Int32 × Int32 → Option (Int32)) (e_ : Int32 × Int32 × Int32) : Option (Int32) := match e_ with
  | (x4_15, x5_16, x7_17) =>
    if (3 : Int32) < x7_17 then
      rec_11 (x4_15, x5_16, (x6_10 + (1 : Int32)))
    else
      (f_X1_loadOf a1 S).bind fun r_20 =>
      (f_X4_staysWith r_20 x6_10 x7_17).bind fun r_22 =>
      zjoin (fun (e_ : (Int32 × Int32)) => match e_ with
          | (x4_23, x5_24) =>
            rec_18 (x4_23, x5_24, (x7_17 + (1 : Int32)))) fun k_25 =>
      if r_22 = 0 then
        k_25 (x4_15, x5_16)
      else
        (f_X1_loadOf a2 S).bind fun r_27 =>
        (f_X4_staysWith r_27 x7_17 x6_10).bind fun r_29 =>
        if r_29 = 0 then
          k_25 (x4_15, x5_16)
        else
          zjoin (fun (s_30 : Int32) =>
            k_25 ((x4_15 + (1 : Int32)), s_30)) fun k_31 =>
          if x4_15 = 0 then
            k_31 (((10 : Int32) * x6_10) + x7_17)
          else
            k_31 x5_16
def F_X4_rests_51 (a3 : Int32) (a1 : Int32) (S : zS) (a2 : Int32) (rec_11 : Int32 × Int32 × Int32 → Option (Int32)) (e_ : Int32 × Int32 × Int32) : Option (Int32) := match e_ with
  | (x4_8, x5_9, x6_10) =>
    if (3 : Int32) < x6_10 then
      zjoin (fun (s_12 : Int32) =>
        some s_12) fun k_13 =>
      if a3 = 0 then
        k_13 x4_8
      else
        k_13 x5_9
    else
      zfix (F_X4_rests_60 rec_11 x6_10 a1 S a2) zN (x4_8, x5_9, (0 : Int32))
def f_X4_rests (a1 : Int32) (a2 : Int32) (a3 : Int32) (S : zS) : Option (Int32) :=
  (f_X1_hasBoat a1 S).bind fun r_2 =>
  zjoin (fun (_ : Unit) =>
    some (-1 : Int32)) fun k_3 =>
  if r_2 = 0 then
    k_3 ()
  else
    (f_X1_hasBoat a2 S).bind fun r_5 =>
    if r_5 = 0 then
      k_3 ()
    else
      zjoin (fun (_ : Unit) =>
        some (-2 : Int32)) fun k_6 =>
      if a1 = a2 then
        k_6 ()
      else
        zjoin (fun (_ : Unit) =>
          zfix (F_X4_rests_51 a3 a1 S a2) zN ((0 : Int32), (-9 : Int32), (0 : Int32))) fun k_7 =>
        if a3 = 0 then
          k_7 ()
        else
          if a3 = (1 : Int32) then
            k_7 ()
          else
            k_6 ()
def F_X4_waysInTime_12 (S : zS) (a3 : Int32) (a1 : Int32) (a2 : Int32) (a4 : Int32) (rec_5 : Int32 × Int32 × Int32 × Int32 → Option (Int32)) (e_ : Int32 × Int32 × Int32 × Int32) : Option (Int32) := match e_ with
  | (x5_1, x6_2, x7_3, x8_4) =>
    if (S.1 10) ≤ x8_4 then
      zjoin (fun (s_6 : Int32) =>
        some s_6) fun k_7 =>
      if a3 < x6_2 then
        k_7 (0 : Int32)
      else
        k_7 x5_1
    else
      (f_X2_groundAt a1 x7_3 S).bind fun r_10 =>
      zjoin (fun (s_11 : Int32) =>
        (f_X4_isIn a2 x8_4).bind fun r_14 =>
        zjoin (fun (s_15 : Int32) =>
          zlet (x5_1 * s_15) fun x5_17 =>
          (f_X4_stepMinutes a1 r_10 x8_4 (S.1 16) S).bind fun r_19 =>
          zlet (x6_2 + r_19) fun x6_20 =>
          zjoin (fun (s_21 : Int32) =>
            (f_X4_placeBehind x7_3 s_21).bind fun r_24 =>
            rec_5 (x5_17, x6_20, r_24, (x8_4 + (1 : Int32)))) fun k_22 =>
          if r_14 = 0 then
            k_22 (0 : Int32)
          else
            k_22 (2 : Int32)) fun k_16 =>
        if r_14 = 0 then
          k_16 ((10 : Int32) - s_11)
        else
          k_16 s_11) fun k_12 =>
      if r_10 = (2 : Int32) then
        k_12 (10 : Int32)
      else
        k_12 a4
def f_X4_waysInTime (a1 : Int32) (a2 : Int32) (a3 : Int32) (a4 : Int32) (S : zS) : Option (Int32) :=
  zfix (F_X4_waysInTime_12 S a3 a1 a2 a4) zN ((1 : Int32), (0 : Int32), (0 : Int32), (0 : Int32))
def F_X4_chance_73 (S : zS) (x5_4 : Int32) (a4 : Int32) (a1 : Int32) (a2 : Int32) (a3 : Int32) (rec_9 : Int32 × Int32 → Option (Int32)) (e_ : Int32 × Int32) : Option (Int32) := match e_ with
  | (x6_7, x7_8) =>
    if (zshl (1 : Int32) (S.1 10)) ≤ x7_8 then
      (f_X4_fraction x6_7 x5_4 a4).bind fun r_11 =>
      some r_11
    else
      (f_X4_waysInTime a1 x7_8 a2 a3 S).bind fun r_13 =>
      zlet (x6_7 + r_13) fun x6_14 =>
      rec_9 (x6_14, (x7_8 + (1 : Int32)))
def F_X4_chance_42 (S : zS) (a4 : Int32) (a1 : Int32) (a2 : Int32) (a3 : Int32) (rec_6 : Int32 × Int32 → Option (Int32)) (e_ : Int32 × Int32) : Option (Int32) := match e_ with
  | (x5_4, x6_5) =>
    if (S.1 10) ≤ x6_5 then
      zfix (F_X4_chance_73 S x5_4 a4 a1 a2 a3) zN ((0 : Int32), (0 : Int32))
    else
      zlet (x5_4 * (10 : Int32)) fun x5_16 =>
      rec_6 (x5_16, (x6_5 + (1 : Int32)))
def f_X4_chance (a1 : Int32) (a2 : Int32) (a3 : Int32) (a4 : Int32) (S : zS) : Option (Int32) :=
  (f_X1_hasLegger a1 S).bind fun r_2 =>
  if r_2 = 0 then
    some (-1 : Int32)
  else
    zjoin (fun (_ : Unit) =>
      some (-2 : Int32)) fun k_3 =>
    if a2 < 0 then
      k_3 ()
    else
      if (60 : Int32) < a2 then
        k_3 ()
      else
        if a3 < 0 then
          k_3 ()
        else
          if a3 ≤ (10 : Int32) then
            zfix (F_X4_chance_42 S a4 a1 a2 a3) zN ((1 : Int32), (0 : Int32))
          else
            k_3 ()
def f_X4_seed (b1 : Int64) (S : zS) : Option (Int64 × zS) :=
  zlet S.2.1 fun x3_1 =>
  zlet ((S.1, b1, S.2.2) : zS) fun S_2 =>
  some (x3_1, S_2)
def F_X4_legAll_32 (r_3 : Int64) (rec_8 : Int32 × Int32 × zS → Option (zS)) (e_ : Int32 × Int32 × zS) : Option (zS) := match e_ with
  | (x3_5, x4_6, S_7) =>
    if (S_7.1 12) ≤ x4_6 then
      zlet ((upd S_7.1 18 ((S_7.1 18) + ((r_3 / (1000000000 : Int64))).toInt32), S_7.2) : zS) fun S_9 =>
      some S_9
    else
      (f_X4_tireBoth (S_7.1 16) (zrem (x3_5 / (10 : Int32)) (10 : Int32)) (zrem x3_5 (10 : Int32))).bind fun r_11 =>
      zlet ((upd S_7.1 16 r_11, S_7.2) : zS) fun S_12 =>
      zlet (x3_5 / (1000 : Int32)) fun x3_13 =>
      rec_8 (x3_13, (x4_6 + (1 : Int32)), S_12)
def f_X4_legAll  (S : zS) : Option (zS) :=
  zlet ((upd S.1 17 (0 : Int32), S.2) : zS) fun S_1 =>
  (f_X4_soonestLegs  S_1).bind fun r_3 =>
  if (lg_cmp r_3 (-9 : Int64)) = 0 then
    some S_1
  else
    zlet ((zremL r_3 (1000000000 : Int64))).toInt32 fun x3_4 =>
    zfix (F_X4_legAll_32 r_3) zN (x3_4, (0 : Int32), S_1)
def F_X4_days_36 (a1 : Int32) (x2_4 : Int32) (rec_7 : Int32 × zS → Option (Int32 × zS)) (e_ : Int32 × zS) : Option (Int32 × zS) := match e_ with
  | (x3_5, S_6) =>
    if a1 ≤ x3_5 then
      zlet ((S_6.1 18) - x2_4) fun x3_8 =>
      (f_X2_fetchFrom 5 (0 : Int32) S_6).bind fun S_10 =>
      some (x3_8, S_10)
    else
      zlet ((S_6.1, ((S_6.2.1 * (6364136223846793005 : Int64)) + (1442695040888963407 : Int64)), S_6.2.2) : zS) fun S_11 =>
      zlet ((zremL (zushrL S_11.2.1 (33 : Int32)) (20 : Int64))).toInt32 fun x4_12 =>
      zlet (x4_12 / (4 : Int32)) fun x5_13 =>
      zlet (zrem x4_12 (4 : Int32)) fun x6_14 =>
      (f_X4_isPlace x5_13).bind fun r_16 =>
      zjoin (fun (S_17 : zS) =>
        rec_7 ((x3_5 + (1 : Int32)), S_17)) fun k_18 =>
      if r_16 = 0 then
        (f_X4_legAll  S_11).bind fun S_25 =>
        k_18 S_25
      else
        (f_X1_hasLegger x6_14 S_11).bind fun r_20 =>
        if r_20 = 0 then
          k_18 S_11
        else
          (f_X2_cover x6_14 x5_13 (2 : Int32) S_11).bind fun S_22 =>
          k_18 S_22
def f_X4_days (a1 : Int32) (S : zS) : Option (Int32 × zS) :=
  zjoin (fun (_ : Unit) =>
    some ((-2 : Int32), S)) fun k_1 =>
  if a1 < (1 : Int32) then
    k_1 ()
  else
    if a1 ≤ (30 : Int32) then
      (f_X2_storeIn 5 (0 : Int32) S).bind fun S_3 =>
      zlet (S_3.1 18) fun x2_4 =>
      zfix (F_X4_days_36 a1 x2_4) zN ((0 : Int32), S_3)
    else
      k_1 ()
def f_X4_keep (a1 : Int32) (S : zS) : Option (Int32 × zS) :=
  zjoin (fun (_ : Unit) =>
    some ((-1 : Int32), S)) fun k_1 =>
  if a1 < 0 then
    k_1 ()
  else
    if a1 < (2 : Int32) then
      (f_X2_storeIn 4 a1 S).bind fun S_3 =>
      zlet ((upd S_3.1 6 ((S_3.1 6) ||| (zshl (1 : Int32) a1)), S_3.2) : zS) fun S_4 =>
      some ((S_4.1 18), S_4)
    else
      k_1 ()
def f_X4_again (a1 : Int32) (S : zS) : Option (Int32 × zS) :=
  zjoin (fun (_ : Unit) =>
    some ((-1 : Int32), S)) fun k_1 =>
  if a1 < 0 then
    k_1 ()
  else
    if a1 < (2 : Int32) then
      (f_X4_isIn (S.1 6) a1).bind fun r_3 =>
      if r_3 = 0 then
        some ((-3 : Int32), S)
      else
        (f_X2_fetchFrom 4 a1 S).bind fun S_5 =>
        (f_X0_forgetAll  S_5).bind fun S_7 =>
        some ((S_7.1 18), S_7)
    else
      k_1 ()
