/-! ===== the pure programs, printed by gen/walk.py ===== -/
def f_X5_in (b0 : Int64) (b2 : Int64) (b4 : Int64) : Option (Int32) :=
  zjoin (fun (s_1 : Int32) =>
    gd (zb s_1) <|
    some s_1) fun k_2 =>
  zjoin (fun (_ : Unit) =>
    k_2 (0 : Int32)) fun k_3 =>
  if (lg_cmp b0 b2) < 0 then
    k_3 ()
  else
    if 0 < (lg_cmp b0 b4) then
      k_3 ()
    else
      k_2 (1 : Int32)
def f_X5_has (a0 : Int32) (a1 : Int32) : Option (Int32) :=
  zjoin (fun (s_1 : Int32) =>
    gd (zb s_1) <|
    some s_1) fun k_2 =>
  if ((zshr a0 a1) &&& (1 : Int32)) = (1 : Int32) then
    k_2 (1 : Int32)
  else
    k_2 (0 : Int32)
def F_X5_many_4 (a0 : Int32) (rec_3 : Int32 × Int32 → Option (Int32)) (e_ : Int32 × Int32) : Option (Int32) := match e_ with
  | (x1_1, x2_2) =>
    if (8 : Int32) ≤ x2_2 then
      some x1_1
    else
      zlet (x1_1 + ((zshr a0 x2_2) &&& (1 : Int32))) fun x1_4 =>
      rec_3 (x1_4, (x2_2 + (1 : Int32)))
def f_X5_many (a0 : Int32) : Option (Int32) :=
  zfix (F_X5_many_4 a0) zN ((0 : Int32), (0 : Int32))
def f_X5_noLegger (a1 : Int32) (S : zS) : Option (Int32) :=
  (f_X5_in a1.toInt64 (0 : Int64) (((S.1 5) - (1 : Int32))).toInt64).bind fun r_2 =>
  zjoin (fun (s_3 : Int32) =>
    gd (zb s_3) <|
    some s_3) fun k_4 =>
  if r_2 = 0 then
    k_4 (1 : Int32)
  else
    k_4 (0 : Int32)
def f_X5_noBoat (a1 : Int32) (S : zS) : Option (Int32) :=
  (f_X5_in a1.toInt64 (0 : Int64) (((S.1 7) - (1 : Int32))).toInt64).bind fun r_2 =>
  zjoin (fun (s_3 : Int32) =>
    gd (zb s_3) <|
    some s_3) fun k_4 =>
  if r_2 = 0 then
    k_4 (1 : Int32)
  else
    k_4 (0 : Int32)
def f_X5_write (a1 : Int32) (S : zS) : Option (Int32 × zS) :=
  zlet ((upd S.1 0 (0 : Int32), S.2) : zS) fun S_1 =>
  (f_X5_in a1.toInt64 (0 : Int64) (255 : Int64)).bind fun r_3 =>
  if r_3 = 0 then
    some ((-2 : Int32), S_1)
  else
    if (S_1.1 2) = (40 : Int32) then
      some ((-4 : Int32), S_1)
    else
      gd (zin (S_1.1 2) 40) <|
      zlet ((S_1.1, S_1.2.1, zur S_1.2.2 1 (upd (S_1.2.2 1) ((S_1.1 2)).toNatClampNeg a1)) : zS) fun S_5 =>
      zlet ((upd S_5.1 2 ((S_5.1 2) + (1 : Int32)), S_5.2) : zS) fun S_6 =>
      some ((S_6.1 2), S_6)
def f_X5_wipe  (S : zS) : Option (Int32 × zS) :=
  zlet ((upd S.1 0 (0 : Int32), S.2) : zS) fun S_1 =>
  zlet (S_1.1 2) fun x1_2 =>
  zlet ((upd S_1.1 2 (0 : Int32), S_1.2) : zS) fun S_3 =>
  some (x1_2, S_3)
def f_X5_figure (a1 : Int32) (a2 : Int32) (S : zS) : Option (Int32 × zS) :=
  zjoin (fun (_ : Unit) =>
    some ((-9 : Int32), S)) fun k_1 =>
  if (S.1 3) = (S.1 2) then
    k_1 ()
  else
    gd (zin (S.1 3) 40) <|
    (f_X5_in (((S.2.2 1 ((S.1 3)).toNatClampNeg) - (48 : Int32))).toInt64 a1.toInt64 a2.toInt64).bind fun r_4 =>
    if r_4 = 0 then
      k_1 ()
    else
      zlet ((upd S.1 3 ((S.1 3) + (1 : Int32)), S.2) : zS) fun S_5 =>
      gd (zin ((S_5.1 3) - (1 : Int32)) 40) <|
      some (((S_5.2.2 1 (((S_5.1 3) - (1 : Int32))).toNatClampNeg) - (48 : Int32)), S_5)
def F_X5_readLegger_2 (rec_3 : Int32 × zS → Option (Int32 × zS)) (e_ : Int32 × zS) : Option (Int32 × zS) := match e_ with
  | (x1_1, S_2) =>
    if (5 : Int32) ≤ x1_1 then
      zlet ((upd S_2.1 10 ((S_2.1 10) + (1 : Int32)), S_2.2) : zS) fun S_4 =>
      some ((1 : Int32), S_4)
    else
      (f_X5_figure (0 : Int32) (3 : Int32) S_2).bind fun (r_6, S_7) =>
      if r_6 = (-9 : Int32) then
        some ((0 : Int32), S_7)
      else
        gd (zin (((5 : Int32) * (S_7.1 10)) + x1_1) 20) <|
        zlet ((S_7.1, S_7.2.1, zur S_7.2.2 11 (upd (S_7.2.2 11) ((((5 : Int32) * (S_7.1 10)) + x1_1)).toNatClampNeg r_6)) : zS) fun S_9 =>
        rec_3 ((x1_1 + (1 : Int32)), S_9)
def f_X5_readLegger  (S : zS) : Option (Int32 × zS) :=
  zfix F_X5_readLegger_2 zN ((0 : Int32), S)
def f_X5_readPart  (S : zS) : Option (Int32 × zS) :=
  gd (zin (S.1 3) 40) <|
  zlet (S.2.2 1 ((S.1 3)).toNatClampNeg) fun x1_2 =>
  zlet ((upd S.1 3 ((S.1 3) + (1 : Int32)), S.2) : zS) fun S_3 =>
  zjoin (fun (_ : Unit) =>
    zjoin (fun (_ : Unit) =>
      zlet ((upd S_3.1 3 ((S_3.1 3) - (1 : Int32)), S_3.2) : zS) fun S_6 =>
      some ((0 : Int32), S_6)) fun k_5 =>
    if x1_2 = (66 : Int32) then
      if (3 : Int32) ≤ (S_3.1 12) then
        k_5 ()
      else
        (f_X5_figure (0 : Int32) (9 : Int32) S_3).bind fun (r_8, S_9) =>
        if r_8 = (-9 : Int32) then
          some ((0 : Int32), S_9)
        else
          gd (zin (S_9.1 12) 3) <|
          zlet ((S_9.1, S_9.2.1, zur S_9.2.2 13 (upd (S_9.2.2 13) ((S_9.1 12)).toNatClampNeg r_8)) : zS) fun S_11 =>
          zlet ((upd S_11.1 12 ((S_11.1 12) + (1 : Int32)), S_11.2) : zS) fun S_12 =>
          some ((1 : Int32), S_12)
    else
      k_5 ()) fun k_4 =>
  if x1_2 = (71 : Int32) then
    if (4 : Int32) ≤ (S_3.1 10) then
      k_4 ()
    else
      (f_X5_readLegger  S_3).bind fun (r_17, S_18) =>
      gd (zb r_17) <|
      some (r_17, S_18)
  else
    k_4 ()
def F_X5_readTunnel_65 (rec_12 : zS → Option (Int32 × zS)) (e_ : zS) : Option (Int32 × zS) := match e_ with
  | S_11 =>
    if (S_11.1 2) ≤ (S_11.1 3) then
      some ((-9 : Int32), S_11)
    else
      (f_X5_readPart  S_11).bind fun (r_14, S_15) =>
      if r_14 = 0 then
        some ((S_15.1 3), S_15)
      else
        rec_12 S_15
def f_X5_readTunnel  (S : zS) : Option (Int32 × zS) :=
  zlet ((upd S.1 3 (0 : Int32), S.2) : zS) fun S_1 =>
  zlet ((upd S_1.1 10 (0 : Int32), S_1.2) : zS) fun S_2 =>
  zlet ((upd S_2.1 12 (0 : Int32), S_2.2) : zS) fun S_3 =>
  zjoin (fun (_ : Unit) =>
    some ((0 : Int32), S_3)) fun k_4 =>
  if (S_3.1 2) = 0 then
    k_4 ()
  else
    gd (zin (0 : Int32) 40) <|
    if (S_3.2.2 1 ((0 : Int32)).toNatClampNeg) = (76 : Int32) then
      zlet ((upd S_3.1 3 (1 : Int32), S_3.2) : zS) fun S_6 =>
      (f_X5_figure (1 : Int32) (6 : Int32) S_6).bind fun (r_8, S_9) =>
      zlet ((upd S_9.1 9 r_8, S_9.2) : zS) fun S_10 =>
      if (S_10.1 9) = (-9 : Int32) then
        some ((S_10.1 3), S_10)
      else
        zfix F_X5_readTunnel_65 zN S_10
    else
      k_4 ()
def f_X5_fault  (S : zS) : Option (Int32 × zS) :=
  zlet ((upd S.1 0 (0 : Int32), S.2) : zS) fun S_1 =>
  (f_X5_readTunnel  S_1).bind fun (r_3, S_4) =>
  some (r_3, S_4)
def F_X5_tunnel_131 (rec_16 : Int32 × zS → Option (Int32 × zS)) (e_ : Int32 × zS) : Option (Int32 × zS) := match e_ with
  | (x1_14, S_15) =>
    if (S_15.1 7) ≤ x1_14 then
      zlet ((upd S_15.1 18 (0 : Int32), S_15.2) : zS) fun S_17 =>
      gd (zin (0 : Int32) 2) <|
      zlet ((S_17.1, S_17.2.1, zur S_17.2.2 20 (upd (S_17.2.2 20) ((0 : Int32)).toNatClampNeg (vp_nar .boolean (0 : Int32)))) : zS) fun S_19 =>
      gd (zin (1 : Int32) 2) <|
      zlet ((S_19.1, S_19.2.1, zur S_19.2.2 20 (upd (S_19.2.2 20) ((1 : Int32)).toNatClampNeg (vp_nar .boolean (0 : Int32)))) : zS) fun S_21 =>
      some ((((10 : Int32) * (S_21.1 5)) + (S_21.1 7)), S_21)
    else
      gd (zin x1_14 3) <|
      gd (zin x1_14 3) <|
      zlet ((S_15.1, S_15.2.1, zur S_15.2.2 8 (upd (S_15.2.2 8) (x1_14).toNatClampNeg (S_15.2.2 13 (x1_14).toNatClampNeg))) : zS) fun S_24 =>
      rec_16 ((x1_14 + (1 : Int32)), S_24)
def F_X5_tunnel_88 (rec_13 : Int32 × zS → Option (Int32 × zS)) (x1_11 : Int32) (rec_31 : Int32 × zS → Option (Int32 × zS)) (e_ : Int32 × zS) : Option (Int32 × zS) := match e_ with
  | (x2_29, S_30) =>
    if (4 : Int32) ≤ x2_29 then
      rec_13 ((x1_11 + (1 : Int32)), S_30)
    else
      gd (zin ((((5 : Int32) * x1_11) + (1 : Int32)) + x2_29) 20) <|
      gd (zin (((0 : Int32) + ((4 : Int32) * x1_11)) + x2_29) 22) <|
      zlet ((S_30.1, S_30.2.1, zur S_30.2.2 14 (upd (S_30.2.2 14) ((((0 : Int32) + ((4 : Int32) * x1_11)) + x2_29)).toNatClampNeg (S_30.2.2 11 (((((5 : Int32) * x1_11) + (1 : Int32)) + x2_29)).toNatClampNeg))) : zS) fun S_34 =>
      rec_31 ((x2_29 + (1 : Int32)), S_34)
def F_X5_tunnel_64 (rec_13 : Int32 × zS → Option (Int32 × zS)) (e_ : Int32 × zS) : Option (Int32 × zS) := match e_ with
  | (x1_11, S_12) =>
    if (S_12.1 5) ≤ x1_11 then
      zfix F_X5_tunnel_131 zN ((0 : Int32), S_12)
    else
      gd (zin ((5 : Int32) * x1_11) 20) <|
      gd (zin x1_11 4) <|
      zlet ((S_12.1, S_12.2.1, zur S_12.2.2 6 (upd (S_12.2.2 6) (x1_11).toNatClampNeg (S_12.2.2 11 (((5 : Int32) * x1_11)).toNatClampNeg))) : zS) fun S_28 =>
      zfix (F_X5_tunnel_88 rec_13 x1_11) zN ((0 : Int32), S_28)
def F_X5_tunnel_43 (rec_10 : Int32 × zS → Option (Int32 × zS)) (e_ : Int32 × zS) : Option (Int32 × zS) := match e_ with
  | (x1_8, S_9) =>
    if (22 : Int32) ≤ x1_8 then
      zfix F_X5_tunnel_64 zN ((0 : Int32), S_9)
    else
      gd (zin x1_8 22) <|
      zlet ((S_9.1, S_9.2.1, zur S_9.2.2 14 (upd (S_9.2.2 14) (x1_8).toNatClampNeg (0 : Int32))) : zS) fun S_38 =>
      rec_10 ((x1_8 + (1 : Int32)), S_38)
def f_X5_tunnel  (S : zS) : Option (Int32 × zS) :=
  zlet ((upd S.1 0 (0 : Int32), S.2) : zS) fun S_1 =>
  (f_X5_readTunnel  S_1).bind fun (r_3, S_4) =>
  if r_3 = (-9 : Int32) then
    zlet ((upd S_4.1 4 (S_4.1 9), S_4.2) : zS) fun S_5 =>
    zlet ((upd S_5.1 5 (S_5.1 10), S_5.2) : zS) fun S_6 =>
    zlet ((upd S_6.1 7 (S_6.1 12), S_6.2) : zS) fun S_7 =>
    zfix F_X5_tunnel_43 zN ((0 : Int32), S_7)
  else
    some ((-3 : Int32), S_4)
def f_X5_minutes (a0 : Int32) : Option (Int32) :=
  zjoin (fun (s_1 : Int32) =>
    some s_1) fun k_2 =>
  if a0 = (1 : Int32) then
    k_2 (2 : Int32)
  else
    if a0 = (3 : Int32) then
      k_2 (3 : Int32)
    else
      k_2 (1 : Int32)
def f_X5_takes (k1 : Nat) (a2 : Int32) (a3 : Int32) (a4 : Int32) (S : zS) : Option (Int32) :=
  gd (zin (((0 : Int32) + ((4 : Int32) * a2)) + a4) 22) <|
  (f_X5_minutes (S.2.2 k1 ((((0 : Int32) + ((4 : Int32) * a2)) + a4)).toNatClampNeg)).bind fun r_3 =>
  gd (zin a2 4) <|
  zjoin (fun (s_5 : Int32) =>
    zlet (r_3 + s_5) fun x5_7 =>
    gd (zin a2 4) <|
    zjoin (fun (s_9 : Int32) =>
      zlet (x5_7 - s_9) fun x5_11 =>
      gd (zin a2 4) <|
      zjoin (fun (s_13 : Int32) =>
        zlet (x5_11 + s_13) fun x5_15 =>
        gd (zin ((16 : Int32) + a2) 22) <|
        some (x5_15 + (S.2.2 k1 (((16 : Int32) + a2)).toNatClampNeg))) fun k_14 =>
      zjoin (fun (_ : Unit) =>
        k_14 (0 : Int32)) fun k_17 =>
      if (S.2.2 6 (a2).toNatClampNeg) = (3 : Int32) then
        if a3 = ((S.1 4) / (2 : Int32)) then
          k_14 (2 : Int32)
        else
          k_17 ()
      else
        k_17 ()) fun k_10 =>
    zjoin (fun (_ : Unit) =>
      k_10 (0 : Int32)) fun k_20 =>
    if (S.2.2 6 (a2).toNatClampNeg) = (2 : Int32) then
      if x5_7 ≤ (1 : Int32) then
        k_20 ()
      else
        k_10 (1 : Int32)
    else
      k_20 ()) fun k_6 =>
  if (S.2.2 6 (a2).toNatClampNeg) = (1 : Int32) then
    k_6 (1 : Int32)
  else
    k_6 (0 : Int32)
def f_X5_next (a0 : Int32) (a1 : Int32) : Option (Int32) :=
  zjoin (fun (s_1 : Int32) =>
    some (zrem (a0 + s_1) (4 : Int32))) fun k_2 =>
  if a1 = (2 : Int32) then
    k_2 (2 : Int32)
  else
    k_2 (1 : Int32)
def F_X5_timeOf_14 (S : zS) (k1 : Nat) (a2 : Int32) (a3 : Int32) (rec_5 : Int32 × Int32 × Int32 × Int32 → Option (Int32)) (e_ : Int32 × Int32 × Int32 × Int32) : Option (Int32) := match e_ with
  | (x6_1, x7_2, x8_3, x9_4) =>
    if (S.1 4) ≤ x9_4 then
      some x8_3
    else
      (f_X5_takes k1 a2 x9_4 x6_1 S).bind fun r_7 =>
      (f_X5_takes k1 a3 x9_4 x7_2 S).bind fun r_9 =>
      gd (zin (((0 : Int32) + ((4 : Int32) * a2)) + x6_1) 22) <|
      zlet (S.2.2 k1 ((((0 : Int32) + ((4 : Int32) * a2)) + x6_1)).toNatClampNeg) fun x12_11 =>
      gd (zin (((0 : Int32) + ((4 : Int32) * a3)) + x7_2) 22) <|
      zlet (S.2.2 k1 ((((0 : Int32) + ((4 : Int32) * a3)) + x7_2)).toNatClampNeg) fun x13_13 =>
      zjoin (fun (s_14 : Int32) =>
        zjoin (fun (s_16 : Int32) =>
          zlet (x8_3 + (s_14 + s_16)) fun x8_18 =>
          (f_X5_next x6_1 x12_11).bind fun r_20 =>
          (f_X5_next x7_2 x13_13).bind fun r_22 =>
          rec_5 (r_20, r_22, x8_18, (x9_4 + (1 : Int32)))) fun k_17 =>
        if x12_11 = x13_13 then
          k_17 (0 : Int32)
        else
          k_17 (1 : Int32)) fun k_15 =>
      if r_7 ≤ r_9 then
        k_15 r_9
      else
        k_15 r_7
def f_X5_timeOf (k1 : Nat) (a2 : Int32) (a3 : Int32) (a4 : Int32) (a5 : Int32) (S : zS) : Option (Int32) :=
  zfix (F_X5_timeOf_14 S k1 a2 a3) zN (a4, a5, (0 : Int32), (0 : Int32))
def f_X5_about (a1 : Int32) (S : zS) : Option (Int32 × zS) :=
  zlet ((upd S.1 0 (0 : Int32), S.2) : zS) fun S_1 =>
  if a1 = (0 : Int32) then
    some ((S_1.1 4), S_1)
  else
    if a1 = (1 : Int32) then
      some ((S_1.1 5), S_1)
    else
      if a1 = (2 : Int32) then
        some ((S_1.1 7), S_1)
      else
        if a1 = (3 : Int32) then
          gd (zin (20 : Int32) 22) <|
          some ((S_1.2.2 14 ((20 : Int32)).toNatClampNeg), S_1)
        else
          if a1 = (4 : Int32) then
            gd (zin (21 : Int32) 22) <|
            some ((S_1.2.2 14 ((21 : Int32)).toNatClampNeg), S_1)
          else
            if a1 = (5 : Int32) then
              some ((S_1.1 18), S_1)
            else
              if a1 = (6 : Int32) then
                some ((S_1.1 21), S_1)
              else
                if a1 = (7 : Int32) then
                  some ((S_1.1 2), S_1)
                else
                  some ((-2 : Int32), S_1)
def f_X5_legger (a1 : Int32) (a2 : Int32) (S : zS) : Option (Int32 × zS) :=
  zlet ((upd S.1 0 (0 : Int32), S.2) : zS) fun S_1 =>
  (f_X5_noLegger a1 S_1).bind fun r_3 =>
  if r_3 = 0 then
    (f_X5_in a2.toInt64 (0 : Int64) (3 : Int64)).bind fun r_5 =>
    if r_5 = 0 then
      zjoin (fun (s_6 : Int32) =>
        some (s_6, S_1)) fun k_7 =>
      if a2 = (4 : Int32) then
        gd (zin a1 4) <|
        k_7 (S_1.2.2 6 (a1).toNatClampNeg)
      else
        if a2 = (5 : Int32) then
          gd (zin ((16 : Int32) + a1) 22) <|
          k_7 (S_1.2.2 14 (((16 : Int32) + a1)).toNatClampNeg)
        else
          k_7 (-2 : Int32)
    else
      gd (zin (((0 : Int32) + ((4 : Int32) * a1)) + a2) 22) <|
      some ((S_1.2.2 14 ((((0 : Int32) + ((4 : Int32) * a1)) + a2)).toNatClampNeg), S_1)
  else
    some ((-1 : Int32), S_1)
def f_X5_load (a1 : Int32) (S : zS) : Option (Int32 × zS) :=
  zlet ((upd S.1 0 (0 : Int32), S.2) : zS) fun S_1 =>
  (f_X5_noBoat a1 S_1).bind fun r_3 =>
  zjoin (fun (s_4 : Int32) =>
    some (s_4, S_1)) fun k_5 =>
  if r_3 = 0 then
    gd (zin a1 3) <|
    k_5 (S_1.2.2 8 (a1).toNatClampNeg)
  else
    k_5 (-1 : Int32)
def F_X5_note_51 (rec_5 : Int32 × zS → Option (zS)) (e_ : Int32 × zS) : Option (zS) := match e_ with
  | (x1_3, S_4) =>
    if (22 : Int32) ≤ x1_3 then
      zlet ((upd S_4.1 18 ((S_4.1 18) + (1 : Int32)), S_4.2) : zS) fun S_6 =>
      some S_6
    else
      gd (zin x1_3 22) <|
      gd (zin (((22 : Int32) * (S_4.1 18)) + x1_3) 308) <|
      zlet ((S_4.1, S_4.2.1, zur S_4.2.2 17 (upd (S_4.2.2 17) ((((22 : Int32) * (S_4.1 18)) + x1_3)).toNatClampNeg (S_4.2.2 14 (x1_3).toNatClampNeg))) : zS) fun S_9 =>
      rec_5 ((x1_3 + (1 : Int32)), S_9)
def F_X5_note_11 (k_2 : zS → Option (zS)) (rec_13 : Int32 × zS → Option (zS)) (e_ : Int32 × zS) : Option (zS) := match e_ with
  | (x1_11, S_12) =>
    if (286 : Int32) ≤ x1_11 then
      zlet ((upd S_12.1 18 ((S_12.1 18) - (1 : Int32)), S_12.2) : zS) fun S_14 =>
      k_2 S_14
    else
      gd (zin (x1_11 + (22 : Int32)) 308) <|
      gd (zin x1_11 308) <|
      zlet ((S_12.1, S_12.2.1, zur S_12.2.2 17 (upd (S_12.2.2 17) (x1_11).toNatClampNeg (S_12.2.2 17 ((x1_11 + (22 : Int32))).toNatClampNeg))) : zS) fun S_17 =>
      rec_13 ((x1_11 + (1 : Int32)), S_17)
def f_X5_note  (S : zS) : Option (zS) :=
  zjoin (fun (S_1 : zS) =>
    zfix F_X5_note_51 zN ((0 : Int32), S_1)) fun k_2 =>
  if (S.1 18) = (14 : Int32) then
    zfix (F_X5_note_11 k_2) zN ((0 : Int32), S)
  else
    k_2 S
def f_X5_goLeg (k1 : Nat) (a2 : Int32) (a3 : Int32) (a4 : Int32) (S : zS) : Option (zS) :=
  gd (zin (21 : Int32) 22) <|
  (f_X5_timeOf k1 a3 a4 (0 : Int32) (0 : Int32) S).bind fun r_3 =>
  gd (zin a2 3) <|
  gd (zin (21 : Int32) 22) <|
  zlet ((S.1, S.2.1, zur S.2.2 k1 (upd (S.2.2 k1) ((21 : Int32)).toNatClampNeg ((S.2.2 k1 ((21 : Int32)).toNatClampNeg) + (r_3 + (S.2.2 8 (a2).toNatClampNeg))))) : zS) fun S_6 =>
  gd (zin (20 : Int32) 22) <|
  gd (zin (20 : Int32) 22) <|
  zlet ((S_6.1, S_6.2.1, zur S_6.2.2 k1 (upd (S_6.2.2 k1) ((20 : Int32)).toNatClampNeg ((S_6.2.2 k1 ((20 : Int32)).toNatClampNeg) ||| (zshl (1 : Int32) a2)))) : zS) fun S_9 =>
  zlet ((16 : Int32) + a3) fun t_10 =>
  gd (zin t_10 22) <|
  gd (zin ((16 : Int32) + a3) 22) <|
  zjoin (fun (s_13 : Int32) =>
    gd (zin t_10 22) <|
    zlet ((S_9.1, S_9.2.1, zur S_9.2.2 k1 (upd (S_9.2.2 k1) (t_10).toNatClampNeg ((S_9.2.2 k1 (t_10).toNatClampNeg) + s_13))) : zS) fun S_16 =>
    zlet ((16 : Int32) + a4) fun t_17 =>
    gd (zin t_17 22) <|
    gd (zin ((16 : Int32) + a4) 22) <|
    zjoin (fun (s_20 : Int32) =>
      gd (zin t_17 22) <|
      zlet ((S_16.1, S_16.2.1, zur S_16.2.2 k1 (upd (S_16.2.2 k1) (t_17).toNatClampNeg ((S_16.2.2 k1 (t_17).toNatClampNeg) + s_20))) : zS) fun S_23 =>
      some S_23) fun k_21 =>
    if (3 : Int32) ≤ (S_16.2.2 k1 (((16 : Int32) + a4)).toNatClampNeg) then
      k_21 (0 : Int32)
    else
      k_21 (1 : Int32)) fun k_14 =>
  if (3 : Int32) ≤ (S_9.2.2 k1 (((16 : Int32) + a3)).toNatClampNeg) then
    k_14 (0 : Int32)
  else
    k_14 (1 : Int32)
def f_X5_noPair (a1 : Int32) (a2 : Int32) (a3 : Int32) (S : zS) : Option (Int32) :=
  (f_X5_noBoat a1 S).bind fun r_2 =>
  zjoin (fun (_ : Unit) =>
    some (-1 : Int32)) fun k_3 =>
  if r_2 = 0 then
    (f_X5_noLegger a2 S).bind fun r_5 =>
    if r_5 = 0 then
      (f_X5_noLegger a3 S).bind fun r_7 =>
      if r_7 = 0 then
        zjoin (fun (s_8 : Int32) =>
          some s_8) fun k_9 =>
        if a2 = a3 then
          k_9 (-2 : Int32)
        else
          k_9 (0 : Int32)
      else
        k_3 ()
    else
      k_3 ()
  else
    k_3 ()
def f_X5_leg (a1 : Int32) (a2 : Int32) (a3 : Int32) (S : zS) : Option (Int32 × zS) :=
  zlet ((upd S.1 0 (0 : Int32), S.2) : zS) fun S_1 =>
  (f_X5_noPair a1 a2 a3 S_1).bind fun r_3 =>
  if r_3 = 0 then
    gd (zin (20 : Int32) 22) <|
    (f_X5_has (S_1.2.2 14 ((20 : Int32)).toNatClampNeg) a1).bind fun r_6 =>
    if r_6 = 0 then
      (f_X5_note  S_1).bind fun S_8 =>
      (f_X5_goLeg 14 a1 a2 a3 S_8).bind fun S_10 =>
      gd (zin (21 : Int32) 22) <|
      some ((S_10.2.2 14 ((21 : Int32)).toNatClampNeg), S_10)
    else
      some ((-3 : Int32), S_1)
  else
    some (r_3, S_1)
def f_X5_rest (a1 : Int32) (S : zS) : Option (Int32 × zS) :=
  zlet ((upd S.1 0 (0 : Int32), S.2) : zS) fun S_1 =>
  (f_X5_noLegger a1 S_1).bind fun r_3 =>
  if r_3 = 0 then
    gd (zin ((16 : Int32) + a1) 22) <|
    if (S_1.2.2 14 (((16 : Int32) + a1)).toNatClampNeg) = 0 then
      some ((-3 : Int32), S_1)
    else
      (f_X5_note  S_1).bind fun S_6 =>
      gd (zin ((16 : Int32) + a1) 22) <|
      zlet ((S_6.1, S_6.2.1, zur S_6.2.2 14 (upd (S_6.2.2 14) (((16 : Int32) + a1)).toNatClampNeg (0 : Int32))) : zS) fun S_8 =>
      gd (zin (21 : Int32) 22) <|
      gd (zin (21 : Int32) 22) <|
      zlet ((S_8.1, S_8.2.1, zur S_8.2.2 14 (upd (S_8.2.2 14) ((21 : Int32)).toNatClampNeg ((S_8.2.2 14 ((21 : Int32)).toNatClampNeg) + (5 : Int32)))) : zS) fun S_11 =>
      gd (zin (21 : Int32) 22) <|
      some ((S_11.2.2 14 ((21 : Int32)).toNatClampNeg), S_11)
  else
    some ((-1 : Int32), S_1)
def f_X5_wet (a1 : Int32) (a2 : Int32) (S : zS) : Option (Int32 × zS) :=
  zlet ((upd S.1 0 (0 : Int32), S.2) : zS) fun S_1 =>
  (f_X5_noLegger a1 S_1).bind fun r_3 =>
  if r_3 = 0 then
    (f_X5_in a2.toInt64 (0 : Int64) (3 : Int64)).bind fun r_5 =>
    if r_5 = 0 then
      some ((-2 : Int32), S_1)
    else
      gd (zin (((0 : Int32) + ((4 : Int32) * a1)) + a2) 22) <|
      zlet (S_1.2.2 14 ((((0 : Int32) + ((4 : Int32) * a1)) + a2)).toNatClampNeg) fun x3_7 =>
      if x3_7 = (2 : Int32) then
        some ((-3 : Int32), S_1)
      else
        (f_X5_note  S_1).bind fun S_9 =>
        gd (zin (((0 : Int32) + ((4 : Int32) * a1)) + a2) 22) <|
        zlet ((S_9.1, S_9.2.1, zur S_9.2.2 14 (upd (S_9.2.2 14) ((((0 : Int32) + ((4 : Int32) * a1)) + a2)).toNatClampNeg (2 : Int32))) : zS) fun S_11 =>
        some (x3_7, S_11)
  else
    some ((-1 : Int32), S_1)
def F_X5_dry_71 (S_10 : zS) (a1 : Int32) (rec_13 : Int32 × Int32 → Option (Int32 × zS)) (e_ : Int32 × Int32) : Option (Int32 × zS) := match e_ with
  | (x3_11, x4_12) =>
    if (4 : Int32) ≤ x4_12 then
      some (x3_11, S_10)
    else
      gd (zin (((0 : Int32) + ((4 : Int32) * a1)) + x4_12) 22) <|
      zjoin (fun (s_15 : Int32) =>
        zlet (x3_11 + s_15) fun x3_17 =>
        rec_13 (x3_17, (x4_12 + (1 : Int32)))) fun k_16 =>
      if (S_10.2.2 14 ((((0 : Int32) + ((4 : Int32) * a1)) + x4_12)).toNatClampNeg) = (2 : Int32) then
        k_16 (1 : Int32)
      else
        k_16 (0 : Int32)
def f_X5_dry (a1 : Int32) (a2 : Int32) (S : zS) : Option (Int32 × zS) :=
  zlet ((upd S.1 0 (0 : Int32), S.2) : zS) fun S_1 =>
  (f_X5_noLegger a1 S_1).bind fun r_3 =>
  if r_3 = 0 then
    (f_X5_in a2.toInt64 (0 : Int64) (3 : Int64)).bind fun r_5 =>
    if r_5 = 0 then
      some ((-2 : Int32), S_1)
    else
      gd (zin (((0 : Int32) + ((4 : Int32) * a1)) + a2) 22) <|
      if (S_1.2.2 14 ((((0 : Int32) + ((4 : Int32) * a1)) + a2)).toNatClampNeg) = (2 : Int32) then
        (f_X5_note  S_1).bind fun S_8 =>
        gd (zin (((0 : Int32) + ((4 : Int32) * a1)) + a2) 22) <|
        zlet ((S_8.1, S_8.2.1, zur S_8.2.2 14 (upd (S_8.2.2 14) ((((0 : Int32) + ((4 : Int32) * a1)) + a2)).toNatClampNeg (0 : Int32))) : zS) fun S_10 =>
        zfix (F_X5_dry_71 S_10 a1) zN ((0 : Int32), (0 : Int32))
      else
        some ((-3 : Int32), S_1)
  else
    some ((-1 : Int32), S_1)
def F_X5_undo_27 (rec_5 : Int32 × zS → Option (Int32 × zS)) (e_ : Int32 × zS) : Option (Int32 × zS) := match e_ with
  | (x1_3, S_4) =>
    if (22 : Int32) ≤ x1_3 then
      some ((S_4.1 18), S_4)
    else
      gd (zin (((22 : Int32) * (S_4.1 18)) + x1_3) 308) <|
      gd (zin x1_3 22) <|
      zlet ((S_4.1, S_4.2.1, zur S_4.2.2 14 (upd (S_4.2.2 14) (x1_3).toNatClampNeg (S_4.2.2 17 ((((22 : Int32) * (S_4.1 18)) + x1_3)).toNatClampNeg))) : zS) fun S_8 =>
      rec_5 ((x1_3 + (1 : Int32)), S_8)
def f_X5_undo  (S : zS) : Option (Int32 × zS) :=
  zlet ((upd S.1 0 (0 : Int32), S.2) : zS) fun S_1 =>
  if (S_1.1 18) = 0 then
    some ((-3 : Int32), S_1)
  else
    zlet ((upd S_1.1 18 ((S_1.1 18) - (1 : Int32)), S_1.2) : zS) fun S_2 =>
    zfix F_X5_undo_27 zN ((0 : Int32), S_2)
def F_X5_copy_2 (k1 : Nat) (k0 : Nat) (rec_3 : Int32 × zS → Option (zS)) (e_ : Int32 × zS) : Option (zS) := match e_ with
  | (x2_1, S_2) =>
    if (22 : Int32) ≤ x2_1 then
      some S_2
    else
      gd (zin x2_1 22) <|
      gd (zin x2_1 22) <|
      zlet ((S_2.1, S_2.2.1, zur S_2.2.2 k1 (upd (S_2.2.2 k1) (x2_1).toNatClampNeg (S_2.2.2 k0 (x2_1).toNatClampNeg))) : zS) fun S_6 =>
      rec_3 ((x2_1 + (1 : Int32)), S_6)
def f_X5_copy (k0 : Nat) (k1 : Nat) (S : zS) : Option (zS) :=
  zfix (F_X5_copy_2 k1 k0) zN ((0 : Int32), S)
def F_X5_alone_38 (S_1 : zS) (a1 : Int32) (rec_9 : Int32 × Int32 × Int32 → Option (Int32 × zS)) (e_ : Int32 × Int32 × Int32) : Option (Int32 × zS) := match e_ with
  | (x3_6, x4_7, x5_8) =>
    if (S_1.1 4) ≤ x5_8 then
      some (x4_7, S_1)
    else
      (f_X5_takes 14 a1 x5_8 x3_6 S_1).bind fun r_11 =>
      zlet (x4_7 + r_11) fun x4_12 =>
      gd (zin (((0 : Int32) + ((4 : Int32) * a1)) + x3_6) 22) <|
      (f_X5_next x3_6 (S_1.2.2 14 ((((0 : Int32) + ((4 : Int32) * a1)) + x3_6)).toNatClampNeg)).bind fun r_15 =>
      rec_9 (r_15, x4_12, (x5_8 + (1 : Int32)))
def f_X5_alone (a1 : Int32) (a2 : Int32) (S : zS) : Option (Int32 × zS) :=
  zlet ((upd S.1 0 (0 : Int32), S.2) : zS) fun S_1 =>
  (f_X5_noLegger a1 S_1).bind fun r_3 =>
  if r_3 = 0 then
    (f_X5_in a2.toInt64 (0 : Int64) (3 : Int64)).bind fun r_5 =>
    if r_5 = 0 then
      some ((-2 : Int32), S_1)
    else
      zfix (F_X5_alone_38 S_1 a1) zN (a2, (0 : Int32), (0 : Int32))
  else
    some ((-1 : Int32), S_1)
def f_X5_time (a1 : Int32) (a2 : Int32) (a3 : Int32) (a4 : Int32) (a5 : Int32) (S : zS) : Option (Int32 × zS) :=
  zlet ((upd S.1 0 (0 : Int32), S.2) : zS) fun S_1 =>
  (f_X5_noPair a1 a2 a3 S_1).bind fun r_3 =>
  if r_3 = 0 then
    (f_X5_in a4.toInt64 (0 : Int64) (3 : Int64)).bind fun r_5 =>
    zjoin (fun (s_6 : Int32) =>
      some (s_6, S_1)) fun k_7 =>
    zjoin (fun (_ : Unit) =>
      k_7 (-2 : Int32)) fun k_8 =>
    if r_5 = 0 then
      k_8 ()
    else
      (f_X5_in a5.toInt64 (0 : Int64) (3 : Int64)).bind fun r_10 =>
      if r_10 = 0 then
        k_8 ()
      else
        (f_X5_timeOf 14 a2 a3 a4 a5 S_1).bind fun r_12 =>
        gd (zin a1 3) <|
        k_7 (r_12 + (S_1.2.2 8 (a1).toNatClampNeg))
  else
    some (r_3, S_1)
def F_X5_findBest_27 (rec_5 : Int32 × zS → Option (zS)) (x3_3 : Int32) (a1 : Int32) (a2 : Int32) (rec_9 : Int32 × zS → Option (zS)) (e_ : Int32 × zS) : Option (zS) := match e_ with
  | (x4_7, S_8) =>
    if (S_8.1 5) ≤ x4_7 then
      rec_5 ((x3_3 + (1 : Int32)), S_8)
    else
      (f_X5_timeOf 14 x3_3 x4_7 (0 : Int32) (0 : Int32) S_8).bind fun r_11 =>
      gd (zin a1 3) <|
      zlet (r_11 + (S_8.2.2 8 (a1).toNatClampNeg)) fun x5_13 =>
      (f_X5_has a2 x3_3).bind fun r_15 =>
      zjoin (fun (S_16 : zS) =>
        rec_9 ((x4_7 + (1 : Int32)), S_16)) fun k_17 =>
      if r_15 = 0 then
        k_17 S_8
      else
        (f_X5_has a2 x4_7).bind fun r_19 =>
        if r_19 = 0 then
          k_17 S_8
        else
          zjoin (fun (_ : Unit) =>
            zlet ((upd S_8.1 25 (((10 : Int32) * x3_3) + x4_7), S_8.2) : zS) fun S_21 =>
            zlet ((upd S_21.1 26 x5_13, S_21.2) : zS) fun S_22 =>
            k_17 S_22) fun k_20 =>
          if (S_8.1 25) = (-9 : Int32) then
            k_20 ()
          else
            if (S_8.1 26) ≤ x5_13 then
              k_17 S_8
            else
              k_20 ()
def F_X5_findBest_14 (a1 : Int32) (a2 : Int32) (rec_5 : Int32 × zS → Option (zS)) (e_ : Int32 × zS) : Option (zS) := match e_ with
  | (x3_3, S_4) =>
    if (S_4.1 5) ≤ x3_3 then
      some S_4
    else
      zlet (x3_3 + (1 : Int32)) fun x4_6 =>
      zfix (F_X5_findBest_27 rec_5 x3_3 a1 a2) zN (x4_6, S_4)
def f_X5_findBest (a1 : Int32) (a2 : Int32) (S : zS) : Option (zS) :=
  zlet ((upd S.1 25 (-9 : Int32), S.2) : zS) fun S_1 =>
  zlet ((upd S_1.1 26 (-9 : Int32), S_1.2) : zS) fun S_2 =>
  zfix (F_X5_findBest_14 a1 a2) zN ((0 : Int32), S_2)
def f_X5_best (a1 : Int32) (a2 : Int32) (S : zS) : Option (Int32 × zS) :=
  zlet ((upd S.1 0 (0 : Int32), S.2) : zS) fun S_1 =>
  (f_X5_noBoat a1 S_1).bind fun r_3 =>
  if r_3 = 0 then
    (f_X5_in a2.toInt64 (0 : Int64) (1 : Int64)).bind fun r_5 =>
    if r_5 = 0 then
      some ((-2 : Int32), S_1)
    else
      (f_X5_findBest a1 (15 : Int32) S_1).bind fun S_7 =>
      zjoin (fun (s_8 : Int32) =>
        some (s_8, S_7)) fun k_9 =>
      if a2 = 0 then
        k_9 (S_7.1 25)
      else
        k_9 (S_7.1 26)
  else
    some ((-1 : Int32), S_1)
def F_X5_findBegin_15 (a2 : Int32) (a3 : Int32) (a1 : Int32) (rec_5 : Int32 × zS → Option (zS)) (e_ : Int32 × zS) : Option (zS) := match e_ with
  | (x4_3, S_4) =>
    if (16 : Int32) ≤ x4_3 then
      some S_4
    else
      (f_X5_timeOf 14 a2 a3 (x4_3 / (4 : Int32)) (zrem x4_3 (4 : Int32)) S_4).bind fun r_7 =>
      gd (zin a1 3) <|
      zlet (r_7 + (S_4.2.2 8 (a1).toNatClampNeg)) fun x5_9 =>
      zjoin (fun (S_10 : zS) =>
        rec_5 ((x4_3 + (1 : Int32)), S_10)) fun k_11 =>
      zjoin (fun (_ : Unit) =>
        zlet ((upd S_4.1 27 (((10 : Int32) * (x4_3 / (4 : Int32))) + (zrem x4_3 (4 : Int32))), S_4.2) : zS) fun S_13 =>
        zlet ((upd S_13.1 28 x5_9, S_13.2) : zS) fun S_14 =>
        k_11 S_14) fun k_12 =>
      if (S_4.1 27) = (-9 : Int32) then
        k_12 ()
      else
        if (S_4.1 28) ≤ x5_9 then
          k_11 S_4
        else
          k_12 ()
def f_X5_findBegin (a1 : Int32) (a2 : Int32) (a3 : Int32) (S : zS) : Option (zS) :=
  zlet ((upd S.1 27 (-9 : Int32), S.2) : zS) fun S_1 =>
  zlet ((upd S_1.1 28 (-9 : Int32), S_1.2) : zS) fun S_2 =>
  zfix (F_X5_findBegin_15 a2 a3 a1) zN ((0 : Int32), S_2)
def f_X5_begin (a1 : Int32) (a2 : Int32) (a3 : Int32) (a4 : Int32) (S : zS) : Option (Int32 × zS) :=
  zlet ((upd S.1 0 (0 : Int32), S.2) : zS) fun S_1 =>
  (f_X5_noPair a1 a2 a3 S_1).bind fun r_3 =>
  if r_3 = 0 then
    (f_X5_in a4.toInt64 (0 : Int64) (1 : Int64)).bind fun r_5 =>
    if r_5 = 0 then
      some ((-2 : Int32), S_1)
    else
      (f_X5_findBegin a1 a2 a3 S_1).bind fun S_7 =>
      zjoin (fun (s_8 : Int32) =>
        some (s_8, S_7)) fun k_9 =>
      if a4 = 0 then
        k_9 (S_7.1 27)
      else
        k_9 (S_7.1 28)
  else
    some (r_3, S_1)
def F_X5_power_4 (a1 : Int32) (a0 : Int32) (rec_3 : Int32 × Int32 → Option (Int32)) (e_ : Int32 × Int32) : Option (Int32) := match e_ with
  | (x2_1, x3_2) =>
    if a1 ≤ x3_2 then
      some x2_1
    else
      zlet (x2_1 * a0) fun x2_4 =>
      rec_3 (x2_4, (x3_2 + (1 : Int32)))
def f_X5_power (a0 : Int32) (a1 : Int32) : Option (Int32) :=
  zfix (F_X5_power_4 a1 a0) zN ((1 : Int32), (0 : Int32))
def F_X5_layPairs_19 (rec_4 : Int32 × zS → Option (zS)) (x1_2 : Int32) (rec_8 : Int32 × zS → Option (zS)) (e_ : Int32 × zS) : Option (zS) := match e_ with
  | (x2_6, S_7) =>
    if (S_7.1 5) ≤ x2_6 then
      rec_4 ((x1_2 + (1 : Int32)), S_7)
    else
      gd (zin (S_7.1 36) 6) <|
      zlet ((S_7.1, S_7.2.1, zur S_7.2.2 34 (upd (S_7.2.2 34) ((S_7.1 36)).toNatClampNeg x1_2)) : zS) fun S_10 =>
      gd (zin (S_10.1 36) 6) <|
      zlet ((S_10.1, S_10.2.1, zur S_10.2.2 35 (upd (S_10.2.2 35) ((S_10.1 36)).toNatClampNeg x2_6)) : zS) fun S_12 =>
      zlet ((upd S_12.1 36 ((S_12.1 36) + (1 : Int32)), S_12.2) : zS) fun S_13 =>
      rec_8 ((x2_6 + (1 : Int32)), S_13)
def F_X5_layPairs_7 (rec_4 : Int32 × zS → Option (zS)) (e_ : Int32 × zS) : Option (zS) := match e_ with
  | (x1_2, S_3) =>
    if (S_3.1 5) ≤ x1_2 then
      some S_3
    else
      zlet (x1_2 + (1 : Int32)) fun x2_5 =>
      zfix (F_X5_layPairs_19 rec_4 x1_2) zN (x2_5, S_3)
def f_X5_layPairs  (S : zS) : Option (zS) :=
  zlet ((upd S.1 36 (0 : Int32), S.2) : zS) fun S_1 =>
  zfix F_X5_layPairs_7 zN ((0 : Int32), S_1)
def F_X5_findSoonest_105 (rec_16 : Int32 × zS → Option (zS)) (x4_14 : Int32) (x3_7 : Int32) (rec_27 : Int32 × Int32 × Int32 × zS → Option (zS)) (e_ : Int32 × Int32 × Int32 × zS) : Option (zS) := match e_ with
  | (x5_23, x6_24, x7_25, S_26) =>
    zjoin (fun (_ : Unit) =>
      gd (zin (21 : Int32) 22) <|
      gd (zin (21 : Int32) 22) <|
      zlet ((S_26.2.2 15 ((21 : Int32)).toNatClampNeg) - (S_26.2.2 16 ((21 : Int32)).toNatClampNeg)) fun x7_31 =>
      zjoin (fun (S_32 : zS) =>
        rec_16 ((x4_14 + (1 : Int32)), S_32)) fun k_33 =>
      if x6_24 = 0 then
        k_33 S_26
      else
        zjoin (fun (_ : Unit) =>
          zlet ((upd S_26.1 29 x7_31, S_26.2) : zS) fun S_35 =>
          zlet ((upd S_35.1 30 x5_23, S_35.2) : zS) fun S_36 =>
          k_33 S_36) fun k_34 =>
        if (S_26.1 29) = (-9 : Int32) then
          k_34 ()
        else
          if (S_26.1 29) ≤ x7_31 then
            k_33 S_26
          else
            k_34 ()) fun k_28 =>
    if x7_25 < 0 then
      k_28 ()
    else
      if x6_24 = 0 then
        k_28 ()
      else
        (f_X5_power x3_7 x7_25).bind fun r_41 =>
        gd (¬ r_41 = 0) <|
        gd (¬ x3_7 = 0) <|
        zlet (zrem (x4_14 / r_41) x3_7) fun x8_44 =>
        gd (¬ (S_26.1 36) = 0) <|
        zlet (x8_44 / (S_26.1 36)) fun x9_46 =>
        gd (¬ (S_26.1 36) = 0) <|
        zlet (zrem x8_44 (S_26.1 36)) fun x10_48 =>
        gd (zin (20 : Int32) 22) <|
        (f_X5_has (S_26.2.2 15 ((20 : Int32)).toNatClampNeg) x9_46).bind fun r_51 =>
        zjoin (fun (s_52 : Int32) =>
          gd (zin x10_48 6) <|
          gd (zin x10_48 6) <|
          zlet (((((1000 : Int32) * x5_23) + ((100 : Int32) * x9_46)) + ((10 : Int32) * (S_26.2.2 34 (x10_48).toNatClampNeg))) + (S_26.2.2 35 (x10_48).toNatClampNeg)) fun x5_56 =>
          zjoin (fun (S_57 : zS) =>
            rec_27 (x5_56, s_52, (x7_25 + (-1 : Int32)), S_57)) fun k_58 =>
          if s_52 = 0 then
            k_58 S_26
          else
            gd (zin x10_48 6) <|
            gd (zin x10_48 6) <|
            (f_X5_goLeg 15 x9_46 (S_26.2.2 34 (x10_48).toNatClampNeg) (S_26.2.2 35 (x10_48).toNatClampNeg) S_26).bind fun S_62 =>
            k_58 S_62) fun k_53 =>
        if r_51 = 0 then
          k_53 (1 : Int32)
        else
          k_53 (0 : Int32)
def F_X5_findSoonest_69 (x3_7 : Int32) (r_6 : Int32) (rec_16 : Int32 × zS → Option (zS)) (e_ : Int32 × zS) : Option (zS) := match e_ with
  | (x4_14, S_15) =>
    (f_X5_power x3_7 r_6).bind fun r_18 =>
    zjoin (fun (_ : Unit) =>
      some S_15) fun k_19 =>
    if r_18 ≤ x4_14 then
      k_19 ()
    else
      if r_6 ≤ 0 then
        k_19 ()
      else
        (f_X5_copy 16 15 S_15).bind fun S_21 =>
        zlet (r_6 - (1 : Int32)) fun x7_22 =>
        zfix (F_X5_findSoonest_105 rec_16 x4_14 x3_7) zN ((0 : Int32), (1 : Int32), x7_22, S_21)
def f_X5_findSoonest  (S : zS) : Option (zS) :=
  (f_X5_layPairs  S).bind fun S_2 =>
  gd (zin (20 : Int32) 22) <|
  zlet (((zshl (1 : Int32) (S_2.1 7)) - (1 : Int32)) &&& ((S_2.2.2 16 ((20 : Int32)).toNatClampNeg) ^^^ (-1 : Int32))) fun x1_4 =>
  (f_X5_many x1_4).bind fun r_6 =>
  zlet ((S_2.1 7) * (S_2.1 36)) fun x3_7 =>
  zjoin (fun (s_8 : Int32) =>
    zlet ((upd S_2.1 29 s_8, S_2.2) : zS) fun S_10 =>
    zjoin (fun (s_11 : Int32) =>
      zlet ((upd S_10.1 30 s_11, S_10.2) : zS) fun S_13 =>
      zfix (F_X5_findSoonest_69 x3_7 r_6) zN ((0 : Int32), S_13)) fun k_12 =>
    if r_6 = 0 then
      k_12 (0 : Int32)
    else
      k_12 (-9 : Int32)) fun k_9 =>
  if r_6 = 0 then
    k_9 (0 : Int32)
  else
    k_9 (-9 : Int32)
def f_X5_soonest (a1 : Int32) (S : zS) : Option (Int32 × zS) :=
  zlet ((upd S.1 0 (0 : Int32), S.2) : zS) fun S_1 =>
  (f_X5_copy 14 16 S_1).bind fun S_3 =>
  (f_X5_findSoonest  S_3).bind fun S_5 =>
  zjoin (fun (s_6 : Int32) =>
    some (s_6, S_5)) fun k_7 =>
  if a1 = 0 then
    k_7 (S_5.1 29)
  else
    k_7 (S_5.1 30)
def F_X5_judge_50 (a1 : Int32) (S_1 : zS) (a2 : Int32) (rec_13 : Int32 × Int32 → Option (Int32 × zS)) (e_ : Int32 × Int32) : Option (Int32 × zS) := match e_ with
  | (x3_11, x4_12) =>
    if a1 ≤ x4_12 then
      some ((-9 : Int32), S_1)
    else
      (f_X5_power (1000 : Int32) ((a1 - (1 : Int32)) - x4_12)).bind fun r_15 =>
      gd (¬ r_15 = 0) <|
      zlet (zrem (a2 / r_15) (1000 : Int32)) fun x5_17 =>
      zlet (x5_17 / (100 : Int32)) fun x6_18 =>
      (f_X5_noPair x6_18 (zrem (x5_17 / (10 : Int32)) (10 : Int32)) (zrem x5_17 (10 : Int32)) S_1).bind fun r_20 =>
      zjoin (fun (_ : Unit) =>
        some (x4_12, S_1)) fun k_21 =>
      if r_20 = 0 then
        (f_X5_has x3_11 x6_18).bind fun r_23 =>
        if r_23 = 0 then
          zlet (x3_11 ||| (zshl (1 : Int32) x6_18)) fun x3_24 =>
          rec_13 (x3_24, (x4_12 + (1 : Int32)))
        else
          k_21 ()
      else
        k_21 ()
def f_X5_judge (a1 : Int32) (a2 : Int32) (S : zS) : Option (Int32 × zS) :=
  zlet ((upd S.1 0 (0 : Int32), S.2) : zS) fun S_1 =>
  (f_X5_in a1.toInt64 (1 : Int64) (3 : Int64)).bind fun r_3 =>
  zjoin (fun (_ : Unit) =>
    some ((-2 : Int32), S_1)) fun k_4 =>
  if r_3 = 0 then
    k_4 ()
  else
    (f_X5_power (1000 : Int32) a1).bind fun r_6 =>
    (f_X5_in a2.toInt64 (0 : Int64) ((r_6 - (1 : Int32))).toInt64).bind fun r_8 =>
    if r_8 = 0 then
      k_4 ()
    else
      gd (zin (20 : Int32) 22) <|
      zlet (S_1.2.2 14 ((20 : Int32)).toNatClampNeg) fun x3_10 =>
      zfix (F_X5_judge_50 a1 S_1 a2) zN (x3_10, (0 : Int32))
def F_X5_ways_4 (a0 : Int32) (rec_3 : Int32 × Int32 → Option (Int32)) (e_ : Int32 × Int32) : Option (Int32) := match e_ with
  | (x1_1, x2_2) =>
    if a0 < x2_2 then
      some x1_1
    else
      zlet (x1_1 * x2_2) fun x1_4 =>
      rec_3 (x1_4, (x2_2 + (1 : Int32)))
def f_X5_ways (a0 : Int32) : Option (Int32) :=
  zfix (F_X5_ways_4 a0) zN ((1 : Int32), (2 : Int32))
def F_X5_divisor_13 (rec_5 : Int32 × Int32 → Option (Int32)) (e_ : Int32 × Int32) : Option (Int32) := match e_ with
  | (x2_3, x3_4) =>
    if x3_4 = 0 then
      some x2_3
    else
      gd (¬ x3_4 = 0) <|
      zlet (zrem x2_3 x3_4) fun x4_7 =>
      rec_5 (x3_4, x4_7)
def f_X5_divisor (a0 : Int32) (a1 : Int32) : Option (Int32) :=
  zjoin (fun (s_1 : Int32) =>
    zfix F_X5_divisor_13 zN (s_1, a1)) fun k_2 =>
  if 0 ≤ a0 then
    k_2 a0
  else
    k_2 (-a0)
def f_X5_fraction (a0 : Int32) (a1 : Int32) (a2 : Int32) : Option (Int32) :=
  (f_X5_divisor a0 a1).bind fun r_2 =>
  zjoin (fun (s_3 : Int32) =>
    some s_3) fun k_4 =>
  if a2 = 0 then
    gd (¬ r_2 = 0) <|
    k_4 (a1 / r_2)
  else
    gd (¬ r_2 = 0) <|
    k_4 (a0 / r_2)
def F_X5_share_84 (S_8 : zS) (a3 : Int32) (a1 : Int32) (rec_12 : Int32 × Int32 → Option (Int32 × zS)) (e_ : Int32 × Int32) : Option (Int32 × zS) := match e_ with
  | (x4_10, x5_11) =>
    if (zshl (1 : Int32) (S_8.1 5)) ≤ x5_11 then
      (f_X5_ways (S_8.1 5)).bind fun r_14 =>
      (f_X5_fraction x4_10 r_14 a3).bind fun r_16 =>
      some (r_16, S_8)
    else
      (f_X5_has x5_11 a1).bind fun r_18 =>
      zjoin (fun (x4_19 : Int32) =>
        rec_12 (x4_19, (x5_11 + (1 : Int32)))) fun k_20 =>
      if r_18 = 0 then
        (f_X5_many x5_11).bind fun r_22 =>
        (f_X5_ways r_22).bind fun r_24 =>
        (f_X5_ways (((S_8.1 5) - (1 : Int32)) - r_22)).bind fun r_26 =>
        gd (zin (x5_11 ||| (zshl (1 : Int32) a1)) 16) <|
        gd (zin x5_11 16) <|
        zlet (x4_10 + ((r_24 * r_26) * ((S_8.2.2 33 ((x5_11 ||| (zshl (1 : Int32) a1))).toNatClampNeg) - (S_8.2.2 33 (x5_11).toNatClampNeg)))) fun x4_29 =>
        k_20 x4_29
      else
        k_20 x4_10
def F_X5_share_26 (a3 : Int32) (a1 : Int32) (a2 : Int32) (rec_9 : Int32 × zS → Option (Int32 × zS)) (e_ : Int32 × zS) : Option (Int32 × zS) := match e_ with
  | (x4_7, S_8) =>
    if (zshl (1 : Int32) (S_8.1 5)) ≤ x4_7 then
      zfix (F_X5_share_84 S_8 a3 a1) zN ((0 : Int32), (0 : Int32))
    else
      (f_X5_findBest a2 x4_7 S_8).bind fun S_33 =>
      zjoin (fun (s_34 : Int32) =>
        gd (zin x4_7 16) <|
        zlet ((S_33.1, S_33.2.1, zur S_33.2.2 33 (upd (S_33.2.2 33) (x4_7).toNatClampNeg s_34)) : zS) fun S_37 =>
        rec_9 ((x4_7 + (1 : Int32)), S_37)) fun k_35 =>
      if (S_33.1 25) = (-9 : Int32) then
        k_35 (0 : Int32)
      else
        k_35 ((200 : Int32) - (S_33.1 26))
def f_X5_share (a1 : Int32) (a2 : Int32) (a3 : Int32) (S : zS) : Option (Int32 × zS) :=
  zlet ((upd S.1 0 (0 : Int32), S.2) : zS) fun S_1 =>
  (f_X5_noLegger a1 S_1).bind fun r_3 =>
  zjoin (fun (_ : Unit) =>
    some ((-1 : Int32), S_1)) fun k_4 =>
  if r_3 = 0 then
    (f_X5_noBoat a2 S_1).bind fun r_6 =>
    if r_6 = 0 then
      zfix (F_X5_share_26 a3 a1 a2) zN ((0 : Int32), S_1)
    else
      k_4 ()
  else
    k_4 ()
def f_X5_see (a1 : Int32) (a2 : Int32) (S : zS) : Option (Int32 × zS) :=
  zlet ((upd S.1 0 (0 : Int32), S.2) : zS) fun S_1 =>
  (f_X5_in a1.toInt64 (0 : Int64) (5 : Int64)).bind fun r_3 =>
  zjoin (fun (_ : Unit) =>
    some ((-2 : Int32), S_1)) fun k_4 =>
  if r_3 = 0 then
    k_4 ()
  else
    (f_X5_in a2.toInt64 (1 : Int64) (3 : Int64)).bind fun r_6 =>
    if r_6 = 0 then
      k_4 ()
    else
      if (S_1.1 21) = (6 : Int32) then
        some ((-4 : Int32), S_1)
      else
        gd (zin (S_1.1 21) 6) <|
        zlet ((S_1.1, S_1.2.1, zur S_1.2.2 22 (upd (S_1.2.2 22) ((S_1.1 21)).toNatClampNeg a1)) : zS) fun S_8 =>
        gd (zin (S_8.1 21) 6) <|
        zlet ((S_8.1, S_8.2.1, zur S_8.2.2 23 (upd (S_8.2.2 23) ((S_8.1 21)).toNatClampNeg a2)) : zS) fun S_10 =>
        zlet ((upd S_10.1 21 ((S_10.1 21) + (1 : Int32)), S_10.2) : zS) fun S_11 =>
        some ((S_11.1 21), S_11)
def f_X5_unsee  (S : zS) : Option (Int32 × zS) :=
  zlet ((upd S.1 0 (0 : Int32), S.2) : zS) fun S_1 =>
  zlet (S_1.1 21) fun x1_2 =>
  zlet ((upd S_1.1 21 (0 : Int32), S_1.2) : zS) fun S_3 =>
  some (x1_2, S_3)
def F_X5_isSeen_32 (S : zS) (x2_1 : Int32) (x5_9 : Int32) (rec_4 : Int32 × Int32 × Int32 → Option (Int32)) (x4_3 : Int32) (rec_12 : Int32 × Int32 → Option (Int32)) (e_ : Int32 × Int32) : Option (Int32) := match e_ with
  | (x3_10, x6_11) =>
    if (S.1 21) ≤ x6_11 then
      (f_X5_next x2_1 x5_9).bind fun r_14 =>
      rec_4 (r_14, x3_10, (x4_3 + (1 : Int32)))
    else
      zjoin (fun (s_15 : Int32) =>
        rec_12 (s_15, (x6_11 + (1 : Int32)))) fun k_16 =>
      zjoin (fun (_ : Unit) =>
        k_16 (0 : Int32)) fun k_17 =>
      if x3_10 = 0 then
        k_17 ()
      else
        gd (zin x6_11 6) <|
        zjoin (fun (_ : Unit) =>
          k_16 (1 : Int32)) fun k_19 =>
        if (S.2.2 22 (x6_11).toNatClampNeg) = x4_3 then
          gd (zin x6_11 6) <|
          (f_X5_minutes x5_9).bind fun r_22 =>
          if (S.2.2 23 (x6_11).toNatClampNeg) = r_22 then
            k_19 ()
          else
            k_17 ()
        else
          k_19 ()
def F_X5_isSeen_7 (a1 : Int32) (S : zS) (rec_4 : Int32 × Int32 × Int32 → Option (Int32)) (e_ : Int32 × Int32 × Int32) : Option (Int32) := match e_ with
  | (x2_1, x3_2, x4_3) =>
    zjoin (fun (_ : Unit) =>
      gd (zb x3_2) <|
      some x3_2) fun k_5 =>
    if (6 : Int32) ≤ x4_3 then
      k_5 ()
    else
      if x3_2 = 0 then
        k_5 ()
      else
        (f_X5_power (4 : Int32) x2_1).bind fun r_7 =>
        gd (¬ r_7 = 0) <|
        zlet (zrem (a1 / r_7) (4 : Int32)) fun x5_9 =>
        zfix (F_X5_isSeen_32 S x2_1 x5_9 rec_4 x4_3) zN (x3_2, (0 : Int32))
def f_X5_isSeen (a1 : Int32) (S : zS) : Option (Int32) :=
  zfix (F_X5_isSeen_7 a1 S) zN ((0 : Int32), (1 : Int32), (0 : Int32))
def F_X5_lives_29 (S_1 : zS) (a1 : Int32) (rec_7 : Int32 × Int32 × Int32 → Option (Int32 × zS)) (e_ : Int32 × Int32 × Int32) : Option (Int32 × zS) := match e_ with
  | (x2_4, x3_5, x4_6) =>
    if (256 : Int32) ≤ x4_6 then
      zjoin (fun (s_8 : Int32) =>
        some (s_8, S_1)) fun k_9 =>
      if 0 ≤ a1 then
        k_9 x3_5
      else
        k_9 x2_4
    else
      (f_X5_isSeen x4_6 S_1).bind fun r_12 =>
      zjoin (fun (e_ : (Int32 × Int32)) => match e_ with
          | (x2_13, x3_14) =>
            rec_7 (x2_13, x3_14, (x4_6 + (1 : Int32)))) fun k_15 =>
      if r_12 = 0 then
        k_15 (x2_4, x3_5)
      else
        zjoin (fun (s_16 : Int32) =>
          zlet (x3_5 ||| s_16) fun x3_18 =>
          k_15 ((x2_4 + (1 : Int32)), x3_18)) fun k_17 =>
        if 0 ≤ a1 then
          (f_X5_power (4 : Int32) a1).bind fun r_20 =>
          gd (¬ r_20 = 0) <|
          k_17 (zshl (1 : Int32) (zrem (x4_6 / r_20) (4 : Int32)))
        else
          k_17 (0 : Int32)
def f_X5_lives (a1 : Int32) (S : zS) : Option (Int32 × zS) :=
  zlet ((upd S.1 0 (0 : Int32), S.2) : zS) fun S_1 =>
  (f_X5_in a1.toInt64 (-1 : Int64) (3 : Int64)).bind fun r_3 =>
  if r_3 = 0 then
    some ((-2 : Int32), S_1)
  else
    zfix (F_X5_lives_29 S_1 a1) zN ((0 : Int32), (0 : Int32), (0 : Int32))
def f_X5_loss (a0 : Int32) (a1 : Int32) (a2 : Int32) : Option (Int32) :=
  if a0 = a1 then
    some ((6 : Int32) + a2)
  else
    zjoin (fun (s_1 : Int32) =>
      some s_1) fun k_2 =>
    if a0 ≤ a1 then
      k_2 a0
    else
      k_2 (a2 + a0)
def F_X5_findRests_33 (S_7 : zS) (rec_8 : Int32 × zS → Option (zS)) (x4_6 : Int32) (x3_3 : Int32) (a1 : Int32) (a2 : Int32) (rec_11 : Int32 × Int32 → Option (zS)) (e_ : Int32 × Int32) : Option (zS) := match e_ with
  | (x5_9, x6_10) =>
    if (4 : Int32) ≤ x6_10 then
      zjoin (fun (s_12 : Int32) =>
        zlet ((upd S_7.1 32 s_12, S_7.2) : zS) fun S_14 =>
        zjoin (fun (s_15 : Int32) =>
          zlet ((upd S_14.1 31 ((S_14.1 31) + s_15), S_14.2) : zS) fun S_17 =>
          rec_8 ((x4_6 + (1 : Int32)), S_17)) fun k_16 =>
        if x5_9 = 0 then
          k_16 (0 : Int32)
        else
          k_16 (1 : Int32)) fun k_13 =>
      zjoin (fun (_ : Unit) =>
        k_13 (S_7.1 32)) fun k_19 =>
      if x5_9 = 0 then
        k_19 ()
      else
        if (S_7.1 31) = 0 then
          k_13 (((10 : Int32) * x3_3) + x4_6)
        else
          k_19 ()
    else
      zjoin (fun (s_22 : Int32) =>
        rec_11 (s_22, (x6_10 + (1 : Int32)))) fun k_23 =>
      zjoin (fun (_ : Unit) =>
        k_23 (0 : Int32)) fun k_24 =>
      if x5_9 = 0 then
        k_24 ()
      else
        (f_X5_loss x6_10 x4_6 a1).bind fun r_26 =>
        (f_X5_loss x3_3 x4_6 a1).bind fun r_28 =>
        if r_26 < r_28 then
          k_24 ()
        else
          (f_X5_loss x6_10 x3_3 a2).bind fun r_30 =>
          (f_X5_loss x4_6 x3_3 a2).bind fun r_32 =>
          if r_30 < r_32 then
            k_24 ()
          else
            k_23 (1 : Int32)
def F_X5_findRests_21 (rec_5 : Int32 × zS → Option (zS)) (x3_3 : Int32) (a1 : Int32) (a2 : Int32) (rec_8 : Int32 × zS → Option (zS)) (e_ : Int32 × zS) : Option (zS) := match e_ with
  | (x4_6, S_7) =>
    if (4 : Int32) ≤ x4_6 then
      rec_5 ((x3_3 + (1 : Int32)), S_7)
    else
      zfix (F_X5_findRests_33 S_7 rec_8 x4_6 x3_3 a1 a2) zN ((1 : Int32), (0 : Int32))
def F_X5_findRests_13 (a1 : Int32) (a2 : Int32) (rec_5 : Int32 × zS → Option (zS)) (e_ : Int32 × zS) : Option (zS) := match e_ with
  | (x3_3, S_4) =>
    if (4 : Int32) ≤ x3_3 then
      some S_4
    else
      zfix (F_X5_findRests_21 rec_5 x3_3 a1 a2) zN ((0 : Int32), S_4)
def f_X5_findRests (a1 : Int32) (a2 : Int32) (S : zS) : Option (zS) :=
  zlet ((upd S.1 31 (0 : Int32), S.2) : zS) fun S_1 =>
  zlet ((upd S_1.1 32 (-9 : Int32), S_1.2) : zS) fun S_2 =>
  zfix (F_X5_findRests_13 a1 a2) zN ((0 : Int32), S_2)
def f_X5_rests (a1 : Int32) (a2 : Int32) (a3 : Int32) (S : zS) : Option (Int32 × zS) :=
  zlet ((upd S.1 0 (0 : Int32), S.2) : zS) fun S_1 =>
  (f_X5_noBoat a1 S_1).bind fun r_3 =>
  zjoin (fun (_ : Unit) =>
    some ((-1 : Int32), S_1)) fun k_4 =>
  if r_3 = 0 then
    (f_X5_noBoat a2 S_1).bind fun r_6 =>
    if r_6 = 0 then
      zjoin (fun (_ : Unit) =>
        some ((-2 : Int32), S_1)) fun k_7 =>
      if a1 = a2 then
        k_7 ()
      else
        (f_X5_in a3.toInt64 (0 : Int64) (1 : Int64)).bind fun r_9 =>
        if r_9 = 0 then
          k_7 ()
        else
          gd (zin a1 3) <|
          gd (zin a2 3) <|
          (f_X5_findRests (S_1.2.2 8 (a1).toNatClampNeg) (S_1.2.2 8 (a2).toNatClampNeg) S_1).bind fun S_13 =>
          zjoin (fun (s_14 : Int32) =>
            some (s_14, S_13)) fun k_15 =>
          if a3 = 0 then
            k_15 (S_13.1 31)
          else
            k_15 (S_13.1 32)
    else
      k_4 ()
  else
    k_4 ()
def F_X5_chance_71 (S_1 : zS) (x5_9 : Int32) (rec_11 : Int32 × Int32 → Option (Int32 × zS)) (x6_10 : Int32) (a2 : Int32) (a1 : Int32) (a3 : Int32) (rec_20 : Int32 × Int32 × Int32 × Int32 → Option (Int32 × zS)) (e_ : Int32 × Int32 × Int32 × Int32) : Option (Int32 × zS) := match e_ with
  | (x7_16, x8_17, x9_18, x10_19) =>
    if (S_1.1 4) ≤ x10_19 then
      zjoin (fun (s_21 : Int32) =>
        zlet (x5_9 + s_21) fun x5_23 =>
        rec_11 (x5_23, (x6_10 + (1 : Int32)))) fun k_22 =>
      if a2 < x8_17 then
        k_22 (0 : Int32)
      else
        k_22 x9_18
    else
      gd (zin (((0 : Int32) + ((4 : Int32) * a1)) + x7_16) 22) <|
      zlet (S_1.2.2 14 ((((0 : Int32) + ((4 : Int32) * a1)) + x7_16)).toNatClampNeg) fun x11_26 =>
      (f_X5_has x6_10 x10_19).bind fun r_28 =>
      (f_X5_takes 14 a1 x10_19 x7_16 S_1).bind fun r_30 =>
      zlet (x8_17 + r_30) fun x8_31 =>
      zjoin (fun (s_32 : Int32) =>
        zlet (x9_18 * s_32) fun x9_34 =>
        zjoin (fun (s_35 : Int32) =>
          (f_X5_next x7_16 s_35).bind fun r_38 =>
          rec_20 (r_38, x8_31, x9_34, (x10_19 + (1 : Int32)))) fun k_36 =>
        if r_28 = 0 then
          k_36 x11_26
        else
          k_36 (2 : Int32)) fun k_33 =>
      if x11_26 = (2 : Int32) then
        if r_28 = 0 then
          k_33 (10 : Int32)
        else
          k_33 (0 : Int32)
      else
        if r_28 = 0 then
          k_33 ((10 : Int32) - a3)
        else
          k_33 a3
def F_X5_chance_48 (S_1 : zS) (a4 : Int32) (a2 : Int32) (a1 : Int32) (a3 : Int32) (rec_11 : Int32 × Int32 → Option (Int32 × zS)) (e_ : Int32 × Int32) : Option (Int32 × zS) := match e_ with
  | (x5_9, x6_10) =>
    if (zshl (1 : Int32) (S_1.1 4)) ≤ x6_10 then
      (f_X5_power (10 : Int32) (S_1.1 4)).bind fun r_13 =>
      (f_X5_fraction x5_9 r_13 a4).bind fun r_15 =>
      some (r_15, S_1)
    else
      zfix (F_X5_chance_71 S_1 x5_9 rec_11 x6_10 a2 a1 a3) zN ((0 : Int32), (0 : Int32), (1 : Int32), (0 : Int32))
def f_X5_chance (a1 : Int32) (a2 : Int32) (a3 : Int32) (a4 : Int32) (S : zS) : Option (Int32 × zS) :=
  zlet ((upd S.1 0 (0 : Int32), S.2) : zS) fun S_1 =>
  (f_X5_noLegger a1 S_1).bind fun r_3 =>
  if r_3 = 0 then
    (f_X5_in a2.toInt64 (0 : Int64) (60 : Int64)).bind fun r_5 =>
    zjoin (fun (_ : Unit) =>
      some ((-2 : Int32), S_1)) fun k_6 =>
    if r_5 = 0 then
      k_6 ()
    else
      (f_X5_in a3.toInt64 (0 : Int64) (10 : Int64)).bind fun r_8 =>
      if r_8 = 0 then
        k_6 ()
      else
        zfix (F_X5_chance_48 S_1 a4 a2 a1 a3) zN ((0 : Int32), (0 : Int32))
  else
    some ((-1 : Int32), S_1)
def f_X5_seed (b1 : Int64) (S : zS) : Option (Int64 × zS) :=
  zlet ((upd S.1 0 (0 : Int32), S.2) : zS) fun S_1 =>
  zlet S_1.2.1 fun x3_2 =>
  zlet ((S_1.1, b1, S_1.2.2) : zS) fun S_3 =>
  some (x3_2, S_3)
def F_X5_goSoonest_7 (rec_4 : Int32 × zS → Option (zS)) (e_ : Int32 × zS) : Option (zS) := match e_ with
  | (x1_2, S_3) =>
    zjoin (fun (_ : Unit) =>
      some S_3) fun k_5 =>
    if x1_2 < 0 then
      k_5 ()
    else
      if (S_3.1 30) = (-9 : Int32) then
        k_5 ()
      else
        (f_X5_power (1000 : Int32) x1_2).bind fun r_7 =>
        gd (¬ r_7 = 0) <|
        zlet (zrem ((S_3.1 30) / r_7) (1000 : Int32)) fun x2_9 =>
        (f_X5_goLeg 16 (x2_9 / (100 : Int32)) (zrem (x2_9 / (10 : Int32)) (10 : Int32)) (zrem x2_9 (10 : Int32)) S_3).bind fun S_11 =>
        rec_4 ((x1_2 + (-1 : Int32)), S_11)
def f_X5_goSoonest  (S : zS) : Option (zS) :=
  zlet ((S.1 7) - (1 : Int32)) fun x1_1 =>
  zfix F_X5_goSoonest_7 zN (x1_1, S)
def F_X5_days_33 (a1 : Int32) (rec_8 : Int32 × zS → Option (Int32 × zS)) (e_ : Int32 × zS) : Option (Int32 × zS) := match e_ with
  | (x2_6, S_7) =>
    if a1 ≤ x2_6 then
      gd (zin (21 : Int32) 22) <|
      gd (zin (21 : Int32) 22) <|
      some (((S_7.2.2 16 ((21 : Int32)).toNatClampNeg) - (S_7.2.2 14 ((21 : Int32)).toNatClampNeg)), S_7)
    else
      zlet ((S_7.1, ((S_7.2.1 * (6364136223846793005 : Int64)) + (1442695040888963407 : Int64)), S_7.2.2) : zS) fun S_11 =>
      zlet ((zremL (zushrL S_11.2.1 (33 : Int32)) (20 : Int64))).toInt32 fun x3_12 =>
      zjoin (fun (S_13 : zS) =>
        rec_8 ((x2_6 + (1 : Int32)), S_13)) fun k_14 =>
      if (4 : Int32) ≤ (x3_12 / (4 : Int32)) then
        gd (zin (20 : Int32) 22) <|
        zlet ((S_11.1, S_11.2.1, zur S_11.2.2 16 (upd (S_11.2.2 16) ((20 : Int32)).toNatClampNeg (0 : Int32))) : zS) fun S_16 =>
        (f_X5_findSoonest  S_16).bind fun S_18 =>
        (f_X5_goSoonest  S_18).bind fun S_20 =>
        k_14 S_20
      else
        (f_X5_noLegger (zrem x3_12 (4 : Int32)) S_11).bind fun r_22 =>
        zjoin (fun (s_23 : Int32) =>
          gd (zin (((0 : Int32) + ((4 : Int32) * (zrem x3_12 (4 : Int32)))) + (x3_12 / (4 : Int32))) 22) <|
          zlet ((S_11.1, S_11.2.1, zur S_11.2.2 16 (upd (S_11.2.2 16) ((((0 : Int32) + ((4 : Int32) * (zrem x3_12 (4 : Int32)))) + (x3_12 / (4 : Int32)))).toNatClampNeg s_23)) : zS) fun S_26 =>
          k_14 S_26) fun k_24 =>
        if r_22 = 0 then
          k_24 (2 : Int32)
        else
          gd (zin (((0 : Int32) + ((4 : Int32) * (zrem x3_12 (4 : Int32)))) + (x3_12 / (4 : Int32))) 22) <|
          k_24 (S_11.2.2 16 ((((0 : Int32) + ((4 : Int32) * (zrem x3_12 (4 : Int32)))) + (x3_12 / (4 : Int32)))).toNatClampNeg)
def f_X5_days (a1 : Int32) (S : zS) : Option (Int32 × zS) :=
  zlet ((upd S.1 0 (0 : Int32), S.2) : zS) fun S_1 =>
  (f_X5_in a1.toInt64 (1 : Int64) (30 : Int64)).bind fun r_3 =>
  if r_3 = 0 then
    some ((-2 : Int32), S_1)
  else
    (f_X5_copy 14 16 S_1).bind fun S_5 =>
    zfix (F_X5_days_33 a1) zN ((0 : Int32), S_5)
def F_X5_keep_26 (a1 : Int32) (rec_8 : Int32 × zS → Option (Int32 × zS)) (e_ : Int32 × zS) : Option (Int32 × zS) := match e_ with
  | (x2_6, S_7) =>
    if (22 : Int32) ≤ x2_6 then
      gd (zin (21 : Int32) 22) <|
      some ((S_7.2.2 14 ((21 : Int32)).toNatClampNeg), S_7)
    else
      gd (zin x2_6 22) <|
      gd (zin (((22 : Int32) * a1) + x2_6) 44) <|
      zlet ((S_7.1, S_7.2.1, zur S_7.2.2 19 (upd (S_7.2.2 19) ((((22 : Int32) * a1) + x2_6)).toNatClampNeg (S_7.2.2 14 (x2_6).toNatClampNeg))) : zS) fun S_12 =>
      rec_8 ((x2_6 + (1 : Int32)), S_12)
def f_X5_keep (a1 : Int32) (S : zS) : Option (Int32 × zS) :=
  zlet ((upd S.1 0 (0 : Int32), S.2) : zS) fun S_1 =>
  (f_X5_in a1.toInt64 (0 : Int64) (1 : Int64)).bind fun r_3 =>
  if r_3 = 0 then
    some ((-1 : Int32), S_1)
  else
    gd (zin a1 2) <|
    zlet ((S_1.1, S_1.2.1, zur S_1.2.2 20 (upd (S_1.2.2 20) (a1).toNatClampNeg (vp_nar .boolean (1 : Int32)))) : zS) fun S_5 =>
    zfix (F_X5_keep_26 a1) zN ((0 : Int32), S_5)
def F_X5_again_31 (a1 : Int32) (rec_7 : Int32 × zS → Option (Int32 × zS)) (e_ : Int32 × zS) : Option (Int32 × zS) := match e_ with
  | (x2_5, S_6) =>
    if (22 : Int32) ≤ x2_5 then
      zlet ((upd S_6.1 18 (0 : Int32), S_6.2) : zS) fun S_8 =>
      gd (zin (21 : Int32) 22) <|
      some ((S_8.2.2 14 ((21 : Int32)).toNatClampNeg), S_8)
    else
      gd (zin (((22 : Int32) * a1) + x2_5) 44) <|
      gd (zin x2_5 22) <|
      zlet ((S_6.1, S_6.2.1, zur S_6.2.2 14 (upd (S_6.2.2 14) (x2_5).toNatClampNeg (S_6.2.2 19 ((((22 : Int32) * a1) + x2_5)).toNatClampNeg))) : zS) fun S_12 =>
      rec_7 ((x2_5 + (1 : Int32)), S_12)
def f_X5_again (a1 : Int32) (S : zS) : Option (Int32 × zS) :=
  zlet ((upd S.1 0 (0 : Int32), S.2) : zS) fun S_1 =>
  (f_X5_in a1.toInt64 (0 : Int64) (1 : Int64)).bind fun r_3 =>
  if r_3 = 0 then
    some ((-1 : Int32), S_1)
  else
    gd (zin a1 2) <|
    if (S_1.2.2 20 (a1).toNatClampNeg) = 0 then
      some ((-3 : Int32), S_1)
    else
      zfix (F_X5_again_31 a1) zN ((0 : Int32), S_1)
