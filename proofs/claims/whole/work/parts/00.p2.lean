def f_X12_find_L2 : Nat → (Int64) → (Int32) → (TnS) → Option (Int32)
  | 0, _, _, _ => none
  | n_ + 1, x1, x3, tn =>
    if (Tn_names tn) ≤ x3 then
      some ((-1 : Int32))
    else
      ck x3 16 <|
      if (lg_cmp (Tn_name tn (Int32.toNatClampNeg x3)) x1) = 0 then
        some (x3)
      else
        lt1 (x3 + (1 : Int32)) fun (v_1 : Int32) =>
        f_X12_find_L2 n_ x1 v_1 tn
def f_X12_find (tn : TnS) (p1 : Int64) : Option (Int32) :=
  f_X12_find_L2 FU p1 (0 : Int32) tn
def f_X12_other (tn : TnS) (p1 : Int32) : Option (Int32) :=
  ck p1 16 <|
  lt1 (Tn_linkOf tn (Int32.toNatClampNeg p1)) fun (v_1 : Int32) =>
  ck v_1 8 <|
  ck v_1 8 <|
  if (((2 : Int32) * (Tn_one tn (Int32.toNatClampNeg v_1))) + (Tn_oneHand tn (Int32.toNatClampNeg v_1))) = p1 then
    ck v_1 8 <|
    ck v_1 8 <|
    some ((((2 : Int32) * (Tn_two tn (Int32.toNatClampNeg v_1))) + (Tn_twoHand tn (Int32.toNatClampNeg v_1))))
  else
    ck v_1 8 <|
    ck v_1 8 <|
    some ((((2 : Int32) * (Tn_one tn (Int32.toNatClampNeg v_1))) + (Tn_oneHand tn (Int32.toNatClampNeg v_1))))
def f_X12_stands (tn : TnS) (p1 : Int32) (p2 : Int32) : Option ((TnS)) :=
  ck (Tn_standings tn) 14 <|
  lt1 (Tn_standRing' tn (upd (Tn_standRing tn) (Int32.toNatClampNeg (Tn_standings tn)) (Tn_rings tn))) fun (tn_1 : TnS) =>
  ck (Tn_standings tn_1) 14 <|
  lt1 (Tn_standLink' tn_1 (upd (Tn_standLink tn_1) (Int32.toNatClampNeg (Tn_standings tn_1)) p1)) fun (tn_2 : TnS) =>
  lt1 (Tn_first' tn_2 ((Tn_first tn_2) ||| ((Int32.toInt64 p2) <<< (Int32.toInt64 ((4 : Int32) * (Tn_standings tn_2)) &&& 63)))) fun (tn_3 : TnS) =>
  lt1 (Tn_standings' tn_3 ((Tn_standings tn_3) + (1 : Int32))) fun (tn_4 : TnS) =>
  some (tn_4)
def f_X12_laysStandings_L102 (x1 : Int32) (x2 : Int32) (x3 : Int32) (x4 : Int32) (tn : TnS) (k29 : (Int32) → (Int32) → (Int32) → (Int32) → (TnS) → Option ((TnS))) : Option ((TnS)) :=
  lt1 (x4 + (1 : Int32)) fun (v_4 : Int32) =>
  k29 x1 x2 x3 v_4 tn
def f_X12_laysStandings_L71 (x1 : Int32) (x2 : Int32) (x3 : Int32) (x4 : Int32) (tn : TnS) (k29 : (Int32) → (Int32) → (Int32) → (Int32) → (TnS) → Option ((TnS))) : Option ((TnS)) :=
  ck x4 7 <|
  if (Tn_under tn (Int32.toNatClampNeg x4)) = x1 then
    ck x4 7 <|
    if (Tn_underAt tn (Int32.toNatClampNeg x4)) = x3 then
      bd1 (f_X12_stands tn x1 ((2 : Int32) * x4)) fun (tn_3 : TnS) =>
      f_X12_laysStandings_L102 x1 x2 x3 x4 tn_3 k29
    else
      f_X12_laysStandings_L102 x1 x2 x3 x4 tn k29
  else
    f_X12_laysStandings_L102 x1 x2 x3 x4 tn k29
def f_X12_laysStandings_L29 : Nat → (Int32) → (Int32) → (Int32) → (Int32) → (TnS) → ((Int32) → (Int32) → (TnS) → Option ((TnS))) → Option ((TnS))
  | 0, _, _, _, _, _, _ => none
  | n_ + 1, x1, x2, x3, x4, tn, k2 =>
    if (Tn_crossings tn) ≤ x4 then
      lt1 (x2 + (1 : Int32)) fun (v_1 : Int32) =>
      k2 x1 v_1 tn
    else
      ck x4 7 <|
      if (Tn_over tn (Int32.toNatClampNeg x4)) = x1 then
        ck x4 7 <|
        if (Tn_overAt tn (Int32.toNatClampNeg x4)) = x3 then
          bd1 (f_X12_stands tn x1 (((2 : Int32) * x4) + (1 : Int32))) fun (tn_2 : TnS) =>
          f_X12_laysStandings_L71 x1 x2 x3 x4 tn_2 (fun y0 y1 y2 y3 y4 => f_X12_laysStandings_L29 n_ y0 y1 y2 y3 y4 k2)
        else
          f_X12_laysStandings_L71 x1 x2 x3 x4 tn (fun y0 y1 y2 y3 y4 => f_X12_laysStandings_L29 n_ y0 y1 y2 y3 y4 k2)
      else
        f_X12_laysStandings_L71 x1 x2 x3 x4 tn (fun y0 y1 y2 y3 y4 => f_X12_laysStandings_L29 n_ y0 y1 y2 y3 y4 k2)
def f_X12_laysStandings_L25 (x1 : Int32) (x2 : Int32) (t0i : Int32) (tn : TnS) (k2 : (Int32) → (Int32) → (TnS) → Option ((TnS))) : Option ((TnS)) :=
  f_X12_laysStandings_L29 FU x1 x2 t0i (0 : Int32) tn k2
def f_X12_laysStandings_L2 : Nat → (Int32) → (Int32) → (TnS) → Option ((TnS))
  | 0, _, _, _ => none
  | n_ + 1, x1, x2, tn =>
    if (9 : Int32) < x2 then
      some (tn)
    else
      ck x1 8 <|
      if (Tn_along tn (Int32.toNatClampNeg x1)) = 0 then
        f_X12_laysStandings_L25 x1 x2 ((10 : Int32) - x2) tn (fun y0 y1 y2 => f_X12_laysStandings_L2 n_ y0 y1 y2)
      else
        f_X12_laysStandings_L25 x1 x2 x2 tn (fun y0 y1 y2 => f_X12_laysStandings_L2 n_ y0 y1 y2)
def f_X12_laysStandings (tn : TnS) (p1 : Int32) : Option ((TnS)) :=
  f_X12_laysStandings_L2 FU p1 (1 : Int32) tn
def f_X12_laysRing_L101 (x1 : Int32) (x2 : Int32) (x3 : Int32) (x4 : Int32) (t1i : Int32) (t2i : Int32) (tn : TnS) (k4 : (Int32) → (Int32) → (Int32) → (TnS) → Option ((TnS))) : Option ((TnS)) :=
  ck t1i 8 <|
  lt1 (Tn_along' tn (upd (Tn_along tn) (Int32.toNatClampNeg t1i) (vp_nar .boolean t2i))) fun (tn_7 : TnS) =>
  bd1 (f_X12_laysStandings tn_7 x4) fun (tn_8 : TnS) =>
  bd1 (f_X12_other tn_8 x2) fun (r_9 : Int32) =>
  lt1 (r_9 ^^^ (1 : Int32)) fun (v_10 : Int32) =>
  lt1 (x3 + (1 : Int32)) fun (v_11 : Int32) =>
  k4 x1 v_10 v_11 tn_8
def f_X12_laysRing_L13 (x1 : Int32) (x2 : Int32) (x3 : Int32) (tn : TnS) (k4 : (Int32) → (Int32) → (Int32) → (TnS) → Option ((TnS))) : Option ((TnS)) :=
  ck x2 16 <|
  lt1 (Tn_linkOf tn (Int32.toNatClampNeg x2)) fun (v_2 : Int32) =>
  ck (x2 / (2 : Int32)) 8 <|
  lt1 (Tn_ringOf' tn (upd (Tn_ringOf tn) (Int32.toNatClampNeg (x2 / (2 : Int32))) (Tn_rings tn))) fun (tn_3 : TnS) =>
  ck (((8 : Int32) * (Tn_rings tn_3)) + x3) 64 <|
  lt1 (Tn_member' tn_3 (upd (Tn_member tn_3) (Int32.toNatClampNeg (((8 : Int32) * (Tn_rings tn_3)) + x3)) (x2 / (2 : Int32)))) fun (tn_4 : TnS) =>
  ck v_2 8 <|
  lt1 (Tn_linkRing' tn_4 (upd (Tn_linkRing tn_4) (Int32.toNatClampNeg v_2) (Tn_rings tn_4))) fun (tn_5 : TnS) =>
  ck v_2 8 <|
  lt1 (Tn_linkRow' tn_5 (upd (Tn_linkRow tn_5) (Int32.toNatClampNeg v_2) x3)) fun (tn_6 : TnS) =>
  ck v_2 8 <|
  ck v_2 8 <|
  if (((2 : Int32) * (Tn_one tn_6 (Int32.toNatClampNeg v_2))) + (Tn_oneHand tn_6 (Int32.toNatClampNeg v_2))) = x2 then
    f_X12_laysRing_L101 x1 x2 x3 v_2 v_2 (1 : Int32) tn_6 k4
  else
    f_X12_laysRing_L101 x1 x2 x3 v_2 v_2 (0 : Int32) tn_6 k4
def f_X12_laysRing_L4 : Nat → (Int32) → (Int32) → (Int32) → (TnS) → Option ((TnS))
  | 0, _, _, _, _ => none
  | n_ + 1, x1, x2, x3, tn =>
    if x3 = 0 then
      f_X12_laysRing_L13 x1 x2 x3 tn (fun y0 y1 y2 y3 => f_X12_laysRing_L4 n_ y0 y1 y2 y3)
    else
      if x2 = x1 then
        ck (Tn_rings tn) 8 <|
        lt1 (Tn_size' tn (upd (Tn_size tn) (Int32.toNatClampNeg (Tn_rings tn)) x3)) fun (tn_1 : TnS) =>
        some (tn_1)
      else
        f_X12_laysRing_L13 x1 x2 x3 tn (fun y0 y1 y2 y3 => f_X12_laysRing_L4 n_ y0 y1 y2 y3)
def f_X12_laysRing (tn : TnS) (p1 : Int32) : Option ((TnS)) :=
  f_X12_laysRing_L4 FU p1 p1 (0 : Int32) tn
def f_X12_laysRings_L63 (x1 : Int32) (tn : TnS) (k25 : (Int32) → (TnS) → Option ((TnS))) : Option ((TnS)) :=
  lt1 (x1 + (1 : Int32)) fun (v_5 : Int32) =>
  k25 v_5 tn
def f_X12_laysRings_L25 : Nat → (Int32) → (TnS) → Option ((TnS))
  | 0, _, _ => none
  | n_ + 1, x1, tn =>
    if (Tn_people tn) ≤ x1 then
      some (tn)
    else
      ck x1 8 <|
      if (Tn_ringOf tn (Int32.toNatClampNeg x1)) = (-1 : Int32) then
        bd1 (f_X12_laysRing tn ((2 : Int32) * x1)) fun (tn_3 : TnS) =>
        lt1 (Tn_rings' tn_3 ((Tn_rings tn_3) + (1 : Int32))) fun (tn_4 : TnS) =>
        f_X12_laysRings_L63 x1 tn_4 (fun y0 y1 => f_X12_laysRings_L25 n_ y0 y1)
      else
        f_X12_laysRings_L63 x1 tn (fun y0 y1 => f_X12_laysRings_L25 n_ y0 y1)
def f_X12_laysRings_L2 : Nat → (Int32) → (TnS) → Option ((TnS))
  | 0, _, _ => none
  | n_ + 1, x1, tn =>
    if (Tn_people tn) ≤ x1 then
      f_X12_laysRings_L25 FU (0 : Int32) tn
    else
      ck x1 8 <|
      lt1 (Tn_ringOf' tn (upd (Tn_ringOf tn) (Int32.toNatClampNeg x1) (-1 : Int32))) fun (tn_1 : TnS) =>
      lt1 (x1 + (1 : Int32)) fun (v_2 : Int32) =>
      f_X12_laysRings_L2 n_ v_2 tn_1
def f_X12_laysRings (tn : TnS) : Option ((TnS)) :=
  f_X12_laysRings_L2 FU (0 : Int32) tn
def f_X12_signOf_L43 (x1 : Int32) (t0i : Int32) (t1i : Int32) (tn : TnS) : Option (Int32) :=
  if t0i = t1i then
    ck x1 7 <|
    some ((Tn_sign tn (Int32.toNatClampNeg x1)))
  else
    ck x1 7 <|
    some ((-(Tn_sign tn (Int32.toNatClampNeg x1))))
def f_X12_signOf_L30 (x1 : Int32) (x2 : Int32) (t0i : Int32) (tn : TnS) : Option (Int32) :=
  if ((x2 >>> (x1 &&& 31)) &&& (1 : Int32)) = 0 then
    f_X12_signOf_L43 x1 t0i (1 : Int32) tn
  else
    f_X12_signOf_L43 x1 t0i (0 : Int32) tn
def f_X12_signOf (tn : TnS) (p1 : Int32) (p2 : Int32) : Option (Int32) :=
  ck p1 7 <|
  ck (Tn_over tn (Int32.toNatClampNeg p1)) 8 <|
  ck p1 7 <|
  ck (Tn_under tn (Int32.toNatClampNeg p1)) 8 <|
  if (Tn_along tn (Int32.toNatClampNeg (Tn_over tn (Int32.toNatClampNeg p1)))) = (Tn_along tn (Int32.toNatClampNeg (Tn_under tn (Int32.toNatClampNeg p1)))) then
    f_X12_signOf_L30 p1 p2 (1 : Int32) tn
  else
    f_X12_signOf_L30 p1 p2 (0 : Int32) tn
def f_X13_thrown (md : MdS) : Option (Int32) :=
  some ((Md_thrown md))
def f_X13_refused (md : MdS) (p1 : Int32) : Option (Int32 × (MdS)) :=
  lt1 (Md_trouble' md p1) fun (md_1 : MdS) =>
  lt1 (Md_where' md_1 (-1 : Int32)) fun (md_2 : MdS) =>
  some ((-1 : Int32), md_2)
def f_X13_lost (md : MdS) (p1 : Int32) : Option (Int32 × (MdS)) :=
  bd2 (f_X13_refused md p1) fun (r_1 : Int32) (md_2 : MdS) =>
  some ((-100 : Int32), md_2)
def f_X13_denied (md : MdS) (p1 : Int32) : Option (Int32 × (MdS)) :=
  bd2 (f_X13_refused md p1) fun (r_1 : Int32) (md_2 : MdS) =>
  some ((0 : Int32), md_2)
def f_X13_good (md : MdS) (p1 : Int32) : Option (Int32 × (MdS)) :=
  lt1 (Md_trouble' md (0 : Int32)) fun (md_1 : MdS) =>
  lt1 (Md_where' md_1 (-1 : Int32)) fun (md_2 : MdS) =>
  some (p1, md_2)
def f_X13_granted (md : MdS) : Option (Int32 × (MdS)) :=
  bd2 (f_X13_good md (0 : Int32)) fun (r_1 : Int32) (md_2 : MdS) =>
  some ((1 : Int32), md_2)
def f_X13_in (p0 : Int32) (p1 : Int32) (p2 : Int32) : Option (Int32) :=
  if p0 < p1 then
    some ((0 : Int32))
  else
    if p2 < p0 then
      some ((0 : Int32))
    else
      some ((1 : Int32))
def f_X13_byteAt (md : MdS) (p1 : Int32) : Option (Int32) :=
  if (Md_size md) ≤ p1 then
    some ((-1 : Int32))
  else
    ck p1 900 <|
    some (((Md_tape md (Int32.toNatClampNeg p1)) &&& (255 : Int32)))
def f_X13_isLetter (p0 : Int32) : Option (Int32) :=
  if p0 < (97 : Int32) then
    some ((0 : Int32))
  else
    if (122 : Int32) < p0 then
      some ((0 : Int32))
    else
      some ((1 : Int32))
def f_X13_isDigit (p0 : Int32) : Option (Int32) :=
  if p0 < (48 : Int32) then
    some ((0 : Int32))
  else
    if (57 : Int32) < p0 then
      some ((0 : Int32))
    else
      some ((1 : Int32))
def f_X13_goesOn_L131 (x2 : Int32) (md : MdS) (k84 : (Int32) → (MdS) → Option ((MdS))) : Option ((MdS)) :=
  lt1 (x2 + (1 : Int32)) fun (v_25 : Int32) =>
  lt1 (Md_spot' md ((Md_spot md) + (1 : Int32))) fun (md_26 : MdS) =>
  k84 v_25 md_26
def f_X13_goesOn_L84 : Nat → (Int32) → (MdS) → Option ((MdS))
  | 0, _, _ => none
  | n_ + 1, x2, md =>
    bd1 (f_X13_byteAt md (Md_spot md)) fun (r_18 : Int32) =>
    bd1 (f_X13_isLetter r_18) fun (r_19 : Int32) =>
    if r_19 = 0 then
      if (8 : Int32) < x2 then
        some (md)
      else
        lt1 (Md_sort' md (2 : Int32)) fun (md_20 : MdS) =>
        some (md_20)
    else
      if (8 : Int32) ≤ x2 then
        f_X13_goesOn_L131 x2 md (fun y0 y1 => f_X13_goesOn_L84 n_ y0 y1)
      else
        bd1 (f_X13_byteAt md (Md_spot md)) fun (r_21 : Int32) =>
        lt1 (Md_word' md (((32 : Int64) * (Md_word md)) + (Int32.toInt64 ((r_21 - (97 : Int32)) + (1 : Int32))))) fun (md_22 : MdS) =>
        f_X13_goesOn_L131 x2 md_22 (fun y0 y1 => f_X13_goesOn_L84 n_ y0 y1)
def f_X13_goesOn_L215 (x2 : Int32) (md : MdS) (k173 : (Int32) → (MdS) → Option ((MdS))) : Option ((MdS)) :=
  lt1 (x2 + (1 : Int32)) fun (v_23 : Int32) =>
  lt1 (Md_spot' md ((Md_spot md) + (1 : Int32))) fun (md_24 : MdS) =>
  k173 v_23 md_24
def f_X13_goesOn_L173 : Nat → (Int32) → (MdS) → Option ((MdS))
  | 0, _, _ => none
  | n_ + 1, x2, md =>
    bd1 (f_X13_byteAt md (Md_spot md)) fun (r_13 : Int32) =>
    bd1 (f_X13_isDigit r_13) fun (r_14 : Int32) =>
    if r_14 = 0 then
      if (3 : Int32) < x2 then
        some (md)
      else
        lt1 (Md_sort' md (3 : Int32)) fun (md_15 : MdS) =>
        some (md_15)
    else
      if (3 : Int32) ≤ x2 then
        f_X13_goesOn_L215 x2 md (fun y0 y1 => f_X13_goesOn_L173 n_ y0 y1)
      else
        bd1 (f_X13_byteAt md (Md_spot md)) fun (r_16 : Int32) =>
        lt1 (Md_number' md ((((10 : Int32) * (Md_number md)) + r_16) - (48 : Int32))) fun (md_17 : MdS) =>
        f_X13_goesOn_L215 x2 md_17 (fun y0 y1 => f_X13_goesOn_L173 n_ y0 y1)
def f_X13_goesOn_L9 : Nat → (MdS) → Option ((MdS))
  | 0, _ => none
  | n_ + 1, md =>
    bd1 (f_X13_byteAt md (Md_spot md)) fun (r_1 : Int32) =>
    if r_1 = (32 : Int32) then
      lt1 (Md_spot' md ((Md_spot md) + (1 : Int32))) fun (md_12 : MdS) =>
      f_X13_goesOn_L9 n_ md_12
    else
      lt1 (Md_place' md (Md_spot md)) fun (md_2 : MdS) =>
      lt1 (Md_sort' md_2 (0 : Int32)) fun (md_3 : MdS) =>
      bd1 (f_X13_byteAt md_3 (Md_spot md_3)) fun (r_4 : Int32) =>
      if r_4 = (-1 : Int32) then
        lt1 (Md_sort' md_3 (1 : Int32)) fun (md_11 : MdS) =>
        some (md_11)
      else
        bd1 (f_X13_isLetter r_4) fun (r_5 : Int32) =>
        if r_5 = 0 then
          bd1 (f_X13_isDigit r_4) fun (r_6 : Int32) =>
          if r_6 = 0 then
            if r_4 = (59 : Int32) then
              lt1 (Md_sort' md_3 (4 : Int32)) fun (md_7 : MdS) =>
              lt1 (Md_spot' md_7 ((Md_spot md_7) + (1 : Int32))) fun (md_8 : MdS) =>
              some (md_8)
            else
              some (md_3)
          else
            lt1 (Md_number' md_3 (0 : Int32)) fun (md_9 : MdS) =>
            f_X13_goesOn_L173 FU (0 : Int32) md_9
        else
          lt1 (Md_word' md_3 (0 : Int64)) fun (md_10 : MdS) =>
          f_X13_goesOn_L84 FU (0 : Int32) md_10
def f_X13_goesOn (md : MdS) : Option ((MdS)) :=
  if (Md_sort md) = (5 : Int32) then
    some (md)
  else
    f_X13_goesOn_L9 FU md
def f_X13_flaw (md : MdS) (p1 : Int32) : Option ((MdS)) :=
  if (Md_sort md) = (5 : Int32) then
    some (md)
  else
    lt1 (Md_fault' md p1) fun (md_1 : MdS) =>
    lt1 (Md_wrongAt' md_1 (Md_place md_1)) fun (md_2 : MdS) =>
    lt1 (Md_sort' md_2 (5 : Int32)) fun (md_3 : MdS) =>
    some (md_3)
def f_X13_eatsSemicolon_L13 (t0i : Int32) (md : MdS) : Option (Int32 × (MdS)) :=
  if t0i = 0 then
    zb t0i <|
    some (t0i, md)
  else
    bd1 (f_X13_goesOn md) fun (md_1 : MdS) =>
    zb t0i <|
    some (t0i, md_1)
def f_X13_eatsSemicolon (md : MdS) : Option (Int32 × (MdS)) :=
  if (Md_sort md) = (4 : Int32) then
    f_X13_eatsSemicolon_L13 (1 : Int32) md
  else
    f_X13_eatsSemicolon_L13 (0 : Int32) md
def f_X13_bounded_L33 (x1 : Int32) (md : MdS) : Option (Int32 × (MdS)) :=
  if (Md_sort md) = (5 : Int32) then
    some (x1, md)
  else
    some ((Md_number md), md)
def f_X13_bounded (md : MdS) (p1 : Int32) (p2 : Int32) : Option (Int32 × (MdS)) :=
  if (Md_sort md) = (3 : Int32) then
    bd1 (f_X13_in (Md_number md) p1 p2) fun (r_1 : Int32) =>
    if r_1 = 0 then
      bd1 (f_X13_flaw md (4 : Int32)) fun (md_2 : MdS) =>
      f_X13_bounded_L33 p1 md_2
    else
      f_X13_bounded_L33 p1 md
  else
    bd1 (f_X13_flaw md (1 : Int32)) fun (md_3 : MdS) =>
    f_X13_bounded_L33 p1 md_3
def f_X13_begins_L27 (md : MdS) : Option ((MdS)) :=
  bd1 (f_X13_goesOn md) fun (md_3 : MdS) =>
  some (md_3)
def f_X13_begins_L10 (md : MdS) (rd : TnS) : Option ((MdS)) :=
  if (Tn_height rd) = (-1 : Int32) then
    bd1 (f_X13_flaw md (6 : Int32)) fun (md_2 : MdS) =>
    f_X13_begins_L27 md_2
  else
    f_X13_begins_L27 md
def f_X13_begins (md : MdS) (rd : TnS) (p1 : Int32) (p2 : Int32) : Option ((MdS)) :=
  if p1 = p2 then
    bd1 (f_X13_flaw md (5 : Int32)) fun (md_1 : MdS) =>
    f_X13_begins_L10 md_1 rd
  else
    f_X13_begins_L10 md rd
def f_X13_names (rd : TnS) (p1 : Int64) (p3 : Int32) (p4 : Int32) : Option ((TnS)) :=
  ck (Tn_names rd) 16 <|
  lt1 (Tn_name' rd (vp_updL (Tn_name rd) (Int32.toNatClampNeg (Tn_names rd)) p1)) fun (rd_1 : TnS) =>
  ck (Tn_names rd_1) 16 <|
  lt1 (Tn_nameSort' rd_1 (upd (Tn_nameSort rd_1) (Int32.toNatClampNeg (Tn_names rd_1)) p3)) fun (rd_2 : TnS) =>
  ck (Tn_names rd_2) 16 <|
  lt1 (Tn_nameNumber' rd_2 (upd (Tn_nameNumber rd_2) (Int32.toNatClampNeg (Tn_names rd_2)) p4)) fun (rd_3 : TnS) =>
  lt1 (Tn_names' rd_3 ((Tn_names rd_3) + (1 : Int32))) fun (rd_4 : TnS) =>
  some (rd_4)
def f_X13_readPlace_L43 (x3 : Int32) (md : MdS) : Option (Int32 × (MdS)) :=
  bd1 (f_X13_goesOn md) fun (md_3 : MdS) =>
  some (x3, md_3)
def f_X13_readPlace_L38 (x3 : Int32) (md : MdS) : Option (Int32 × (MdS)) :=
  bd1 (f_X13_flaw md (3 : Int32)) fun (md_4 : MdS) =>
  f_X13_readPlace_L43 x3 md_4
def f_X13_readPlace (md : MdS) (rd : TnS) (p1 : Int32) (p2 : Int32) : Option (Int32 × (MdS)) :=
  bd2 (f_X13_bounded md (1 : Int32) (9 : Int32)) fun (r_1 : Int32) (md_2 : MdS) =>
  if (Md_sort md_2) = (5 : Int32) then
    f_X13_readPlace_L43 r_1 md_2
  else
    if r_1 = p2 then
      f_X13_readPlace_L38 r_1 md_2
    else
      ck p1 8 <|
      if (((Tn_usedAt rd (Int32.toNatClampNeg p1)) >>> (r_1 &&& 31)) &&& (1 : Int32)) = (1 : Int32) then
        f_X13_readPlace_L38 r_1 md_2
      else
        f_X13_readPlace_L43 r_1 md_2
def f_X13_isHeld_L67 (x1 : Int32) (x2 : Int32) (x3 : Int32) (rd : TnS) (k2 : (Int32) → (Int32) → (Int32) → (TnS) → Option (Int32)) : Option (Int32) :=
  lt1 (x3 + (1 : Int32)) fun (v_1 : Int32) =>
  k2 x1 x2 v_1 rd
def f_X13_isHeld_L39 (x1 : Int32) (x2 : Int32) (x3 : Int32) (rd : TnS) (k2 : (Int32) → (Int32) → (Int32) → (TnS) → Option (Int32)) : Option (Int32) :=
  ck x3 8 <|
  if (Tn_one rd (Int32.toNatClampNeg x3)) = x2 then
    ck x3 8 <|
    if (Tn_two rd (Int32.toNatClampNeg x3)) = x1 then
      some ((1 : Int32))
    else
      f_X13_isHeld_L67 x1 x2 x3 rd k2
  else
    f_X13_isHeld_L67 x1 x2 x3 rd k2
def f_X13_isHeld_L2 : Nat → (Int32) → (Int32) → (Int32) → (TnS) → Option (Int32)
  | 0, _, _, _, _ => none
  | n_ + 1, x1, x2, x3, rd =>
    if (Tn_links rd) ≤ x3 then
      some ((0 : Int32))
    else
      ck x3 8 <|
      if (Tn_one rd (Int32.toNatClampNeg x3)) = x1 then
        ck x3 8 <|
        if (Tn_two rd (Int32.toNatClampNeg x3)) = x2 then
          some ((1 : Int32))
        else
          f_X13_isHeld_L39 x1 x2 x3 rd (fun y0 y1 y2 y3 => f_X13_isHeld_L2 n_ y0 y1 y2 y3)
      else
        f_X13_isHeld_L39 x1 x2 x3 rd (fun y0 y1 y2 y3 => f_X13_isHeld_L2 n_ y0 y1 y2 y3)
def f_X13_isHeld (rd : TnS) (p1 : Int32) (p2 : Int32) : Option (Int32) :=
  f_X13_isHeld_L2 FU p1 p2 (0 : Int32) rd
def f_X13_feed_L76 (x1 : Int32) (x2 : Int32) (x3 : Int32) (x4 : Int32) (x5 : Int32) (x6 : Int32) (t0i : Int32) (md : MdS) (k23 : (Int32) → (Int32) → (Int32) → (Int32) → (Int32) → (Int32) → (MdS) → Option (Int32 × (MdS))) : Option (Int32 × (MdS)) :=
  ck (Md_taped md) 900 <|
  lt1 (Md_tape' md (upd (Md_tape md) (Int32.toNatClampNeg (Md_taped md)) (vp_nar .byte ((Int32.toInt8 (t0i >>> (((24 : Int32) - ((8 : Int32) * (x6 - x6 / (4 : Int32) * (4 : Int32)))) &&& 31))).toInt32)))) fun (md_2 : MdS) =>
  lt1 (Md_taped' md_2 ((Md_taped md_2) + (1 : Int32))) fun (md_3 : MdS) =>
  lt1 (x6 + (1 : Int32)) fun (v_4 : Int32) =>
  k23 x1 x2 x3 x4 x5 v_4 md_3
def f_X13_feed_L23 : Nat → (Int32) → (Int32) → (Int32) → (Int32) → (Int32) → (Int32) → (MdS) → Option (Int32 × (MdS))
  | 0, _, _, _, _, _, _, _ => none
  | n_ + 1, x1, x2, x3, x4, x5, x6, md =>
    if (20 : Int32) ≤ x6 then
      some ((Md_taped md), md)
    else
      if (4 : Int32) ≤ x6 then
        if (8 : Int32) ≤ x6 then
          if (12 : Int32) ≤ x6 then
            if (16 : Int32) ≤ x6 then
              f_X13_feed_L76 x1 x2 x3 x4 x5 x6 x5 md (fun y0 y1 y2 y3 y4 y5 y6 => f_X13_feed_L23 n_ y0 y1 y2 y3 y4 y5 y6)
            else
              f_X13_feed_L76 x1 x2 x3 x4 x5 x6 x4 md (fun y0 y1 y2 y3 y4 y5 y6 => f_X13_feed_L23 n_ y0 y1 y2 y3 y4 y5 y6)
          else
            f_X13_feed_L76 x1 x2 x3 x4 x5 x6 x3 md (fun y0 y1 y2 y3 y4 y5 y6 => f_X13_feed_L23 n_ y0 y1 y2 y3 y4 y5 y6)
        else
          f_X13_feed_L76 x1 x2 x3 x4 x5 x6 x2 md (fun y0 y1 y2 y3 y4 y5 y6 => f_X13_feed_L23 n_ y0 y1 y2 y3 y4 y5 y6)
      else
        f_X13_feed_L76 x1 x2 x3 x4 x5 x6 x1 md (fun y0 y1 y2 y3 y4 y5 y6 => f_X13_feed_L23 n_ y0 y1 y2 y3 y4 y5 y6)
def f_X13_feed (md : MdS) (p1 : Int32) (p2 : Int32) (p3 : Int32) (p4 : Int32) (p5 : Int32) : Option (Int32 × (MdS)) :=
  lt1 (Md_thrown' md (0 : Int32)) fun (md_1 : MdS) =>
  if ((Md_taped md_1) + (20 : Int32)) ≤ (900 : Int32) then
    f_X13_feed_L23 FU p1 p2 p3 p4 p5 (0 : Int32) md_1
  else
    some ((-1 : Int32), md_1)
def f_X13_fault (md : MdS) : Option (Int32 × (MdS)) :=
  lt1 (Md_thrown' md (0 : Int32)) fun (md_1 : MdS) =>
  some ((Md_fault md_1), md_1)
def f_X13_where (md : MdS) : Option (Int32 × (MdS)) :=
  lt1 (Md_thrown' md (0 : Int32)) fun (md_1 : MdS) =>
  some ((Md_where md_1), md_1)
def f_X13_signNow (md : MdS) (tn : TnS) (p1 : Int32) : Option (Int32) :=
  bd1 (f_X12_signOf tn p1 (Md_lifted md)) fun (r_1 : Int32) =>
  some (r_1)
def f_X13_at (p0 : Int64) (p2 : Int32) : Option (Int32) :=
  some ((Int64.toInt32 ((p0 >>> (Int32.toInt64 ((4 : Int32) * p2) &&& 63)) &&& (15 : Int64))))
def f_X13_with (p0 : Int64) (p2 : Int32) (p3 : Int32) : Option (Int64) :=
  some (((p0 &&& (((15 : Int64) <<< (Int32.toInt64 ((4 : Int32) * p2) &&& 63)) ^^^ (-1 : Int64))) ||| ((Int32.toInt64 p3) <<< (Int32.toInt64 ((4 : Int32) * p2) &&& 63))))
def f_X13_isOpen (md : MdS) (tn : TnS) (p1 : Int32) (p2 : Int32) (p3 : Int32) : Option (Int32) :=
  if (Md_parted md) = (-2 : Int32) then
    some ((0 : Int32))
  else
    ck (Md_parted md) 8 <|
    if (Tn_linkRing tn (Int32.toNatClampNeg (Md_parted md))) = p3 then
      ck (Md_parted md) 8 <|
      if (Tn_linkRow tn (Int32.toNatClampNeg (Md_parted md))) ≤ p1 then
        some ((0 : Int32))
      else
        ck (Md_parted md) 8 <|
        if p2 ≤ (Tn_linkRow tn (Int32.toNatClampNeg (Md_parted md))) then
          some ((0 : Int32))
        else
          some ((1 : Int32))
    else
      some ((0 : Int32))
def f_X13_nextFrom_L209 (x1 : Int64) (x3 : Int32) (x4 : Int32) (x5 : Int32) (md : MdS) (tn : TnS) (k114 : (Int64) → (Int32) → (Int32) → (Int32) → (MdS) → (TnS) → Option (Int32)) : Option (Int32) :=
  lt1 (x5 + (1 : Int32)) fun (v_9 : Int32) =>
  k114 x1 x3 x4 v_9 md tn
def f_X13_nextFrom_L114 : Nat → (Int64) → (Int32) → (Int32) → (Int32) → (MdS) → (TnS) → Option (Int32)
  | 0, _, _, _, _, _, _ => none
  | n_ + 1, x1, x3, x4, x5, md, tn =>
    if x3 < x5 then
      some ((-1 : Int32))
    else
      ck x5 14 <|
      if (Tn_standRing tn (Int32.toNatClampNeg x5)) = x4 then
        bd1 (f_X13_at x1 x5) fun (r_6 : Int32) =>
        if r_6 = (15 : Int32) then
          f_X13_nextFrom_L209 x1 x3 x4 x5 md tn (fun y0 y1 y2 y3 y4 y5 => f_X13_nextFrom_L114 n_ y0 y1 y2 y3 y4 y5)
        else
          ck x3 14 <|
          ck (Tn_standLink tn (Int32.toNatClampNeg x3)) 8 <|
          bd1 (f_X13_isOpen md tn (Tn_linkRow tn (Int32.toNatClampNeg (Tn_standLink tn (Int32.toNatClampNeg x3)))) (8 : Int32) x4) fun (r_7 : Int32) =>
          if r_7 = 0 then
            ck x5 14 <|
            ck (Tn_standLink tn (Int32.toNatClampNeg x5)) 8 <|
            bd1 (f_X13_isOpen md tn (-1 : Int32) (Tn_linkRow tn (Int32.toNatClampNeg (Tn_standLink tn (Int32.toNatClampNeg x5)))) x4) fun (r_8 : Int32) =>
            if r_8 = 0 then
              some (x5)
            else
              some ((-1 : Int32))
          else
            some ((-1 : Int32))
      else
        f_X13_nextFrom_L209 x1 x3 x4 x5 md tn (fun y0 y1 y2 y3 y4 y5 => f_X13_nextFrom_L114 n_ y0 y1 y2 y3 y4 y5)
def f_X13_nextFrom_L111 (x1 : Int64) (x3 : Int32) (x4 : Int32) (md : MdS) (tn : TnS) : Option (Int32) :=
  f_X13_nextFrom_L114 FU x1 x3 x4 (0 : Int32) md tn
def f_X13_nextFrom_L16 : Nat → (Int64) → (Int32) → (Int32) → (Int32) → (MdS) → (TnS) → Option (Int32)
  | 0, _, _, _, _, _, _ => none
  | n_ + 1, x1, x3, x4, x5, md, tn =>
    if (Tn_standings tn) ≤ x5 then
      f_X13_nextFrom_L111 x1 x3 x4 md tn
    else
      ck x5 14 <|
      if (Tn_standRing tn (Int32.toNatClampNeg x5)) = x4 then
        bd1 (f_X13_at x1 x5) fun (r_3 : Int32) =>
        if r_3 = (15 : Int32) then
          lt1 (x5 + (1 : Int32)) fun (v_4 : Int32) =>
          f_X13_nextFrom_L16 n_ x1 x3 x4 v_4 md tn
        else
          ck x3 14 <|
          ck (Tn_standLink tn (Int32.toNatClampNeg x3)) 8 <|
          ck x5 14 <|
          ck (Tn_standLink tn (Int32.toNatClampNeg x5)) 8 <|
          bd1 (f_X13_isOpen md tn (Tn_linkRow tn (Int32.toNatClampNeg (Tn_standLink tn (Int32.toNatClampNeg x3)))) (Tn_linkRow tn (Int32.toNatClampNeg (Tn_standLink tn (Int32.toNatClampNeg x5)))) x4) fun (r_5 : Int32) =>
          if r_5 = 0 then
            some (x5)
          else
            some ((-1 : Int32))
      else
        f_X13_nextFrom_L111 x1 x3 x4 md tn
def f_X13_nextFrom (md : MdS) (tn : TnS) (p1 : Int64) (p3 : Int32) : Option (Int32) :=
  ck p3 14 <|
  lt1 (Tn_standRing tn (Int32.toNatClampNeg p3)) fun (v_1 : Int32) =>
  lt1 (p3 + (1 : Int32)) fun (v_2 : Int32) =>
  f_X13_nextFrom_L16 FU p1 p3 v_1 v_2 md tn
def f_X13_looks_L55 (x1 : Int64) (x3 : Int32) (md : MdS) (tn : TnS) (k23 : (Int64) → (Int32) → (MdS) → (TnS) → Option ((MdS))) : Option ((MdS)) :=
  lt1 (x3 + (1 : Int32)) fun (v_8 : Int32) =>
  k23 x1 v_8 md tn
def f_X13_looks_L99 (x1 : Int64) (x3 : Int32) (t1i : Int32) (t2i : Int32) (md : MdS) (tn : TnS) (k63 : (Int64) → (Int32) → (MdS) → (TnS) → Option ((MdS))) : Option ((MdS)) :=
  ck t1i 14 <|
  lt1 (Md_nextOf' md (upd (Md_nextOf md) (Int32.toNatClampNeg t1i) t2i)) fun (md_9 : MdS) =>
  lt1 (x3 + (1 : Int32)) fun (v_10 : Int32) =>
  k63 x1 v_10 md_9 tn
def f_X13_looks_L63 : Nat → (Int64) → (Int32) → (MdS) → (TnS) → Option ((MdS))
  | 0, _, _, _, _ => none
  | n_ + 1, x1, x3, md, tn =>
    if (Tn_standings tn) ≤ x3 then
      some (md)
    else
      bd1 (f_X13_at x1 x3) fun (r_6 : Int32) =>
      if r_6 = (15 : Int32) then
        f_X13_looks_L99 x1 x3 x3 (-1 : Int32) md tn (fun y0 y1 y2 y3 => f_X13_looks_L63 n_ y0 y1 y2 y3)
      else
        bd1 (f_X13_nextFrom md tn x1 x3) fun (r_7 : Int32) =>
        f_X13_looks_L99 x1 x3 x3 r_7 md tn (fun y0 y1 y2 y3 => f_X13_looks_L63 n_ y0 y1 y2 y3)
def f_X13_looks_L23 : Nat → (Int64) → (Int32) → (MdS) → (TnS) → Option ((MdS))
  | 0, _, _, _, _ => none
  | n_ + 1, x1, x3, md, tn =>
    if (Tn_standings tn) ≤ x3 then
      f_X13_looks_L63 FU x1 (0 : Int32) md tn
    else
      bd1 (f_X13_at x1 x3) fun (r_3 : Int32) =>
      if r_3 = (15 : Int32) then
        f_X13_looks_L55 x1 x3 md tn (fun y0 y1 y2 y3 => f_X13_looks_L23 n_ y0 y1 y2 y3)
      else
        bd1 (f_X13_at x1 x3) fun (r_4 : Int32) =>
        ck r_4 16 <|
        lt1 (Md_spotOf' md (upd (Md_spotOf md) (Int32.toNatClampNeg r_4) x3)) fun (md_5 : MdS) =>
        f_X13_looks_L55 x1 x3 md_5 tn (fun y0 y1 y2 y3 => f_X13_looks_L23 n_ y0 y1 y2 y3)
def f_X13_looks_L2 : Nat → (Int64) → (Int32) → (MdS) → (TnS) → Option ((MdS))
  | 0, _, _, _, _ => none
  | n_ + 1, x1, x3, md, tn =>
    if (16 : Int32) ≤ x3 then
      f_X13_looks_L23 FU x1 (0 : Int32) md tn
    else
      ck x3 16 <|
      lt1 (Md_spotOf' md (upd (Md_spotOf md) (Int32.toNatClampNeg x3) (-1 : Int32))) fun (md_1 : MdS) =>
      lt1 (x3 + (1 : Int32)) fun (v_2 : Int32) =>
      f_X13_looks_L2 n_ x1 v_2 md_1 tn
def f_X13_looks (md : MdS) (tn : TnS) (p1 : Int64) : Option ((MdS)) :=
  f_X13_looks_L2 FU p1 (0 : Int32) md tn
def f_X13_areBeside (md : MdS) (p1 : Int32) (p2 : Int32) : Option (Int32) :=
  ck p1 16 <|
  lt1 (Md_spotOf md (Int32.toNatClampNeg p1)) fun (v_1 : Int32) =>
  ck p2 16 <|
  lt1 (Md_spotOf md (Int32.toNatClampNeg p2)) fun (v_2 : Int32) =>
  if v_1 = (-1 : Int32) then
    some ((0 : Int32))
  else
    if v_2 = (-1 : Int32) then
      some ((0 : Int32))
    else
      if v_1 = v_2 then
        some ((0 : Int32))
      else
        ck v_1 14 <|
        if (Md_nextOf md (Int32.toNatClampNeg v_1)) = v_2 then
          some ((1 : Int32))
        else
          ck v_2 14 <|
          if (Md_nextOf md (Int32.toNatClampNeg v_2)) = v_1 then
            some ((1 : Int32))
          else
            some ((0 : Int32))
def f_X13_kindOf (p0 : Int32) : Option (Int32) :=
  if (100 : Int32) ≤ p0 then
    if (1000 : Int32) ≤ p0 then
      some ((2 : Int32))
    else
      some ((1 : Int32))
  else
    some ((0 : Int32))
def f_X13_isMove (tn : TnS) (p1 : Int32) : Option (Int32) :=
  if p1 < 0 then
    some ((0 : Int32))
  else
    if p1 ≤ (1999 : Int32) then
      lt1 (Tn_crossings tn) fun (v_1 : Int32) =>
      lt1 ((p1 / (10 : Int32)) - (p1 / (10 : Int32)) / (10 : Int32) * (10 : Int32)) fun (v_2 : Int32) =>
      lt1 (p1 - p1 / (10 : Int32) * (10 : Int32)) fun (v_3 : Int32) =>
      bd1 (f_X13_kindOf p1) fun (r_4 : Int32) =>
      if r_4 = (0 : Int32) then
        if v_1 ≤ p1 then
          some ((0 : Int32))
        else
          some ((1 : Int32))
      else
        if r_4 = (1 : Int32) then
          if (200 : Int32) ≤ p1 then
            some ((0 : Int32))
          else
            if v_3 ≤ v_2 then
              some ((0 : Int32))
            else
              if v_1 ≤ v_3 then
                some ((0 : Int32))
              else
                some ((1 : Int32))
        else
          if v_1 ≤ ((p1 / (100 : Int32)) - (p1 / (100 : Int32)) / (10 : Int32) * (10 : Int32)) then
            some ((0 : Int32))
          else
            if v_1 ≤ v_2 then
              some ((0 : Int32))
            else
              if v_1 ≤ v_3 then
                some ((0 : Int32))
              else
                if v_2 = v_3 then
                  some ((0 : Int32))
                else
                  if ((p1 / (100 : Int32)) - (p1 / (100 : Int32)) / (10 : Int32) * (10 : Int32)) = v_2 then
                    some ((0 : Int32))
                  else
                    if ((p1 / (100 : Int32)) - (p1 / (100 : Int32)) / (10 : Int32) * (10 : Int32)) = v_3 then
                      some ((0 : Int32))
                    else
                      some ((1 : Int32))
    else
      some ((0 : Int32))
def f_X13_can (md : MdS) (tn : TnS) (p1 : Int32) : Option (Int32) :=
  lt1 ((p1 / (10 : Int32)) - (p1 / (10 : Int32)) / (10 : Int32) * (10 : Int32)) fun (v_1 : Int32) =>
  lt1 (p1 - p1 / (10 : Int32) * (10 : Int32)) fun (v_2 : Int32) =>
  lt1 ((p1 / (100 : Int32)) - (p1 / (100 : Int32)) / (10 : Int32) * (10 : Int32)) fun (v_3 : Int32) =>
  bd1 (f_X13_kindOf p1) fun (r_4 : Int32) =>
  if r_4 = (0 : Int32) then
    bd1 (f_X13_areBeside md ((2 : Int32) * p1) (((2 : Int32) * p1) + (1 : Int32))) fun (r_12 : Int32) =>
    zb r_12 <|
    some (r_12)
  else
    if r_4 = (1 : Int32) then
      bd1 (f_X13_areBeside md (((2 : Int32) * v_1) + (1 : Int32)) (((2 : Int32) * v_2) + (1 : Int32))) fun (r_8 : Int32) =>
      if r_8 = 0 then
        some ((0 : Int32))
      else
        bd1 (f_X13_areBeside md ((2 : Int32) * v_1) ((2 : Int32) * v_2)) fun (r_9 : Int32) =>
        if r_9 = 0 then
          some ((0 : Int32))
        else
          bd1 (f_X13_signNow md tn v_1) fun (r_10 : Int32) =>
          bd1 (f_X13_signNow md tn v_2) fun (r_11 : Int32) =>
          if r_10 = r_11 then
            some ((0 : Int32))
          else
            some ((1 : Int32))
    else
      bd1 (f_X13_areBeside md (((2 : Int32) * v_3) + (1 : Int32)) (((2 : Int32) * v_1) + (1 : Int32))) fun (r_5 : Int32) =>
      if r_5 = 0 then
        some ((0 : Int32))
      else
        bd1 (f_X13_areBeside md ((2 : Int32) * v_3) (((2 : Int32) * v_2) + (1 : Int32))) fun (r_6 : Int32) =>
        if r_6 = 0 then
          some ((0 : Int32))
        else
          bd1 (f_X13_areBeside md ((2 : Int32) * v_1) ((2 : Int32) * v_2)) fun (r_7 : Int32) =>
          if r_7 = 0 then
            some ((0 : Int32))
          else
            some ((1 : Int32))
def f_X13_goerOf_L54 (t1i : Int32) (tn : TnS) : Option (Int32) :=
  ck t1i 14 <|
  lt1 (Tn_standLink tn (Int32.toNatClampNeg t1i)) fun (v_4 : Int32) =>
  ck v_4 8 <|
  lt1 (Tn_one tn (Int32.toNatClampNeg v_4)) fun (v_5 : Int32) =>
  ck v_4 8 <|
  lt1 (Tn_two tn (Int32.toNatClampNeg v_4)) fun (v_6 : Int32) =>
  ck v_6 8 <|
  ck v_5 8 <|
  if (Tn_tall tn (Int32.toNatClampNeg v_6)) < (Tn_tall tn (Int32.toNatClampNeg v_5)) then
    some (v_6)
  else
    ck v_6 8 <|
    ck v_5 8 <|
    if (Tn_tall tn (Int32.toNatClampNeg v_6)) = (Tn_tall tn (Int32.toNatClampNeg v_5)) then
      if v_5 ≤ v_6 then
        some (v_5)
      else
        some (v_6)
    else
      some (v_5)
def f_X13_goerOf (md : MdS) (tn : TnS) (p1 : Int32) : Option (Int32) :=
  bd1 (f_X13_kindOf p1) fun (r_1 : Int32) =>
  if r_1 = 0 then
    some ((-2 : Int32))
  else
    ck ((2 : Int32) * ((p1 / (10 : Int32)) - (p1 / (10 : Int32)) / (10 : Int32) * (10 : Int32))) 16 <|
    lt1 (Md_spotOf md (Int32.toNatClampNeg ((2 : Int32) * ((p1 / (10 : Int32)) - (p1 / (10 : Int32)) / (10 : Int32) * (10 : Int32))))) fun (v_2 : Int32) =>
    ck ((2 : Int32) * (p1 - p1 / (10 : Int32) * (10 : Int32))) 16 <|
    lt1 (Md_spotOf md (Int32.toNatClampNeg ((2 : Int32) * (p1 - p1 / (10 : Int32) * (10 : Int32))))) fun (v_3 : Int32) =>
    if v_3 ≤ v_2 then
      f_X13_goerOf_L54 v_3 tn
    else
      f_X13_goerOf_L54 v_2 tn
def f_X13_mayMove (md : MdS) (tn : TnS) (p1 : Int32) : Option (Int32) :=
  bd1 (f_X13_can md tn p1) fun (r_1 : Int32) =>
  if r_1 = 0 then
    some ((0 : Int32))
  else
    bd1 (f_X13_goerOf md tn p1) fun (r_2 : Int32) =>
    if r_2 = (-2 : Int32) then
      some ((1 : Int32))
    else
      ck r_2 8 <|
      if (Tn_height tn) < (Tn_tall tn (Int32.toNatClampNeg r_2)) then
        some ((0 : Int32))
      else
        some ((1 : Int32))
def f_X13_changed (md : MdS) (p1 : Int64) (p3 : Int32) (p4 : Int32) : Option (Int64) :=
  ck p3 16 <|
  bd1 (f_X13_with p1 (Md_spotOf md (Int32.toNatClampNeg p3)) p4) fun (r_1 : Int64) =>
  ck p4 16 <|
  bd1 (f_X13_with r_1 (Md_spotOf md (Int32.toNatClampNeg p4)) p3) fun (r_2 : Int64) =>
  some (r_2)
def f_X13_without (md : MdS) (p1 : Int64) (p3 : Int32) : Option (Int64) :=
  ck ((2 : Int32) * p3) 16 <|
  bd1 (f_X13_with p1 (Md_spotOf md (Int32.toNatClampNeg ((2 : Int32) * p3))) (15 : Int32)) fun (r_1 : Int64) =>
  ck (((2 : Int32) * p3) + (1 : Int32)) 16 <|
  bd1 (f_X13_with r_1 (Md_spotOf md (Int32.toNatClampNeg (((2 : Int32) * p3) + (1 : Int32)))) (15 : Int32)) fun (r_2 : Int64) =>
  some (r_2)
def f_X13_behind (md : MdS) (p1 : Int64) (p3 : Int32) : Option (Int64) :=
  lt1 ((p3 / (10 : Int32)) - (p3 / (10 : Int32)) / (10 : Int32) * (10 : Int32)) fun (v_1 : Int32) =>
  lt1 (p3 - p3 / (10 : Int32) * (10 : Int32)) fun (v_2 : Int32) =>
  lt1 ((p3 / (100 : Int32)) - (p3 / (100 : Int32)) / (10 : Int32) * (10 : Int32)) fun (v_3 : Int32) =>
  bd1 (f_X13_kindOf p3) fun (r_4 : Int32) =>
  if r_4 = (0 : Int32) then
    bd1 (f_X13_without md p1 p3) fun (r_10 : Int64) =>
    some (r_10)
  else
    if r_4 = (1 : Int32) then
      bd1 (f_X13_without md p1 v_1) fun (r_8 : Int64) =>
      bd1 (f_X13_without md r_8 v_2) fun (r_9 : Int64) =>
      some (r_9)
    else
      bd1 (f_X13_changed md p1 (((2 : Int32) * v_3) + (1 : Int32)) (((2 : Int32) * v_1) + (1 : Int32))) fun (r_5 : Int64) =>
      bd1 (f_X13_changed md r_5 ((2 : Int32) * v_3) (((2 : Int32) * v_2) + (1 : Int32))) fun (r_6 : Int64) =>
      bd1 (f_X13_changed md r_6 ((2 : Int32) * v_1) ((2 : Int32) * v_2)) fun (r_7 : Int64) =>
      some (r_7)
def f_X13_nextMove_L64 (t0i : Int32) (tn : TnS) (k4 : (Int32) → (TnS) → Option (Int32)) : Option (Int32) :=
  k4 t0i tn
def f_X13_nextMove_L61 (x2 : Int32) (tn : TnS) (k4 : (Int32) → (TnS) → Option (Int32)) : Option (Int32) :=
  f_X13_nextMove_L64 (x2 + (1 : Int32)) tn k4
def f_X13_nextMove_L41 (x2 : Int32) (tn : TnS) (k4 : (Int32) → (TnS) → Option (Int32)) : Option (Int32) :=
  if x2 < (200 : Int32) then
    f_X13_nextMove_L61 x2 tn k4
  else
    if (1000 : Int32) ≤ x2 then
      f_X13_nextMove_L61 x2 tn k4
    else
      f_X13_nextMove_L64 (1000 : Int32) tn k4
def f_X13_nextMove_L4 : Nat → (Int32) → (TnS) → Option (Int32)
  | 0, _, _ => none
  | n_ + 1, x2, tn =>
    if (2000 : Int32) ≤ x2 then
      some (x2)
    else
      bd1 (f_X13_isMove tn x2) fun (r_2 : Int32) =>
      if r_2 = 0 then
        if (100 : Int32) ≤ x2 then
          f_X13_nextMove_L41 x2 tn (fun y0 y1 => f_X13_nextMove_L4 n_ y0 y1)
        else
          if x2 < (Tn_crossings tn) then
            f_X13_nextMove_L41 x2 tn (fun y0 y1 => f_X13_nextMove_L4 n_ y0 y1)
          else
            f_X13_nextMove_L64 (100 : Int32) tn (fun y0 y1 => f_X13_nextMove_L4 n_ y0 y1)
      else
        some (x2)
def f_X13_nextMove (tn : TnS) (p1 : Int32) : Option (Int32) :=
  lt1 (p1 + (1 : Int32)) fun (v_1 : Int32) =>
  f_X13_nextMove_L4 FU v_1 tn
def f_X13_nextMay_L6 : Nat → (Int32) → (MdS) → (TnS) → Option (Int32)
  | 0, _, _, _ => none
  | n_ + 1, x2, md, tn =>
    if (2000 : Int32) ≤ x2 then
      some (x2)
    else
      bd1 (f_X13_mayMove md tn x2) fun (r_2 : Int32) =>
      if r_2 = 0 then
        bd1 (f_X13_nextMove tn x2) fun (r_3 : Int32) =>
        f_X13_nextMay_L6 n_ r_3 md tn
      else
        some (x2)
def f_X13_nextMay (md : MdS) (tn : TnS) (p1 : Int32) : Option (Int32) :=
  bd1 (f_X13_nextMove tn p1) fun (r_1 : Int32) =>
  f_X13_nextMay_L6 FU r_1 md tn
def f_X13_leftIn_L34 (x1 : Int64) (x4 : Int32) (t0i : Int32) (t1i : Int32) (tn : TnS) (k5 : (Int64) → (Int32) → (Int32) → (TnS) → Option (Int32)) : Option (Int32) :=
  lt1 (t0i + t1i) fun (v_2 : Int32) =>
  lt1 (x4 + (1 : Int32)) fun (v_3 : Int32) =>
  k5 x1 v_2 v_3 tn
def f_X13_leftIn_L5 : Nat → (Int64) → (Int32) → (Int32) → (TnS) → Option (Int32)
  | 0, _, _, _, _ => none
  | n_ + 1, x1, x3, x4, tn =>
    if (Tn_standings tn) ≤ x4 then
      some ((x3 / (2 : Int32)))
    else
      bd1 (f_X13_at x1 x4) fun (r_1 : Int32) =>
      if r_1 = (15 : Int32) then
        f_X13_leftIn_L34 x1 x4 x3 (0 : Int32) tn (fun y0 y1 y2 y3 => f_X13_leftIn_L5 n_ y0 y1 y2 y3)
      else
        f_X13_leftIn_L34 x1 x4 x3 (1 : Int32) tn (fun y0 y1 y2 y3 => f_X13_leftIn_L5 n_ y0 y1 y2 y3)
def f_X13_leftIn (tn : TnS) (p1 : Int64) : Option (Int32) :=
  f_X13_leftIn_L5 FU p1 (0 : Int32) (0 : Int32) tn
def f_X13_isPerson (tn : TnS) (p1 : Int32) : Option (Int32) :=
  if p1 < 0 then
    some ((0 : Int32))
  else
    if (Tn_people tn) ≤ p1 then
      some ((0 : Int32))
    else
      some ((1 : Int32))
def f_X13_isRing (tn : TnS) (p1 : Int32) : Option (Int32) :=
  if p1 < 0 then
    some ((0 : Int32))
  else
    if (Tn_rings tn) ≤ p1 then
      some ((0 : Int32))
    else
      some ((1 : Int32))
def f_X13_isLink (tn : TnS) (p1 : Int32) : Option (Int32) :=
  if p1 < 0 then
    some ((0 : Int32))
  else
    if (Tn_links tn) ≤ p1 then
      some ((0 : Int32))
    else
      some ((1 : Int32))
def f_X13_isStanding (tn : TnS) (p1 : Int32) : Option (Int32) :=
  if p1 < 0 then
    some ((0 : Int32))
  else
    if (Tn_standings tn) ≤ p1 then
      some ((0 : Int32))
    else
      some ((1 : Int32))
def f_X13_ring (md : MdS) (tn : TnS) (p1 : Int32) : Option (Int32 × (MdS)) :=
  lt1 (Md_thrown' md (0 : Int32)) fun (md_1 : MdS) =>
  bd1 (f_X13_isPerson tn p1) fun (r_2 : Int32) =>
  if r_2 = 0 then
    bd2 (f_X13_refused md_1 (1 : Int32)) fun (r_3 : Int32) (md_4 : MdS) =>
    some (r_3, md_4)
  else
    ck p1 8 <|
    bd2 (f_X13_good md_1 (Tn_ringOf tn (Int32.toNatClampNeg p1))) fun (r_5 : Int32) (md_6 : MdS) =>
    some (r_5, md_6)
def f_X13_people (md : MdS) (tn : TnS) (p1 : Int32) : Option (Int32 × (MdS)) :=
  lt1 (Md_thrown' md (0 : Int32)) fun (md_1 : MdS) =>
  bd1 (f_X13_isRing tn p1) fun (r_2 : Int32) =>
  if r_2 = 0 then
    bd2 (f_X13_refused md_1 (1 : Int32)) fun (r_3 : Int32) (md_4 : MdS) =>
    some (r_3, md_4)
  else
    ck p1 8 <|
    bd2 (f_X13_good md_1 (Tn_size tn (Int32.toNatClampNeg p1))) fun (r_5 : Int32) (md_6 : MdS) =>
    some (r_5, md_6)
def f_X13_member_L51 (md : MdS) : Option (Int32 × (MdS)) :=
  bd2 (f_X13_refused md (1 : Int32)) fun (r_5 : Int32) (md_6 : MdS) =>
  some (r_5, md_6)
def f_X13_member (md : MdS) (tn : TnS) (p1 : Int32) (p2 : Int32) : Option (Int32 × (MdS)) :=
  lt1 (Md_thrown' md (0 : Int32)) fun (md_1 : MdS) =>
  bd1 (f_X13_isRing tn p1) fun (r_2 : Int32) =>
  if r_2 = 0 then
    f_X13_member_L51 md_1
  else
    if p2 < 0 then
      f_X13_member_L51 md_1
    else
      ck p1 8 <|
      if (Tn_size tn (Int32.toNatClampNeg p1)) ≤ p2 then
        f_X13_member_L51 md_1
      else
        ck (((8 : Int32) * p1) + p2) 64 <|
        bd2 (f_X13_good md_1 (Tn_member tn (Int32.toNatClampNeg (((8 : Int32) * p1) + p2)))) fun (r_3 : Int32) (md_4 : MdS) =>
        some (r_3, md_4)
def f_X13_holds_L30 (t2i : Int32) (t3i : Int32) (md : MdS) (tn : TnS) : Option (Int32 × (MdS)) :=
  bd1 (f_X12_other tn (t2i + t3i)) fun (r_5 : Int32) =>
  bd2 (f_X13_good md r_5) fun (r_6 : Int32) (md_7 : MdS) =>
  some (r_6, md_7)
def f_X13_holds (md : MdS) (tn : TnS) (p1 : Int32) (p2 : Int32) : Option (Int32 × (MdS)) :=
  lt1 (Md_thrown' md (0 : Int32)) fun (md_1 : MdS) =>
  bd1 (f_X13_isPerson tn p1) fun (r_2 : Int32) =>
  if r_2 = 0 then
    bd2 (f_X13_refused md_1 (1 : Int32)) fun (r_3 : Int32) (md_4 : MdS) =>
    some (r_3, md_4)
  else
    if p2 = 0 then
      f_X13_holds_L30 ((2 : Int32) * p1) (0 : Int32) md_1 tn
    else
      f_X13_holds_L30 ((2 : Int32) * p1) (1 : Int32) md_1 tn
def f_X13_along_L31 (t1i : Int32) (md : MdS) : Option (Int32 × (MdS)) :=
  bd2 (f_X13_good md t1i) fun (r_5 : Int32) (md_6 : MdS) =>
  some (r_5, md_6)
def f_X13_along (md : MdS) (tn : TnS) (p1 : Int32) : Option (Int32 × (MdS)) :=
  lt1 (Md_thrown' md (0 : Int32)) fun (md_1 : MdS) =>
  bd1 (f_X13_isLink tn p1) fun (r_2 : Int32) =>
  if r_2 = 0 then
    bd2 (f_X13_refused md_1 (1 : Int32)) fun (r_3 : Int32) (md_4 : MdS) =>
    some (r_3, md_4)
  else
    ck p1 8 <|
    if (Tn_along tn (Int32.toNatClampNeg p1)) = 0 then
      f_X13_along_L31 (0 : Int32) md_1
    else
      f_X13_along_L31 (1 : Int32) md_1
def f_X13_stands_L46 (t1i : Int32) (md : MdS) : Option (Int32 × (MdS)) :=
  bd2 (f_X13_good md t1i) fun (r_7 : Int32) (md_8 : MdS) =>
  some (r_7, md_8)
def f_X13_stands (md : MdS) (tn : TnS) (p1 : Int32) : Option (Int32 × (MdS)) :=
  lt1 (Md_thrown' md (0 : Int32)) fun (md_1 : MdS) =>
  bd1 (f_X13_isStanding tn p1) fun (r_2 : Int32) =>
  if r_2 = 0 then
    bd2 (f_X13_refused md_1 (1 : Int32)) fun (r_5 : Int32) (md_6 : MdS) =>
    some (r_5, md_6)
  else
    bd1 (f_X13_at (Md_now md_1) p1) fun (r_3 : Int32) =>
    if r_3 = (15 : Int32) then
      f_X13_stands_L46 (-2 : Int32) md_1
    else
      bd1 (f_X13_at (Md_now md_1) p1) fun (r_4 : Int32) =>
      f_X13_stands_L46 r_4 md_1
def f_X13_place_L22 (md : MdS) : Option (Int32 × (MdS)) :=
  bd2 (f_X13_refused md (1 : Int32)) fun (r_4 : Int32) (md_5 : MdS) =>
  some (r_4, md_5)
def f_X13_place_L54 (t1i : Int32) (md : MdS) : Option (Int32 × (MdS)) :=
  bd2 (f_X13_good md t1i) fun (r_6 : Int32) (md_7 : MdS) =>
  some (r_6, md_7)
def f_X13_place (md : MdS) (tn : TnS) (p1 : Int32) (p2 : Int32) : Option (Int32 × (MdS)) :=
  lt1 (Md_thrown' md (0 : Int32)) fun (md_1 : MdS) =>
  bd1 (f_X13_isStanding tn p1) fun (r_2 : Int32) =>
  if r_2 = 0 then
    f_X13_place_L22 md_1
  else
    bd1 (f_X13_in p2 (0 : Int32) (1 : Int32)) fun (r_3 : Int32) =>
    if r_3 = 0 then
      f_X13_place_L22 md_1
    else
      if p2 = 0 then
        ck p1 14 <|
        f_X13_place_L54 (Tn_standRing tn (Int32.toNatClampNeg p1)) md_1
      else
        ck p1 14 <|
        f_X13_place_L54 (Tn_standLink tn (Int32.toNatClampNeg p1)) md_1
def f_X13_isLeft (md : MdS) (tn : TnS) (p1 : Int32) : Option (Int32 × (MdS)) :=
  bd1 (f_X13_looks md tn (Md_now md)) fun (md_1 : MdS) =>
  ck ((2 : Int32) * p1) 16 <|
  if (Md_spotOf md_1 (Int32.toNatClampNeg ((2 : Int32) * p1))) = (-1 : Int32) then
    some ((0 : Int32), md_1)
  else
    some ((1 : Int32), md_1)
def f_X13_sign_L27 (md : MdS) : Option (Int32 × (MdS)) :=
  bd2 (f_X13_lost md (1 : Int32)) fun (r_5 : Int32) (md_6 : MdS) =>
  some (r_5, md_6)
def f_X13_sign_L51 (t1i : Int32) (md : MdS) : Option (Int32 × (MdS)) :=
  bd2 (f_X13_good md t1i) fun (r_7 : Int32) (md_8 : MdS) =>
  some (r_7, md_8)
def f_X13_sign (md : MdS) (tn : TnS) (p1 : Int32) : Option (Int32 × (MdS)) :=
  lt1 (Md_thrown' md (0 : Int32)) fun (md_1 : MdS) =>
  if p1 < 0 then
    f_X13_sign_L27 md_1
  else
    if p1 < (Tn_crossings tn) then
      bd2 (f_X13_isLeft md_1 tn p1) fun (r_2 : Int32) (md_3 : MdS) =>
      if r_2 = 0 then
        f_X13_sign_L51 (0 : Int32) md_3
      else
        bd1 (f_X13_signNow md_3 tn p1) fun (r_4 : Int32) =>
        f_X13_sign_L51 r_4 md_3
    else
      f_X13_sign_L27 md_1
def f_X13_left (md : MdS) (tn : TnS) : Option (Int32 × (MdS)) :=
  lt1 (Md_thrown' md (0 : Int32)) fun (md_1 : MdS) =>
  bd1 (f_X13_leftIn tn (Md_now md_1)) fun (r_2 : Int32) =>
  bd2 (f_X13_good md_1 r_2) fun (r_3 : Int32) (md_4 : MdS) =>
  some (r_3, md_4)
def f_X13_loose_L37 (t1i : Int32) (md : MdS) : Option (Int32 × (MdS)) :=
  bd2 (f_X13_good md t1i) fun (r_3 : Int32) (md_4 : MdS) =>
  some (r_3, md_4)
def f_X13_loose (md : MdS) (tn : TnS) : Option (Int32 × (MdS)) :=
  lt1 (Md_thrown' md (0 : Int32)) fun (md_1 : MdS) =>
  bd1 (f_X13_leftIn tn (Md_now md_1)) fun (r_2 : Int32) =>
  if r_2 = 0 then
    f_X13_loose_L37 (1 : Int32) md_1
  else
    f_X13_loose_L37 (0 : Int32) md_1
def f_X13_may_L41 (t1i : Int32) (md : MdS) : Option (Int32 × (MdS)) :=
  bd2 (f_X13_good md t1i) fun (r_7 : Int32) (md_8 : MdS) =>
  some (r_7, md_8)
def f_X13_may (md : MdS) (tn : TnS) (p1 : Int32) : Option (Int32 × (MdS)) :=
  lt1 (Md_thrown' md (0 : Int32)) fun (md_1 : MdS) =>
  bd1 (f_X13_isMove tn p1) fun (r_2 : Int32) =>
  if r_2 = 0 then
    bd2 (f_X13_refused md_1 (1 : Int32)) fun (r_5 : Int32) (md_6 : MdS) =>
    some (r_5, md_6)
  else
    bd1 (f_X13_looks md_1 tn (Md_now md_1)) fun (md_3 : MdS) =>
    bd1 (f_X13_mayMove md_3 tn p1) fun (r_4 : Int32) =>
    if r_4 = 0 then
      f_X13_may_L41 (0 : Int32) md_3
    else
      f_X13_may_L41 (1 : Int32) md_3
def f_X13_goer (md : MdS) (tn : TnS) (p1 : Int32) : Option (Int32 × (MdS)) :=
  lt1 (Md_thrown' md (0 : Int32)) fun (md_1 : MdS) =>
  bd1 (f_X13_isMove tn p1) fun (r_2 : Int32) =>
  if r_2 = 0 then
    bd2 (f_X13_refused md_1 (1 : Int32)) fun (r_10 : Int32) (md_11 : MdS) =>
    some (r_10, md_11)
  else
    bd1 (f_X13_looks md_1 tn (Md_now md_1)) fun (md_3 : MdS) =>
    bd1 (f_X13_can md_3 tn p1) fun (r_4 : Int32) =>
    if r_4 = 0 then
      bd2 (f_X13_refused md_3 (5 : Int32)) fun (r_5 : Int32) (md_6 : MdS) =>
      some (r_5, md_6)
    else
      bd1 (f_X13_goerOf md_3 tn p1) fun (r_7 : Int32) =>
      bd2 (f_X13_good md_3 r_7) fun (r_8 : Int32) (md_9 : MdS) =>
      some (r_8, md_9)
def f_X13_moves_L34 : Nat → (Int32) → (Int32) → (MdS) → (TnS) → Option (Int32 × (MdS))
  | 0, _, _, _, _ => none
  | n_ + 1, x1, x2, md, tn =>
    if (2000 : Int32) ≤ x2 then
      bd2 (f_X13_good md x1) fun (r_4 : Int32) (md_5 : MdS) =>
      some (r_4, md_5)
    else
      lt1 (x1 + (1 : Int32)) fun (v_6 : Int32) =>
      bd1 (f_X13_nextMay md tn x2) fun (r_7 : Int32) =>
      f_X13_moves_L34 n_ v_6 r_7 md tn
def f_X13_moves (md : MdS) (tn : TnS) : Option (Int32 × (MdS)) :=
  lt1 (Md_thrown' md (0 : Int32)) fun (md_1 : MdS) =>
  bd1 (f_X13_looks md_1 tn (Md_now md_1)) fun (md_2 : MdS) =>
  bd1 (f_X13_nextMay md_2 tn (-1 : Int32)) fun (r_3 : Int32) =>
  f_X13_moves_L34 FU (0 : Int32) r_3 md_2 tn
def f_X13_moveAt_L34 : Nat → (Int32) → (Int32) → (Int32) → (MdS) → (TnS) → Option (Int32 × (MdS))
  | 0, _, _, _, _, _ => none
  | n_ + 1, x1, x2, x3, md, tn =>
    if (2000 : Int32) ≤ x3 then
      bd2 (f_X13_refused md (1 : Int32)) fun (r_4 : Int32) (md_5 : MdS) =>
      some (r_4, md_5)
    else
      if x2 = x1 then
        bd2 (f_X13_good md x3) fun (r_8 : Int32) (md_9 : MdS) =>
        some (r_8, md_9)
      else
        lt1 (x2 + (1 : Int32)) fun (v_6 : Int32) =>
        bd1 (f_X13_nextMay md tn x3) fun (r_7 : Int32) =>
        f_X13_moveAt_L34 n_ x1 v_6 r_7 md tn
def f_X13_moveAt (md : MdS) (tn : TnS) (p1 : Int32) : Option (Int32 × (MdS)) :=
  lt1 (Md_thrown' md (0 : Int32)) fun (md_1 : MdS) =>
  bd1 (f_X13_looks md_1 tn (Md_now md_1)) fun (md_2 : MdS) =>
  bd1 (f_X13_nextMay md_2 tn (-1 : Int32)) fun (r_3 : Int32) =>
  f_X13_moveAt_L34 FU p1 (0 : Int32) r_3 md_2 tn
def f_X13_comes_L54 (x1 : Int64) (x3 : Int64) (x5 : Int32) (md : MdS) : Option (Int32 × (MdS)) :=
  ck x5 16384 <|
  if (lg_cmp (Md_table md (Int32.toNatClampNeg x5)) x3) = 0 then
    some ((1 : Int32), md)
  else
    if (Md_many md) = (4000 : Int32) then
      some ((0 : Int32), md)
    else
      ck x5 16384 <|
      lt1 (Md_table' md (vp_updL (Md_table md) (Int32.toNatClampNeg x5) x3)) fun (md_4 : MdS) =>
      ck (Md_many md_4) 4001 <|
      lt1 (Md_come' md_4 (vp_updL (Md_come md_4) (Int32.toNatClampNeg (Md_many md_4)) x1)) fun (md_5 : MdS) =>
      lt1 (Md_many' md_5 ((Md_many md_5) + (1 : Int32))) fun (md_6 : MdS) =>
      some ((1 : Int32), md_6)
def f_X13_comes_L17 : Nat → (Int64) → (Int64) → (Int32) → (MdS) → Option (Int32 × (MdS))
  | 0, _, _, _, _ => none
  | n_ + 1, x1, x3, x5, md =>
    ck x5 16384 <|
    if (lg_cmp (Md_table md (Int32.toNatClampNeg x5)) (0 : Int64)) = 0 then
      f_X13_comes_L54 x1 x3 x5 md
    else
      ck x5 16384 <|
      if (lg_cmp (Md_table md (Int32.toNatClampNeg x5)) x3) = 0 then
        f_X13_comes_L54 x1 x3 x5 md
      else
        lt1 ((x5 + (1 : Int32)) &&& (16383 : Int32)) fun (v_3 : Int32) =>
        f_X13_comes_L17 n_ x1 x3 v_3 md
def f_X13_comes (md : MdS) (p1 : Int64) : Option (Int32 × (MdS)) :=
  lt1 (p1 ||| (1152921504606846976 : Int64)) fun (v_1 : Int64) =>
  lt1 (Int64.toInt32 ((Int64.toUInt64 (v_1 * (-7046029254386353131 : Int64)) >>> ((Int32.toInt64 (50 : Int32)).toUInt64 &&& Int64.toUInt64 63)).toInt64)) fun (v_2 : Int32) =>
  f_X13_comes_L17 FU p1 v_1 v_2 md
def f_X13_goesOnFrom_L11 : Nat → (Int64) → (Int32) → (MdS) → (TnS) → Option (Int32 × (MdS))
  | 0, _, _, _, _ => none
  | n_ + 1, x1, x3, md, tn =>
    if (2000 : Int32) ≤ x3 then
      some ((1 : Int32), md)
    else
      bd1 (f_X13_behind md x1 x3) fun (r_3 : Int64) =>
      bd2 (f_X13_comes md r_3) fun (r_4 : Int32) (md_5 : MdS) =>
      if r_4 = 0 then
        some ((0 : Int32), md_5)
      else
        bd1 (f_X13_nextMay md_5 tn x3) fun (r_6 : Int32) =>
        f_X13_goesOnFrom_L11 n_ x1 r_6 md_5 tn
def f_X13_goesOnFrom (md : MdS) (tn : TnS) (p1 : Int64) : Option (Int32 × (MdS)) :=
  bd1 (f_X13_looks md tn p1) fun (md_1 : MdS) =>
  bd1 (f_X13_nextMay md_1 tn (-1 : Int32)) fun (r_2 : Int32) =>
  f_X13_goesOnFrom_L11 FU p1 r_2 md_1 tn
def f_X13_fewestFrom_L101 : Nat → (Int32) → (Int32) → (Int32) → (Int32) → (MdS) → (TnS) → ((Int32) → (Int32) → (Int32) → (MdS) → (TnS) → Option (Int32 × (MdS))) → Option (Int32 × (MdS))
  | 0, _, _, _, _, _, _, _ => none
  | n_ + 1, x3, x5, x6, x7, md, tn, k42 =>
    if x6 ≤ x7 then
      lt1 (x5 + (1 : Int32)) fun (v_9 : Int32) =>
      k42 x3 x6 v_9 md tn
    else
      ck x7 4001 <|
      bd2 (f_X13_goesOnFrom md tn (Md_come md (Int32.toNatClampNeg x7))) fun (r_10 : Int32) (md_11 : MdS) =>
      if r_10 = 0 then
        some ((-9 : Int32), md_11)
      else
        lt1 (x7 + (1 : Int32)) fun (v_12 : Int32) =>
        f_X13_fewestFrom_L101 n_ x3 x5 x6 v_12 md_11 tn k42
def f_X13_fewestFrom_L58 : Nat → (Int32) → (Int32) → (Int32) → (Int32) → (Int32) → (MdS) → (TnS) → ((Int32) → (Int32) → (Int32) → (MdS) → (TnS) → Option (Int32 × (MdS))) → Option (Int32 × (MdS))
  | 0, _, _, _, _, _, _, _, _ => none
  | n_ + 1, x3, x4, x5, x6, x7, md, tn, k42 =>
    if x6 ≤ x7 then
      if x5 = x3 then
        some ((-2 : Int32), md)
      else
        f_X13_fewestFrom_L101 FU x3 x5 x6 x4 md tn k42
    else
      ck x7 4001 <|
      bd1 (f_X13_leftIn tn (Md_come md (Int32.toNatClampNeg x7))) fun (r_7 : Int32) =>
      if r_7 = 0 then
        some (x5, md)
      else
        lt1 (x7 + (1 : Int32)) fun (v_8 : Int32) =>
        f_X13_fewestFrom_L58 n_ x3 x4 x5 x6 v_8 md tn k42
def f_X13_fewestFrom_L42 : Nat → (Int32) → (Int32) → (Int32) → (MdS) → (TnS) → Option (Int32 × (MdS))
  | 0, _, _, _, _, _ => none
  | n_ + 1, x3, x4, x5, md, tn =>
    if x3 < x5 then
      some ((-2 : Int32), md)
    else
      lt1 (Md_many md) fun (v_6 : Int32) =>
      f_X13_fewestFrom_L58 FU x3 x4 x5 v_6 x4 md tn (fun y0 y1 y2 y3 y4 => f_X13_fewestFrom_L42 n_ y0 y1 y2 y3 y4)
def f_X13_fewestFrom_L3 : Nat → (Int64) → (Int32) → (Int32) → (MdS) → (TnS) → Option (Int32 × (MdS))
  | 0, _, _, _, _, _ => none
  | n_ + 1, x1, x3, x4, md, tn =>
    if (16384 : Int32) ≤ x4 then
      lt1 (Md_many' md (0 : Int32)) fun (md_1 : MdS) =>
      bd2 (f_X13_comes md_1 x1) fun (r_2 : Int32) (md_3 : MdS) =>
      f_X13_fewestFrom_L42 FU x3 (0 : Int32) (0 : Int32) md_3 tn
    else
      ck x4 16384 <|
      lt1 (Md_table' md (vp_updL (Md_table md) (Int32.toNatClampNeg x4) (0 : Int64))) fun (md_4 : MdS) =>
      lt1 (x4 + (1 : Int32)) fun (v_5 : Int32) =>
      f_X13_fewestFrom_L3 n_ x1 x3 v_5 md_4 tn
def f_X13_fewestFrom (md : MdS) (tn : TnS) (p1 : Int64) (p3 : Int32) : Option (Int32 × (MdS)) :=
  f_X13_fewestFrom_L3 FU p1 p3 (0 : Int32) md tn
def f_X13_fewest (md : MdS) (tn : TnS) (p1 : Int32) : Option (Int32 × (MdS)) :=
  lt1 (Md_thrown' md (0 : Int32)) fun (md_1 : MdS) =>
  bd1 (f_X13_in p1 (0 : Int32) (8 : Int32)) fun (r_2 : Int32) =>
  if r_2 = 0 then
    bd2 (f_X13_refused md_1 (2 : Int32)) fun (r_9 : Int32) (md_10 : MdS) =>
    some (r_9, md_10)
  else
    bd2 (f_X13_fewestFrom md_1 tn (Md_now md_1) p1) fun (r_3 : Int32) (md_4 : MdS) =>
    if r_3 = (-9 : Int32) then
      bd2 (f_X13_refused md_4 (3 : Int32)) fun (r_7 : Int32) (md_8 : MdS) =>
      some (r_7, md_8)
    else
      bd2 (f_X13_good md_4 r_3) fun (r_5 : Int32) (md_6 : MdS) =>
      some (r_5, md_6)
def f_X13_next_L81 : Nat → (Int32) → (Int32) → (MdS) → (TnS) → Option (Int32 × (MdS))
  | 0, _, _, _, _ => none
  | n_ + 1, x2, x3, md, tn =>
    if (2000 : Int32) ≤ x3 then
      bd2 (f_X13_good md (-2 : Int32)) fun (r_13 : Int32) (md_14 : MdS) =>
      some (r_13, md_14)
    else
      bd1 (f_X13_behind md (Md_now md) x3) fun (r_15 : Int64) =>
      bd2 (f_X13_fewestFrom md tn r_15 (x2 - (1 : Int32))) fun (r_16 : Int32) (md_17 : MdS) =>
      if r_16 = (x2 - (1 : Int32)) then
        bd2 (f_X13_good md_17 x3) fun (r_20 : Int32) (md_21 : MdS) =>
        some (r_20, md_21)
      else
        bd1 (f_X13_looks md_17 tn (Md_now md_17)) fun (md_18 : MdS) =>
        bd1 (f_X13_nextMay md_18 tn x3) fun (r_19 : Int32) =>
        f_X13_next_L81 n_ x2 r_19 md_18 tn
def f_X13_next (md : MdS) (tn : TnS) (p1 : Int32) : Option (Int32 × (MdS)) :=
  lt1 (Md_thrown' md (0 : Int32)) fun (md_1 : MdS) =>
  bd1 (f_X13_in p1 (1 : Int32) (8 : Int32)) fun (r_2 : Int32) =>
  if r_2 = 0 then
    bd2 (f_X13_refused md_1 (2 : Int32)) fun (r_11 : Int32) (md_12 : MdS) =>
    some (r_11, md_12)
  else
    bd2 (f_X13_fewestFrom md_1 tn (Md_now md_1) p1) fun (r_3 : Int32) (md_4 : MdS) =>
    if r_3 = (-9 : Int32) then
      bd2 (f_X13_refused md_4 (3 : Int32)) fun (r_9 : Int32) (md_10 : MdS) =>
      some (r_9, md_10)
    else
      if 0 < r_3 then
        bd1 (f_X13_looks md_4 tn (Md_now md_4)) fun (md_5 : MdS) =>
        bd1 (f_X13_nextMay md_5 tn (-1 : Int32)) fun (r_6 : Int32) =>
        f_X13_next_L81 FU r_3 r_6 md_5 tn
      else
        bd2 (f_X13_good md_4 (-2 : Int32)) fun (r_7 : Int32) (md_8 : MdS) =>
        some (r_7, md_8)
def f_X13_leastBehind_L51 (x1 : Int64) (x4 : Int32) (t0i : Int32) (md : MdS) (tn : TnS) (k18 : (Int64) → (Int32) → (Int32) → (MdS) → (TnS) → Option (Int32 × (MdS))) : Option (Int32 × (MdS)) :=
  bd1 (f_X13_nextMay md tn x4) fun (r_6 : Int32) =>
  k18 x1 t0i r_6 md tn
def f_X13_leastBehind_L18 : Nat → (Int64) → (Int32) → (Int32) → (MdS) → (TnS) → Option (Int32 × (MdS))
  | 0, _, _, _, _, _ => none
  | n_ + 1, x1, x3, x4, md, tn =>
    if (2000 : Int32) ≤ x4 then
      some (x3, md)
    else
      bd1 (f_X13_behind md x1 x4) fun (r_4 : Int64) =>
      bd1 (f_X13_leftIn tn r_4) fun (r_5 : Int32) =>
      if x3 ≤ r_5 then
        f_X13_leastBehind_L51 x1 x4 x3 md tn (fun y0 y1 y2 y3 y4 => f_X13_leastBehind_L18 n_ y0 y1 y2 y3 y4)
      else
        f_X13_leastBehind_L51 x1 x4 r_5 md tn (fun y0 y1 y2 y3 y4 => f_X13_leastBehind_L18 n_ y0 y1 y2 y3 y4)
def f_X13_leastBehind (md : MdS) (tn : TnS) (p1 : Int64) : Option (Int32 × (MdS)) :=
  bd1 (f_X13_leftIn tn p1) fun (r_1 : Int32) =>
  bd1 (f_X13_looks md tn p1) fun (md_2 : MdS) =>
  bd1 (f_X13_nextMay md_2 tn (-1 : Int32)) fun (r_3 : Int32) =>
  f_X13_leastBehind_L18 FU p1 r_1 r_3 md_2 tn
def f_X13_callerNow_L69 (x1 : Int32) (x2 : Int32) (x3 : Int32) (md : MdS) (tn : TnS) (k19 : (Int32) → (Int32) → (Int32) → (MdS) → (TnS) → Option (Int32 × (MdS))) : Option (Int32 × (MdS)) :=
  bd1 (f_X13_nextMay md tn x3) fun (r_7 : Int32) =>
  k19 x1 x2 r_7 md tn
def f_X13_callerNow_L64 (x3 : Int32) (x4 : Int32) (md : MdS) (tn : TnS) (k19 : (Int32) → (Int32) → (Int32) → (MdS) → (TnS) → Option (Int32 × (MdS))) : Option (Int32 × (MdS)) :=
  f_X13_callerNow_L69 x3 x4 x3 md tn k19
def f_X13_callerNow_L19 : Nat → (Int32) → (Int32) → (Int32) → (MdS) → (TnS) → Option (Int32 × (MdS))
  | 0, _, _, _, _, _ => none
  | n_ + 1, x1, x2, x3, md, tn =>
    if (2000 : Int32) ≤ x3 then
      some (x1, md)
    else
      bd1 (f_X13_behind md (Md_now md) x3) fun (r_3 : Int64) =>
      bd2 (f_X13_leastBehind md tn r_3) fun (r_4 : Int32) (md_5 : MdS) =>
      bd1 (f_X13_looks md_5 tn (Md_now md_5)) fun (md_6 : MdS) =>
      if x1 = (-2 : Int32) then
        f_X13_callerNow_L64 x3 r_4 md_6 tn (fun y0 y1 y2 y3 y4 => f_X13_callerNow_L19 n_ y0 y1 y2 y3 y4)
      else
        if r_4 < x2 then
          f_X13_callerNow_L64 x3 r_4 md_6 tn (fun y0 y1 y2 y3 y4 => f_X13_callerNow_L19 n_ y0 y1 y2 y3 y4)
        else
          f_X13_callerNow_L69 x1 x2 x3 md_6 tn (fun y0 y1 y2 y3 y4 => f_X13_callerNow_L19 n_ y0 y1 y2 y3 y4)
def f_X13_callerNow (md : MdS) (tn : TnS) : Option (Int32 × (MdS)) :=
  bd1 (f_X13_looks md tn (Md_now md)) fun (md_1 : MdS) =>
  bd1 (f_X13_nextMay md_1 tn (-1 : Int32)) fun (r_2 : Int32) =>
  f_X13_callerNow_L19 FU (-2 : Int32) (0 : Int32) r_2 md_1 tn
def f_X13_caller (md : MdS) (tn : TnS) : Option (Int32 × (MdS)) :=
  lt1 (Md_thrown' md (0 : Int32)) fun (md_1 : MdS) =>
  bd2 (f_X13_callerNow md_1 tn) fun (r_2 : Int32) (md_3 : MdS) =>
  bd2 (f_X13_good md_3 r_2) fun (r_4 : Int32) (md_5 : MdS) =>
  some (r_4, md_5)
def f_X13_hangNow_L103 (x1 : Int32) (x2 : Int32) (x3 : Int32) (x4 : Int32) (md : MdS) (tn : TnS) (k5 : (Int32) → (Int32) → (Int32) → (Int32) → (MdS) → (TnS) → Option (Int32 × (MdS))) : Option (Int32 × (MdS)) :=
  lt1 (x4 + (1 : Int32)) fun (v_6 : Int32) =>
  k5 x1 x2 x3 v_6 md tn
def f_X13_hangNow_L101 (x1 : Int32) (x2 : Int32) (x4 : Int32) (t0i : Int32) (t1i : Int32) (md : MdS) (tn : TnS) (k5 : (Int32) → (Int32) → (Int32) → (Int32) → (MdS) → (TnS) → Option (Int32 × (MdS))) : Option (Int32 × (MdS)) :=
  lt1 (t0i + t1i) fun (v_7 : Int32) =>
  f_X13_hangNow_L103 x1 x2 v_7 x4 md tn k5
def f_X13_hangNow_L81 (x1 : Int32) (x2 : Int32) (x3 : Int32) (x4 : Int32) (md : MdS) (tn : TnS) (k5 : (Int32) → (Int32) → (Int32) → (Int32) → (MdS) → (TnS) → Option (Int32 × (MdS))) : Option (Int32 × (MdS)) :=
  bd2 (f_X13_isLeft md tn x4) fun (r_3 : Int32) (md_4 : MdS) =>
  if r_3 = 0 then
    f_X13_hangNow_L101 x1 x2 x4 x3 (0 : Int32) md_4 tn k5
  else
    bd1 (f_X13_signNow md_4 tn x4) fun (r_5 : Int32) =>
    f_X13_hangNow_L101 x1 x2 x4 x3 r_5 md_4 tn k5
def f_X13_hangNow_L69 (x1 : Int32) (x2 : Int32) (x3 : Int32) (x4 : Int32) (x5 : Int32) (x6 : Int32) (md : MdS) (tn : TnS) (k5 : (Int32) → (Int32) → (Int32) → (Int32) → (MdS) → (TnS) → Option (Int32 × (MdS))) : Option (Int32 × (MdS)) :=
  if x5 = x2 then
    if x6 = x1 then
      f_X13_hangNow_L81 x1 x2 x3 x4 md tn k5
    else
      f_X13_hangNow_L103 x1 x2 x3 x4 md tn k5
  else
    f_X13_hangNow_L103 x1 x2 x3 x4 md tn k5
def f_X13_hangNow_L5 : Nat → (Int32) → (Int32) → (Int32) → (Int32) → (MdS) → (TnS) → Option (Int32 × (MdS))
  | 0, _, _, _, _, _, _ => none
  | n_ + 1, x1, x2, x3, x4, md, tn =>
    if (Tn_crossings tn) ≤ x4 then
      some (x3, md)
    else
      ck x4 7 <|
      ck (Tn_over tn (Int32.toNatClampNeg x4)) 8 <|
      lt1 (Tn_linkRing tn (Int32.toNatClampNeg (Tn_over tn (Int32.toNatClampNeg x4)))) fun (v_1 : Int32) =>
      ck x4 7 <|
      ck (Tn_under tn (Int32.toNatClampNeg x4)) 8 <|
      lt1 (Tn_linkRing tn (Int32.toNatClampNeg (Tn_under tn (Int32.toNatClampNeg x4)))) fun (v_2 : Int32) =>
      if v_1 = x1 then
        if v_2 = x2 then
          f_X13_hangNow_L81 x1 x2 x3 x4 md tn (fun y0 y1 y2 y3 y4 y5 => f_X13_hangNow_L5 n_ y0 y1 y2 y3 y4 y5)
        else
          f_X13_hangNow_L69 x1 x2 x3 x4 v_1 v_2 md tn (fun y0 y1 y2 y3 y4 y5 => f_X13_hangNow_L5 n_ y0 y1 y2 y3 y4 y5)
      else
        f_X13_hangNow_L69 x1 x2 x3 x4 v_1 v_2 md tn (fun y0 y1 y2 y3 y4 y5 => f_X13_hangNow_L5 n_ y0 y1 y2 y3 y4 y5)
def f_X13_hangNow (md : MdS) (tn : TnS) (p1 : Int32) (p2 : Int32) : Option (Int32 × (MdS)) :=
  f_X13_hangNow_L5 FU p1 p2 (0 : Int32) (0 : Int32) md tn
def f_X13_hang_L39 (md : MdS) : Option (Int32 × (MdS)) :=
  bd2 (f_X13_lost md (1 : Int32)) fun (r_8 : Int32) (md_9 : MdS) =>
  some (r_8, md_9)
def f_X13_hang (md : MdS) (tn : TnS) (p1 : Int32) (p2 : Int32) : Option (Int32 × (MdS)) :=
  lt1 (Md_thrown' md (0 : Int32)) fun (md_1 : MdS) =>
  bd1 (f_X13_isRing tn p1) fun (r_2 : Int32) =>
  if r_2 = 0 then
    f_X13_hang_L39 md_1
  else
    bd1 (f_X13_isRing tn p2) fun (r_3 : Int32) =>
    if r_3 = 0 then
      f_X13_hang_L39 md_1
    else
      if p1 = p2 then
        f_X13_hang_L39 md_1
      else
        bd2 (f_X13_hangNow md_1 tn p1 p2) fun (r_4 : Int32) (md_5 : MdS) =>
        bd2 (f_X13_good md_5 r_4) fun (r_6 : Int32) (md_7 : MdS) =>
        some (r_6, md_7)
def f_X13_laysArcsOf_L74 (x1 : Int32) (x2 : Int32) (x3 : Int32) (x4 : Int32) (x5 : Int32) (x6 : Int32) (md : MdS) (k17 : (Int32) → (Int32) → (Int32) → (Int32) → (Int32) → (Int32) → (MdS) → Option ((MdS))) : Option ((MdS)) :=
  ck x6 14 <|
  ck (Md_row md (Int32.toNatClampNeg x6)) 14 <|
  lt1 (Md_after' md (upd (Md_after md) (Int32.toNatClampNeg (Md_row md (Int32.toNatClampNeg x6))) x4)) fun (md_11 : MdS) =>
  lt1 (x6 + (1 : Int32)) fun (v_12 : Int32) =>
  k17 x1 x2 x3 x4 x5 v_12 md_11
def f_X13_laysArcsOf_L47 (x1 : Int32) (x2 : Int32) (x3 : Int32) (x4 : Int32) (x5 : Int32) (x6 : Int32) (t0i : Int32) (md : MdS) (k17 : (Int32) → (Int32) → (Int32) → (Int32) → (Int32) → (Int32) → (MdS) → Option ((MdS))) : Option ((MdS)) :=
  ck x6 14 <|
  ck (Md_row md (Int32.toNatClampNeg x6)) 14 <|
  lt1 (Md_ahead' md (upd (Md_ahead md) (Int32.toNatClampNeg (Md_row md (Int32.toNatClampNeg x6))) x4)) fun (md_7 : MdS) =>
  if t0i = 0 then
    f_X13_laysArcsOf_L74 x1 x2 x3 x4 x5 x6 md_7 k17
  else
    lt1 (x4 + (1 : Int32)) fun (v_8 : Int32) =>
    lt1 (x5 + (1 : Int32)) fun (v_9 : Int32) =>
    f_X13_laysArcsOf_L74 x1 x2 x3 v_8 v_9 x6 md_7 k17
def f_X13_laysArcsOf_L103 (x4 : Int32) (md : MdS) : Option ((MdS)) :=
  lt1 (Md_arcs' md (x4 + (1 : Int32))) fun (md_4 : MdS) =>
  some (md_4)
def f_X13_laysArcsOf_L181 (x1 : Int32) (x3 : Int32) (x4 : Int32) (x6 : Int32) (md : MdS) (k115 : (Int32) → (Int32) → (Int32) → (Int32) → (MdS) → Option ((MdS))) : Option ((MdS)) :=
  lt1 (x6 + (1 : Int32)) fun (v_13 : Int32) =>
  k115 x1 x3 x4 v_13 md
def f_X13_laysArcsOf_L151 (x1 : Int32) (x3 : Int32) (x4 : Int32) (x6 : Int32) (md : MdS) (k115 : (Int32) → (Int32) → (Int32) → (Int32) → (MdS) → Option ((MdS))) : Option ((MdS)) :=
  ck x6 14 <|
  ck (Md_row md (Int32.toNatClampNeg x6)) 14 <|
  if (Md_after md (Int32.toNatClampNeg (Md_row md (Int32.toNatClampNeg x6)))) = x4 then
    ck x6 14 <|
    ck (Md_row md (Int32.toNatClampNeg x6)) 14 <|
    lt1 (Md_after' md (upd (Md_after md) (Int32.toNatClampNeg (Md_row md (Int32.toNatClampNeg x6))) x3)) fun (md_10 : MdS) =>
    f_X13_laysArcsOf_L181 x1 x3 x4 x6 md_10 k115
  else
    f_X13_laysArcsOf_L181 x1 x3 x4 x6 md k115
def f_X13_laysArcsOf_L115 : Nat → (Int32) → (Int32) → (Int32) → (Int32) → (MdS) → Option ((MdS))
  | 0, _, _, _, _, _ => none
  | n_ + 1, x1, x3, x4, x6, md =>
    if x1 ≤ x6 then
      lt1 (Md_arcs' md x4) fun (md_5 : MdS) =>
      some (md_5)
    else
      ck x6 14 <|
      ck (Md_row md (Int32.toNatClampNeg x6)) 14 <|
      if (Md_ahead md (Int32.toNatClampNeg (Md_row md (Int32.toNatClampNeg x6)))) = x4 then
        ck x6 14 <|
        ck (Md_row md (Int32.toNatClampNeg x6)) 14 <|
        lt1 (Md_ahead' md (upd (Md_ahead md) (Int32.toNatClampNeg (Md_row md (Int32.toNatClampNeg x6))) x3)) fun (md_6 : MdS) =>
        f_X13_laysArcsOf_L151 x1 x3 x4 x6 md_6 (fun y0 y1 y2 y3 y4 => f_X13_laysArcsOf_L115 n_ y0 y1 y2 y3 y4)
      else
        f_X13_laysArcsOf_L151 x1 x3 x4 x6 md (fun y0 y1 y2 y3 y4 => f_X13_laysArcsOf_L115 n_ y0 y1 y2 y3 y4)
def f_X13_laysArcsOf_L17 : Nat → (Int32) → (Int32) → (Int32) → (Int32) → (Int32) → (Int32) → (MdS) → Option ((MdS))
  | 0, _, _, _, _, _, _, _ => none
  | n_ + 1, x1, x2, x3, x4, x5, x6, md =>
    if x1 ≤ x6 then
      if x2 = 0 then
        if x5 = 0 then
          f_X13_laysArcsOf_L103 x4 md
        else
          f_X13_laysArcsOf_L115 FU x1 x3 x4 (0 : Int32) md
      else
        f_X13_laysArcsOf_L103 x4 md
    else
      ck x6 14 <|
      bd1 (f_X13_at (Md_now md) (Md_row md (Int32.toNatClampNeg x6))) fun (r_3 : Int32) =>
      if (r_3 &&& (1 : Int32)) = 0 then
        f_X13_laysArcsOf_L47 x1 x2 x3 x4 x5 x6 (1 : Int32) md (fun y0 y1 y2 y3 y4 y5 y6 => f_X13_laysArcsOf_L17 n_ y0 y1 y2 y3 y4 y5 y6)
      else
        f_X13_laysArcsOf_L47 x1 x2 x3 x4 x5 x6 (0 : Int32) md (fun y0 y1 y2 y3 y4 y5 y6 => f_X13_laysArcsOf_L17 n_ y0 y1 y2 y3 y4 y5 y6)
def f_X13_laysArcsOf (md : MdS) (p1 : Int32) (p2 : Int32) : Option ((MdS)) :=
  lt1 (Md_arcs md) fun (v_1 : Int32) =>
  lt1 (Md_arcs md) fun (v_2 : Int32) =>
  f_X13_laysArcsOf_L17 FU p1 p2 v_1 v_2 (0 : Int32) (0 : Int32) md
def f_X13_laysArcs_L179 (x1 : Int32) (x2 : Int32) (x3 : Int32) (x4 : Int32) (x5 : Int32) (md : MdS) (tn : TnS) (k63 : (Int32) → (Int32) → (Int32) → (Int32) → (Int32) → (MdS) → (TnS) → Option ((MdS))) : Option ((MdS)) :=
  lt1 (x5 + (1 : Int32)) fun (v_6 : Int32) =>
  k63 x1 x2 x3 x4 v_6 md tn
def f_X13_laysArcs_L162 (x1 : Int32) (x2 : Int32) (x3 : Int32) (x4 : Int32) (x5 : Int32) (t0i : Int32) (t1i : Int32) (md : MdS) (tn : TnS) (k63 : (Int32) → (Int32) → (Int32) → (Int32) → (Int32) → (MdS) → (TnS) → Option ((MdS))) : Option ((MdS)) :=
  if t0i = t1i then
    ck x3 14 <|
    lt1 (Md_row' md (upd (Md_row md) (Int32.toNatClampNeg x3) x5)) fun (md_7 : MdS) =>
    lt1 (x3 + (1 : Int32)) fun (v_8 : Int32) =>
    f_X13_laysArcs_L179 x1 x2 v_8 x4 x5 md_7 tn k63
  else
    f_X13_laysArcs_L179 x1 x2 x3 x4 x5 md tn k63
def f_X13_laysArcs_L148 (x1 : Int32) (x2 : Int32) (x3 : Int32) (x4 : Int32) (x5 : Int32) (t0i : Int32) (md : MdS) (tn : TnS) (k63 : (Int32) → (Int32) → (Int32) → (Int32) → (Int32) → (MdS) → (TnS) → Option ((MdS))) : Option ((MdS)) :=
  if x4 = 0 then
    f_X13_laysArcs_L162 x1 x2 x3 x4 x5 t0i (1 : Int32) md tn k63
  else
    f_X13_laysArcs_L162 x1 x2 x3 x4 x5 t0i (0 : Int32) md tn k63
def f_X13_laysArcs_L143 (x1 : Int32) (x2 : Int32) (x3 : Int32) (x4 : Int32) (x5 : Int32) (md : MdS) (tn : TnS) (k63 : (Int32) → (Int32) → (Int32) → (Int32) → (Int32) → (MdS) → (TnS) → Option ((MdS))) : Option ((MdS)) :=
  f_X13_laysArcs_L148 x1 x2 x3 x4 x5 (1 : Int32) md tn k63
def f_X13_laysArcs_L63 : Nat → (Int32) → (Int32) → (Int32) → (Int32) → (Int32) → (MdS) → (TnS) → ((Int32) → (Int32) → (Int32) → (Int32) → (MdS) → (TnS) → Option ((MdS))) → Option ((MdS))
  | 0, _, _, _, _, _, _, _, _ => none
  | n_ + 1, x1, x2, x3, x4, x5, md, tn, k54 =>
    if (Tn_standings tn) ≤ x5 then
      lt1 (x4 + (1 : Int32)) fun (v_4 : Int32) =>
      k54 x1 x2 x3 v_4 md tn
    else
      ck x5 14 <|
      if (Tn_standRing tn (Int32.toNatClampNeg x5)) = x1 then
        bd1 (f_X13_at (Md_now md) x5) fun (r_5 : Int32) =>
        if r_5 = (15 : Int32) then
          f_X13_laysArcs_L179 x1 x2 x3 x4 x5 md tn (fun y0 y1 y2 y3 y4 y5 y6 => f_X13_laysArcs_L63 n_ y0 y1 y2 y3 y4 y5 y6 k54)
        else
          if x2 = 0 then
            f_X13_laysArcs_L143 x1 x2 x3 x4 x5 md tn (fun y0 y1 y2 y3 y4 y5 y6 => f_X13_laysArcs_L63 n_ y0 y1 y2 y3 y4 y5 y6 k54)
          else
            ck x5 14 <|
            ck (Tn_standLink tn (Int32.toNatClampNeg x5)) 8 <|
            ck (Md_parted md) 8 <|
            if (Tn_linkRow tn (Int32.toNatClampNeg (Tn_standLink tn (Int32.toNatClampNeg x5)))) ≤ (Tn_linkRow tn (Int32.toNatClampNeg (Md_parted md))) then
              f_X13_laysArcs_L148 x1 x2 x3 x4 x5 (0 : Int32) md tn (fun y0 y1 y2 y3 y4 y5 y6 => f_X13_laysArcs_L63 n_ y0 y1 y2 y3 y4 y5 y6 k54)
            else
              f_X13_laysArcs_L143 x1 x2 x3 x4 x5 md tn (fun y0 y1 y2 y3 y4 y5 y6 => f_X13_laysArcs_L63 n_ y0 y1 y2 y3 y4 y5 y6 k54)
      else
        f_X13_laysArcs_L179 x1 x2 x3 x4 x5 md tn (fun y0 y1 y2 y3 y4 y5 y6 => f_X13_laysArcs_L63 n_ y0 y1 y2 y3 y4 y5 y6 k54)
def f_X13_laysArcs_L54 : Nat → (Int32) → (Int32) → (Int32) → (Int32) → (MdS) → (TnS) → ((Int32) → (MdS) → (TnS) → Option ((MdS))) → Option ((MdS))
  | 0, _, _, _, _, _, _, _ => none
  | n_ + 1, x1, x2, x3, x4, md, tn, k7 =>
    if (2 : Int32) ≤ x4 then
      bd1 (f_X13_laysArcsOf md x3 x2) fun (md_2 : MdS) =>
      lt1 (x1 + (1 : Int32)) fun (v_3 : Int32) =>
      k7 v_3 md_2 tn
    else
      f_X13_laysArcs_L63 FU x1 x2 x3 x4 (0 : Int32) md tn (fun y0 y1 y2 y3 y4 y5 => f_X13_laysArcs_L54 n_ y0 y1 y2 y3 y4 y5 k7)
def f_X13_laysArcs_L48 (x1 : Int32) (t0i : Int32) (md : MdS) (tn : TnS) (k7 : (Int32) → (MdS) → (TnS) → Option ((MdS))) : Option ((MdS)) :=
  f_X13_laysArcs_L54 FU x1 t0i (0 : Int32) (0 : Int32) md tn k7
def f_X13_laysArcs_L47 (x1 : Int32) (md : MdS) (tn : TnS) (k7 : (Int32) → (MdS) → (TnS) → Option ((MdS))) : Option ((MdS)) :=
  f_X13_laysArcs_L48 x1 (0 : Int32) md tn k7
def f_X13_laysArcs_L7 : Nat → (Int32) → (MdS) → (TnS) → Option ((MdS))
  | 0, _, _, _ => none
  | n_ + 1, x1, md, tn =>
    if (Tn_rings tn) ≤ x1 then
      some (md)
    else
      if (Md_parted md) = (-2 : Int32) then
        f_X13_laysArcs_L47 x1 md tn (fun y0 y1 y2 => f_X13_laysArcs_L7 n_ y0 y1 y2)
      else
        ck (Md_parted md) 8 <|
        if (Tn_linkRing tn (Int32.toNatClampNeg (Md_parted md))) = x1 then
          f_X13_laysArcs_L48 x1 (1 : Int32) md tn (fun y0 y1 y2 => f_X13_laysArcs_L7 n_ y0 y1 y2)
        else
          f_X13_laysArcs_L47 x1 md tn (fun y0 y1 y2 => f_X13_laysArcs_L7 n_ y0 y1 y2)
def f_X13_laysArcs (md : MdS) (tn : TnS) : Option ((MdS)) :=
  lt1 (Md_arcs' md (0 : Int32)) fun (md_1 : MdS) =>
  f_X13_laysArcs_L7 FU (0 : Int32) md_1 tn
def f_X13_turned_L2 : Nat → (Int32) → (Int32) → (Int32) → Option (Int32)
  | 0, _, _, _ => none
  | n_ + 1, x0, x1, x2 =>
    nz x1 <|
    if ((x2 * x0) - (x2 * x0) / x1 * x1) = (1 : Int32) then
      some (x2)
    else
      lt1 (x2 + (1 : Int32)) fun (v_1 : Int32) =>
      f_X13_turned_L2 n_ x0 x1 v_1
def f_X13_turned (p0 : Int32) (p1 : Int32) : Option (Int32) :=
  f_X13_turned_L2 FU p0 p1 (1 : Int32)
def f_X13_adds (md : MdS) (p1 : Int32) (p2 : Int32) (p3 : Int32) (p4 : Int32) : Option ((MdS)) :=
  ck (((24 : Int32) * p1) + p2) 168 <|
  nz p4 <|
  ck (((24 : Int32) * p1) + p2) 168 <|
  lt1 (Md_equation' md (upd (Md_equation md) (Int32.toNatClampNeg (((24 : Int32) * p1) + p2)) (((Md_equation md (Int32.toNatClampNeg (((24 : Int32) * p1) + p2))) + p3) - ((Md_equation md (Int32.toNatClampNeg (((24 : Int32) * p1) + p2))) + p3) / p4 * p4))) fun (md_1 : MdS) =>
  some (md_1)
def f_X13_coloursNow_L140 (x1 : Int32) (x2 : Int32) (x3 : Int32) (md : MdS) (tn : TnS) (k16 : (Int32) → (Int32) → (Int32) → (MdS) → (TnS) → Option (Int32 × (MdS))) : Option (Int32 × (MdS)) :=
  lt1 (x3 + (1 : Int32)) fun (v_9 : Int32) =>
  k16 x1 x2 v_9 md tn
def f_X13_coloursNow_L45 : Nat → (Int32) → (Int32) → (Int32) → (Int32) → (MdS) → (TnS) → ((Int32) → (Int32) → (Int32) → (MdS) → (TnS) → Option (Int32 × (MdS))) → Option (Int32 × (MdS))
  | 0, _, _, _, _, _, _, _ => none
  | n_ + 1, x1, x2, x3, x4, md, tn, k16 =>
    if (24 : Int32) ≤ x4 then
      ck (((2 : Int32) * x3) + (1 : Int32)) 16 <|
      ck (Md_spotOf md (Int32.toNatClampNeg (((2 : Int32) * x3) + (1 : Int32)))) 14 <|
      bd1 (f_X13_adds md x2 (Md_ahead md (Int32.toNatClampNeg (Md_spotOf md (Int32.toNatClampNeg (((2 : Int32) * x3) + (1 : Int32)))))) (2 : Int32) x1) fun (md_3 : MdS) =>
      ck ((2 : Int32) * x3) 16 <|
      ck (Md_spotOf md_3 (Int32.toNatClampNeg ((2 : Int32) * x3))) 14 <|
      bd1 (f_X13_adds md_3 x2 (Md_ahead md_3 (Int32.toNatClampNeg (Md_spotOf md_3 (Int32.toNatClampNeg ((2 : Int32) * x3))))) (x1 - (1 : Int32)) x1) fun (md_4 : MdS) =>
      ck ((2 : Int32) * x3) 16 <|
      ck (Md_spotOf md_4 (Int32.toNatClampNeg ((2 : Int32) * x3))) 14 <|
      bd1 (f_X13_adds md_4 x2 (Md_after md_4 (Int32.toNatClampNeg (Md_spotOf md_4 (Int32.toNatClampNeg ((2 : Int32) * x3))))) (x1 - (1 : Int32)) x1) fun (md_5 : MdS) =>
      lt1 (x2 + (1 : Int32)) fun (v_6 : Int32) =>
      f_X13_coloursNow_L140 x1 v_6 x3 md_5 tn k16
    else
      ck (((24 : Int32) * x2) + x4) 168 <|
      lt1 (Md_equation' md (upd (Md_equation md) (Int32.toNatClampNeg (((24 : Int32) * x2) + x4)) (0 : Int32))) fun (md_7 : MdS) =>
      lt1 (x4 + (1 : Int32)) fun (v_8 : Int32) =>
      f_X13_coloursNow_L45 n_ x1 x2 x3 v_8 md_7 tn k16
def f_X13_coloursNow_L320 : Nat → (Int32) → (Int32) → (Int32) → (Int32) → (Int32) → (Int32) → (Int32) → (MdS) → ((Int32) → (Int32) → (Int32) → (Int32) → (Int32) → (MdS) → Option (Int32 × (MdS))) → Option (Int32 × (MdS))
  | 0, _, _, _, _, _, _, _, _, _ => none
  | n_ + 1, x1, x2, x3, x4, x6, x7, x8, md, k277 =>
    if (Md_arcs md) ≤ x8 then
      lt1 (x6 + (1 : Int32)) fun (v_20 : Int32) =>
      k277 x1 x2 x3 x4 v_20 md
    else
      ck (((24 : Int32) * x6) + x8) 168 <|
      ck (((24 : Int32) * x3) + x8) 168 <|
      nz x1 <|
      ck (((24 : Int32) * x6) + x8) 168 <|
      lt1 (Md_equation' md (upd (Md_equation md) (Int32.toNatClampNeg (((24 : Int32) * x6) + x8)) (((Md_equation md (Int32.toNatClampNeg (((24 : Int32) * x6) + x8))) + ((x1 - x7) * (Md_equation md (Int32.toNatClampNeg (((24 : Int32) * x3) + x8))))) - ((Md_equation md (Int32.toNatClampNeg (((24 : Int32) * x6) + x8))) + ((x1 - x7) * (Md_equation md (Int32.toNatClampNeg (((24 : Int32) * x3) + x8))))) / x1 * x1))) fun (md_21 : MdS) =>
      lt1 (x8 + (1 : Int32)) fun (v_22 : Int32) =>
      f_X13_coloursNow_L320 n_ x1 x2 x3 x4 x6 x7 v_22 md_21 k277
def f_X13_coloursNow_L390 (x1 : Int32) (x2 : Int32) (x3 : Int32) (x4 : Int32) (md : MdS) (k151 : (Int32) → (Int32) → (Int32) → (Int32) → (MdS) → Option (Int32 × (MdS))) : Option (Int32 × (MdS)) :=
  lt1 (x4 + (1 : Int32)) fun (v_16 : Int32) =>
  k151 x1 x2 x3 v_16 md
def f_X13_coloursNow_L277 : Nat → (Int32) → (Int32) → (Int32) → (Int32) → (Int32) → (MdS) → ((Int32) → (Int32) → (Int32) → (Int32) → (MdS) → Option (Int32 × (MdS))) → Option (Int32 × (MdS))
  | 0, _, _, _, _, _, _, _ => none
  | n_ + 1, x1, x2, x3, x4, x6, md, k151 =>
    if x2 ≤ x6 then
      lt1 (x3 + (1 : Int32)) fun (v_17 : Int32) =>
      f_X13_coloursNow_L390 x1 x2 v_17 x4 md k151
    else
      ck (((24 : Int32) * x6) + x4) 168 <|
      ck (((24 : Int32) * x3) + x4) 168 <|
      bd1 (f_X13_turned (Md_equation md (Int32.toNatClampNeg (((24 : Int32) * x3) + x4))) x1) fun (r_18 : Int32) =>
      nz x1 <|
      lt1 (((Md_equation md (Int32.toNatClampNeg (((24 : Int32) * x6) + x4))) * r_18) - ((Md_equation md (Int32.toNatClampNeg (((24 : Int32) * x6) + x4))) * r_18) / x1 * x1) fun (v_19 : Int32) =>
      f_X13_coloursNow_L320 FU x1 x2 x3 x4 x6 v_19 (0 : Int32) md (fun y0 y1 y2 y3 y4 y5 => f_X13_coloursNow_L277 n_ y0 y1 y2 y3 y4 y5 k151)
def f_X13_coloursNow_L203 : Nat → (Int32) → (Int32) → (Int32) → (Int32) → (Int32) → (Int32) → (MdS) → ((Int32) → (Int32) → (Int32) → (Int32) → (MdS) → Option (Int32 × (MdS))) → Option (Int32 × (MdS))
  | 0, _, _, _, _, _, _, _, _ => none
  | n_ + 1, x1, x2, x3, x4, x5, x6, md, k151 =>
    if (Md_arcs md) ≤ x6 then
      lt1 (x3 + (1 : Int32)) fun (v_11 : Int32) =>
      f_X13_coloursNow_L277 FU x1 x2 x3 x4 v_11 md k151
    else
      ck (((24 : Int32) * x5) + x6) 168 <|
      lt1 (Md_equation md (Int32.toNatClampNeg (((24 : Int32) * x5) + x6))) fun (v_12 : Int32) =>
      ck (((24 : Int32) * x3) + x6) 168 <|
      ck (((24 : Int32) * x5) + x6) 168 <|
      lt1 (Md_equation' md (upd (Md_equation md) (Int32.toNatClampNeg (((24 : Int32) * x5) + x6)) (Md_equation md (Int32.toNatClampNeg (((24 : Int32) * x3) + x6))))) fun (md_13 : MdS) =>
      ck (((24 : Int32) * x3) + x6) 168 <|
      lt1 (Md_equation' md_13 (upd (Md_equation md_13) (Int32.toNatClampNeg (((24 : Int32) * x3) + x6)) v_12)) fun (md_14 : MdS) =>
      lt1 (x6 + (1 : Int32)) fun (v_15 : Int32) =>
      f_X13_coloursNow_L203 n_ x1 x2 x3 x4 x5 v_15 md_14 k151
def f_X13_coloursNow_L191 (x1 : Int32) (x2 : Int32) (x3 : Int32) (x4 : Int32) (x5 : Int32) (md : MdS) (k151 : (Int32) → (Int32) → (Int32) → (Int32) → (MdS) → Option (Int32 × (MdS))) : Option (Int32 × (MdS)) :=
  if x5 = x2 then
    f_X13_coloursNow_L390 x1 x2 x3 x4 md k151
  else
    f_X13_coloursNow_L203 FU x1 x2 x3 x4 x5 (0 : Int32) md k151
def f_X13_coloursNow_L163 : Nat → (Int32) → (Int32) → (Int32) → (Int32) → (Int32) → (MdS) → ((Int32) → (Int32) → (Int32) → (Int32) → (MdS) → Option (Int32 × (MdS))) → Option (Int32 × (MdS))
  | 0, _, _, _, _, _, _, _ => none
  | n_ + 1, x1, x2, x3, x4, x5, md, k151 =>
    if x2 ≤ x5 then
      f_X13_coloursNow_L191 x1 x2 x3 x4 x5 md k151
    else
      ck (((24 : Int32) * x5) + x4) 168 <|
      if (Md_equation md (Int32.toNatClampNeg (((24 : Int32) * x5) + x4))) = 0 then
        lt1 (x5 + (1 : Int32)) fun (v_10 : Int32) =>
        f_X13_coloursNow_L163 n_ x1 x2 x3 x4 v_10 md k151
      else
        f_X13_coloursNow_L191 x1 x2 x3 x4 x5 md k151
def f_X13_coloursNow_L151 : Nat → (Int32) → (Int32) → (Int32) → (Int32) → (MdS) → Option (Int32 × (MdS))
  | 0, _, _, _, _, _ => none
  | n_ + 1, x1, x2, x3, x4, md =>
    if (Md_arcs md) ≤ x4 then
      some (((Md_arcs md) - x3), md)
    else
      f_X13_coloursNow_L163 FU x1 x2 x3 x4 x3 md (fun y0 y1 y2 y3 y4 => f_X13_coloursNow_L151 n_ y0 y1 y2 y3 y4)
def f_X13_coloursNow_L16 : Nat → (Int32) → (Int32) → (Int32) → (MdS) → (TnS) → Option (Int32 × (MdS))
  | 0, _, _, _, _, _ => none
  | n_ + 1, x1, x2, x3, md, tn =>
    if (Tn_crossings tn) ≤ x3 then
      f_X13_coloursNow_L151 FU x1 x2 (0 : Int32) (0 : Int32) md
    else
      ck ((2 : Int32) * x3) 16 <|
      if (Md_spotOf md (Int32.toNatClampNeg ((2 : Int32) * x3))) = (-1 : Int32) then
        f_X13_coloursNow_L140 x1 x2 x3 md tn (fun y0 y1 y2 y3 y4 => f_X13_coloursNow_L16 n_ y0 y1 y2 y3 y4)
      else
        f_X13_coloursNow_L45 FU x1 x2 x3 (0 : Int32) md tn (fun y0 y1 y2 y3 y4 => f_X13_coloursNow_L16 n_ y0 y1 y2 y3 y4)
def f_X13_coloursNow (md : MdS) (tn : TnS) (p1 : Int32) : Option (Int32 × (MdS)) :=
  bd1 (f_X13_laysArcs md tn) fun (md_1 : MdS) =>
  bd1 (f_X13_looks md_1 tn (Md_now md_1)) fun (md_2 : MdS) =>
  f_X13_coloursNow_L16 FU p1 (0 : Int32) (0 : Int32) md_2 tn
def f_X13_colours_L34 (x1 : Int32) (md : MdS) (tn : TnS) : Option (Int32 × (MdS)) :=
  bd2 (f_X13_coloursNow md tn x1) fun (r_4 : Int32) (md_5 : MdS) =>
  bd2 (f_X13_good md_5 r_4) fun (r_6 : Int32) (md_7 : MdS) =>
  some (r_6, md_7)
def f_X13_colours (md : MdS) (tn : TnS) (p1 : Int32) : Option (Int32 × (MdS)) :=
  lt1 (Md_thrown' md (0 : Int32)) fun (md_1 : MdS) =>
  if p1 = (3 : Int32) then
    f_X13_colours_L34 p1 md_1 tn
  else
    if p1 = (5 : Int32) then
      f_X13_colours_L34 p1 md_1 tn
    else
      if p1 = (7 : Int32) then
        f_X13_colours_L34 p1 md_1 tn
      else
        bd2 (f_X13_refused md_1 (2 : Int32)) fun (r_2 : Int32) (md_3 : MdS) =>
        some (r_2, md_3)
def f_X13_cannot_L52 (x2 : Int32) (t0i : Int32) (md : MdS) (tn : TnS) (k22 : (Int32) → (Int32) → (MdS) → (TnS) → Option (Int32 × (MdS))) : Option (Int32 × (MdS)) :=
  lt1 (x2 + (2 : Int32)) fun (v_4 : Int32) =>
  k22 t0i v_4 md tn
def f_X13_cannot_L47 (x2 : Int32) (md : MdS) (tn : TnS) (k22 : (Int32) → (Int32) → (MdS) → (TnS) → Option (Int32 × (MdS))) : Option (Int32 × (MdS)) :=
  f_X13_cannot_L52 x2 (1 : Int32) md tn k22
def f_X13_cannot_L97 (x2 : Int32) (x3 : Int32) (t0i : Int32) (md : MdS) (tn : TnS) (k74 : (Int32) → (Int32) → (Int32) → (MdS) → (TnS) → Option (Int32 × (MdS))) : Option (Int32 × (MdS)) :=
  lt1 (x3 + (1 : Int32)) fun (v_10 : Int32) =>
  k74 t0i x2 v_10 md tn
def f_X13_cannot_L92 (x2 : Int32) (x3 : Int32) (md : MdS) (tn : TnS) (k74 : (Int32) → (Int32) → (Int32) → (MdS) → (TnS) → Option (Int32 × (MdS))) : Option (Int32 × (MdS)) :=
  f_X13_cannot_L97 x2 x3 (1 : Int32) md tn k74
def f_X13_cannot_L74 : Nat → (Int32) → (Int32) → (Int32) → (MdS) → (TnS) → ((Int32) → (Int32) → (MdS) → (TnS) → Option (Int32 × (MdS))) → Option (Int32 × (MdS))
  | 0, _, _, _, _, _, _ => none
  | n_ + 1, x1, x2, x3, md, tn, k61 =>
    if x2 ≤ x3 then
      lt1 (x2 + (1 : Int32)) fun (v_7 : Int32) =>
      k61 x1 v_7 md tn
    else
      if x1 = 0 then
        bd2 (f_X13_hangNow md tn x2 x3) fun (r_8 : Int32) (md_9 : MdS) =>
        if r_8 = 0 then
          f_X13_cannot_L97 x2 x3 (0 : Int32) md_9 tn (fun y0 y1 y2 y3 y4 => f_X13_cannot_L74 n_ y0 y1 y2 y3 y4 k61)
        else
          f_X13_cannot_L92 x2 x3 md_9 tn (fun y0 y1 y2 y3 y4 => f_X13_cannot_L74 n_ y0 y1 y2 y3 y4 k61)
      else
        f_X13_cannot_L92 x2 x3 md tn (fun y0 y1 y2 y3 y4 => f_X13_cannot_L74 n_ y0 y1 y2 y3 y4 k61)
def f_X13_cannot_L120 (t1i : Int32) (md : MdS) : Option (Int32 × (MdS)) :=
  bd2 (f_X13_good md t1i) fun (r_5 : Int32) (md_6 : MdS) =>
  some (r_5, md_6)
def f_X13_cannot_L61 : Nat → (Int32) → (Int32) → (MdS) → (TnS) → Option (Int32 × (MdS))
  | 0, _, _, _, _ => none
  | n_ + 1, x1, x2, md, tn =>
    if (Tn_rings tn) ≤ x2 then
      if x1 = 0 then
        f_X13_cannot_L120 (0 : Int32) md
      else
        f_X13_cannot_L120 (1 : Int32) md
    else
      f_X13_cannot_L74 FU x1 x2 (0 : Int32) md tn (fun y0 y1 y2 y3 => f_X13_cannot_L61 n_ y0 y1 y2 y3)
def f_X13_cannot_L22 : Nat → (Int32) → (Int32) → (MdS) → (TnS) → Option (Int32 × (MdS))
  | 0, _, _, _, _ => none
  | n_ + 1, x1, x2, md, tn =>
    if (8 : Int32) ≤ x2 then
      f_X13_cannot_L61 FU x1 (0 : Int32) md tn
    else
      if x1 = 0 then
        bd2 (f_X13_coloursNow md tn x2) fun (r_2 : Int32) (md_3 : MdS) =>
        if r_2 = (Tn_rings tn) then
          f_X13_cannot_L52 x2 (0 : Int32) md_3 tn (fun y0 y1 y2 y3 => f_X13_cannot_L22 n_ y0 y1 y2 y3)
        else
          f_X13_cannot_L47 x2 md_3 tn (fun y0 y1 y2 y3 => f_X13_cannot_L22 n_ y0 y1 y2 y3)
      else
        f_X13_cannot_L47 x2 md tn (fun y0 y1 y2 y3 => f_X13_cannot_L22 n_ y0 y1 y2 y3)
def f_X13_cannot (md : MdS) (tn : TnS) : Option (Int32 × (MdS)) :=
  lt1 (Md_thrown' md (0 : Int32)) fun (md_1 : MdS) =>
  f_X13_cannot_L22 FU (0 : Int32) (3 : Int32) md_1 tn
def f_X13_partedFrom_L64 (x1 : Int64) (x3 : Int32) (x4 : Int64) (x6 : Int32) (md : MdS) (tn : TnS) (k11 : (Int64) → (Int32) → (Int64) → (Int32) → (MdS) → (TnS) → Option (Int64 × (MdS))) : Option (Int64 × (MdS)) :=
  lt1 (x6 + (1 : Int32)) fun (v_5 : Int32) =>
  k11 x1 x3 x4 v_5 md tn
def f_X13_partedFrom_L11 : Nat → (Int64) → (Int32) → (Int64) → (Int32) → (MdS) → (TnS) → Option (Int64 × (MdS))
  | 0, _, _, _, _, _, _ => none
  | n_ + 1, x1, x3, x4, x6, md, tn =>
    if (Tn_standings tn) ≤ x6 then
      some (x4, md)
    else
      ck x6 14 <|
      if (Tn_standLink tn (Int32.toNatClampNeg x6)) = x3 then
        bd1 (f_X13_at x1 x6) fun (r_2 : Int32) =>
        if r_2 = (15 : Int32) then
          f_X13_partedFrom_L64 x1 x3 x4 x6 md tn (fun y0 y1 y2 y3 y4 y5 => f_X13_partedFrom_L11 n_ y0 y1 y2 y3 y4 y5)
        else
          bd1 (f_X13_at x1 x6) fun (r_3 : Int32) =>
          bd1 (f_X13_without md x4 (r_3 / (2 : Int32))) fun (r_4 : Int64) =>
          f_X13_partedFrom_L64 x1 x3 r_4 x6 md tn (fun y0 y1 y2 y3 y4 y5 => f_X13_partedFrom_L11 n_ y0 y1 y2 y3 y4 y5)
      else
        f_X13_partedFrom_L64 x1 x3 x4 x6 md tn (fun y0 y1 y2 y3 y4 y5 => f_X13_partedFrom_L11 n_ y0 y1 y2 y3 y4 y5)
def f_X13_partedFrom (md : MdS) (tn : TnS) (p1 : Int64) (p3 : Int32) : Option (Int64 × (MdS)) :=
  bd1 (f_X13_looks md tn p1) fun (md_1 : MdS) =>
  f_X13_partedFrom_L11 FU p1 p3 p1 (0 : Int32) md_1 tn
def f_X13_part_L150 (x1 : Int32) (x2 : Int32) (x3 : Int32) (x4 : Int32) (x5 : Int32) (md : MdS) (tn : TnS) (k60 : (Int32) → (Int32) → (Int32) → (Int32) → (Int32) → (MdS) → (TnS) → Option (Int32 × (MdS))) : Option (Int32 × (MdS)) :=
  lt1 (x5 + (1 : Int32)) fun (v_17 : Int32) =>
  k60 x1 x2 x3 x4 v_17 md tn
def f_X13_part_L144 (x1 : Int32) (x4 : Int32) (x5 : Int32) (x8 : Int32) (md : MdS) (tn : TnS) (k60 : (Int32) → (Int32) → (Int32) → (Int32) → (Int32) → (MdS) → (TnS) → Option (Int32 × (MdS))) : Option (Int32 × (MdS)) :=
  f_X13_part_L150 x1 x5 x8 x4 x5 md tn k60
def f_X13_part_L122 (x1 : Int32) (x2 : Int32) (x3 : Int32) (x5 : Int32) (x8 : Int32) (t0i : Int32) (md : MdS) (tn : TnS) (k60 : (Int32) → (Int32) → (Int32) → (Int32) → (Int32) → (MdS) → (TnS) → Option (Int32 × (MdS))) : Option (Int32 × (MdS)) :=
  if x8 < 0 then
    f_X13_part_L150 x1 x2 x3 t0i x5 md tn k60
  else
    if x2 = (-2 : Int32) then
      f_X13_part_L144 x1 t0i x5 x8 md tn k60
    else
      if x8 < x3 then
        f_X13_part_L144 x1 t0i x5 x8 md tn k60
      else
        f_X13_part_L150 x1 x2 x3 t0i x5 md tn k60
def f_X13_part_L117 (x1 : Int32) (x2 : Int32) (x3 : Int32) (x5 : Int32) (x8 : Int32) (md : MdS) (tn : TnS) (k60 : (Int32) → (Int32) → (Int32) → (Int32) → (Int32) → (MdS) → (TnS) → Option (Int32 × (MdS))) : Option (Int32 × (MdS)) :=
  f_X13_part_L122 x1 x2 x3 x5 x8 (1 : Int32) md tn k60
def f_X13_part_L60 : Nat → (Int32) → (Int32) → (Int32) → (Int32) → (Int32) → (MdS) → (TnS) → Option (Int32 × (MdS))
  | 0, _, _, _, _, _, _, _ => none
  | n_ + 1, x1, x2, x3, x4, x5, md, tn =>
    if (Tn_links tn) ≤ x5 then
      if x4 = 0 then
        bd2 (f_X13_good md x2) fun (r_7 : Int32) (md_8 : MdS) =>
        some (r_7, md_8)
      else
        bd2 (f_X13_refused md (3 : Int32)) fun (r_9 : Int32) (md_10 : MdS) =>
        some (r_9, md_10)
    else
      bd2 (f_X13_partedFrom md tn (Md_now md) x5) fun (r_11 : Int64) (md_12 : MdS) =>
      lt1 (Md_parted' md_12 x5) fun (md_13 : MdS) =>
      bd2 (f_X13_fewestFrom md_13 tn r_11 x1) fun (r_14 : Int32) (md_15 : MdS) =>
      lt1 (Md_parted' md_15 (-2 : Int32)) fun (md_16 : MdS) =>
      if x4 = 0 then
        if r_14 = (-9 : Int32) then
          f_X13_part_L117 x1 x2 x3 x5 r_14 md_16 tn (fun y0 y1 y2 y3 y4 y5 y6 => f_X13_part_L60 n_ y0 y1 y2 y3 y4 y5 y6)
        else
          f_X13_part_L122 x1 x2 x3 x5 r_14 (0 : Int32) md_16 tn (fun y0 y1 y2 y3 y4 y5 y6 => f_X13_part_L60 n_ y0 y1 y2 y3 y4 y5 y6)
      else
        f_X13_part_L117 x1 x2 x3 x5 r_14 md_16 tn (fun y0 y1 y2 y3 y4 y5 y6 => f_X13_part_L60 n_ y0 y1 y2 y3 y4 y5 y6)
def f_X13_part (md : MdS) (tn : TnS) (p1 : Int32) : Option (Int32 × (MdS)) :=
  lt1 (Md_thrown' md (0 : Int32)) fun (md_1 : MdS) =>
  bd1 (f_X13_in p1 (0 : Int32) (8 : Int32)) fun (r_2 : Int32) =>
  if r_2 = 0 then
    bd2 (f_X13_refused md_1 (2 : Int32)) fun (r_5 : Int32) (md_6 : MdS) =>
    some (r_5, md_6)
  else
    if (Md_parted md_1) = (-2 : Int32) then
      f_X13_part_L60 FU p1 (-2 : Int32) (0 : Int32) (0 : Int32) (0 : Int32) md_1 tn
    else
      bd2 (f_X13_refused md_1 (5 : Int32)) fun (r_3 : Int32) (md_4 : MdS) =>
      some (r_3, md_4)
def f_X13_isCrossing (tn : TnS) (p1 : Int32) : Option (Int32) :=
  if p1 < 0 then
    some ((0 : Int32))
  else
    if (Tn_crossings tn) ≤ p1 then
      some ((0 : Int32))
    else
      some ((1 : Int32))
def f_X13_liftedFrom (md : MdS) (p1 : Int64) (p3 : Int32) : Option (Int64) :=
  ck ((2 : Int32) * p3) 16 <|
  bd1 (f_X13_with p1 (Md_spotOf md (Int32.toNatClampNeg ((2 : Int32) * p3))) (((2 : Int32) * p3) + (1 : Int32))) fun (r_1 : Int64) =>
  ck (((2 : Int32) * p3) + (1 : Int32)) 16 <|
  bd1 (f_X13_with r_1 (Md_spotOf md (Int32.toNatClampNeg (((2 : Int32) * p3) + (1 : Int32)))) ((2 : Int32) * p3)) fun (r_2 : Int64) =>
  some (r_2)
def f_X13_lift_L161 (x1 : Int32) (x2 : Int32) (x3 : Int32) (x4 : Int32) (x5 : Int32) (md : MdS) (tn : TnS) (k45 : (Int32) → (Int32) → (Int32) → (Int32) → (Int32) → (MdS) → (TnS) → Option (Int32 × (MdS))) : Option (Int32 × (MdS)) :=
  lt1 (x5 + (1 : Int32)) fun (v_16 : Int32) =>
  k45 x1 x2 x3 x4 v_16 md tn
def f_X13_lift_L155 (x1 : Int32) (x4 : Int32) (x5 : Int32) (x8 : Int32) (md : MdS) (tn : TnS) (k45 : (Int32) → (Int32) → (Int32) → (Int32) → (Int32) → (MdS) → (TnS) → Option (Int32 × (MdS))) : Option (Int32 × (MdS)) :=
  f_X13_lift_L161 x1 x5 x8 x4 x5 md tn k45
def f_X13_lift_L133 (x1 : Int32) (x2 : Int32) (x3 : Int32) (x5 : Int32) (x8 : Int32) (t0i : Int32) (md : MdS) (tn : TnS) (k45 : (Int32) → (Int32) → (Int32) → (Int32) → (Int32) → (MdS) → (TnS) → Option (Int32 × (MdS))) : Option (Int32 × (MdS)) :=
  if x8 < 0 then
    f_X13_lift_L161 x1 x2 x3 t0i x5 md tn k45
  else
    if x2 = (-2 : Int32) then
      f_X13_lift_L155 x1 t0i x5 x8 md tn k45
    else
      if x8 < x3 then
        f_X13_lift_L155 x1 t0i x5 x8 md tn k45
      else
        f_X13_lift_L161 x1 x2 x3 t0i x5 md tn k45
def f_X13_lift_L128 (x1 : Int32) (x2 : Int32) (x3 : Int32) (x5 : Int32) (x8 : Int32) (md : MdS) (tn : TnS) (k45 : (Int32) → (Int32) → (Int32) → (Int32) → (Int32) → (MdS) → (TnS) → Option (Int32 × (MdS))) : Option (Int32 × (MdS)) :=
  f_X13_lift_L133 x1 x2 x3 x5 x8 (1 : Int32) md tn k45
def f_X13_lift_L45 : Nat → (Int32) → (Int32) → (Int32) → (Int32) → (Int32) → (MdS) → (TnS) → Option (Int32 × (MdS))
  | 0, _, _, _, _, _, _, _ => none
  | n_ + 1, x1, x2, x3, x4, x5, md, tn =>
    if (Tn_crossings tn) ≤ x5 then
      if x4 = 0 then
        bd2 (f_X13_good md x2) fun (r_5 : Int32) (md_6 : MdS) =>
        some (r_5, md_6)
      else
        bd2 (f_X13_refused md (3 : Int32)) fun (r_7 : Int32) (md_8 : MdS) =>
        some (r_7, md_8)
    else
      bd2 (f_X13_isLeft md tn x5) fun (r_9 : Int32) (md_10 : MdS) =>
      if r_9 = 0 then
        f_X13_lift_L161 x1 x2 x3 x4 x5 md_10 tn (fun y0 y1 y2 y3 y4 y5 y6 => f_X13_lift_L45 n_ y0 y1 y2 y3 y4 y5 y6)
      else
        bd1 (f_X13_liftedFrom md_10 (Md_now md_10) x5) fun (r_11 : Int64) =>
        lt1 (Md_lifted' md_10 ((Md_lifted md_10) ^^^ ((1 : Int32) <<< (x5 &&& 31)))) fun (md_12 : MdS) =>
        bd2 (f_X13_fewestFrom md_12 tn r_11 x1) fun (r_13 : Int32) (md_14 : MdS) =>
        lt1 (Md_lifted' md_14 ((Md_lifted md_14) ^^^ ((1 : Int32) <<< (x5 &&& 31)))) fun (md_15 : MdS) =>
        if x4 = 0 then
          if r_13 = (-9 : Int32) then
            f_X13_lift_L128 x1 x2 x3 x5 r_13 md_15 tn (fun y0 y1 y2 y3 y4 y5 y6 => f_X13_lift_L45 n_ y0 y1 y2 y3 y4 y5 y6)
          else
            f_X13_lift_L133 x1 x2 x3 x5 r_13 (0 : Int32) md_15 tn (fun y0 y1 y2 y3 y4 y5 y6 => f_X13_lift_L45 n_ y0 y1 y2 y3 y4 y5 y6)
        else
          f_X13_lift_L128 x1 x2 x3 x5 r_13 md_15 tn (fun y0 y1 y2 y3 y4 y5 y6 => f_X13_lift_L45 n_ y0 y1 y2 y3 y4 y5 y6)
def f_X13_lift (md : MdS) (tn : TnS) (p1 : Int32) : Option (Int32 × (MdS)) :=
  lt1 (Md_thrown' md (0 : Int32)) fun (md_1 : MdS) =>
  bd1 (f_X13_in p1 (0 : Int32) (8 : Int32)) fun (r_2 : Int32) =>
  if r_2 = 0 then
    bd2 (f_X13_refused md_1 (2 : Int32)) fun (r_3 : Int32) (md_4 : MdS) =>
    some (r_3, md_4)
  else
    f_X13_lift_L45 FU p1 (-2 : Int32) (0 : Int32) (0 : Int32) (0 : Int32) md_1 tn
def f_X13_keeps_L91 (md : MdS) : Option ((MdS)) :=
  ck (Md_acts md) 16 <|
  lt1 (Md_pastNow' md (vp_updL (Md_pastNow md) (Int32.toNatClampNeg (Md_acts md)) (Md_now md))) fun (md_1 : MdS) =>
  ck (Md_acts md_1) 16 <|
  lt1 (Md_pastParted' md_1 (upd (Md_pastParted md_1) (Int32.toNatClampNeg (Md_acts md_1)) (Md_parted md_1))) fun (md_2 : MdS) =>
  ck (Md_acts md_2) 16 <|
  lt1 (Md_pastSeed' md_2 (upd (Md_pastSeed md_2) (Int32.toNatClampNeg (Md_acts md_2)) (Md_seed md_2))) fun (md_3 : MdS) =>
  ck (Md_acts md_3) 16 <|
  lt1 (Md_pastLifted' md_3 (upd (Md_pastLifted md_3) (Int32.toNatClampNeg (Md_acts md_3)) (Md_lifted md_3))) fun (md_4 : MdS) =>
  lt1 (Md_acts' md_4 ((Md_acts md_4) + (1 : Int32))) fun (md_5 : MdS) =>
  some (md_5)
def f_X13_keeps_L11 : Nat → (Int32) → (MdS) → Option ((MdS))
  | 0, _, _ => none
  | n_ + 1, x1, md =>
    if (16 : Int32) ≤ (x1 + (1 : Int32)) then
      lt1 (Md_acts' md ((Md_acts md) - (1 : Int32))) fun (md_6 : MdS) =>
      f_X13_keeps_L91 md_6
    else
      ck (x1 + (1 : Int32)) 16 <|
      ck x1 16 <|
      lt1 (Md_pastNow' md (vp_updL (Md_pastNow md) (Int32.toNatClampNeg x1) (Md_pastNow md (Int32.toNatClampNeg (x1 + (1 : Int32)))))) fun (md_7 : MdS) =>
      ck (x1 + (1 : Int32)) 16 <|
      ck x1 16 <|
      lt1 (Md_pastParted' md_7 (upd (Md_pastParted md_7) (Int32.toNatClampNeg x1) (Md_pastParted md_7 (Int32.toNatClampNeg (x1 + (1 : Int32)))))) fun (md_8 : MdS) =>
      ck (x1 + (1 : Int32)) 16 <|
      ck x1 16 <|
      lt1 (Md_pastSeed' md_8 (upd (Md_pastSeed md_8) (Int32.toNatClampNeg x1) (Md_pastSeed md_8 (Int32.toNatClampNeg (x1 + (1 : Int32)))))) fun (md_9 : MdS) =>
      ck (x1 + (1 : Int32)) 16 <|
      ck x1 16 <|
      lt1 (Md_pastLifted' md_9 (upd (Md_pastLifted md_9) (Int32.toNatClampNeg x1) (Md_pastLifted md_9 (Int32.toNatClampNeg (x1 + (1 : Int32)))))) fun (md_10 : MdS) =>
      lt1 (x1 + (1 : Int32)) fun (v_11 : Int32) =>
      f_X13_keeps_L11 n_ v_11 md_10
def f_X13_keeps (md : MdS) : Option ((MdS)) :=
  if (Md_acts md) = (16 : Int32) then
    f_X13_keeps_L11 FU (0 : Int32) md
  else
    f_X13_keeps_L91 md
def f_X13_lifts (md : MdS) (tn : TnS) (p1 : Int32) : Option (Int32 × (MdS)) :=
  lt1 (Md_thrown' md (0 : Int32)) fun (md_1 : MdS) =>
  bd1 (f_X13_isCrossing tn p1) fun (r_2 : Int32) =>
  if r_2 = 0 then
    bd2 (f_X13_lost md_1 (1 : Int32)) fun (r_14 : Int32) (md_15 : MdS) =>
    some (r_14, md_15)
  else
    bd2 (f_X13_isLeft md_1 tn p1) fun (r_3 : Int32) (md_4 : MdS) =>
    if r_3 = 0 then
      bd2 (f_X13_lost md_4 (5 : Int32)) fun (r_12 : Int32) (md_13 : MdS) =>
      some (r_12, md_13)
    else
      bd1 (f_X13_keeps md_4) fun (md_5 : MdS) =>
      bd1 (f_X13_liftedFrom md_5 (Md_now md_5) p1) fun (r_6 : Int64) =>
      lt1 (Md_now' md_5 r_6) fun (md_7 : MdS) =>
      lt1 (Md_lifted' md_7 ((Md_lifted md_7) ^^^ ((1 : Int32) <<< (p1 &&& 31)))) fun (md_8 : MdS) =>
      bd1 (f_X13_signNow md_8 tn p1) fun (r_9 : Int32) =>
      bd2 (f_X13_good md_8 r_9) fun (r_10 : Int32) (md_11 : MdS) =>
      some (r_10, md_11)
def f_X13_twist_L92 (x1 : Int32) (x2 : Int32) (x3 : Int32) (md : MdS) (tn : TnS) (k23 : (Int32) → (Int32) → (Int32) → (MdS) → (TnS) → Option (Int32 × (MdS))) : Option (Int32 × (MdS)) :=
  lt1 (x3 + (1 : Int32)) fun (v_11 : Int32) =>
  k23 x1 x2 v_11 md tn
def f_X13_twist_L23 : Nat → (Int32) → (Int32) → (Int32) → (MdS) → (TnS) → Option (Int32 × (MdS))
  | 0, _, _, _, _, _ => none
  | n_ + 1, x1, x2, x3, md, tn =>
    if (Tn_crossings tn) ≤ x3 then
      bd2 (f_X13_good md x2) fun (r_5 : Int32) (md_6 : MdS) =>
      some (r_5, md_6)
    else
      ck x3 7 <|
      ck (Tn_over tn (Int32.toNatClampNeg x3)) 8 <|
      if (Tn_linkRing tn (Int32.toNatClampNeg (Tn_over tn (Int32.toNatClampNeg x3)))) = x1 then
        ck x3 7 <|
        ck (Tn_under tn (Int32.toNatClampNeg x3)) 8 <|
        if (Tn_linkRing tn (Int32.toNatClampNeg (Tn_under tn (Int32.toNatClampNeg x3)))) = x1 then
          bd2 (f_X13_isLeft md tn x3) fun (r_7 : Int32) (md_8 : MdS) =>
          if r_7 = 0 then
            f_X13_twist_L92 x1 x2 x3 md_8 tn (fun y0 y1 y2 y3 y4 => f_X13_twist_L23 n_ y0 y1 y2 y3 y4)
          else
            bd1 (f_X13_signNow md_8 tn x3) fun (r_9 : Int32) =>
            lt1 (x2 + r_9) fun (v_10 : Int32) =>
            f_X13_twist_L92 x1 v_10 x3 md_8 tn (fun y0 y1 y2 y3 y4 => f_X13_twist_L23 n_ y0 y1 y2 y3 y4)
        else
          f_X13_twist_L92 x1 x2 x3 md tn (fun y0 y1 y2 y3 y4 => f_X13_twist_L23 n_ y0 y1 y2 y3 y4)
      else
        f_X13_twist_L92 x1 x2 x3 md tn (fun y0 y1 y2 y3 y4 => f_X13_twist_L23 n_ y0 y1 y2 y3 y4)
def f_X13_twist (md : MdS) (tn : TnS) (p1 : Int32) : Option (Int32 × (MdS)) :=
  lt1 (Md_thrown' md (0 : Int32)) fun (md_1 : MdS) =>
  bd1 (f_X13_isRing tn p1) fun (r_2 : Int32) =>
  if r_2 = 0 then
    bd2 (f_X13_lost md_1 (1 : Int32)) fun (r_3 : Int32) (md_4 : MdS) =>
    some (r_3, md_4)
  else
    f_X13_twist_L23 FU p1 (0 : Int32) (0 : Int32) md_1 tn
def f_X13_arcs (md : MdS) (tn : TnS) : Option (Int32 × (MdS)) :=
  lt1 (Md_thrown' md (0 : Int32)) fun (md_1 : MdS) =>
  bd1 (f_X13_laysArcs md_1 tn) fun (md_2 : MdS) =>
  bd2 (f_X13_good md_2 (Md_arcs md_2)) fun (r_3 : Int32) (md_4 : MdS) =>
  some (r_3, md_4)
def f_X13_comesAll_L54 : Nat → (Int32) → (Int32) → (Int32) → (Int32) → (MdS) → (TnS) → ((Int32) → (Int32) → (Int32) → (MdS) → (TnS) → Option (Int32 × (MdS))) → Option (Int32 × (MdS))
  | 0, _, _, _, _, _, _, _ => none
  | n_ + 1, x1, x3, x4, x5, md, tn, k40 =>
    if x4 ≤ x5 then
      lt1 (x3 + (1 : Int32)) fun (v_7 : Int32) =>
      k40 x1 x4 v_7 md tn
    else
      ck x5 4001 <|
      bd2 (f_X13_goesOnFrom md tn (Md_come md (Int32.toNatClampNeg x5))) fun (r_8 : Int32) (md_9 : MdS) =>
      if r_8 = 0 then
        some ((0 : Int32), md_9)
      else
        lt1 (x5 + (1 : Int32)) fun (v_10 : Int32) =>
        f_X13_comesAll_L54 n_ x1 x3 x4 v_10 md_9 tn k40
def f_X13_comesAll_L40 : Nat → (Int32) → (Int32) → (Int32) → (MdS) → (TnS) → Option (Int32 × (MdS))
  | 0, _, _, _, _, _ => none
  | n_ + 1, x1, x2, x3, md, tn =>
    if x1 ≤ x3 then
      some ((1 : Int32), md)
    else
      lt1 (Md_many md) fun (v_6 : Int32) =>
      f_X13_comesAll_L54 FU x1 x3 v_6 x2 md tn (fun y0 y1 y2 y3 y4 => f_X13_comesAll_L40 n_ y0 y1 y2 y3 y4)
def f_X13_comesAll_L2 : Nat → (Int32) → (Int32) → (MdS) → (TnS) → Option (Int32 × (MdS))
  | 0, _, _, _, _ => none
  | n_ + 1, x1, x2, md, tn =>
    if (16384 : Int32) ≤ x2 then
      lt1 (Md_many' md (0 : Int32)) fun (md_1 : MdS) =>
      bd2 (f_X13_comes md_1 (Md_now md_1)) fun (r_2 : Int32) (md_3 : MdS) =>
      f_X13_comesAll_L40 FU x1 (0 : Int32) (0 : Int32) md_3 tn
    else
      ck x2 16384 <|
      lt1 (Md_table' md (vp_updL (Md_table md) (Int32.toNatClampNeg x2) (0 : Int64))) fun (md_4 : MdS) =>
      lt1 (x2 + (1 : Int32)) fun (v_5 : Int32) =>
      f_X13_comesAll_L2 n_ x1 v_5 md_4 tn
def f_X13_comesAll (md : MdS) (tn : TnS) (p1 : Int32) : Option (Int32 × (MdS)) :=
  f_X13_comesAll_L2 FU p1 (0 : Int32) md tn
def f_X13_reached (md : MdS) (tn : TnS) (p1 : Int32) : Option (Int32 × (MdS)) :=
  lt1 (Md_thrown' md (0 : Int32)) fun (md_1 : MdS) =>
  bd1 (f_X13_in p1 (0 : Int32) (8 : Int32)) fun (r_2 : Int32) =>
  if r_2 = 0 then
    bd2 (f_X13_refused md_1 (2 : Int32)) fun (r_9 : Int32) (md_10 : MdS) =>
    some (r_9, md_10)
  else
    bd2 (f_X13_comesAll md_1 tn p1) fun (r_3 : Int32) (md_4 : MdS) =>
    if r_3 = 0 then
      bd2 (f_X13_refused md_4 (3 : Int32)) fun (r_5 : Int32) (md_6 : MdS) =>
      some (r_5, md_6)
    else
      bd2 (f_X13_good md_4 (Md_many md_4)) fun (r_7 : Int32) (md_8 : MdS) =>
      some (r_7, md_8)
def f_X13_few_L95 (x3 : Int32) (t0i : Int32) (md : MdS) (tn : TnS) (k59 : (Int32) → (Int32) → (MdS) → (TnS) → Option (Int32 × (MdS))) : Option (Int32 × (MdS)) :=
  lt1 (x3 + (1 : Int32)) fun (v_14 : Int32) =>
  k59 t0i v_14 md tn
def f_X13_few_L59 : Nat → (Int32) → (Int32) → (MdS) → (TnS) → Option (Int32 × (MdS))
  | 0, _, _, _, _ => none
  | n_ + 1, x2, x3, md, tn =>
    if (Md_many md) ≤ x3 then
      bd2 (f_X13_good md x2) fun (r_10 : Int32) (md_11 : MdS) =>
      some (r_10, md_11)
    else
      ck x3 4001 <|
      bd1 (f_X13_leftIn tn (Md_come md (Int32.toNatClampNeg x3))) fun (r_12 : Int32) =>
      if x2 ≤ r_12 then
        f_X13_few_L95 x3 x2 md tn (fun y0 y1 y2 y3 => f_X13_few_L59 n_ y0 y1 y2 y3)
      else
        ck x3 4001 <|
        bd1 (f_X13_leftIn tn (Md_come md (Int32.toNatClampNeg x3))) fun (r_13 : Int32) =>
        f_X13_few_L95 x3 r_13 md tn (fun y0 y1 y2 y3 => f_X13_few_L59 n_ y0 y1 y2 y3)
def f_X13_few (md : MdS) (tn : TnS) (p1 : Int32) : Option (Int32 × (MdS)) :=
  lt1 (Md_thrown' md (0 : Int32)) fun (md_1 : MdS) =>
  bd1 (f_X13_in p1 (0 : Int32) (8 : Int32)) fun (r_2 : Int32) =>
  if r_2 = 0 then
    bd2 (f_X13_refused md_1 (2 : Int32)) fun (r_8 : Int32) (md_9 : MdS) =>
    some (r_8, md_9)
  else
    bd2 (f_X13_comesAll md_1 tn p1) fun (r_3 : Int32) (md_4 : MdS) =>
    if r_3 = 0 then
      bd2 (f_X13_refused md_4 (3 : Int32)) fun (r_6 : Int32) (md_7 : MdS) =>
      some (r_6, md_7)
    else
      bd1 (f_X13_leftIn tn (Md_now md_4)) fun (r_5 : Int32) =>
      f_X13_few_L59 FU r_5 (0 : Int32) md_4 tn
def f_X13_seesIn_L90 (x1 : Int64) (x3 : Int32) (x4 : Int32) (x5 : Int32) (tn : TnS) (k6 : (Int64) → (Int32) → (Int32) → (Int32) → (TnS) → Option (Int32)) : Option (Int32) :=
  lt1 (x5 + (1 : Int32)) fun (v_3 : Int32) =>
  k6 x1 x3 x4 v_3 tn
def f_X13_seesIn_L75 (x1 : Int64) (x3 : Int32) (x4 : Int32) (x5 : Int32) (tn : TnS) (k6 : (Int64) → (Int32) → (Int32) → (Int32) → (TnS) → Option (Int32)) : Option (Int32) :=
  bd1 (f_X13_at x1 x5) fun (r_4 : Int32) =>
  lt1 (x4 ||| ((1 : Int32) <<< ((r_4 / (2 : Int32)) &&& 31))) fun (v_5 : Int32) =>
  f_X13_seesIn_L90 x1 x3 v_5 x5 tn k6
def f_X13_seesIn_L6 : Nat → (Int64) → (Int32) → (Int32) → (Int32) → (TnS) → Option (Int32)
  | 0, _, _, _, _, _ => none
  | n_ + 1, x1, x3, x4, x5, tn =>
    if (Tn_standings tn) ≤ x5 then
      some (x4)
    else
      ck x5 14 <|
      lt1 (Tn_standLink tn (Int32.toNatClampNeg x5)) fun (v_1 : Int32) =>
      bd1 (f_X13_at x1 x5) fun (r_2 : Int32) =>
      if r_2 = (15 : Int32) then
        f_X13_seesIn_L90 x1 x3 x4 x5 tn (fun y0 y1 y2 y3 y4 => f_X13_seesIn_L6 n_ y0 y1 y2 y3 y4)
      else
        ck ((2 : Int32) * x3) 16 <|
        if (Tn_linkOf tn (Int32.toNatClampNeg ((2 : Int32) * x3))) = v_1 then
          f_X13_seesIn_L75 x1 x3 x4 x5 tn (fun y0 y1 y2 y3 y4 => f_X13_seesIn_L6 n_ y0 y1 y2 y3 y4)
        else
          ck (((2 : Int32) * x3) + (1 : Int32)) 16 <|
          if (Tn_linkOf tn (Int32.toNatClampNeg (((2 : Int32) * x3) + (1 : Int32)))) = v_1 then
            f_X13_seesIn_L75 x1 x3 x4 x5 tn (fun y0 y1 y2 y3 y4 => f_X13_seesIn_L6 n_ y0 y1 y2 y3 y4)
          else
            f_X13_seesIn_L90 x1 x3 x4 x5 tn (fun y0 y1 y2 y3 y4 => f_X13_seesIn_L6 n_ y0 y1 y2 y3 y4)
def f_X13_seesIn (tn : TnS) (p1 : Int64) (p3 : Int32) : Option (Int32) :=
  f_X13_seesIn_L6 FU p1 p3 (0 : Int32) (0 : Int32) tn
def f_X13_sees (md : MdS) (tn : TnS) (p1 : Int32) : Option (Int32 × (MdS)) :=
  lt1 (Md_thrown' md (0 : Int32)) fun (md_1 : MdS) =>
  bd1 (f_X13_isPerson tn p1) fun (r_2 : Int32) =>
  if r_2 = 0 then
    bd2 (f_X13_refused md_1 (1 : Int32)) fun (r_3 : Int32) (md_4 : MdS) =>
    some (r_3, md_4)
  else
    bd1 (f_X13_seesIn tn (Md_now md_1) p1) fun (r_5 : Int32) =>
    bd2 (f_X13_good md_1 r_5) fun (r_6 : Int32) (md_7 : MdS) =>
    some (r_6, md_7)
def f_X13_crossingsOf (p0 : Int32) : Option (Int32) :=
  bd1 (f_X13_kindOf p0) fun (r_1 : Int32) =>
  if r_1 = (0 : Int32) then
    some (((1 : Int32) <<< (p0 &&& 31)))
  else
    if r_1 = (1 : Int32) then
      some ((((1 : Int32) <<< (((p0 / (10 : Int32)) - (p0 / (10 : Int32)) / (10 : Int32) * (10 : Int32)) &&& 31)) ||| ((1 : Int32) <<< ((p0 - p0 / (10 : Int32) * (10 : Int32)) &&& 31))))
    else
      some (((((1 : Int32) <<< (((p0 / (100 : Int32)) - (p0 / (100 : Int32)) / (10 : Int32) * (10 : Int32)) &&& 31)) ||| ((1 : Int32) <<< (((p0 / (10 : Int32)) - (p0 / (10 : Int32)) / (10 : Int32) * (10 : Int32)) &&& 31))) ||| ((1 : Int32) <<< ((p0 - p0 / (10 : Int32) * (10 : Int32)) &&& 31))))
def f_X13_ownIn_L89 (x1 : Int64) (x4 : Int32) (x5 : Int32) (x6 : Int32) (x7 : Int32) (md : MdS) (tn : TnS) (k27 : (Int64) → (Int32) → (Int32) → (Int32) → (Int32) → (MdS) → (TnS) → Option (Int32 × (MdS))) : Option (Int32 × (MdS)) :=
  bd1 (f_X13_nextMay md tn x7) fun (r_7 : Int32) =>
  k27 x1 x4 x5 x6 r_7 md tn
def f_X13_ownIn_L81 (x1 : Int64) (x4 : Int32) (x7 : Int32) (x8 : Int32) (md : MdS) (tn : TnS) (k27 : (Int64) → (Int32) → (Int32) → (Int32) → (Int32) → (MdS) → (TnS) → Option (Int32 × (MdS))) : Option (Int32 × (MdS)) :=
  f_X13_ownIn_L89 x1 x4 x7 x8 x7 md tn k27
def f_X13_ownIn_L27 : Nat → (Int64) → (Int32) → (Int32) → (Int32) → (Int32) → (MdS) → (TnS) → Option (Int32 × (MdS))
  | 0, _, _, _, _, _, _, _ => none
  | n_ + 1, x1, x4, x5, x6, x7, md, tn =>
    if (2000 : Int32) ≤ x7 then
      some (x5, md)
    else
      bd1 (f_X13_crossingsOf x7) fun (r_4 : Int32) =>
      if (r_4 &&& (x4 ^^^ (-1 : Int32))) = 0 then
        bd1 (f_X13_behind md x1 x7) fun (r_5 : Int64) =>
        bd1 (f_X13_leftIn tn r_5) fun (r_6 : Int32) =>
        if x5 = (-2 : Int32) then
          f_X13_ownIn_L81 x1 x4 x7 r_6 md tn (fun y0 y1 y2 y3 y4 y5 y6 => f_X13_ownIn_L27 n_ y0 y1 y2 y3 y4 y5 y6)
        else
          if r_6 < x6 then
            f_X13_ownIn_L81 x1 x4 x7 r_6 md tn (fun y0 y1 y2 y3 y4 y5 y6 => f_X13_ownIn_L27 n_ y0 y1 y2 y3 y4 y5 y6)
          else
            f_X13_ownIn_L89 x1 x4 x5 x6 x7 md tn (fun y0 y1 y2 y3 y4 y5 y6 => f_X13_ownIn_L27 n_ y0 y1 y2 y3 y4 y5 y6)
      else
        f_X13_ownIn_L89 x1 x4 x5 x6 x7 md tn (fun y0 y1 y2 y3 y4 y5 y6 => f_X13_ownIn_L27 n_ y0 y1 y2 y3 y4 y5 y6)
def f_X13_ownIn (md : MdS) (tn : TnS) (p1 : Int64) (p3 : Int32) : Option (Int32 × (MdS)) :=
  bd1 (f_X13_seesIn tn p1 p3) fun (r_1 : Int32) =>
  bd1 (f_X13_looks md tn p1) fun (md_2 : MdS) =>
  bd1 (f_X13_nextMay md_2 tn (-1 : Int32)) fun (r_3 : Int32) =>
  f_X13_ownIn_L27 FU p1 r_1 (-2 : Int32) (0 : Int32) r_3 md_2 tn
def f_X13_own (md : MdS) (tn : TnS) (p1 : Int32) : Option (Int32 × (MdS)) :=
  lt1 (Md_thrown' md (0 : Int32)) fun (md_1 : MdS) =>
  bd1 (f_X13_isPerson tn p1) fun (r_2 : Int32) =>
  if r_2 = 0 then
    bd2 (f_X13_refused md_1 (1 : Int32)) fun (r_3 : Int32) (md_4 : MdS) =>
    some (r_3, md_4)
  else
    bd2 (f_X13_ownIn md_1 tn (Md_now md_1) p1) fun (r_5 : Int32) (md_6 : MdS) =>
    bd2 (f_X13_good md_6 r_5) fun (r_7 : Int32) (md_8 : MdS) =>
    some (r_7, md_8)
def f_X13_rounds_L111 (x1 : Int32) (x2 : Int64) (x4 : Int32) (x5 : Int32) (md : MdS) (tn : TnS) (k51 : (Int32) → (Int64) → (Int32) → (Int32) → (MdS) → (TnS) → Option (Int32 × (MdS))) : Option (Int32 × (MdS)) :=
  lt1 (x5 + (1 : Int32)) fun (v_17 : Int32) =>
  k51 x1 x2 x4 v_17 md tn
def f_X13_rounds_L51 : Nat → (Int32) → (Int64) → (Int32) → (Int32) → (MdS) → (TnS) → ((Int32) → (Int64) → (Int32) → (MdS) → (TnS) → Option (Int32 × (MdS))) → Option (Int32 × (MdS))
  | 0, _, _, _, _, _, _, _ => none
  | n_ + 1, x1, x2, x4, x5, md, tn, k42 =>
    if (Tn_people tn) ≤ x5 then
      lt1 (x4 + (1 : Int32)) fun (v_9 : Int32) =>
      k42 x1 x2 v_9 md tn
    else
      bd2 (f_X13_ownIn md tn x2 x5) fun (r_10 : Int32) (md_11 : MdS) =>
      bd1 (f_X13_looks md_11 tn x2) fun (md_12 : MdS) =>
      if r_10 = (-2 : Int32) then
        f_X13_rounds_L111 x1 x2 x4 x5 md_12 tn (fun y0 y1 y2 y3 y4 y5 => f_X13_rounds_L51 n_ y0 y1 y2 y3 y4 y5 k42)
      else
        bd1 (f_X13_behind md_12 x2 r_10) fun (r_13 : Int64) =>
        bd1 (f_X13_leftIn tn r_13) fun (r_14 : Int32) =>
        bd1 (f_X13_leftIn tn x2) fun (r_15 : Int32) =>
        if r_15 ≤ r_14 then
          f_X13_rounds_L111 x1 x2 x4 x5 md_12 tn (fun y0 y1 y2 y3 y4 y5 => f_X13_rounds_L51 n_ y0 y1 y2 y3 y4 y5 k42)
        else
          bd1 (f_X13_behind md_12 x2 r_10) fun (r_16 : Int64) =>
          f_X13_rounds_L111 x1 r_16 x4 x5 md_12 tn (fun y0 y1 y2 y3 y4 y5 => f_X13_rounds_L51 n_ y0 y1 y2 y3 y4 y5 k42)
def f_X13_rounds_L42 : Nat → (Int32) → (Int64) → (Int32) → (MdS) → (TnS) → Option (Int32 × (MdS))
  | 0, _, _, _, _, _ => none
  | n_ + 1, x1, x2, x4, md, tn =>
    if x1 ≤ x4 then
      bd1 (f_X13_leftIn tn x2) fun (r_6 : Int32) =>
      bd2 (f_X13_good md r_6) fun (r_7 : Int32) (md_8 : MdS) =>
      some (r_7, md_8)
    else
      f_X13_rounds_L51 FU x1 x2 x4 (0 : Int32) md tn (fun y0 y1 y2 y3 y4 => f_X13_rounds_L42 n_ y0 y1 y2 y3 y4)
def f_X13_rounds (md : MdS) (tn : TnS) (p1 : Int32) : Option (Int32 × (MdS)) :=
  lt1 (Md_thrown' md (0 : Int32)) fun (md_1 : MdS) =>
  bd1 (f_X13_in p1 (0 : Int32) (9 : Int32)) fun (r_2 : Int32) =>
  if r_2 = 0 then
    bd2 (f_X13_refused md_1 (2 : Int32)) fun (r_4 : Int32) (md_5 : MdS) =>
    some (r_4, md_5)
  else
    lt1 (Md_now md_1) fun (v_3 : Int64) =>
    f_X13_rounds_L42 FU p1 v_3 (0 : Int32) md_1 tn
def f_X13_lotFrom_L79 : Nat → (Int64) → (Int32) → (Int32) → (MdS) → (TnS) → Option (Int64 × (MdS))
  | 0, _, _, _, _, _ => none
  | n_ + 1, x1, x4, x5, md, tn =>
    if x5 ≤ 0 then
      bd1 (f_X13_behind md x1 x4) fun (r_8 : Int64) =>
      some (r_8, md)
    else
      bd1 (f_X13_nextMay md tn x4) fun (r_9 : Int32) =>
      lt1 (x5 + (-1 : Int32)) fun (v_10 : Int32) =>
      f_X13_lotFrom_L79 n_ x1 r_9 v_10 md tn
def f_X13_lotFrom_L14 : Nat → (Int64) → (Int32) → (Int32) → (MdS) → (TnS) → Option (Int64 × (MdS))
  | 0, _, _, _, _, _ => none
  | n_ + 1, x1, x3, x4, md, tn =>
    if (2000 : Int32) ≤ x4 then
      if x3 = 0 then
        some (x1, md)
      else
        lt1 (Md_drawn' md (Int64.toInt32 ((((75 : Int64) * (Int32.toInt64 (Md_drawn md))) + (74 : Int64)) - (((75 : Int64) * (Int32.toInt64 (Md_drawn md))) + (74 : Int64)) / (65537 : Int64) * (65537 : Int64)))) fun (md_3 : MdS) =>
        bd1 (f_X13_nextMay md_3 tn (-1 : Int32)) fun (r_4 : Int32) =>
        nz x3 <|
        lt1 ((Md_drawn md_3) - (Md_drawn md_3) / x3 * x3) fun (v_5 : Int32) =>
        f_X13_lotFrom_L79 FU x1 r_4 v_5 md_3 tn
    else
      lt1 (x3 + (1 : Int32)) fun (v_6 : Int32) =>
      bd1 (f_X13_nextMay md tn x4) fun (r_7 : Int32) =>
      f_X13_lotFrom_L14 n_ x1 v_6 r_7 md tn
def f_X13_lotFrom (md : MdS) (tn : TnS) (p1 : Int64) : Option (Int64 × (MdS)) :=
  bd1 (f_X13_looks md tn p1) fun (md_1 : MdS) =>
  bd1 (f_X13_nextMay md_1 tn (-1 : Int32)) fun (r_2 : Int32) =>
  f_X13_lotFrom_L14 FU p1 (0 : Int32) r_2 md_1 tn
def f_X13_tries_L49 (md : MdS) : Option (Int32 × (MdS)) :=
  bd2 (f_X13_refused md (2 : Int32)) fun (r_6 : Int32) (md_7 : MdS) =>
  some (r_6, md_7)
def f_X13_tries_L126 (x2 : Int32) (x3 : Int32) (x5 : Int32) (t0i : Int32) (t1i : Int32) (md : MdS) (tn : TnS) (k66 : (Int32) → (Int32) → (Int32) → (Int32) → (MdS) → (TnS) → Option (Int32 × (MdS))) : Option (Int32 × (MdS)) :=
  lt1 (t0i + t1i) fun (v_16 : Int32) =>
  lt1 (x5 + (1 : Int32)) fun (v_17 : Int32) =>
  k66 x2 x3 v_16 v_17 md tn
def f_X13_tries_L110 (x2 : Int32) (x3 : Int32) (x4 : Int32) (x5 : Int32) (x6 : Int64) (md : MdS) (tn : TnS) (k66 : (Int32) → (Int32) → (Int32) → (Int32) → (MdS) → (TnS) → Option (Int32 × (MdS))) : Option (Int32 × (MdS)) :=
  bd1 (f_X13_leftIn tn x6) fun (r_15 : Int32) =>
  if r_15 = 0 then
    f_X13_tries_L126 x2 x3 x5 x4 (1 : Int32) md tn k66
  else
    f_X13_tries_L126 x2 x3 x5 x4 (0 : Int32) md tn k66
def f_X13_tries_L81 : Nat → (Int32) → (Int32) → (Int32) → (Int32) → (Int64) → (Int32) → (MdS) → (TnS) → ((Int32) → (Int32) → (Int32) → (Int32) → (MdS) → (TnS) → Option (Int32 × (MdS))) → Option (Int32 × (MdS))
  | 0, _, _, _, _, _, _, _, _, _ => none
  | n_ + 1, x2, x3, x4, x5, x6, x8, md, tn, k66 =>
    if x3 ≤ x8 then
      f_X13_tries_L110 x2 x3 x4 x5 x6 md tn k66
    else
      bd1 (f_X13_leftIn tn x6) fun (r_11 : Int32) =>
      if r_11 ≤ 0 then
        f_X13_tries_L110 x2 x3 x4 x5 x6 md tn k66
      else
        bd2 (f_X13_lotFrom md tn x6) fun (r_12 : Int64) (md_13 : MdS) =>
        lt1 (x8 + (1 : Int32)) fun (v_14 : Int32) =>
        f_X13_tries_L81 n_ x2 x3 x4 x5 r_12 v_14 md_13 tn k66
def f_X13_tries_L66 : Nat → (Int32) → (Int32) → (Int32) → (Int32) → (MdS) → (TnS) → Option (Int32 × (MdS))
  | 0, _, _, _, _, _, _ => none
  | n_ + 1, x2, x3, x4, x5, md, tn =>
    if x2 ≤ x5 then
      bd2 (f_X13_good md x4) fun (r_8 : Int32) (md_9 : MdS) =>
      some (r_8, md_9)
    else
      lt1 (Md_now md) fun (v_10 : Int64) =>
      f_X13_tries_L81 FU x2 x3 x4 x5 v_10 (0 : Int32) md tn (fun y0 y1 y2 y3 y4 y5 => f_X13_tries_L66 n_ y0 y1 y2 y3 y4 y5)
def f_X13_tries (md : MdS) (tn : TnS) (p1 : Int32) (p2 : Int32) (p3 : Int32) : Option (Int32 × (MdS)) :=
  lt1 (Md_thrown' md (0 : Int32)) fun (md_1 : MdS) =>
  bd1 (f_X13_in p1 (0 : Int32) (65536 : Int32)) fun (r_2 : Int32) =>
  if r_2 = 0 then
    f_X13_tries_L49 md_1
  else
    bd1 (f_X13_in p2 (1 : Int32) (20 : Int32)) fun (r_3 : Int32) =>
    if r_3 = 0 then
      f_X13_tries_L49 md_1
    else
      bd1 (f_X13_in p3 (0 : Int32) (20 : Int32)) fun (r_4 : Int32) =>
      if r_4 = 0 then
        f_X13_tries_L49 md_1
      else
        lt1 (Md_drawn' md_1 p1) fun (md_5 : MdS) =>
        f_X13_tries_L66 FU p2 p3 (0 : Int32) (0 : Int32) md_5 tn
def f_X13_chosen_L5 : Nat → (Int32) → (Int32) → (Int64) → (Int32) → Option (Int64)
  | 0, _, _, _, _ => none
  | n_ + 1, x0, x1, x2, x4 =>
    if x1 ≤ x4 then
      some (x2)
    else
      nzl (Int32.toInt64 (x4 + (1 : Int32))) <|
      lt1 ((x2 * (Int32.toInt64 (x0 - x4))) / (Int32.toInt64 (x4 + (1 : Int32)))) fun (v_1 : Int64) =>
      lt1 (x4 + (1 : Int32)) fun (v_2 : Int32) =>
      f_X13_chosen_L5 n_ x0 x1 v_1 v_2
def f_X13_chosen (p0 : Int32) (p1 : Int32) : Option (Int64) :=
  f_X13_chosen_L5 FU p0 p1 (1 : Int64) (0 : Int32)
def f_X13_laysWays_L147 (x1 : Int32) (x2 : Int32) (x3 : Int32) (x4 : Int32) (x5 : Int64) (x7 : Int32) (md : MdS) (k50 : (Int32) → (Int32) → (Int32) → (Int32) → (Int64) → (Int32) → (MdS) → Option ((MdS))) : Option ((MdS)) :=
  lt1 (x7 + (1 : Int32)) fun (v_6 : Int32) =>
  k50 x1 x2 x3 x4 x5 v_6 md
def f_X13_laysWays_L87 : Nat → (Int32) → (Int32) → (Int32) → (Int32) → (Int64) → (Int32) → (Int32) → (MdS) → ((Int32) → (Int32) → (Int32) → (Int32) → (Int64) → (Int32) → (MdS) → Option ((MdS))) → Option ((MdS))
  | 0, _, _, _, _, _, _, _, _, _ => none
  | n_ + 1, x1, x2, x3, x4, x5, x7, x8, md, k50 =>
    if x4 < x8 then
      f_X13_laysWays_L147 x1 x2 x3 x4 x5 x7 md k50
    else
      ck ((x3 * x4) + x8) 196 <|
      bd1 (f_X13_chosen (x4 - (1 : Int32)) (x7 - (1 : Int32))) fun (r_7 : Int64) =>
      ck (((x3 * (x4 - x7)) + x8) - (1 : Int32)) 196 <|
      ck ((x3 * x4) + x8) 196 <|
      lt1 (Md_ways' md (vp_updL (Md_ways md) (Int32.toNatClampNeg ((x3 * x4) + x8)) ((Md_ways md (Int32.toNatClampNeg ((x3 * x4) + x8))) + ((r_7 * x5) * (Md_ways md (Int32.toNatClampNeg (((x3 * (x4 - x7)) + x8) - (1 : Int32)))))))) fun (md_8 : MdS) =>
      lt1 (x8 + (1 : Int32)) fun (v_9 : Int32) =>
      f_X13_laysWays_L87 n_ x1 x2 x3 x4 x5 x7 v_9 md_8 k50
def f_X13_laysWays_L84 (x1 : Int32) (x2 : Int32) (x3 : Int32) (x4 : Int32) (x5 : Int64) (x7 : Int32) (md : MdS) (k50 : (Int32) → (Int32) → (Int32) → (Int32) → (Int64) → (Int32) → (MdS) → Option ((MdS))) : Option ((MdS)) :=
  f_X13_laysWays_L87 FU x1 x2 x3 x4 x5 x7 (1 : Int32) md k50
def f_X13_laysWays_L50 : Nat → (Int32) → (Int32) → (Int32) → (Int32) → (Int64) → (Int32) → (MdS) → ((Int32) → (Int32) → (Int32) → (Int32) → (MdS) → Option ((MdS))) → Option ((MdS))
  | 0, _, _, _, _, _, _, _, _ => none
  | n_ + 1, x1, x2, x3, x4, x5, x7, md, k38 =>
    if x4 < x7 then
      lt1 (x4 + (1 : Int32)) fun (v_4 : Int32) =>
      k38 x1 x2 x3 v_4 md
    else
      lt1 (x5 * ((2 : Int64) * (Int32.toInt64 (x7 - (1 : Int32))))) fun (v_5 : Int64) =>
      if x2 = 0 then
        f_X13_laysWays_L84 x1 x2 x3 x4 v_5 x7 md (fun y0 y1 y2 y3 y4 y5 y6 => f_X13_laysWays_L50 n_ y0 y1 y2 y3 y4 y5 y6 k38)
      else
        if x7 = (2 : Int32) then
          f_X13_laysWays_L147 x1 x2 x3 x4 v_5 x7 md (fun y0 y1 y2 y3 y4 y5 y6 => f_X13_laysWays_L50 n_ y0 y1 y2 y3 y4 y5 y6 k38)
        else
          f_X13_laysWays_L84 x1 x2 x3 x4 v_5 x7 md (fun y0 y1 y2 y3 y4 y5 y6 => f_X13_laysWays_L50 n_ y0 y1 y2 y3 y4 y5 y6 k38)
def f_X13_laysWays_L38 : Nat → (Int32) → (Int32) → (Int32) → (Int32) → (MdS) → Option ((MdS))
  | 0, _, _, _, _, _ => none
  | n_ + 1, x1, x2, x3, x4, md =>
    if x1 < x4 then
      some (md)
    else
      f_X13_laysWays_L50 FU x1 x2 x3 x4 (1 : Int64) (2 : Int32) md (fun y0 y1 y2 y3 y4 => f_X13_laysWays_L38 n_ y0 y1 y2 y3 y4)
def f_X13_laysWays_L6 : Nat → (Int32) → (Int32) → (Int32) → (Int32) → (MdS) → Option ((MdS))
  | 0, _, _, _, _, _ => none
  | n_ + 1, x1, x2, x3, x4, md =>
    if (x3 * x3) ≤ x4 then
      ck (0 : Int32) 196 <|
      lt1 (Md_ways' md (vp_updL (Md_ways md) (Int32.toNatClampNeg (0 : Int32)) (1 : Int64))) fun (md_1 : MdS) =>
      f_X13_laysWays_L38 FU x1 x2 x3 (1 : Int32) md_1
    else
      ck x4 196 <|
      lt1 (Md_ways' md (vp_updL (Md_ways md) (Int32.toNatClampNeg x4) (0 : Int64))) fun (md_2 : MdS) =>
      lt1 (x4 + (1 : Int32)) fun (v_3 : Int32) =>
      f_X13_laysWays_L6 n_ x1 x2 x3 v_3 md_2
def f_X13_laysWays (md : MdS) (p1 : Int32) (p2 : Int32) : Option ((MdS)) :=
  f_X13_laysWays_L6 FU p1 p2 (14 : Int32) (0 : Int32) md
def f_X13_waysNow (md : MdS) (p1 : Int32) (p2 : Int32) : Option (Int64) :=
  ck (((14 : Int32) * p1) + p2) 196 <|
  some ((Md_ways md (Int32.toNatClampNeg (((14 : Int32) * p1) + p2))))
def f_X13_ways_L25 (md : MdS) : Option (Int64 × (MdS)) :=
  bd2 (f_X13_refused md (2 : Int32)) fun (r_8 : Int32) (md_9 : MdS) =>
  some ((Int32.toInt64 r_8), md_9)
def f_X13_ways (md : MdS) (p1 : Int32) (p2 : Int32) (p3 : Int32) : Option (Int64 × (MdS)) :=
  lt1 (Md_thrown' md (0 : Int32)) fun (md_1 : MdS) =>
  bd1 (f_X13_in p1 (2 : Int32) (13 : Int32)) fun (r_2 : Int32) =>
  if r_2 = 0 then
    f_X13_ways_L25 md_1
  else
    bd1 (f_X13_in p2 (0 : Int32) (13 : Int32)) fun (r_3 : Int32) =>
    if r_3 = 0 then
      f_X13_ways_L25 md_1
    else
      bd1 (f_X13_laysWays md_1 p1 p3) fun (md_4 : MdS) =>
      bd2 (f_X13_good md_4 (0 : Int32)) fun (r_5 : Int32) (md_6 : MdS) =>
      bd1 (f_X13_waysNow md_6 p1 p2) fun (r_7 : Int64) =>
      some (r_7, md_6)
def f_X13_told_L26 : Nat → (Int64) → (Int64) → (Int32) → (Int64) → (Int64) → (MdS) → Option (Int64 × (MdS))
  | 0, _, _, _, _, _, _ => none
  | n_ + 1, x1, x3, x5, x6, x8, md =>
    if (lg_cmp x8 (0 : Int64)) = 0 then
      if x5 = 0 then
        nzl x6 <|
        some ((x1 / x6), md)
      else
        nzl x6 <|
        some ((x3 / x6), md)
    else
      nzl x8 <|
      lt1 (x6 - x6 / x8 * x8) fun (v_5 : Int64) =>
      f_X13_told_L26 n_ x1 x3 x5 x8 v_5 md
def f_X13_told (md : MdS) (p1 : Int64) (p3 : Int64) (p5 : Int32) : Option (Int64 × (MdS)) :=
  if (lg_cmp p3 (0 : Int64)) = 0 then
    bd2 (f_X13_refused md (6 : Int32)) fun (r_3 : Int32) (md_4 : MdS) =>
    some ((Int32.toInt64 r_3), md_4)
  else
    bd2 (f_X13_good md (0 : Int32)) fun (r_1 : Int32) (md_2 : MdS) =>
    f_X13_told_L26 FU p1 p3 p5 p1 p3 md_2
def f_X13_allWays_L5 : Nat → (Int32) → (Int64) → (Int32) → (MdS) → Option (Int64)
  | 0, _, _, _, _ => none
  | n_ + 1, x1, x2, x4, md =>
    if x1 < x4 then
      some (x2)
    else
      bd1 (f_X13_waysNow md x1 x4) fun (r_1 : Int64) =>
      lt1 (x2 + r_1) fun (v_2 : Int64) =>
      lt1 (x4 + (1 : Int32)) fun (v_3 : Int32) =>
      f_X13_allWays_L5 n_ x1 v_2 v_3 md
def f_X13_allWays (md : MdS) (p1 : Int32) : Option (Int64) :=
  f_X13_allWays_L5 FU p1 (0 : Int64) (0 : Int32) md
def f_X13_odds_L25 (md : MdS) : Option (Int64 × (MdS)) :=
  bd2 (f_X13_refused md (2 : Int32)) fun (r_9 : Int32) (md_10 : MdS) =>
  some ((Int32.toInt64 r_9), md_10)
def f_X13_odds (md : MdS) (p1 : Int32) (p2 : Int32) (p3 : Int32) (p4 : Int32) : Option (Int64 × (MdS)) :=
  lt1 (Md_thrown' md (0 : Int32)) fun (md_1 : MdS) =>
  bd1 (f_X13_in p1 (2 : Int32) (13 : Int32)) fun (r_2 : Int32) =>
  if r_2 = 0 then
    f_X13_odds_L25 md_1
  else
    bd1 (f_X13_in p2 (0 : Int32) (13 : Int32)) fun (r_3 : Int32) =>
    if r_3 = 0 then
      f_X13_odds_L25 md_1
    else
      bd1 (f_X13_laysWays md_1 p1 p3) fun (md_4 : MdS) =>
      bd1 (f_X13_waysNow md_4 p1 p2) fun (r_5 : Int64) =>
      bd1 (f_X13_allWays md_4 p1) fun (r_6 : Int64) =>
      bd2 (f_X13_told md_4 r_5 r_6 p4) fun (r_7 : Int64) (md_8 : MdS) =>
      some (r_7, md_8)
def f_X13_mean_L34 : Nat → (Int32) → (Int32) → (Int64) → (Int32) → (MdS) → Option (Int64 × (MdS))
  | 0, _, _, _, _, _ => none
  | n_ + 1, x1, x3, x4, x6, md =>
    if x1 < x6 then
      bd1 (f_X13_allWays md x1) fun (r_6 : Int64) =>
      bd2 (f_X13_told md x4 r_6 x3) fun (r_7 : Int64) (md_8 : MdS) =>
      some (r_7, md_8)
    else
      bd1 (f_X13_waysNow md x1 x6) fun (r_9 : Int64) =>
      lt1 (x4 + ((Int32.toInt64 x6) * r_9)) fun (v_10 : Int64) =>
      lt1 (x6 + (1 : Int32)) fun (v_11 : Int32) =>
      f_X13_mean_L34 n_ x1 x3 v_10 v_11 md
def f_X13_mean (md : MdS) (p1 : Int32) (p2 : Int32) (p3 : Int32) : Option (Int64 × (MdS)) :=
  lt1 (Md_thrown' md (0 : Int32)) fun (md_1 : MdS) =>
  bd1 (f_X13_in p1 (2 : Int32) (13 : Int32)) fun (r_2 : Int32) =>
  if r_2 = 0 then
    bd2 (f_X13_refused md_1 (2 : Int32)) fun (r_4 : Int32) (md_5 : MdS) =>
    some ((Int32.toInt64 r_4), md_5)
  else
    bd1 (f_X13_laysWays md_1 p1 p2) fun (md_3 : MdS) =>
    f_X13_mean_L34 FU p1 p3 (0 : Int64) (0 : Int32) md_3
def f_X13_move (md : MdS) (tn : TnS) (p1 : Int32) : Option (Int32 × (MdS)) :=
  lt1 (Md_thrown' md (0 : Int32)) fun (md_1 : MdS) =>
  bd1 (f_X13_isMove tn p1) fun (r_2 : Int32) =>
  if r_2 = 0 then
    bd2 (f_X13_refused md_1 (1 : Int32)) fun (r_13 : Int32) (md_14 : MdS) =>
    some (r_13, md_14)
  else
    bd1 (f_X13_looks md_1 tn (Md_now md_1)) fun (md_3 : MdS) =>
    bd1 (f_X13_mayMove md_3 tn p1) fun (r_4 : Int32) =>
    if r_4 = 0 then
      bd2 (f_X13_refused md_3 (5 : Int32)) fun (r_11 : Int32) (md_12 : MdS) =>
      some (r_11, md_12)
    else
      bd1 (f_X13_keeps md_3) fun (md_5 : MdS) =>
      bd1 (f_X13_behind md_5 (Md_now md_5) p1) fun (r_6 : Int64) =>
      lt1 (Md_now' md_5 r_6) fun (md_7 : MdS) =>
      bd1 (f_X13_leftIn tn (Md_now md_7)) fun (r_8 : Int32) =>
      bd2 (f_X13_good md_7 r_8) fun (r_9 : Int32) (md_10 : MdS) =>
      some (r_9, md_10)
def f_X13_parts (md : MdS) (tn : TnS) (p1 : Int32) : Option (Int32 × (MdS)) :=
  lt1 (Md_thrown' md (0 : Int32)) fun (md_1 : MdS) =>
  bd1 (f_X13_isLink tn p1) fun (r_2 : Int32) =>
  if r_2 = 0 then
    bd2 (f_X13_refused md_1 (1 : Int32)) fun (r_14 : Int32) (md_15 : MdS) =>
    some (r_14, md_15)
  else
    if (Md_parted md_1) = (-2 : Int32) then
      bd1 (f_X13_keeps md_1) fun (md_3 : MdS) =>
      bd1 (f_X13_leftIn tn (Md_now md_3)) fun (r_4 : Int32) =>
      bd2 (f_X13_partedFrom md_3 tn (Md_now md_3) p1) fun (r_5 : Int64) (md_6 : MdS) =>
      lt1 (Md_now' md_6 r_5) fun (md_7 : MdS) =>
      lt1 (Md_parted' md_7 p1) fun (md_8 : MdS) =>
      bd1 (f_X13_leftIn tn (Md_now md_8)) fun (r_9 : Int32) =>
      bd2 (f_X13_good md_8 (r_4 - r_9)) fun (r_10 : Int32) (md_11 : MdS) =>
      some (r_10, md_11)
    else
      bd2 (f_X13_refused md_1 (5 : Int32)) fun (r_12 : Int32) (md_13 : MdS) =>
      some (r_12, md_13)
def f_X13_lot_L103 : Nat → (Int32) → (Int32) → (MdS) → (TnS) → Option (Int32 × (MdS))
  | 0, _, _, _, _ => none
  | n_ + 1, x2, x3, md, tn =>
    if x3 ≤ 0 then
      bd1 (f_X13_behind md (Md_now md) x2) fun (r_12 : Int64) =>
      lt1 (Md_now' md r_12) fun (md_13 : MdS) =>
      bd2 (f_X13_good md_13 x2) fun (r_14 : Int32) (md_15 : MdS) =>
      some (r_14, md_15)
    else
      bd1 (f_X13_nextMay md tn x2) fun (r_16 : Int32) =>
      lt1 (x3 + (-1 : Int32)) fun (v_17 : Int32) =>
      f_X13_lot_L103 n_ r_16 v_17 md tn
def f_X13_lot_L34 : Nat → (Int32) → (Int32) → (MdS) → (TnS) → Option (Int32 × (MdS))
  | 0, _, _, _, _ => none
  | n_ + 1, x1, x2, md, tn =>
    if (2000 : Int32) ≤ x2 then
      if x1 = 0 then
        bd2 (f_X13_refused md (6 : Int32)) fun (r_8 : Int32) (md_9 : MdS) =>
        some (r_8, md_9)
      else
        bd1 (f_X13_keeps md) fun (md_4 : MdS) =>
        lt1 (Md_seed' md_4 (Int64.toInt32 ((((75 : Int64) * (Int32.toInt64 (Md_seed md_4))) + (74 : Int64)) - (((75 : Int64) * (Int32.toInt64 (Md_seed md_4))) + (74 : Int64)) / (65537 : Int64) * (65537 : Int64)))) fun (md_5 : MdS) =>
        bd1 (f_X13_nextMay md_5 tn (-1 : Int32)) fun (r_6 : Int32) =>
        nz x1 <|
        lt1 ((Md_seed md_5) - (Md_seed md_5) / x1 * x1) fun (v_7 : Int32) =>
        f_X13_lot_L103 FU r_6 v_7 md_5 tn
    else
      lt1 (x1 + (1 : Int32)) fun (v_10 : Int32) =>
      bd1 (f_X13_nextMay md tn x2) fun (r_11 : Int32) =>
      f_X13_lot_L34 n_ v_10 r_11 md tn
def f_X13_lot (md : MdS) (tn : TnS) : Option (Int32 × (MdS)) :=
  lt1 (Md_thrown' md (0 : Int32)) fun (md_1 : MdS) =>
  bd1 (f_X13_looks md_1 tn (Md_now md_1)) fun (md_2 : MdS) =>
  bd1 (f_X13_nextMay md_2 tn (-1 : Int32)) fun (r_3 : Int32) =>
  f_X13_lot_L34 FU (0 : Int32) r_3 md_2 tn
def f_X13_call (md : MdS) (tn : TnS) : Option (Int32 × (MdS)) :=
  lt1 (Md_thrown' md (0 : Int32)) fun (md_1 : MdS) =>
  bd2 (f_X13_callerNow md_1 tn) fun (r_2 : Int32) (md_3 : MdS) =>
  if r_2 = (-2 : Int32) then
    bd2 (f_X13_refused md_3 (6 : Int32)) fun (r_10 : Int32) (md_11 : MdS) =>
    some (r_10, md_11)
  else
    bd1 (f_X13_keeps md_3) fun (md_4 : MdS) =>
    bd1 (f_X13_looks md_4 tn (Md_now md_4)) fun (md_5 : MdS) =>
    bd1 (f_X13_behind md_5 (Md_now md_5) r_2) fun (r_6 : Int64) =>
    lt1 (Md_now' md_5 r_6) fun (md_7 : MdS) =>
    bd2 (f_X13_good md_7 r_2) fun (r_8 : Int32) (md_9 : MdS) =>
    some (r_8, md_9)
def f_X13_seed (md : MdS) (p1 : Int32) : Option (Int32 × (MdS)) :=
  lt1 (Md_thrown' md (0 : Int32)) fun (md_1 : MdS) =>
  bd1 (f_X13_in p1 (0 : Int32) (65536 : Int32)) fun (r_2 : Int32) =>
  if r_2 = 0 then
    bd2 (f_X13_denied md_1 (2 : Int32)) fun (r_6 : Int32) (md_7 : MdS) =>
    zb r_6 <|
    some (r_6, md_7)
  else
    lt1 (Md_seed' md_1 p1) fun (md_3 : MdS) =>
    bd2 (f_X13_granted md_3) fun (r_4 : Int32) (md_5 : MdS) =>
    zb r_4 <|
    some (r_4, md_5)
def f_X13_undo_L19 (md : MdS) : Option (Int32 × (MdS)) :=
  bd2 (f_X13_denied md (6 : Int32)) fun (r_9 : Int32) (md_10 : MdS) =>
  zb r_9 <|
  some (r_9, md_10)
def f_X13_undo (md : MdS) : Option (Int32 × (MdS)) :=
  lt1 (Md_thrown' md (0 : Int32)) fun (md_1 : MdS) =>
  if (Md_acts md_1) = 0 then
    f_X13_undo_L19 md_1
  else
    lt1 (Md_acts' md_1 ((Md_acts md_1) - (1 : Int32))) fun (md_2 : MdS) =>
    ck (Md_acts md_2) 16 <|
    lt1 (Md_now' md_2 (Md_pastNow md_2 (Int32.toNatClampNeg (Md_acts md_2)))) fun (md_3 : MdS) =>
    ck (Md_acts md_3) 16 <|
    lt1 (Md_parted' md_3 (Md_pastParted md_3 (Int32.toNatClampNeg (Md_acts md_3)))) fun (md_4 : MdS) =>
    ck (Md_acts md_4) 16 <|
    lt1 (Md_seed' md_4 (Md_pastSeed md_4 (Int32.toNatClampNeg (Md_acts md_4)))) fun (md_5 : MdS) =>
    ck (Md_acts md_5) 16 <|
    lt1 (Md_lifted' md_5 (Md_pastLifted md_5 (Int32.toNatClampNeg (Md_acts md_5)))) fun (md_6 : MdS) =>
    bd2 (f_X13_granted md_6) fun (r_7 : Int32) (md_8 : MdS) =>
    zb r_7 <|
    some (r_7, md_8)
def f_X13_mark (md : MdS) : Option (Int32 × (MdS)) :=
  lt1 (Md_thrown' md (0 : Int32)) fun (md_1 : MdS) =>
  if (Md_marks md_1) = (3 : Int32) then
    bd2 (f_X13_refused md_1 (3 : Int32)) fun (r_9 : Int32) (md_10 : MdS) =>
    some (r_9, md_10)
  else
    ck (Md_marks md_1) 3 <|
    lt1 (Md_keptNow' md_1 (vp_updL (Md_keptNow md_1) (Int32.toNatClampNeg (Md_marks md_1)) (Md_now md_1))) fun (md_2 : MdS) =>
    ck (Md_marks md_2) 3 <|
    lt1 (Md_keptParted' md_2 (upd (Md_keptParted md_2) (Int32.toNatClampNeg (Md_marks md_2)) (Md_parted md_2))) fun (md_3 : MdS) =>
    ck (Md_marks md_3) 3 <|
    lt1 (Md_keptSeed' md_3 (upd (Md_keptSeed md_3) (Int32.toNatClampNeg (Md_marks md_3)) (Md_seed md_3))) fun (md_4 : MdS) =>
    ck (Md_marks md_4) 3 <|
    lt1 (Md_keptLifted' md_4 (upd (Md_keptLifted md_4) (Int32.toNatClampNeg (Md_marks md_4)) (Md_lifted md_4))) fun (md_5 : MdS) =>
    lt1 (Md_marks' md_5 ((Md_marks md_5) + (1 : Int32))) fun (md_6 : MdS) =>
    bd2 (f_X13_good md_6 ((Md_marks md_6) - (1 : Int32))) fun (r_7 : Int32) (md_8 : MdS) =>
    some (r_7, md_8)
def f_X13_back_L24 (md : MdS) : Option (Int32 × (MdS)) :=
  bd2 (f_X13_denied md (1 : Int32)) fun (r_9 : Int32) (md_10 : MdS) =>
  zb r_9 <|
  some (r_9, md_10)
def f_X13_back (md : MdS) (p1 : Int32) : Option (Int32 × (MdS)) :=
  lt1 (Md_thrown' md (0 : Int32)) fun (md_1 : MdS) =>
  if p1 < 0 then
    f_X13_back_L24 md_1
  else
    if p1 < (Md_marks md_1) then
      ck p1 3 <|
      lt1 (Md_now' md_1 (Md_keptNow md_1 (Int32.toNatClampNeg p1))) fun (md_2 : MdS) =>
      ck p1 3 <|
      lt1 (Md_parted' md_2 (Md_keptParted md_2 (Int32.toNatClampNeg p1))) fun (md_3 : MdS) =>
      ck p1 3 <|
      lt1 (Md_seed' md_3 (Md_keptSeed md_3 (Int32.toNatClampNeg p1))) fun (md_4 : MdS) =>
      ck p1 3 <|
      lt1 (Md_lifted' md_4 (Md_keptLifted md_4 (Int32.toNatClampNeg p1))) fun (md_5 : MdS) =>
      lt1 (Md_acts' md_5 (0 : Int32)) fun (md_6 : MdS) =>
      bd2 (f_X13_granted md_6) fun (r_7 : Int32) (md_8 : MdS) =>
      zb r_7 <|
      some (r_7, md_8)
    else
      f_X13_back_L24 md_1
def f_X13_led_L48 (x1 : Int32) (x2 : Int32) (x3 : Int32) (md : MdS) (tn : TnS) (k9 : (Int32) → (Int32) → (Int32) → (MdS) → (TnS) → Option (Int32 × (MdS))) : Option (Int32 × (MdS)) :=
  lt1 (x3 + (1 : Int32)) fun (v_6 : Int32) =>
  k9 x1 x2 v_6 md tn
def f_X13_led_L54 (md : MdS) : Option (Int32 × (MdS)) :=
  lt1 (Md_thrown' md (1 : Int32)) fun (md_5 : MdS) =>
  some ((0 : Int32), md_5)
def f_X13_led_L9 : Nat → (Int32) → (Int32) → (Int32) → (MdS) → (TnS) → Option (Int32 × (MdS))
  | 0, _, _, _, _, _ => none
  | n_ + 1, x1, x2, x3, md, tn =>
    if (Tn_crossings tn) ≤ x3 then
      f_X13_led_L54 md
    else
      bd2 (f_X13_isLeft md tn x3) fun (r_2 : Int32) (md_3 : MdS) =>
      if r_2 = 0 then
        f_X13_led_L48 x1 x2 x3 md_3 tn (fun y0 y1 y2 y3 y4 => f_X13_led_L9 n_ y0 y1 y2 y3 y4)
      else
        if x2 = x1 then
          some (x3, md_3)
        else
          lt1 (x2 + (1 : Int32)) fun (v_4 : Int32) =>
          f_X13_led_L48 x1 v_4 x3 md_3 tn (fun y0 y1 y2 y3 y4 => f_X13_led_L9 n_ y0 y1 y2 y3 y4)
def f_X13_led (md : MdS) (tn : TnS) (p1 : Int32) : Option (Int32 × (MdS)) :=
  lt1 (Md_thrown' md (0 : Int32)) fun (md_1 : MdS) =>
  f_X13_led_L9 FU p1 (0 : Int32) (0 : Int32) md_1 tn
def f_X13_size (md : MdS) (tn : TnS) (p1 : Int32) : Option (Int32 × (MdS)) :=
  lt1 (Md_thrown' md (0 : Int32)) fun (md_1 : MdS) =>
  if p1 = (11 : Int32) then
    some ((Md_taped md_1), md_1)
  else
    bd1 (f_X13_in p1 (0 : Int32) (10 : Int32)) fun (r_2 : Int32) =>
    if r_2 = 0 then
      some ((-1 : Int32), md_1)
    else
      if p1 = (0 : Int32) then
        some ((Tn_people tn), md_1)
      else
        if p1 = (1 : Int32) then
          some ((Tn_links tn), md_1)
        else
          if p1 = (2 : Int32) then
            some ((Tn_rings tn), md_1)
          else
            if p1 = (3 : Int32) then
              some ((Tn_crossings tn), md_1)
            else
              if p1 = (4 : Int32) then
                some ((Tn_standings tn), md_1)
              else
                if p1 = (5 : Int32) then
                  some ((Tn_height tn), md_1)
                else
                  if p1 = (6 : Int32) then
                    if (Tn_once tn) = 0 then
                      some ((0 : Int32), md_1)
                    else
                      some ((1 : Int32), md_1)
                  else
                    if p1 = (7 : Int32) then
                      some ((Md_parted md_1), md_1)
                    else
                      if p1 = (8 : Int32) then
                        some ((Md_seed md_1), md_1)
                      else
                        if p1 = (9 : Int32) then
                          some ((Md_acts md_1), md_1)
                        else
                          some ((Md_marks md_1), md_1)
def f_X13_trouble (md : MdS) : Option (Int32 × (MdS)) :=
  lt1 (Md_thrown' md (0 : Int32)) fun (md_1 : MdS) =>
  some ((Md_trouble md_1), md_1)
def f_X13_isLink_N : Option (Int32) :=
  some ((0 : Int32))
def f_X13_along_N (md : MdS) : Option (Int32 × (MdS)) :=
  lt1 (Md_thrown' md (0 : Int32)) fun (md_1 : MdS) =>
  bd1 (f_X13_isLink_N) fun (r_2 : Int32) =>
  if r_2 = 0 then
    bd2 (f_X13_refused md_1 (1 : Int32)) fun (r_3 : Int32) (md_4 : MdS) =>
    some (r_3, md_4)
  else
    none
def f_X13_arcs_N (md : MdS) : Option (Int32 × (MdS)) :=
  lt1 (Md_thrown' md (0 : Int32)) fun (md_1 : MdS) =>
  bd2 (f_X13_refused md_1 (1 : Int32)) fun (r_2 : Int32) (md_3 : MdS) =>
  some (r_2, md_3)
def f_X13_back_N_L24 (md : MdS) : Option (Int32 × (MdS)) :=
  bd2 (f_X13_denied md (1 : Int32)) fun (r_2 : Int32) (md_3 : MdS) =>
  zb r_2 <|
  some (r_2, md_3)
def f_X13_back_N (md : MdS) : Option (Int32 × (MdS)) :=
  lt1 (Md_thrown' md (0 : Int32)) fun (md_1 : MdS) =>
  f_X13_back_N_L24 md_1
def f_X13_call_N (md : MdS) : Option (Int32 × (MdS)) :=
  lt1 (Md_thrown' md (0 : Int32)) fun (md_1 : MdS) =>
  bd2 (f_X13_refused md_1 (1 : Int32)) fun (r_2 : Int32) (md_3 : MdS) =>
  some (r_2, md_3)
def f_X13_caller_N (md : MdS) : Option (Int32 × (MdS)) :=
  lt1 (Md_thrown' md (0 : Int32)) fun (md_1 : MdS) =>
  bd2 (f_X13_refused md_1 (1 : Int32)) fun (r_2 : Int32) (md_3 : MdS) =>
  some (r_2, md_3)
def f_X13_cannot_N (md : MdS) : Option (Int32 × (MdS)) :=
  lt1 (Md_thrown' md (0 : Int32)) fun (md_1 : MdS) =>
  bd2 (f_X13_refused md_1 (1 : Int32)) fun (r_2 : Int32) (md_3 : MdS) =>
  some (r_2, md_3)
def f_X13_colours_N (md : MdS) : Option (Int32 × (MdS)) :=
  lt1 (Md_thrown' md (0 : Int32)) fun (md_1 : MdS) =>
  bd2 (f_X13_refused md_1 (1 : Int32)) fun (r_2 : Int32) (md_3 : MdS) =>
  some (r_2, md_3)
def f_X13_few_N (md : MdS) : Option (Int32 × (MdS)) :=
  lt1 (Md_thrown' md (0 : Int32)) fun (md_1 : MdS) =>
  bd2 (f_X13_refused md_1 (1 : Int32)) fun (r_2 : Int32) (md_3 : MdS) =>
  some (r_2, md_3)
def f_X13_fewest_N (md : MdS) : Option (Int32 × (MdS)) :=
  lt1 (Md_thrown' md (0 : Int32)) fun (md_1 : MdS) =>
  bd2 (f_X13_refused md_1 (1 : Int32)) fun (r_2 : Int32) (md_3 : MdS) =>
  some (r_2, md_3)
def f_X13_isMove_N : Option (Int32) :=
  some ((0 : Int32))
def f_X13_goer_N (md : MdS) : Option (Int32 × (MdS)) :=
  lt1 (Md_thrown' md (0 : Int32)) fun (md_1 : MdS) =>
  bd1 (f_X13_isMove_N) fun (r_2 : Int32) =>
  if r_2 = 0 then
    bd2 (f_X13_refused md_1 (1 : Int32)) fun (r_3 : Int32) (md_4 : MdS) =>
    some (r_3, md_4)
  else
    none
def f_X13_isRing_N : Option (Int32) :=
  some ((0 : Int32))
def f_X13_hang_N_L39 (md : MdS) : Option (Int32 × (MdS)) :=
  bd2 (f_X13_lost md (1 : Int32)) fun (r_3 : Int32) (md_4 : MdS) =>
  some (r_3, md_4)
def f_X13_hang_N (md : MdS) : Option (Int32 × (MdS)) :=
  lt1 (Md_thrown' md (0 : Int32)) fun (md_1 : MdS) =>
  bd1 (f_X13_isRing_N) fun (r_2 : Int32) =>
  if r_2 = 0 then
    f_X13_hang_N_L39 md_1
  else
    none
def f_X13_isPerson_N : Option (Int32) :=
  some ((0 : Int32))
def f_X13_holds_N (md : MdS) : Option (Int32 × (MdS)) :=
  lt1 (Md_thrown' md (0 : Int32)) fun (md_1 : MdS) =>
  bd1 (f_X13_isPerson_N) fun (r_2 : Int32) =>
  if r_2 = 0 then
    bd2 (f_X13_refused md_1 (1 : Int32)) fun (r_3 : Int32) (md_4 : MdS) =>
    some (r_3, md_4)
  else
    none
def f_X13_isCrossing_N : Option (Int32) :=
  some ((0 : Int32))
def f_X13_isStanding_N : Option (Int32) :=
  some ((0 : Int32))
def f_X13_led_N_L54 (md : MdS) : Option (Int32 × (MdS)) :=
  lt1 (Md_thrown' md (1 : Int32)) fun (md_2 : MdS) =>
  some ((0 : Int32), md_2)
def f_X13_led_N_L9 : Nat → (MdS) → Option (Int32 × (MdS))
  | 0, _ => none
  | n_ + 1, md =>
    f_X13_led_N_L54 md
def f_X13_led_N (md : MdS) : Option (Int32 × (MdS)) :=
  lt1 (Md_thrown' md (0 : Int32)) fun (md_1 : MdS) =>
  f_X13_led_N_L9 FU md_1
def f_X13_left_N (md : MdS) : Option (Int32 × (MdS)) :=
  lt1 (Md_thrown' md (0 : Int32)) fun (md_1 : MdS) =>
  bd2 (f_X13_refused md_1 (1 : Int32)) fun (r_2 : Int32) (md_3 : MdS) =>
  some (r_2, md_3)
def f_X13_lift_N (md : MdS) : Option (Int32 × (MdS)) :=
  lt1 (Md_thrown' md (0 : Int32)) fun (md_1 : MdS) =>
  bd2 (f_X13_refused md_1 (1 : Int32)) fun (r_2 : Int32) (md_3 : MdS) =>
  some (r_2, md_3)
def f_X13_lifts_N (md : MdS) : Option (Int32 × (MdS)) :=
  lt1 (Md_thrown' md (0 : Int32)) fun (md_1 : MdS) =>
  bd1 (f_X13_isCrossing_N) fun (r_2 : Int32) =>
  if r_2 = 0 then
    bd2 (f_X13_lost md_1 (1 : Int32)) fun (r_3 : Int32) (md_4 : MdS) =>
    some (r_3, md_4)
  else
    none
def f_X13_loose_N (md : MdS) : Option (Int32 × (MdS)) :=
  lt1 (Md_thrown' md (0 : Int32)) fun (md_1 : MdS) =>
  bd2 (f_X13_refused md_1 (1 : Int32)) fun (r_2 : Int32) (md_3 : MdS) =>
  some (r_2, md_3)
def f_X13_lot_N (md : MdS) : Option (Int32 × (MdS)) :=
  lt1 (Md_thrown' md (0 : Int32)) fun (md_1 : MdS) =>
  bd2 (f_X13_refused md_1 (1 : Int32)) fun (r_2 : Int32) (md_3 : MdS) =>
  some (r_2, md_3)
def f_X13_mark_N (md : MdS) : Option (Int32 × (MdS)) :=
  lt1 (Md_thrown' md (0 : Int32)) fun (md_1 : MdS) =>
  bd2 (f_X13_refused md_1 (1 : Int32)) fun (r_2 : Int32) (md_3 : MdS) =>
  some (r_2, md_3)
def f_X13_may_N (md : MdS) : Option (Int32 × (MdS)) :=
  lt1 (Md_thrown' md (0 : Int32)) fun (md_1 : MdS) =>
  bd1 (f_X13_isMove_N) fun (r_2 : Int32) =>
  if r_2 = 0 then
    bd2 (f_X13_refused md_1 (1 : Int32)) fun (r_3 : Int32) (md_4 : MdS) =>
    some (r_3, md_4)
  else
    none
def f_X13_member_N_L51 (md : MdS) : Option (Int32 × (MdS)) :=
  bd2 (f_X13_refused md (1 : Int32)) fun (r_3 : Int32) (md_4 : MdS) =>
  some (r_3, md_4)
def f_X13_member_N (md : MdS) : Option (Int32 × (MdS)) :=
  lt1 (Md_thrown' md (0 : Int32)) fun (md_1 : MdS) =>
  bd1 (f_X13_isRing_N) fun (r_2 : Int32) =>
  if r_2 = 0 then
    f_X13_member_N_L51 md_1
  else
    none
def f_X13_moveAt_N (md : MdS) : Option (Int32 × (MdS)) :=
  lt1 (Md_thrown' md (0 : Int32)) fun (md_1 : MdS) =>
  bd2 (f_X13_refused md_1 (1 : Int32)) fun (r_2 : Int32) (md_3 : MdS) =>
  some (r_2, md_3)
def f_X13_move_N (md : MdS) : Option (Int32 × (MdS)) :=
  lt1 (Md_thrown' md (0 : Int32)) fun (md_1 : MdS) =>
  bd1 (f_X13_isMove_N) fun (r_2 : Int32) =>
  if r_2 = 0 then
    bd2 (f_X13_refused md_1 (1 : Int32)) fun (r_3 : Int32) (md_4 : MdS) =>
    some (r_3, md_4)
  else
    none
def f_X13_moves_N (md : MdS) : Option (Int32 × (MdS)) :=
  lt1 (Md_thrown' md (0 : Int32)) fun (md_1 : MdS) =>
  bd2 (f_X13_refused md_1 (1 : Int32)) fun (r_2 : Int32) (md_3 : MdS) =>
  some (r_2, md_3)
def f_X13_next_N (md : MdS) : Option (Int32 × (MdS)) :=
  lt1 (Md_thrown' md (0 : Int32)) fun (md_1 : MdS) =>
  bd2 (f_X13_refused md_1 (1 : Int32)) fun (r_2 : Int32) (md_3 : MdS) =>
  some (r_2, md_3)
def f_X13_own_N (md : MdS) : Option (Int32 × (MdS)) :=
  lt1 (Md_thrown' md (0 : Int32)) fun (md_1 : MdS) =>
  bd1 (f_X13_isPerson_N) fun (r_2 : Int32) =>
  if r_2 = 0 then
    bd2 (f_X13_refused md_1 (1 : Int32)) fun (r_3 : Int32) (md_4 : MdS) =>
    some (r_3, md_4)
  else
    none
def f_X13_part_N (md : MdS) : Option (Int32 × (MdS)) :=
  lt1 (Md_thrown' md (0 : Int32)) fun (md_1 : MdS) =>
  bd2 (f_X13_refused md_1 (1 : Int32)) fun (r_2 : Int32) (md_3 : MdS) =>
  some (r_2, md_3)
def f_X13_parts_N (md : MdS) : Option (Int32 × (MdS)) :=
  lt1 (Md_thrown' md (0 : Int32)) fun (md_1 : MdS) =>
  bd1 (f_X13_isLink_N) fun (r_2 : Int32) =>
  if r_2 = 0 then
    bd2 (f_X13_refused md_1 (1 : Int32)) fun (r_3 : Int32) (md_4 : MdS) =>
    some (r_3, md_4)
  else
    none
def f_X13_people_N (md : MdS) : Option (Int32 × (MdS)) :=
  lt1 (Md_thrown' md (0 : Int32)) fun (md_1 : MdS) =>
  bd1 (f_X13_isRing_N) fun (r_2 : Int32) =>
  if r_2 = 0 then
    bd2 (f_X13_refused md_1 (1 : Int32)) fun (r_3 : Int32) (md_4 : MdS) =>
    some (r_3, md_4)
  else
    none
def f_X13_place_N_L22 (md : MdS) : Option (Int32 × (MdS)) :=
  bd2 (f_X13_refused md (1 : Int32)) fun (r_3 : Int32) (md_4 : MdS) =>
  some (r_3, md_4)
def f_X13_place_N (md : MdS) : Option (Int32 × (MdS)) :=
  lt1 (Md_thrown' md (0 : Int32)) fun (md_1 : MdS) =>
  bd1 (f_X13_isStanding_N) fun (r_2 : Int32) =>
  if r_2 = 0 then
    f_X13_place_N_L22 md_1
  else
    none
def f_X13_reached_N (md : MdS) : Option (Int32 × (MdS)) :=
  lt1 (Md_thrown' md (0 : Int32)) fun (md_1 : MdS) =>
  bd2 (f_X13_refused md_1 (1 : Int32)) fun (r_2 : Int32) (md_3 : MdS) =>
  some (r_2, md_3)
def f_X13_ring_N (md : MdS) : Option (Int32 × (MdS)) :=
  lt1 (Md_thrown' md (0 : Int32)) fun (md_1 : MdS) =>
  bd1 (f_X13_isPerson_N) fun (r_2 : Int32) =>
  if r_2 = 0 then
    bd2 (f_X13_refused md_1 (1 : Int32)) fun (r_3 : Int32) (md_4 : MdS) =>
    some (r_3, md_4)
  else
    none
def f_X13_rounds_N (md : MdS) : Option (Int32 × (MdS)) :=
  lt1 (Md_thrown' md (0 : Int32)) fun (md_1 : MdS) =>
  bd2 (f_X13_refused md_1 (1 : Int32)) fun (r_2 : Int32) (md_3 : MdS) =>
  some (r_2, md_3)
def f_X13_seed_N (md : MdS) : Option (Int32 × (MdS)) :=
  lt1 (Md_thrown' md (0 : Int32)) fun (md_1 : MdS) =>
  bd2 (f_X13_denied md_1 (1 : Int32)) fun (r_2 : Int32) (md_3 : MdS) =>
  zb r_2 <|
  some (r_2, md_3)
def f_X13_sees_N (md : MdS) : Option (Int32 × (MdS)) :=
  lt1 (Md_thrown' md (0 : Int32)) fun (md_1 : MdS) =>
  bd1 (f_X13_isPerson_N) fun (r_2 : Int32) =>
  if r_2 = 0 then
    bd2 (f_X13_refused md_1 (1 : Int32)) fun (r_3 : Int32) (md_4 : MdS) =>
    some (r_3, md_4)
  else
    none
def f_X13_sign_N_L27 (md : MdS) : Option (Int32 × (MdS)) :=
  bd2 (f_X13_lost md (1 : Int32)) fun (r_2 : Int32) (md_3 : MdS) =>
  some (r_2, md_3)
def f_X13_sign_N (md : MdS) : Option (Int32 × (MdS)) :=
  lt1 (Md_thrown' md (0 : Int32)) fun (md_1 : MdS) =>
  f_X13_sign_N_L27 md_1
def f_X13_size_N (md : MdS) (p1 : Int32) : Option (Int32 × (MdS)) :=
  lt1 (Md_thrown' md (0 : Int32)) fun (md_1 : MdS) =>
  if p1 = (11 : Int32) then
    some ((Md_taped md_1), md_1)
  else
    bd1 (f_X13_in p1 (0 : Int32) (10 : Int32)) fun (r_2 : Int32) =>
    if r_2 = 0 then
      some ((-1 : Int32), md_1)
    else
      some ((0 : Int32), md_1)
def f_X13_stands_N (md : MdS) : Option (Int32 × (MdS)) :=
  lt1 (Md_thrown' md (0 : Int32)) fun (md_1 : MdS) =>
  bd1 (f_X13_isStanding_N) fun (r_2 : Int32) =>
  if r_2 = 0 then
    bd2 (f_X13_refused md_1 (1 : Int32)) fun (r_3 : Int32) (md_4 : MdS) =>
    some (r_3, md_4)
  else
    none
def f_X13_tries_N (md : MdS) : Option (Int32 × (MdS)) :=
  lt1 (Md_thrown' md (0 : Int32)) fun (md_1 : MdS) =>
  bd2 (f_X13_refused md_1 (1 : Int32)) fun (r_2 : Int32) (md_3 : MdS) =>
  some (r_2, md_3)
def f_X13_twist_N (md : MdS) : Option (Int32 × (MdS)) :=
  lt1 (Md_thrown' md (0 : Int32)) fun (md_1 : MdS) =>
  bd1 (f_X13_isRing_N) fun (r_2 : Int32) =>
  if r_2 = 0 then
    bd2 (f_X13_lost md_1 (1 : Int32)) fun (r_3 : Int32) (md_4 : MdS) =>
    some (r_3, md_4)
  else
    none
def f_X13_undo_N_L19 (md : MdS) : Option (Int32 × (MdS)) :=
  bd2 (f_X13_denied md (6 : Int32)) fun (r_2 : Int32) (md_3 : MdS) =>
  zb r_2 <|
  some (r_2, md_3)
def f_X13_undo_N (md : MdS) : Option (Int32 × (MdS)) :=
  lt1 (Md_thrown' md (0 : Int32)) fun (md_1 : MdS) =>
  f_X13_undo_N_L19 md_1
def f_X13_wordOf_L4 : Nat → (Int64) → (Int32) → (Nat) → Option (Int64)
  | 0, _, _, _ => none
  | n_ + 1, x1, x3, k0t =>
    bd1 (f_strlen k0t) fun (r_1 : Int32) =>
    if r_1 ≤ x3 then
      some (x1)
    else
      bd1 (f_charAt k0t x3) fun (r_2 : Int32) =>
      lt1 (((32 : Int64) * x1) + (Int32.toInt64 ((r_2 - (97 : Int32)) + (1 : Int32)))) fun (v_3 : Int64) =>
      lt1 (x3 + (1 : Int32)) fun (v_4 : Int32) =>
      f_X13_wordOf_L4 n_ v_3 v_4 k0t
def f_X13_wordOf (k0t : Nat) : Option (Int64) :=
  f_X13_wordOf_L4 FU (0 : Int64) (0 : Int32) k0t
def f_X13_isWord (md : MdS) (k1t : Nat) : Option (Int32) :=
  if (Md_sort md) = (2 : Int32) then
    bd1 (f_X13_wordOf k1t) fun (r_1 : Int64) =>
    if (lg_cmp (Md_word md) r_1) = 0 then
      some ((1 : Int32))
    else
      some ((0 : Int32))
  else
    some ((0 : Int32))
def f_X13_eatsWord (md : MdS) (k1t : Nat) : Option (Int32 × (MdS)) :=
  bd1 (f_X13_isWord md k1t) fun (r_1 : Int32) =>
  if r_1 = 0 then
    zb r_1 <|
    some (r_1, md)
  else
    bd1 (f_X13_goesOn md) fun (md_2 : MdS) =>
    zb r_1 <|
    some (r_1, md_2)
def f_X13_needs_L13 (md : MdS) : Option ((MdS)) :=
  bd1 (f_X13_goesOn md) fun (md_3 : MdS) =>
  some (md_3)
def f_X13_needs (md : MdS) (k1t : Nat) : Option ((MdS)) :=
  bd1 (f_X13_isWord md k1t) fun (r_1 : Int32) =>
  if r_1 = 0 then
    bd1 (f_X13_flaw md (1 : Int32)) fun (md_2 : MdS) =>
    f_X13_needs_L13 md_2
  else
    f_X13_needs_L13 md
def f_X13_readPart (md : MdS) (k1t : Nat) (p2 : Int32) (p3 : Int32) : Option (Int32 × (MdS)) :=
  bd1 (f_X13_needs md k1t) fun (md_1 : MdS) =>
  bd2 (f_X13_bounded md_1 p2 p3) fun (r_2 : Int32) (md_3 : MdS) =>
  bd1 (f_X13_goesOn md_3) fun (md_4 : MdS) =>
  some (r_2, md_4)
def f_X13_isName (md : MdS) : Option (Int32) :=
  if (Md_sort md) = (2 : Int32) then
    bd1 (f_X13_isWord md 12) fun (r_1 : Int32) =>
    if r_1 = 0 then
      bd1 (f_X13_isWord md 15) fun (r_2 : Int32) =>
      if r_2 = 0 then
        bd1 (f_X13_isWord md 16) fun (r_3 : Int32) =>
        if r_3 = 0 then
          bd1 (f_X13_isWord md 17) fun (r_4 : Int32) =>
          if r_4 = 0 then
            some ((1 : Int32))
          else
            some ((0 : Int32))
        else
          some ((0 : Int32))
      else
        some ((0 : Int32))
    else
      some ((0 : Int32))
  else
    some ((0 : Int32))
def f_X13_readFresh_L32 (md : MdS) : Option (Int64 × (MdS)) :=
  lt1 (Md_word md) fun (v_5 : Int64) =>
  bd1 (f_X13_goesOn md) fun (md_6 : MdS) =>
  some (v_5, md_6)
def f_X13_readFresh_L12 (md : MdS) (rd : TnS) : Option (Int64 × (MdS)) :=
  bd1 (f_X12_find rd (Md_word md)) fun (r_3 : Int32) =>
  if r_3 = (-1 : Int32) then
    f_X13_readFresh_L32 md
  else
    bd1 (f_X13_flaw md (3 : Int32)) fun (md_4 : MdS) =>
    f_X13_readFresh_L32 md_4
def f_X13_readFresh (md : MdS) (rd : TnS) : Option (Int64 × (MdS)) :=
  bd1 (f_X13_isName md) fun (r_1 : Int32) =>
  if r_1 = 0 then
    bd1 (f_X13_flaw md (1 : Int32)) fun (md_2 : MdS) =>
    f_X13_readFresh_L12 md_2 rd
  else
    f_X13_readFresh_L12 md rd
def f_X13_known_L47 (x2 : Int32) (md : MdS) (rd : TnS) : Option (Int32 × (MdS)) :=
  if (Md_sort md) = (5 : Int32) then
    some ((0 : Int32), md)
  else
    ck x2 16 <|
    some ((Tn_nameNumber rd (Int32.toNatClampNeg x2)), md)
def f_X13_known_L42 (x2 : Int32) (md : MdS) (rd : TnS) : Option (Int32 × (MdS)) :=
  bd1 (f_X13_flaw md (2 : Int32)) fun (md_4 : MdS) =>
  f_X13_known_L47 x2 md_4 rd
def f_X13_known_L12 (x1 : Int32) (md : MdS) (rd : TnS) : Option (Int32 × (MdS)) :=
  bd1 (f_X12_find rd (Md_word md)) fun (r_3 : Int32) =>
  if r_3 = (-1 : Int32) then
    f_X13_known_L42 r_3 md rd
  else
    ck r_3 16 <|
    if (Tn_nameSort rd (Int32.toNatClampNeg r_3)) = x1 then
      f_X13_known_L47 r_3 md rd
    else
      f_X13_known_L42 r_3 md rd
def f_X13_known (md : MdS) (rd : TnS) (p1 : Int32) : Option (Int32 × (MdS)) :=
  bd1 (f_X13_isName md) fun (r_1 : Int32) =>
  if r_1 = 0 then
    bd1 (f_X13_flaw md (1 : Int32)) fun (md_2 : MdS) =>
    f_X13_known_L12 p1 md_2 rd
  else
    f_X13_known_L12 p1 md rd
def f_X13_readCross_L179 (x1 : Int32) (x2 : Int32) (x3 : Int32) (x4 : Int32) (t1i : Int32) (t2i : Int32) (md : MdS) (rd : TnS) : Option ((MdS) × (TnS)) :=
  ck t1i 7 <|
  lt1 (Tn_sign' rd (upd (Tn_sign rd) (Int32.toNatClampNeg t1i) t2i)) fun (rd_22 : TnS) =>
  ck x1 8 <|
  ck x1 8 <|
  lt1 (Tn_usedAt' rd_22 (upd (Tn_usedAt rd_22) (Int32.toNatClampNeg x1) ((Tn_usedAt rd_22 (Int32.toNatClampNeg x1)) ||| ((1 : Int32) <<< (x2 &&& 31))))) fun (rd_23 : TnS) =>
  ck x3 8 <|
  ck x3 8 <|
  lt1 (Tn_usedAt' rd_23 (upd (Tn_usedAt rd_23) (Int32.toNatClampNeg x3) ((Tn_usedAt rd_23 (Int32.toNatClampNeg x3)) ||| ((1 : Int32) <<< (x4 &&& 31))))) fun (rd_24 : TnS) =>
  lt1 (Tn_crossings' rd_24 ((Tn_crossings rd_24) + (1 : Int32))) fun (rd_25 : TnS) =>
  some (md, rd_25)
def f_X13_readCross_L93 (x1 : Int32) (x2 : Int32) (x3 : Int32) (x4 : Int32) (x5 : Int32) (md : MdS) (rd : TnS) : Option ((MdS) × (TnS)) :=
  bd1 (f_X13_goesOn md) fun (md_16 : MdS) =>
  if (Md_sort md_16) = (5 : Int32) then
    some (md_16, rd)
  else
    lt1 (Tn_crossings rd) fun (v_17 : Int32) =>
    ck v_17 7 <|
    lt1 (Tn_over' rd (upd (Tn_over rd) (Int32.toNatClampNeg v_17) x1)) fun (rd_18 : TnS) =>
    ck v_17 7 <|
    lt1 (Tn_overAt' rd_18 (upd (Tn_overAt rd_18) (Int32.toNatClampNeg v_17) x2)) fun (rd_19 : TnS) =>
    ck v_17 7 <|
    lt1 (Tn_under' rd_19 (upd (Tn_under rd_19) (Int32.toNatClampNeg v_17) x3)) fun (rd_20 : TnS) =>
    ck v_17 7 <|
    lt1 (Tn_underAt' rd_20 (upd (Tn_underAt rd_20) (Int32.toNatClampNeg v_17) x4)) fun (rd_21 : TnS) =>
    if x5 = 0 then
      f_X13_readCross_L179 x1 x2 x3 x4 v_17 (1 : Int32) md_16 rd_21
    else
      f_X13_readCross_L179 x1 x2 x3 x4 v_17 (-1 : Int32) md_16 rd_21
def f_X13_readCross_L59 (x1 : Int32) (x2 : Int32) (x3 : Int32) (t1i : Int32) (t2i : Int32) (md : MdS) (rd : TnS) : Option ((MdS) × (TnS)) :=
  bd2 (f_X13_readPlace md rd t1i t2i) fun (r_11 : Int32) (md_12 : MdS) =>
  bd1 (f_X13_isWord md_12 21) fun (r_13 : Int32) =>
  if r_13 = 0 then
    bd1 (f_X13_isWord md_12 22) fun (r_14 : Int32) =>
    if r_14 = 0 then
      bd1 (f_X13_flaw md_12 (1 : Int32)) fun (md_15 : MdS) =>
      f_X13_readCross_L93 x1 x2 x3 r_11 r_13 md_15 rd
    else
      f_X13_readCross_L93 x1 x2 x3 r_11 r_13 md_12 rd
  else
    f_X13_readCross_L93 x1 x2 x3 r_11 r_13 md_12 rd
def f_X13_readCross (md : MdS) (rd : TnS) : Option ((MdS) × (TnS)) :=
  bd1 (f_X13_begins md rd (Tn_crossings rd) (7 : Int32)) fun (md_1 : MdS) =>
  bd2 (f_X13_known md_1 rd (1 : Int32)) fun (r_2 : Int32) (md_3 : MdS) =>
  bd1 (f_X13_goesOn md_3) fun (md_4 : MdS) =>
  bd2 (f_X13_readPlace md_4 rd r_2 (-1 : Int32)) fun (r_5 : Int32) (md_6 : MdS) =>
  bd1 (f_X13_needs md_6 20) fun (md_7 : MdS) =>
  bd2 (f_X13_known md_7 rd (1 : Int32)) fun (r_8 : Int32) (md_9 : MdS) =>
  bd1 (f_X13_goesOn md_9) fun (md_10 : MdS) =>
  if r_8 = r_2 then
    f_X13_readCross_L59 r_2 r_5 r_8 r_8 r_5 md_10 rd
  else
    f_X13_readCross_L59 r_2 r_5 r_8 r_8 (-1 : Int32) md_10 rd
def f_X13_readHand_L65 (x3 : Int32) (md : MdS) : Option (Int32 × (MdS)) :=
  bd1 (f_X13_goesOn md) fun (md_5 : MdS) =>
  some (x3, md_5)
def f_X13_readHand_L34 (x1 : Int32) (t0i : Int32) (md : MdS) (rd : TnS) : Option (Int32 × (MdS)) :=
  if (Md_sort md) = (5 : Int32) then
    f_X13_readHand_L65 t0i md
  else
    ck (((2 : Int32) * x1) + t0i) 16 <|
    if (Tn_linkOf rd (Int32.toNatClampNeg (((2 : Int32) * x1) + t0i))) = (-1 : Int32) then
      f_X13_readHand_L65 t0i md
    else
      bd1 (f_X13_flaw md (3 : Int32)) fun (md_4 : MdS) =>
      f_X13_readHand_L65 t0i md_4
def f_X13_readHand_L25 (x1 : Int32) (x2 : Int32) (md : MdS) (rd : TnS) : Option (Int32 × (MdS)) :=
  if x2 = 0 then
    f_X13_readHand_L34 x1 (0 : Int32) md rd
  else
    f_X13_readHand_L34 x1 (1 : Int32) md rd
def f_X13_readHand (md : MdS) (rd : TnS) (p1 : Int32) : Option (Int32 × (MdS)) :=
  bd1 (f_X13_isWord md 18) fun (r_1 : Int32) =>
  if r_1 = 0 then
    bd1 (f_X13_isWord md 19) fun (r_2 : Int32) =>
    if r_2 = 0 then
      bd1 (f_X13_flaw md (1 : Int32)) fun (md_3 : MdS) =>
      f_X13_readHand_L25 p1 r_1 md_3 rd
    else
      f_X13_readHand_L25 p1 r_1 md rd
  else
    f_X13_readHand_L25 p1 r_1 md rd
def f_X13_readHold_L81 (x1 : Int64) (x3 : Int32) (x4 : Int32) (x5 : Int32) (md : MdS) (rd : TnS) : Option ((MdS) × (TnS)) :=
  bd1 (f_X13_goesOn md) fun (md_12 : MdS) =>
  bd2 (f_X13_readHand md_12 rd x5) fun (r_13 : Int32) (md_14 : MdS) =>
  if (Md_sort md_14) = (5 : Int32) then
    some (md_14, rd)
  else
    lt1 (Tn_links rd) fun (v_15 : Int32) =>
    bd1 (f_X13_names rd x1 (1 : Int32) v_15) fun (rd_16 : TnS) =>
    ck v_15 8 <|
    lt1 (Tn_one' rd_16 (upd (Tn_one rd_16) (Int32.toNatClampNeg v_15) x3)) fun (rd_17 : TnS) =>
    ck v_15 8 <|
    lt1 (Tn_oneHand' rd_17 (upd (Tn_oneHand rd_17) (Int32.toNatClampNeg v_15) x4)) fun (rd_18 : TnS) =>
    ck v_15 8 <|
    lt1 (Tn_two' rd_18 (upd (Tn_two rd_18) (Int32.toNatClampNeg v_15) x5)) fun (rd_19 : TnS) =>
    ck v_15 8 <|
    lt1 (Tn_twoHand' rd_19 (upd (Tn_twoHand rd_19) (Int32.toNatClampNeg v_15) r_13)) fun (rd_20 : TnS) =>
    ck (((2 : Int32) * x3) + x4) 16 <|
    lt1 (Tn_linkOf' rd_20 (upd (Tn_linkOf rd_20) (Int32.toNatClampNeg (((2 : Int32) * x3) + x4)) v_15)) fun (rd_21 : TnS) =>
    ck (((2 : Int32) * x5) + r_13) 16 <|
    lt1 (Tn_linkOf' rd_21 (upd (Tn_linkOf rd_21) (Int32.toNatClampNeg (((2 : Int32) * x5) + r_13)) v_15)) fun (rd_22 : TnS) =>
    lt1 (Tn_links' rd_22 ((Tn_links rd_22) + (1 : Int32))) fun (rd_23 : TnS) =>
    some (md_14, rd_23)
def f_X13_readHold_L76 (x1 : Int64) (x3 : Int32) (x4 : Int32) (x5 : Int32) (md : MdS) (rd : TnS) : Option ((MdS) × (TnS)) :=
  bd1 (f_X13_flaw md (3 : Int32)) fun (md_24 : MdS) =>
  f_X13_readHold_L81 x1 x3 x4 x5 md_24 rd
def f_X13_readHold (md : MdS) (rd : TnS) : Option ((MdS) × (TnS)) :=
  bd1 (f_X13_begins md rd (Tn_links rd) (8 : Int32)) fun (md_1 : MdS) =>
  bd2 (f_X13_readFresh md_1 rd) fun (r_2 : Int64) (md_3 : MdS) =>
  bd2 (f_X13_known md_3 rd (0 : Int32)) fun (r_4 : Int32) (md_5 : MdS) =>
  bd1 (f_X13_goesOn md_5) fun (md_6 : MdS) =>
  bd2 (f_X13_readHand md_6 rd r_4) fun (r_7 : Int32) (md_8 : MdS) =>
  bd2 (f_X13_known md_8 rd (0 : Int32)) fun (r_9 : Int32) (md_10 : MdS) =>
  if (Md_sort md_10) = (5 : Int32) then
    f_X13_readHold_L81 r_2 r_4 r_7 r_9 md_10 rd
  else
    if r_4 = r_9 then
      f_X13_readHold_L76 r_2 r_4 r_7 r_9 md_10 rd
    else
      if (Tn_once rd) = 0 then
        f_X13_readHold_L81 r_2 r_4 r_7 r_9 md_10 rd
      else
        bd1 (f_X13_isHeld rd r_4 r_9) fun (r_11 : Int32) =>
        if r_11 = 0 then
          f_X13_readHold_L81 r_2 r_4 r_7 r_9 md_10 rd
        else
          f_X13_readHold_L76 r_2 r_4 r_7 r_9 md_10 rd
def f_X13_readPerson (md : MdS) (rd : TnS) : Option ((MdS) × (TnS)) :=
  bd1 (f_X13_begins md rd (Tn_people rd) (8 : Int32)) fun (md_1 : MdS) =>
  bd2 (f_X13_readFresh md_1 rd) fun (r_2 : Int64) (md_3 : MdS) =>
  bd2 (f_X13_readPart md_3 13 (1 : Int32) (99 : Int32)) fun (r_4 : Int32) (md_5 : MdS) =>
  if (Md_sort md_5) = (5 : Int32) then
    some (md_5, rd)
  else
    bd1 (f_X13_names rd r_2 (0 : Int32) (Tn_people rd)) fun (rd_6 : TnS) =>
    ck (Tn_people rd_6) 8 <|
    lt1 (Tn_tall' rd_6 (upd (Tn_tall rd_6) (Int32.toNatClampNeg (Tn_people rd_6)) r_4)) fun (rd_7 : TnS) =>
    ck ((2 : Int32) * (Tn_people rd_7)) 16 <|
    lt1 (Tn_linkOf' rd_7 (upd (Tn_linkOf rd_7) (Int32.toNatClampNeg ((2 : Int32) * (Tn_people rd_7))) (-1 : Int32))) fun (rd_8 : TnS) =>
    ck (((2 : Int32) * (Tn_people rd_8)) + (1 : Int32)) 16 <|
    lt1 (Tn_linkOf' rd_8 (upd (Tn_linkOf rd_8) (Int32.toNatClampNeg (((2 : Int32) * (Tn_people rd_8)) + (1 : Int32))) (-1 : Int32))) fun (rd_9 : TnS) =>
    lt1 (Tn_people' rd_9 ((Tn_people rd_9) + (1 : Int32))) fun (rd_10 : TnS) =>
    some (md_5, rd_10)
def f_X13_readTangle_L16 (md : MdS) (rd : TnS) : Option ((MdS) × (TnS)) :=
  bd1 (f_X13_goesOn md) fun (md_2 : MdS) =>
  bd2 (f_X13_readPart md_2 13 (0 : Int32) (99 : Int32)) fun (r_3 : Int32) (md_4 : MdS) =>
  bd2 (f_X13_eatsWord md_4 14) fun (r_5 : Int32) (md_6 : MdS) =>
  if (Md_sort md_6) = (5 : Int32) then
    some (md_6, rd)
  else
    lt1 (Tn_height' rd r_3) fun (rd_7 : TnS) =>
    zb r_5 <|
    lt1 (Tn_once' rd_7 r_5) fun (rd_8 : TnS) =>
    some (md_6, rd_8)
def f_X13_readTangle (md : MdS) (rd : TnS) : Option ((MdS) × (TnS)) :=
  if (Tn_height rd) = (-1 : Int32) then
    f_X13_readTangle_L16 md rd
  else
    bd1 (f_X13_flaw md (3 : Int32)) fun (md_1 : MdS) =>
    f_X13_readTangle_L16 md_1 rd
def f_X13_readLine (md : MdS) (rd : TnS) : Option ((MdS) × (TnS)) :=
  bd1 (f_X13_isWord md 12) fun (r_1 : Int32) =>
  if r_1 = 0 then
    bd1 (f_X13_isWord md 15) fun (r_2 : Int32) =>
    if r_2 = 0 then
      bd1 (f_X13_isWord md 16) fun (r_3 : Int32) =>
      if r_3 = 0 then
        bd1 (f_X13_isWord md 17) fun (r_4 : Int32) =>
        if r_4 = 0 then
          bd1 (f_X13_flaw md (1 : Int32)) fun (md_5 : MdS) =>
          some (md_5, rd)
        else
          bd2 (f_X13_readCross md rd) fun (md_6 : MdS) (rd_7 : TnS) =>
          some (md_6, rd_7)
      else
        bd2 (f_X13_readHold md rd) fun (md_8 : MdS) (rd_9 : TnS) =>
        some (md_8, rd_9)
    else
      bd2 (f_X13_readPerson md rd) fun (md_10 : MdS) (rd_11 : TnS) =>
      some (md_10, rd_11)
  else
    bd2 (f_X13_readTangle md rd) fun (md_12 : MdS) (rd_13 : TnS) =>
    some (md_12, rd_13)
def f_X13_readAll_L69 (md : MdS) (rd : TnS) : Option ((MdS) × (TnS)) :=
  bd1 (f_X13_flaw md (6 : Int32)) fun (md_6 : MdS) =>
  some (md_6, rd)
def f_X13_readAll_L31 (md : MdS) (rd : TnS) : Option ((MdS) × (TnS)) :=
  if (Tn_height rd) = (-1 : Int32) then
    f_X13_readAll_L69 md rd
  else
    if (Tn_people rd) = 0 then
      f_X13_readAll_L69 md rd
    else
      if (Tn_people rd) ≤ (Tn_links rd) then
        some (md, rd)
      else
        f_X13_readAll_L69 md rd
def f_X13_readAll_L2 : Nat → (Int32) → (MdS) → (TnS) → Option ((MdS) × (TnS))
  | 0, _, _, _ => none
  | n_ + 1, x1, md, rd =>
    if x1 = 0 then
      if (Md_sort md) = (1 : Int32) then
        f_X13_readAll_L31 md rd
      else
        bd1 (f_X13_flaw md (1 : Int32)) fun (md_1 : MdS) =>
        f_X13_readAll_L31 md_1 rd
    else
      bd2 (f_X13_readLine md rd) fun (md_2 : MdS) (rd_3 : TnS) =>
      bd2 (f_X13_eatsSemicolon md_2) fun (r_4 : Int32) (md_5 : MdS) =>
      f_X13_readAll_L2 n_ r_4 md_5 rd_3
def f_X13_readAll (md : MdS) (rd : TnS) : Option ((MdS) × (TnS)) :=
  f_X13_readAll_L2 FU (1 : Int32) md rd
def f_X13_tangle (md : MdS) (p1 : Int32) : Option (Int32 × (MdS) × Option TnS) :=
  lt1 (Md_thrown' md (0 : Int32)) fun md_1 =>
  if p1 < 0 then
    bd2 (f_X13_refused md_1 (2 : Int32)) fun (r_1 : Int32) (md_2 : MdS) =>
    some (r_1, md_2, none)
  else if ¬ p1 ≤ Md_taped md_1 then
    bd2 (f_X13_refused md_1 (2 : Int32)) fun (r_1 : Int32) (md_2 : MdS) =>
    some (r_1, md_2, none)
  else
    lt1 (Md_size' md_1 p1) fun md_2 =>
    lt1 (Md_taped' md_2 (0 : Int32)) fun md_3 =>
    lt1 (Md_spot' md_3 (0 : Int32)) fun md_4 =>
    lt1 (Md_fault' md_4 (0 : Int32)) fun md_5 =>
    lt1 (Md_sort' md_5 (0 : Int32)) fun md_6 =>
    bd1 (f_X13_goesOn md_6) fun md_7 =>
    bd2 (f_X13_readAll md_7 Tn0) fun md_8 tn_1 =>
    if Md_fault md_8 ≤ 0 then
      bd1 (f_X12_laysRings tn_1) fun tn_2 =>
      lt1 (Md_now' md_8 (Tn_first tn_2)) fun md_9 =>
      lt1 (Md_parted' md_9 (-2 : Int32)) fun md_10 =>
      lt1 (Md_lifted' md_10 (0 : Int32)) fun md_11 =>
      lt1 (Md_seed' md_11 (0 : Int32)) fun md_12 =>
      lt1 (Md_acts' md_12 (0 : Int32)) fun md_13 =>
      lt1 (Md_marks' md_13 (0 : Int32)) fun md_14 =>
      bd2 (f_X13_good md_14 (Tn_rings tn_2)) fun (r_1 : Int32) (md_15 : MdS) =>
      some (r_1, md_15, some tn_2)
    else
      lt1 (Md_trouble' md_8 (4 : Int32)) fun md_9 =>
      lt1 (Md_where' md_9 (Md_wrongAt md_9)) fun md_10 =>
      some ((-1 : Int32), md_10, none)
