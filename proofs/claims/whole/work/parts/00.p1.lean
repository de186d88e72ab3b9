def f_J7_fill_53178_L5 : Nat → (Int32) → (Int32) → (Int32) → (Nat → Int32) → (Nat) → Option ((Nat → Int32))
  | 0, _, _, _, _, _ => none
  | n_ + 1, x1, x2, x3, ra, N_ =>
    if x3 ≤ x2 then
      some (ra)
    else
      ck x2 N_ <|
      lt1 (upd (ra) (Int32.toNatClampNeg x2) x1) fun (ra_2 : Nat → Int32) =>
      lt1 (x2 + (1 : Int32)) fun (v_3 : Int32) =>
      f_J7_fill_53178_L5 n_ x1 v_3 x3 ra_2 N_
def f_J7_fill_53178 (ra : Nat → Int32) (N_ : Nat) (p1 : Int32) : Option ((Nat → Int32)) :=
  lt1 (Int32.ofNat N_) fun (v_1 : Int32) =>
  f_J7_fill_53178_L5 FU p1 (0 : Int32) v_1 ra N_
def f_J9_floorMod_7cf53 (p0 : Int32) (p1 : Int32) : Option (Int32) :=
  nz p1 <|
  lt1 (p0 - p0 / p1 * p1) fun (v_1 : Int32) =>
  if 0 ≤ (p0 ^^^ p1) then
    some (v_1)
  else
    if v_1 = 0 then
      some (v_1)
    else
      some ((v_1 + p1))
def f_X4_passAt (p0 : Int64) (p2 : Int32) : Option (Int32) :=
  some (((Int64.toInt32 (((Int64.toUInt64 p0 >>> ((Int32.toInt64 ((4 : Int32) * p2)).toUInt64 &&& Int64.toUInt64 63)).toInt64) &&& (15 : Int64))) - (1 : Int32)))
def f_X1_isCrowd (p0 : Int32) : Option (Int32) :=
  if p0 < (2 : Int32) then
    some ((0 : Int32))
  else
    if (13 : Int32) < p0 then
      some ((0 : Int32))
    else
      some ((1 : Int32))
def f_X1_isRingCount (p0 : Int32) : Option (Int32) :=
  if p0 < 0 then
    some ((0 : Int32))
  else
    if (13 : Int32) < p0 then
      some ((0 : Int32))
    else
      some ((1 : Int32))
def f_X1_waysByFirstRing_L42 (x1 : Int32) (x2 : Int32) (x3 : Int32) (x4 : Int64) (x6 : Int64) (x8 : Int32) (ra : Nat → Int64) (k9 : (Int32) → (Int32) → (Int32) → (Int64) → (Int64) → (Int32) → (Nat → Int64) → Option (Int64)) : Option (Int64) :=
  lt1 (x6 * ((2 : Int64) * (Int32.toInt64 (x2 - x8)))) fun (v_2 : Int64) =>
  lt1 (x8 + (1 : Int32)) fun (v_3 : Int32) =>
  k9 x1 x2 x3 x4 v_2 v_3 ra
def f_X1_waysByFirstRing_L9 : Nat → (Int32) → (Int32) → (Int32) → (Int64) → (Int64) → (Int32) → (Nat → Int64) → Option (Int64)
  | 0, _, _, _, _, _, _, _ => none
  | n_ + 1, x1, x2, x3, x4, x6, x8, ra =>
    if x2 < x8 then
      some (x4)
    else
      if x8 < x1 then
        f_X1_waysByFirstRing_L42 x1 x2 x3 x4 x6 x8 ra (fun y0 y1 y2 y3 y4 y5 y6 => f_X1_waysByFirstRing_L9 n_ y0 y1 y2 y3 y4 y5 y6)
      else
        ck ((((14 : Int32) * (x2 - x8)) + x3) - (1 : Int32)) 196 <|
        lt1 (x4 + (x6 * (ra (Int32.toNatClampNeg ((((14 : Int32) * (x2 - x8)) + x3) - (1 : Int32)))))) fun (v_1 : Int64) =>
        f_X1_waysByFirstRing_L42 x1 x2 x3 v_1 x6 x8 ra (fun y0 y1 y2 y3 y4 y5 y6 => f_X1_waysByFirstRing_L9 n_ y0 y1 y2 y3 y4 y5 y6)
def f_X1_waysByFirstRing (ra : Nat → Int64) (p1 : Int32) (p2 : Int32) (p3 : Int32) : Option (Int64) :=
  f_X1_waysByFirstRing_L9 FU p1 p2 p3 (0 : Int64) (1 : Int64) (1 : Int32) ra
def f_X1_fill_L14 : Nat → (Int32) → (Int32) → (Int32) → (Nat → Int64) → ((Int32) → (Int32) → (Nat → Int64) → Option ((Nat → Int64))) → Option ((Nat → Int64))
  | 0, _, _, _, _, _ => none
  | n_ + 1, x1, x2, x3, ra, k6 =>
    if x2 < x3 then
      lt1 (x2 + (1 : Int32)) fun (v_2 : Int32) =>
      k6 x1 v_2 ra
    else
      bd1 (f_X1_waysByFirstRing (ra) x1 x2 x3) fun (r_3 : Int64) =>
      ck (((14 : Int32) * x2) + x3) 196 <|
      lt1 (vp_updL (ra) (Int32.toNatClampNeg (((14 : Int32) * x2) + x3)) r_3) fun (ra_4 : Nat → Int64) =>
      lt1 (x3 + (1 : Int32)) fun (v_5 : Int32) =>
      f_X1_fill_L14 n_ x1 x2 v_5 ra_4 k6
def f_X1_fill_L6 : Nat → (Int32) → (Int32) → (Nat → Int64) → Option ((Nat → Int64))
  | 0, _, _, _ => none
  | n_ + 1, x1, x2, ra =>
    if (13 : Int32) < x2 then
      some (ra)
    else
      f_X1_fill_L14 FU x1 x2 (1 : Int32) ra (fun y0 y1 y2 => f_X1_fill_L6 n_ y0 y1 y2)
def f_X1_fill (ra : Nat → Int64) (p1 : Int32) : Option ((Nat → Int64)) :=
  ck (0 : Int32) 196 <|
  lt1 (vp_updL (ra) (Int32.toNatClampNeg (0 : Int32)) (1 : Int64)) fun (ra_1 : Nat → Int64) =>
  f_X1_fill_L6 FU p1 (1 : Int32) ra_1
def f_X1_waysInto_L28 (x1 : Int32) (x2 : Int32) (x3 : Int32) (ch : ChS) : Option (Int64 × (ChS)) :=
  if x1 < 0 then
    some ((0 : Int64), ch)
  else
    if (13 : Int32) < x1 then
      some ((0 : Int64), ch)
    else
      bd1 (f_X1_isRingCount x2) fun (r_6 : Int32) =>
      if r_6 = 0 then
        some ((0 : Int64), ch)
      else
        if x3 = 0 then
          ck (((14 : Int32) * x1) + x2) 196 <|
          some ((Ch_often ch (Int32.toNatClampNeg (((14 : Int32) * x1) + x2))), ch)
        else
          ck (((14 : Int32) * x1) + x2) 196 <|
          some ((Ch_onlyOnce ch (Int32.toNatClampNeg (((14 : Int32) * x1) + x2))), ch)
def f_X1_waysInto (ch : ChS) (p1 : Int32) (p2 : Int32) (p3 : Int32) : Option (Int64 × (ChS)) :=
  if (Ch_filled ch) = 0 then
    bd1 (f_X1_fill (Ch_often ch) (2 : Int32)) fun (ra_1 : Nat → Int64) =>
    lt1 (Ch_often' ch ra_1) fun (ch_2 : ChS) =>
    bd1 (f_X1_fill (Ch_onlyOnce ch_2) (3 : Int32)) fun (ra_3 : Nat → Int64) =>
    lt1 (Ch_onlyOnce' ch_2 ra_3) fun (ch_4 : ChS) =>
    lt1 (Ch_filled' ch_4 (1 : Int32)) fun (ch_5 : ChS) =>
    f_X1_waysInto_L28 p1 p2 p3 ch_5
  else
    f_X1_waysInto_L28 p1 p2 p3 ch
def f_X1_allWays_L5 : Nat → (Int32) → (Int32) → (Int64) → (Int32) → (ChS) → Option (Int64 × (ChS))
  | 0, _, _, _, _, _ => none
  | n_ + 1, x1, x2, x3, x5, ch =>
    if (13 : Int32) < x5 then
      some (x3, ch)
    else
      bd2 (f_X1_waysInto ch x1 x5 x2) fun (r_1 : Int64) (ch_2 : ChS) =>
      lt1 (x3 + r_1) fun (v_3 : Int64) =>
      lt1 (x5 + (1 : Int32)) fun (v_4 : Int32) =>
      f_X1_allWays_L5 n_ x1 x2 v_3 v_4 ch_2
def f_X1_allWays (ch : ChS) (p1 : Int32) (p2 : Int32) : Option (Int64 × (ChS)) :=
  f_X1_allWays_L5 FU p1 p2 (0 : Int64) (0 : Int32) ch
def f_X1_allRings_L5 : Nat → (Int32) → (Int32) → (Int64) → (Int32) → (ChS) → Option (Int64 × (ChS))
  | 0, _, _, _, _, _ => none
  | n_ + 1, x1, x2, x3, x5, ch =>
    if (13 : Int32) < x5 then
      some (x3, ch)
    else
      bd2 (f_X1_waysInto ch x1 x5 x2) fun (r_1 : Int64) (ch_2 : ChS) =>
      lt1 (x3 + ((Int32.toInt64 x5) * r_1)) fun (v_3 : Int64) =>
      lt1 (x5 + (1 : Int32)) fun (v_4 : Int32) =>
      f_X1_allRings_L5 n_ x1 x2 v_3 v_4 ch_2
def f_X1_allRings (ch : ChS) (p1 : Int32) (p2 : Int32) : Option (Int64 × (ChS)) :=
  f_X1_allRings_L5 FU p1 p2 (0 : Int64) (0 : Int32) ch
def f_X1_commonDivisor_L9 : Nat → (Int64) → (Int64) → (Int32) → Option (Int64)
  | 0, _, _, _ => none
  | n_ + 1, x4, x6, x8 =>
    if (lg_cmp x6 (0 : Int64)) = 0 then
      some (x4)
    else
      if (200 : Int32) ≤ x8 then
        some (x4)
      else
        nzl x6 <|
        lt1 (x4 - x4 / x6 * x6) fun (v_1 : Int64) =>
        lt1 (x8 + (1 : Int32)) fun (v_2 : Int32) =>
        f_X1_commonDivisor_L9 n_ x6 v_1 v_2
def f_X1_commonDivisor (p0 : Int64) (p2 : Int64) : Option (Int64) :=
  f_X1_commonDivisor_L9 FU p0 p2 (0 : Int32)
def f_X1_inLowestTerms_L17 (x5 : Int64) (t0j : Int64) : Option (Int64) :=
  if (lg_cmp x5 (0 : Int64)) = 0 then
    some (t0j)
  else
    nzl x5 <|
    some ((t0j / x5))
def f_X1_inLowestTerms (p0 : Int64) (p2 : Int64) (p4 : Int32) : Option (Int64) :=
  bd1 (f_X1_commonDivisor p0 p2) fun (r_1 : Int64) =>
  if p4 = 0 then
    f_X1_inLowestTerms_L17 r_1 p0
  else
    f_X1_inLowestTerms_L17 r_1 p2
def f_X4_become (mo : MoS) (om : MoS) : Option ((MoS)) :=
  lt1 (Mo_key' mo (Mo_key om)) fun (mo_1 : MoS) =>
  lt1 (Mo_plus' mo_1 (Mo_plus om)) fun (mo_2 : MoS) =>
  lt1 (Mo_parted' mo_2 (Mo_parted om)) fun (mo_3 : MoS) =>
  lt1 (Mo_seed' mo_3 (Mo_seed om)) fun (mo_4 : MoS) =>
  some (mo_4)
def f_X4_begin (mo : MoS) (p1 : Int64) (p3 : Int32) : Option ((MoS)) :=
  lt1 (Mo_key' mo p1) fun (mo_1 : MoS) =>
  lt1 (Mo_plus' mo_1 p3) fun (mo_2 : MoS) =>
  lt1 (Mo_parted' mo_2 (-2 : Int32)) fun (mo_3 : MoS) =>
  lt1 (Mo_seed' mo_3 (0 : Int32)) fun (mo_4 : MoS) =>
  some (mo_4)
def f_X4_seedBehind (p0 : Int32) : Option (Int32) :=
  some (((((75 : Int32) * p0) + (74 : Int32)) - (((75 : Int32) * p0) + (74 : Int32)) / (65537 : Int32) * (65537 : Int32)))
def f_X4_letGo_L51 (x2 : Int32) (x3 : Int32) (x4 : Int32) (mo : MoS) (ri : RiS) (k5 : (Int32) → (Int32) → (Int32) → (MoS) → (RiS) → Option ((MoS))) : Option ((MoS)) :=
  lt1 (x4 + (1 : Int32)) fun (v_6 : Int32) =>
  k5 x2 x3 v_6 mo ri
def f_X4_letGo_L118 (x2 : Int32) (x3 : Int32) (x4 : Int32) (mo : MoS) (ri : RiS) (k60 : (Int32) → (Int32) → (Int32) → (MoS) → (RiS) → Option ((MoS))) : Option ((MoS)) :=
  lt1 (x4 + (1 : Int32)) fun (v_7 : Int32) =>
  k60 x2 x3 v_7 mo ri
def f_X4_letGo_L60 : Nat → (Int32) → (Int32) → (Int32) → (MoS) → (RiS) → Option ((MoS))
  | 0, _, _, _, _, _ => none
  | n_ + 1, x2, x3, x4, mo, ri =>
    if (Ri_standings ri) ≤ x4 then
      lt1 (Mo_parted' mo x2) fun (mo_3 : MoS) =>
      some (mo_3)
    else
      bd1 (f_X4_passAt (Mo_key mo) x4) fun (r_4 : Int32) =>
      if r_4 = (-1 : Int32) then
        f_X4_letGo_L118 x2 x3 x4 mo ri (fun y0 y1 y2 y3 y4 => f_X4_letGo_L60 n_ y0 y1 y2 y3 y4)
      else
        if ((x3 >>> ((r_4 / (2 : Int32)) &&& 31)) &&& (1 : Int32)) = 0 then
          f_X4_letGo_L118 x2 x3 x4 mo ri (fun y0 y1 y2 y3 y4 => f_X4_letGo_L60 n_ y0 y1 y2 y3 y4)
        else
          lt1 (Mo_key' mo ((Mo_key mo) &&& (((15 : Int64) <<< (Int32.toInt64 ((4 : Int32) * x4) &&& 63)) ^^^ (-1 : Int64)))) fun (mo_5 : MoS) =>
          f_X4_letGo_L118 x2 x3 x4 mo_5 ri (fun y0 y1 y2 y3 y4 => f_X4_letGo_L60 n_ y0 y1 y2 y3 y4)
def f_X4_letGo_L5 : Nat → (Int32) → (Int32) → (Int32) → (MoS) → (RiS) → Option ((MoS))
  | 0, _, _, _, _, _ => none
  | n_ + 1, x2, x3, x4, mo, ri =>
    if (Ri_standings ri) ≤ x4 then
      f_X4_letGo_L60 FU x2 x3 (0 : Int32) mo ri
    else
      bd1 (f_X4_passAt (Mo_key mo) x4) fun (r_1 : Int32) =>
      if r_1 = (-1 : Int32) then
        f_X4_letGo_L51 x2 x3 x4 mo ri (fun y0 y1 y2 y3 y4 => f_X4_letGo_L5 n_ y0 y1 y2 y3 y4)
      else
        ck x4 16 <|
        if (Ri_standingLink ri (Int32.toNatClampNeg x4)) = x2 then
          lt1 (x3 ||| ((1 : Int32) <<< ((r_1 / (2 : Int32)) &&& 31))) fun (v_2 : Int32) =>
          f_X4_letGo_L51 x2 v_2 x4 mo ri (fun y0 y1 y2 y3 y4 => f_X4_letGo_L5 n_ y0 y1 y2 y3 y4)
        else
          f_X4_letGo_L51 x2 x3 x4 mo ri (fun y0 y1 y2 y3 y4 => f_X4_letGo_L5 n_ y0 y1 y2 y3 y4)
def f_X4_letGo (mo : MoS) (ri : RiS) (p2 : Int32) : Option ((MoS)) :=
  f_X4_letGo_L5 FU p2 (0 : Int32) (0 : Int32) mo ri
def f_X4_turnOver_L63 (x1 : Int32) (x2 : Int64) (x4 : Int32) (mo : MoS) (k16 : (Int32) → (Int64) → (Int32) → (MoS) → Option ((MoS))) : Option ((MoS)) :=
  lt1 (x4 + (1 : Int32)) fun (v_5 : Int32) =>
  k16 x1 x2 v_5 mo
def f_X4_turnOver_L16 : Nat → (Int32) → (Int64) → (Int32) → (MoS) → Option ((MoS))
  | 0, _, _, _, _ => none
  | n_ + 1, x1, x2, x4, mo =>
    if (14 : Int32) ≤ x4 then
      lt1 (Mo_plus' mo ((Mo_plus mo) ^^^ ((1 : Int32) <<< (x1 &&& 31)))) fun (mo_2 : MoS) =>
      some (mo_2)
    else
      bd1 (f_X4_passAt (Mo_key mo) x4) fun (r_3 : Int32) =>
      if r_3 = (-1 : Int32) then
        f_X4_turnOver_L63 x1 x2 x4 mo (fun y0 y1 y2 y3 => f_X4_turnOver_L16 n_ y0 y1 y2 y3)
      else
        if (r_3 / (2 : Int32)) = x1 then
          lt1 (Mo_key' mo ((Mo_key mo) ^^^ (x2 <<< (Int32.toInt64 ((4 : Int32) * x4) &&& 63)))) fun (mo_4 : MoS) =>
          f_X4_turnOver_L63 x1 x2 x4 mo_4 (fun y0 y1 y2 y3 => f_X4_turnOver_L16 n_ y0 y1 y2 y3)
        else
          f_X4_turnOver_L63 x1 x2 x4 mo (fun y0 y1 y2 y3 => f_X4_turnOver_L16 n_ y0 y1 y2 y3)
def f_X4_turnOver (mo : MoS) (p1 : Int32) : Option ((MoS)) :=
  lt1 (Int32.toInt64 ((((2 : Int32) * p1) + (1 : Int32)) ^^^ (((2 : Int32) * p1) + (2 : Int32)))) fun (v_1 : Int64) =>
  f_X4_turnOver_L16 FU p1 v_1 (0 : Int32) mo
def f_X8_addToken (ta : TaS) (p1 : Int32) (p2 : Int32) (p3 : Int32) (p4 : Int64) : Option ((TaS)) :=
  if (900 : Int32) < (Ta_count ta) then
    some (ta)
  else
    ck (Ta_count ta) 901 <|
    lt1 (Ta_kinds' ta (upd (Ta_kinds ta) (Int32.toNatClampNeg (Ta_count ta)) p1)) fun (ta_1 : TaS) =>
    ck (Ta_count ta_1) 901 <|
    lt1 (Ta_starts' ta_1 (upd (Ta_starts ta_1) (Int32.toNatClampNeg (Ta_count ta_1)) p2)) fun (ta_2 : TaS) =>
    ck (Ta_count ta_2) 901 <|
    lt1 (Ta_values' ta_2 (upd (Ta_values ta_2) (Int32.toNatClampNeg (Ta_count ta_2)) p3)) fun (ta_3 : TaS) =>
    ck (Ta_count ta_3) 901 <|
    lt1 (Ta_spellings' ta_3 (vp_updL (Ta_spellings ta_3) (Int32.toNatClampNeg (Ta_count ta_3)) p4)) fun (ta_4 : TaS) =>
    lt1 (Ta_count' ta_4 ((Ta_count ta_4) + (1 : Int32))) fun (ta_5 : TaS) =>
    some (ta_5)
def f_X8_ends (ta : TaS) (p1 : Int32) : Option (Int32 × (TaS)) :=
  bd1 (f_X8_addToken ta (0 : Int32) p1 (0 : Int32) (0 : Int64)) fun (ta_1 : TaS) =>
  some ((p1 + (1 : Int32)), ta_1)
def f_X8_isLetter (p0 : Int32) : Option (Int32) :=
  if p0 < (97 : Int32) then
    some ((0 : Int32))
  else
    if (122 : Int32) < p0 then
      some ((0 : Int32))
    else
      some ((1 : Int32))
def f_X8_isFigure (p0 : Int32) : Option (Int32) :=
  if p0 < (48 : Int32) then
    some ((0 : Int32))
  else
    if (57 : Int32) < p0 then
      some ((0 : Int32))
    else
      some ((1 : Int32))
def f_X8_addWhole_L5 : Nat → (Int32) → (Int32) → (Int32) → (Int32) → (TaS) → Option ((TaS))
  | 0, _, _, _, _, _ => none
  | n_ + 1, x1, x2, x3, x4, ta =>
    if x2 ≤ x4 then
      bd1 (f_X8_addToken ta (2 : Int32) x1 x3 (0 : Int64)) fun (ta_1 : TaS) =>
      some (ta_1)
    else
      ck x4 900 <|
      lt1 ((((10 : Int32) * x3) + (Ta_bytes ta (Int32.toNatClampNeg x4))) - (48 : Int32)) fun (v_2 : Int32) =>
      lt1 (x4 + (1 : Int32)) fun (v_3 : Int32) =>
      f_X8_addWhole_L5 n_ x1 x2 v_2 v_3 ta
def f_X8_addWhole (ta : TaS) (p1 : Int32) (p2 : Int32) : Option ((TaS)) :=
  f_X8_addWhole_L5 FU p1 p2 (0 : Int32) p1 ta
def f_X8_withLetter (p0 : Int64) (p2 : Int32) : Option (Int64) :=
  some (((p0 <<< (Int32.toInt64 (5 : Int32) &&& 63)) ||| (Int32.toInt64 ((p2 - (97 : Int32)) + (1 : Int32)))))
def f_X8_addWord_L57 (x1 : Int32) (x3 : Int64) (x5 : Int32) (ta : TaS) : Option ((TaS)) :=
  bd1 (f_X8_addToken ta (1 : Int32) x1 x5 x3) fun (ta_4 : TaS) =>
  some (ta_4)
def f_X8_addWord_L32 : Nat → (Int32) → (Int64) → (Int32) → (TaS) → Option ((TaS))
  | 0, _, _, _, _ => none
  | n_ + 1, x1, x3, x5, ta =>
    if (11 : Int32) ≤ x5 then
      f_X8_addWord_L57 x1 x3 x5 ta
    else
      ck x5 11 <|
      if (lg_cmp (Ta_words ta (Int32.toNatClampNeg x5)) x3) = 0 then
        f_X8_addWord_L57 x1 x3 x5 ta
      else
        lt1 (x5 + (1 : Int32)) fun (v_3 : Int32) =>
        f_X8_addWord_L32 n_ x1 x3 v_3 ta
def f_X8_addWord_L5 : Nat → (Int32) → (Int32) → (Int64) → (Int32) → (TaS) → Option ((TaS))
  | 0, _, _, _, _, _ => none
  | n_ + 1, x1, x2, x3, x5, ta =>
    if x2 ≤ x5 then
      f_X8_addWord_L32 FU x1 x3 (0 : Int32) ta
    else
      ck x5 900 <|
      bd1 (f_X8_withLetter x3 (Ta_bytes ta (Int32.toNatClampNeg x5))) fun (r_1 : Int64) =>
      lt1 (x5 + (1 : Int32)) fun (v_2 : Int32) =>
      f_X8_addWord_L5 n_ x1 x2 r_1 v_2 ta
def f_X8_addWord (ta : TaS) (p1 : Int32) (p2 : Int32) : Option ((TaS)) :=
  f_X8_addWord_L5 FU p1 p2 (0 : Int64) p1 ta
def f_X8_cutOne_L130 (x1 : Int32) (x2 : Int32) (ta : TaS) : Option (Int32 × (TaS)) :=
  bd1 (f_X8_addToken ta (4 : Int32) x1 (0 : Int32) (0 : Int64)) fun (ta_6 : TaS) =>
  some ((x2 + (1 : Int32)), ta_6)
def f_X8_cutOne_L44 (x1 : Int32) (x2 : Int32) (x4 : Int32) (ta : TaS) : Option (Int32 × (TaS)) :=
  if (8 : Int32) < (x4 - x1) then
    f_X8_cutOne_L130 x1 x2 ta
  else
    bd1 (f_X8_addWord ta x1 x4) fun (ta_12 : TaS) =>
    some (x4, ta_12)
def f_X8_cutOne_L19 : Nat → (Int32) → (Int32) → (Int32) → (TaS) → Option (Int32 × (TaS))
  | 0, _, _, _, _ => none
  | n_ + 1, x1, x2, x4, ta =>
    if x2 ≤ x4 then
      f_X8_cutOne_L44 x1 x2 x4 ta
    else
      ck x4 900 <|
      bd1 (f_X8_isLetter (Ta_bytes ta (Int32.toNatClampNeg x4))) fun (r_9 : Int32) =>
      if r_9 = 0 then
        f_X8_cutOne_L44 x1 x2 x4 ta
      else
        lt1 (x4 + (1 : Int32)) fun (v_10 : Int32) =>
        f_X8_cutOne_L19 n_ x1 x2 v_10 ta
def f_X8_cutOne_L95 (x1 : Int32) (x2 : Int32) (x4 : Int32) (ta : TaS) : Option (Int32 × (TaS)) :=
  if (3 : Int32) < (x4 - x1) then
    f_X8_cutOne_L130 x1 x2 ta
  else
    bd1 (f_X8_addWhole ta x1 x4) fun (ta_11 : TaS) =>
    some (x4, ta_11)
def f_X8_cutOne_L70 : Nat → (Int32) → (Int32) → (Int32) → (TaS) → Option (Int32 × (TaS))
  | 0, _, _, _, _ => none
  | n_ + 1, x1, x2, x4, ta =>
    if x2 ≤ x4 then
      f_X8_cutOne_L95 x1 x2 x4 ta
    else
      ck x4 900 <|
      bd1 (f_X8_isFigure (Ta_bytes ta (Int32.toNatClampNeg x4))) fun (r_7 : Int32) =>
      if r_7 = 0 then
        f_X8_cutOne_L95 x1 x2 x4 ta
      else
        lt1 (x4 + (1 : Int32)) fun (v_8 : Int32) =>
        f_X8_cutOne_L70 n_ x1 x2 v_8 ta
def f_X8_cutOne (ta : TaS) (p1 : Int32) (p2 : Int32) : Option (Int32 × (TaS)) :=
  ck p1 900 <|
  lt1 (Ta_bytes ta (Int32.toNatClampNeg p1)) fun (v_1 : Int32) =>
  lt1 (p1 + (1 : Int32)) fun (v_2 : Int32) =>
  bd1 (f_X8_isLetter v_1) fun (r_3 : Int32) =>
  if r_3 = 0 then
    bd1 (f_X8_isFigure v_1) fun (r_4 : Int32) =>
    if r_4 = 0 then
      if v_1 = (59 : Int32) then
        bd1 (f_X8_addToken ta (3 : Int32) p1 (0 : Int32) (0 : Int64)) fun (ta_5 : TaS) =>
        some (v_2, ta_5)
      else
        f_X8_cutOne_L130 p1 p2 ta
    else
      f_X8_cutOne_L70 FU p1 p2 v_2 ta
  else
    f_X8_cutOne_L19 FU p1 p2 v_2 ta
def f_X8_cut_L70 (x2 : Int32) (x4 : Int32) (t0i : Int32) (ta : TaS) (k18 : (Int32) → (Int32) → (Int32) → (TaS) → Option ((TaS))) : Option ((TaS)) :=
  lt1 (x4 + (1 : Int32)) fun (v_9 : Int32) =>
  k18 x2 t0i v_9 ta
def f_X8_cut_L51 (x2 : Int32) (x3 : Int32) (x4 : Int32) (ta : TaS) (k18 : (Int32) → (Int32) → (Int32) → (TaS) → Option ((TaS))) : Option ((TaS)) :=
  if x2 ≤ x3 then
    bd2 (f_X8_ends ta x2) fun (r_5 : Int32) (ta_6 : TaS) =>
    f_X8_cut_L70 x2 x4 r_5 ta_6 k18
  else
    bd2 (f_X8_cutOne ta x3 x2) fun (r_7 : Int32) (ta_8 : TaS) =>
    f_X8_cut_L70 x2 x4 r_7 ta_8 k18
def f_X8_cut_L29 : Nat → (Int32) → (Int32) → (Int32) → (TaS) → ((Int32) → (Int32) → (Int32) → (TaS) → Option ((TaS))) → Option ((TaS))
  | 0, _, _, _, _, _ => none
  | n_ + 1, x2, x3, x4, ta, k18 =>
    if x2 ≤ x3 then
      f_X8_cut_L51 x2 x3 x4 ta k18
    else
      ck x3 900 <|
      if (Ta_bytes ta (Int32.toNatClampNeg x3)) = (32 : Int32) then
        lt1 (x3 + (1 : Int32)) fun (v_4 : Int32) =>
        f_X8_cut_L29 n_ x2 v_4 x4 ta k18
      else
        f_X8_cut_L51 x2 x3 x4 ta k18
def f_X8_cut_L77 (ta : TaS) : Option ((TaS)) :=
  lt1 (Ta_filled' ta (0 : Int32)) fun (ta_3 : TaS) =>
  some (ta_3)
def f_X8_cut_L18 : Nat → (Int32) → (Int32) → (Int32) → (TaS) → Option ((TaS))
  | 0, _, _, _, _ => none
  | n_ + 1, x2, x3, x4, ta =>
    if x2 < x4 then
      f_X8_cut_L77 ta
    else
      if x2 < x3 then
        f_X8_cut_L77 ta
      else
        f_X8_cut_L29 FU x2 x3 x4 ta (fun y0 y1 y2 y3 => f_X8_cut_L18 n_ y0 y1 y2 y3)
def f_X8_cut (ta : TaS) (p1 : Int32) : Option ((TaS)) :=
  lt1 (if (900 : Int32) < p1 then (900 : Int32) else p1) fun (v_1 : Int32) =>
  lt1 (Ta_count' ta (0 : Int32)) fun (ta_2 : TaS) =>
  f_X8_cut_L18 FU v_1 (0 : Int32) (0 : Int32) ta_2
def f_X9_clear (to : ToS) : Option ((ToS)) :=
  lt1 (To_begun' to (0 : Int32)) fun (to_1 : ToS) =>
  lt1 (To_once' to_1 (0 : Int32)) fun (to_2 : ToS) =>
  lt1 (To_tall' to_2 (0 : Int32)) fun (to_3 : ToS) =>
  lt1 (To_people' to_3 (0 : Int32)) fun (to_4 : ToS) =>
  lt1 (To_links' to_4 (0 : Int32)) fun (to_5 : ToS) =>
  lt1 (To_crossings' to_5 (0 : Int32)) fun (to_6 : ToS) =>
  lt1 (To_plus' to_6 (0 : Int32)) fun (to_7 : ToS) =>
  bd1 (f_J7_fill_53178 (To_linkIn to_7) 16 (-1 : Int32)) fun (ra_8 : Nat → Int32) =>
  lt1 (To_linkIn' to_7 ra_8) fun (to_9 : ToS) =>
  bd1 (f_J7_fill_53178 (To_passes to_9) 80 (0 : Int32)) fun (ra_10 : Nat → Int32) =>
  lt1 (To_passes' to_9 ra_10) fun (to_11 : ToS) =>
  some (to_11)
def f_X9_indexOf_L3 : Nat → (Int32) → (Int64) → (Int32) → (Nat → Int64) → Option (Int32)
  | 0, _, _, _, _ => none
  | n_ + 1, x1, x2, x4, ra =>
    if x1 ≤ x4 then
      some ((-1 : Int32))
    else
      if (8 : Int32) ≤ x4 then
        some ((-1 : Int32))
      else
        ck x4 8 <|
        if (lg_cmp (ra (Int32.toNatClampNeg x4)) x2) = 0 then
          some (x4)
        else
          lt1 (x4 + (1 : Int32)) fun (v_1 : Int32) =>
          f_X9_indexOf_L3 n_ x1 x2 v_1 ra
def f_X9_indexOf (ra : Nat → Int64) (p1 : Int32) (p2 : Int64) : Option (Int32) :=
  f_X9_indexOf_L3 FU p1 p2 (0 : Int32) ra
def f_X9_linkNamed (to : ToS) (p1 : Int64) : Option (Int32) :=
  bd1 (f_X9_indexOf (To_linkNames to) (To_links to) p1) fun (r_1 : Int32) =>
  some (r_1)
def f_X9_isPlace (p0 : Int32) (p1 : Int32) : Option (Int32) :=
  if p0 < 0 then
    some ((0 : Int32))
  else
    if (8 : Int32) ≤ p0 then
      some ((0 : Int32))
    else
      if p1 < 0 then
        some ((0 : Int32))
      else
        if (10 : Int32) ≤ p1 then
          some ((0 : Int32))
        else
          some ((1 : Int32))
def f_X9_passOn (to : ToS) (p1 : Int32) (p2 : Int32) : Option (Int32) :=
  bd1 (f_X9_isPlace p1 p2) fun (r_1 : Int32) =>
  if r_1 = 0 then
    some ((0 : Int32))
  else
    ck (((10 : Int32) * p1) + p2) 80 <|
    some ((To_passes to (Int32.toNatClampNeg (((10 : Int32) * p1) + p2))))
def f_X9_addPass_L42 (x1 : Int32) (x3 : Int32) (t1i : Int32) (t2i : Int32) (t3i : Int32) (to : ToS) : Option ((ToS)) :=
  ck t1i 80 <|
  lt1 (To_passes' to (upd (To_passes to) (Int32.toNatClampNeg t1i) (t2i + t3i))) fun (to_2 : ToS) =>
  if x3 = 0 then
    ck (To_crossings to_2) 7 <|
    lt1 (To_linkUnder' to_2 (upd (To_linkUnder to_2) (Int32.toNatClampNeg (To_crossings to_2)) x1)) fun (to_3 : ToS) =>
    some (to_3)
  else
    ck (To_crossings to_2) 7 <|
    lt1 (To_linkOver' to_2 (upd (To_linkOver to_2) (Int32.toNatClampNeg (To_crossings to_2)) x1)) fun (to_4 : ToS) =>
    some (to_4)
def f_X9_addPass (to : ToS) (p1 : Int32) (p2 : Int32) (p3 : Int32) : Option ((ToS)) :=
  bd1 (f_X9_isPlace p1 p2) fun (r_1 : Int32) =>
  if r_1 = 0 then
    some (to)
  else
    if (7 : Int32) ≤ (To_crossings to) then
      some (to)
    else
      if p3 = 0 then
        f_X9_addPass_L42 p1 p3 (((10 : Int32) * p1) + p2) ((2 : Int32) * (To_crossings to)) (1 : Int32) to
      else
        f_X9_addPass_L42 p1 p3 (((10 : Int32) * p1) + p2) ((2 : Int32) * (To_crossings to)) (2 : Int32) to
def f_X9_addCrossing_L28 (to : ToS) : Option ((ToS)) :=
  lt1 (To_crossings' to ((To_crossings to) + (1 : Int32))) fun (to_2 : ToS) =>
  some (to_2)
def f_X9_addCrossing (to : ToS) (p1 : Int32) : Option ((ToS)) :=
  if (7 : Int32) ≤ (To_crossings to) then
    some (to)
  else
    if p1 = 0 then
      f_X9_addCrossing_L28 to
    else
      lt1 (To_plus' to ((To_plus to) ||| ((1 : Int32) <<< ((To_crossings to) &&& 31)))) fun (to_1 : ToS) =>
      f_X9_addCrossing_L28 to_1
def f_X9_personNamed (to : ToS) (p1 : Int64) : Option (Int32) :=
  bd1 (f_X9_indexOf (To_personNames to) (To_people to) p1) fun (r_1 : Int32) =>
  some (r_1)
def f_X9_isHand (p0 : Int32) : Option (Int32) :=
  if p0 < 0 then
    some ((0 : Int32))
  else
    if (16 : Int32) ≤ p0 then
      some ((0 : Int32))
    else
      some ((1 : Int32))
def f_X9_isHeld (to : ToS) (p1 : Int32) : Option (Int32) :=
  bd1 (f_X9_isHand p1) fun (r_1 : Int32) =>
  if r_1 = 0 then
    some ((0 : Int32))
  else
    ck p1 16 <|
    if (To_linkIn to (Int32.toNatClampNeg p1)) = (-1 : Int32) then
      some ((0 : Int32))
    else
      some ((1 : Int32))
def f_X9_areHeld_L62 (x1 : Int32) (x2 : Int32) (x3 : Int32) (to : ToS) (k2 : (Int32) → (Int32) → (Int32) → (ToS) → Option (Int32)) : Option (Int32) :=
  lt1 (x3 + (1 : Int32)) fun (v_3 : Int32) =>
  k2 x1 x2 v_3 to
def f_X9_areHeld_L48 (x1 : Int32) (x2 : Int32) (x3 : Int32) (x4 : Int32) (x5 : Int32) (to : ToS) (k2 : (Int32) → (Int32) → (Int32) → (ToS) → Option (Int32)) : Option (Int32) :=
  if x4 = x2 then
    if x5 = x1 then
      some ((1 : Int32))
    else
      f_X9_areHeld_L62 x1 x2 x3 to k2
  else
    f_X9_areHeld_L62 x1 x2 x3 to k2
def f_X9_areHeld_L2 : Nat → (Int32) → (Int32) → (Int32) → (ToS) → Option (Int32)
  | 0, _, _, _, _ => none
  | n_ + 1, x1, x2, x3, to =>
    if (To_links to) ≤ x3 then
      some ((0 : Int32))
    else
      ck ((2 : Int32) * x3) 16 <|
      lt1 ((To_handAt to (Int32.toNatClampNeg ((2 : Int32) * x3))) / (2 : Int32)) fun (v_1 : Int32) =>
      ck (((2 : Int32) * x3) + (1 : Int32)) 16 <|
      lt1 ((To_handAt to (Int32.toNatClampNeg (((2 : Int32) * x3) + (1 : Int32)))) / (2 : Int32)) fun (v_2 : Int32) =>
      if v_1 = x1 then
        if v_2 = x2 then
          some ((1 : Int32))
        else
          f_X9_areHeld_L48 x1 x2 x3 v_1 v_2 to (fun y0 y1 y2 y3 => f_X9_areHeld_L2 n_ y0 y1 y2 y3)
      else
        f_X9_areHeld_L48 x1 x2 x3 v_1 v_2 to (fun y0 y1 y2 y3 => f_X9_areHeld_L2 n_ y0 y1 y2 y3)
def f_X9_areHeld (to : ToS) (p1 : Int32) (p2 : Int32) : Option (Int32) :=
  f_X9_areHeld_L2 FU p1 p2 (0 : Int32) to
def f_X9_addLink (to : ToS) (p1 : Int64) (p3 : Int32) (p4 : Int32) : Option ((ToS)) :=
  if (8 : Int32) ≤ (To_links to) then
    some (to)
  else
    bd1 (f_X9_isHand p3) fun (r_1 : Int32) =>
    if r_1 = 0 then
      some (to)
    else
      bd1 (f_X9_isHand p4) fun (r_2 : Int32) =>
      if r_2 = 0 then
        some (to)
      else
        ck (To_links to) 8 <|
        lt1 (To_linkNames' to (vp_updL (To_linkNames to) (Int32.toNatClampNeg (To_links to)) p1)) fun (to_3 : ToS) =>
        ck ((2 : Int32) * (To_links to_3)) 16 <|
        lt1 (To_handAt' to_3 (upd (To_handAt to_3) (Int32.toNatClampNeg ((2 : Int32) * (To_links to_3))) p3)) fun (to_4 : ToS) =>
        ck (((2 : Int32) * (To_links to_4)) + (1 : Int32)) 16 <|
        lt1 (To_handAt' to_4 (upd (To_handAt to_4) (Int32.toNatClampNeg (((2 : Int32) * (To_links to_4)) + (1 : Int32))) p4)) fun (to_5 : ToS) =>
        ck p3 16 <|
        lt1 (To_linkIn' to_5 (upd (To_linkIn to_5) (Int32.toNatClampNeg p3) (To_links to_5))) fun (to_6 : ToS) =>
        ck p4 16 <|
        lt1 (To_linkIn' to_6 (upd (To_linkIn to_6) (Int32.toNatClampNeg p4) (To_links to_6))) fun (to_7 : ToS) =>
        lt1 (To_links' to_7 ((To_links to_7) + (1 : Int32))) fun (to_8 : ToS) =>
        some (to_8)
def f_X9_addPerson (to : ToS) (p1 : Int64) (p3 : Int32) : Option ((ToS)) :=
  if (8 : Int32) ≤ (To_people to) then
    some (to)
  else
    ck (To_people to) 8 <|
    lt1 (To_personNames' to (vp_updL (To_personNames to) (Int32.toNatClampNeg (To_people to)) p1)) fun (to_1 : ToS) =>
    ck (To_people to_1) 8 <|
    lt1 (To_talls' to_1 (upd (To_talls to_1) (Int32.toNatClampNeg (To_people to_1)) p3)) fun (to_2 : ToS) =>
    lt1 (To_people' to_2 ((To_people to_2) + (1 : Int32))) fun (to_3 : ToS) =>
    some (to_3)
def f_X9_lacksSomething_L2 : Nat → (Int32) → (ToS) → Option (Int32)
  | 0, _, _ => none
  | n_ + 1, x1, to =>
    if ((2 : Int32) * (To_people to)) ≤ x1 then
      if (To_people to) = 0 then
        some ((1 : Int32))
      else
        some ((0 : Int32))
    else
      bd1 (f_X9_isHeld to x1) fun (r_1 : Int32) =>
      if r_1 = 0 then
        some ((1 : Int32))
      else
        lt1 (x1 + (1 : Int32)) fun (v_2 : Int32) =>
        f_X9_lacksSomething_L2 n_ v_2 to
def f_X9_lacksSomething (to : ToS) : Option (Int32) :=
  f_X9_lacksSomething_L2 FU (0 : Int32) to
def f_X8_spelling_L4 : Nat → (Int64) → (Int32) → (Nat) → Option (Int64)
  | 0, _, _, _ => none
  | n_ + 1, x1, x3, k0t =>
    bd1 (f_strlen k0t) fun (r_1 : Int32) =>
    if r_1 ≤ x3 then
      some (x1)
    else
      bd1 (f_charAt k0t x3) fun (r_2 : Int32) =>
      bd1 (f_X8_withLetter x1 r_2) fun (r_3 : Int64) =>
      lt1 (x3 + (1 : Int32)) fun (v_4 : Int32) =>
      f_X8_spelling_L4 n_ r_3 v_4 k0t
def f_X8_spelling (k0t : Nat) : Option (Int64) :=
  f_X8_spelling_L4 FU (0 : Int64) (0 : Int32) k0t
def f_X8_hasRoom (ta : TaS) : Option (Int32) :=
  if (900 : Int32) < ((Ta_filled ta) + (20 : Int32)) then
    some ((0 : Int32))
  else
    some ((1 : Int32))
def f_X8_take_L3 : Nat → (Int32) → (Int32) → (TaS) → Option ((TaS))
  | 0, _, _, _ => none
  | n_ + 1, x1, x2, ta =>
    if x2 < 0 then
      some (ta)
    else
      if (900 : Int32) ≤ (Ta_filled ta) then
        some (ta)
      else
        ck (Ta_filled ta) 900 <|
        lt1 (Ta_bytes' ta (upd (Ta_bytes ta) (Int32.toNatClampNeg (Ta_filled ta)) (((Int32.toUInt32 x1 >>> (Int32.toUInt32 x2 &&& Int32.toUInt32 31)).toInt32) &&& (255 : Int32)))) fun (ta_1 : TaS) =>
        lt1 (Ta_filled' ta_1 ((Ta_filled ta_1) + (1 : Int32))) fun (ta_2 : TaS) =>
        lt1 (x2 + (-8 : Int32)) fun (v_3 : Int32) =>
        f_X8_take_L3 n_ x1 v_3 ta_2
def f_X8_take (ta : TaS) (p1 : Int32) : Option ((TaS)) :=
  f_X8_take_L3 FU p1 (24 : Int32) ta
def f_X0_firstOf (p0 : Int32) : Option (Int32) :=
  if (100 : Int32) ≤ p0 then
    if (1000 : Int32) ≤ p0 then
      some (((p0 / (100 : Int32)) - (p0 / (100 : Int32)) / (10 : Int32) * (10 : Int32)))
    else
      some (((p0 - (100 : Int32)) / (10 : Int32)))
  else
    some (p0)
def f_X0_secondOf (p0 : Int32) : Option (Int32) :=
  if (1000 : Int32) ≤ p0 then
    some (((p0 / (10 : Int32)) - (p0 / (10 : Int32)) / (10 : Int32) * (10 : Int32)))
  else
    some ((p0 - p0 / (10 : Int32) * (10 : Int32)))
def f_X0_thirdOf (p0 : Int32) : Option (Int32) :=
  some ((p0 - p0 / (10 : Int32) * (10 : Int32)))
def f_X0_isNumber (p0 : Int32) (p1 : Int32) : Option (Int32) :=
  if p0 < 0 then
    some ((0 : Int32))
  else
    if p0 < (2000 : Int32) then
      if (100 : Int32) ≤ p0 then
        bd1 (f_X0_firstOf p0) fun (r_1 : Int32) =>
        bd1 (f_X0_secondOf p0) fun (r_2 : Int32) =>
        if (1000 : Int32) ≤ p0 then
          bd1 (f_X0_thirdOf p0) fun (r_3 : Int32) =>
          if p1 ≤ r_1 then
            some ((0 : Int32))
          else
            if p1 ≤ r_2 then
              some ((0 : Int32))
            else
              if p1 ≤ r_3 then
                some ((0 : Int32))
              else
                if r_1 = r_2 then
                  some ((0 : Int32))
                else
                  if r_1 = r_3 then
                    some ((0 : Int32))
                  else
                    if r_2 = r_3 then
                      some ((0 : Int32))
                    else
                      some ((1 : Int32))
        else
          if r_2 ≤ r_1 then
            some ((0 : Int32))
          else
            if p1 ≤ r_2 then
              some ((0 : Int32))
            else
              some ((1 : Int32))
      else
        if p1 ≤ p0 then
          some ((0 : Int32))
        else
          some ((1 : Int32))
    else
      some ((0 : Int32))
def f_X0_touchedBy_L22 (x0 : Int32) (x1 : Int32) : Option (Int32) :=
  if x0 < (1000 : Int32) then
    some (x1)
  else
    bd1 (f_X0_thirdOf x0) fun (r_5 : Int32) =>
    lt1 (x1 ||| ((1 : Int32) <<< (r_5 &&& 31))) fun (v_6 : Int32) =>
    some (v_6)
def f_X0_touchedBy (p0 : Int32) : Option (Int32) :=
  bd1 (f_X0_firstOf p0) fun (r_1 : Int32) =>
  lt1 ((1 : Int32) <<< (r_1 &&& 31)) fun (v_2 : Int32) =>
  if p0 < (100 : Int32) then
    f_X0_touchedBy_L22 p0 v_2
  else
    bd1 (f_X0_secondOf p0) fun (r_3 : Int32) =>
    lt1 (v_2 ||| ((1 : Int32) <<< (r_3 &&& 31))) fun (v_4 : Int32) =>
    f_X0_touchedBy_L22 p0 v_4
def f_X0_isOpen (bo : BoS) (ri : RiS) (p1 : Int32) : Option (Int32) :=
  if (Bo_parted bo) < 0 then
    some ((0 : Int32))
  else
    if (8 : Int32) ≤ (Bo_parted bo) then
      some ((0 : Int32))
    else
      ck (Bo_parted bo) 8 <|
      if (Ri_linkRing ri (Int32.toNatClampNeg (Bo_parted bo))) = p1 then
        some ((1 : Int32))
      else
        some ((0 : Int32))
def f_X0_join_L113 (x3 : Int32) (x4 : Int32) (x5 : Int32) (bo : BoS) : Option ((BoS)) :=
  if x5 = 0 then
    ck x3 10 <|
    ck x3 10 <|
    lt1 (Bo_overByUnder' bo (upd (Bo_overByUnder bo) (Int32.toNatClampNeg x3) ((Bo_overByUnder bo (Int32.toNatClampNeg x3)) ||| ((1 : Int32) <<< (x4 &&& 31))))) fun (bo_7 : BoS) =>
    some (bo_7)
  else
    ck x4 10 <|
    ck x4 10 <|
    lt1 (Bo_overByUnder' bo (upd (Bo_overByUnder bo) (Int32.toNatClampNeg x4) ((Bo_overByUnder bo (Int32.toNatClampNeg x4)) ||| ((1 : Int32) <<< (x3 &&& 31))))) fun (bo_8 : BoS) =>
    some (bo_8)
def f_X0_join_L74 (x3 : Int32) (x4 : Int32) (x5 : Int32) (x6 : Int32) (bo : BoS) : Option ((BoS)) :=
  if x5 = 0 then
    if x6 = 0 then
      ck x3 10 <|
      ck x3 10 <|
      lt1 (Bo_underByUnder' bo (upd (Bo_underByUnder bo) (Int32.toNatClampNeg x3) ((Bo_underByUnder bo (Int32.toNatClampNeg x3)) ||| ((1 : Int32) <<< (x4 &&& 31))))) fun (bo_5 : BoS) =>
      ck x4 10 <|
      ck x4 10 <|
      lt1 (Bo_underByUnder' bo_5 (upd (Bo_underByUnder bo_5) (Int32.toNatClampNeg x4) ((Bo_underByUnder bo_5 (Int32.toNatClampNeg x4)) ||| ((1 : Int32) <<< (x3 &&& 31))))) fun (bo_6 : BoS) =>
      some (bo_6)
    else
      f_X0_join_L113 x3 x4 x5 bo
  else
    f_X0_join_L113 x3 x4 x5 bo
def f_X0_join_L33 (x3 : Int32) (x4 : Int32) (x5 : Int32) (t0i : Int32) (bo : BoS) : Option ((BoS)) :=
  if x5 = 0 then
    f_X0_join_L74 x3 x4 x5 t0i bo
  else
    if t0i = 0 then
      f_X0_join_L74 x3 x4 x5 t0i bo
    else
      ck x3 10 <|
      ck x3 10 <|
      lt1 (Bo_overByOver' bo (upd (Bo_overByOver bo) (Int32.toNatClampNeg x3) ((Bo_overByOver bo (Int32.toNatClampNeg x3)) ||| ((1 : Int32) <<< (x4 &&& 31))))) fun (bo_3 : BoS) =>
      ck x4 10 <|
      ck x4 10 <|
      lt1 (Bo_overByOver' bo_3 (upd (Bo_overByOver bo_3) (Int32.toNatClampNeg x4) ((Bo_overByOver bo_3 (Int32.toNatClampNeg x4)) ||| ((1 : Int32) <<< (x3 &&& 31))))) fun (bo_4 : BoS) =>
      some (bo_4)
def f_X0_join_L20 (x2 : Int32) (x3 : Int32) (x4 : Int32) (t0i : Int32) (bo : BoS) : Option ((BoS)) :=
  if (x2 &&& (1 : Int32)) = 0 then
    f_X0_join_L33 x3 x4 t0i (0 : Int32) bo
  else
    f_X0_join_L33 x3 x4 t0i (1 : Int32) bo
def f_X0_join (bo : BoS) (p1 : Int32) (p2 : Int32) : Option ((BoS)) :=
  lt1 (p1 / (2 : Int32)) fun (v_1 : Int32) =>
  lt1 (p2 / (2 : Int32)) fun (v_2 : Int32) =>
  if (p1 &&& (1 : Int32)) = 0 then
    f_X0_join_L20 p2 v_1 v_2 (0 : Int32) bo
  else
    f_X0_join_L20 p2 v_1 v_2 (1 : Int32) bo
def f_X0_walkRound_L135 (x2 : Int32) (x3 : Int32) (x4 : Int32) (x5 : Int32) (x6 : Int32) (x7 : Int32) (x8 : Int32) (bo : BoS) (k59 : (Int32) → (Int32) → (Int32) → (Int32) → (Int32) → (Int32) → (Int32) → (BoS) → Option (Int32 × (BoS))) : Option (Int32 × (BoS)) :=
  lt1 (x6 + (1 : Int32)) fun (v_9 : Int32) =>
  lt1 (x8 + (1 : Int32)) fun (v_10 : Int32) =>
  k59 x2 x3 x4 x5 v_9 x7 v_10 bo
def f_X0_walkRound_L132 (x2 : Int32) (x3 : Int32) (x4 : Int32) (x5 : Int32) (x6 : Int32) (x7 : Int32) (x8 : Int32) (bo : BoS) (k59 : (Int32) → (Int32) → (Int32) → (Int32) → (Int32) → (Int32) → (Int32) → (BoS) → Option (Int32 × (BoS))) : Option (Int32 × (BoS)) :=
  lt1 (x7 + (1 : Int32)) fun (v_11 : Int32) =>
  f_X0_walkRound_L135 x2 x3 x4 x5 x6 v_11 x8 bo k59
def f_X0_walkRound_L76 (x2 : Int32) (x3 : Int32) (x4 : Int32) (x5 : Int32) (x6 : Int32) (x7 : Int32) (x8 : Int32) (bo : BoS) (k59 : (Int32) → (Int32) → (Int32) → (Int32) → (Int32) → (Int32) → (Int32) → (BoS) → Option (Int32 × (BoS))) : Option (Int32 × (BoS)) :=
  bd1 (f_X4_passAt (Bo_key bo) x6) fun (r_5 : Int32) =>
  if r_5 = (-1 : Int32) then
    f_X0_walkRound_L135 x2 x3 x4 x5 x6 x7 x8 bo k59
  else
    ck r_5 16 <|
    lt1 (Bo_standing' bo (upd (Bo_standing bo) (Int32.toNatClampNeg r_5) x6)) fun (bo_6 : BoS) =>
    ck x7 16 <|
    lt1 (Bo_walk' bo_6 (upd (Bo_walk bo_6) (Int32.toNatClampNeg x7) r_5)) fun (bo_7 : BoS) =>
    if x7 ≤ x2 then
      f_X0_walkRound_L132 x2 x3 x4 x5 x6 x7 x8 bo_7 k59
    else
      ck (x7 - (1 : Int32)) 16 <|
      bd1 (f_X0_join bo_7 (Bo_walk bo_7 (Int32.toNatClampNeg (x7 - (1 : Int32)))) r_5) fun (bo_8 : BoS) =>
      f_X0_walkRound_L132 x2 x3 x4 x5 x6 x7 x8 bo_8 k59
def f_X0_walkRound_L59 : Nat → (Int32) → (Int32) → (Int32) → (Int32) → (Int32) → (Int32) → (Int32) → (BoS) → Option (Int32 × (BoS))
  | 0, _, _, _, _, _, _, _, _ => none
  | n_ + 1, x2, x3, x4, x5, x6, x7, x8, bo =>
    if x4 ≤ x8 then
      if x5 = 0 then
        if (x7 - x2) ≤ (1 : Int32) then
          some (x7, bo)
        else
          ck (x7 - (1 : Int32)) 16 <|
          ck x2 16 <|
          bd1 (f_X0_join bo (Bo_walk bo (Int32.toNatClampNeg (x7 - (1 : Int32)))) (Bo_walk bo (Int32.toNatClampNeg x2))) fun (bo_4 : BoS) =>
          some (x7, bo_4)
      else
        some (x7, bo)
    else
      if x6 < x4 then
        f_X0_walkRound_L76 x2 x3 x4 x5 x6 x7 x8 bo (fun y0 y1 y2 y3 y4 y5 y6 y7 => f_X0_walkRound_L59 n_ y0 y1 y2 y3 y4 y5 y6 y7)
      else
        f_X0_walkRound_L76 x2 x3 x4 x5 x3 x7 x8 bo (fun y0 y1 y2 y3 y4 y5 y6 y7 => f_X0_walkRound_L59 n_ y0 y1 y2 y3 y4 y5 y6 y7)
def f_X0_walkRound_L51 (x2 : Int32) (x3 : Int32) (x4 : Int32) (x5 : Int32) (t0i : Int32) (bo : BoS) : Option (Int32 × (BoS)) :=
  f_X0_walkRound_L59 FU x2 x3 x4 x5 t0i x2 x3 bo
def f_X0_walkRound (bo : BoS) (ri : RiS) (p1 : Int32) (p2 : Int32) : Option (Int32 × (BoS)) :=
  ck p1 9 <|
  lt1 (Ri_firstStanding ri (Int32.toNatClampNeg p1)) fun (v_1 : Int32) =>
  ck (p1 + (1 : Int32)) 9 <|
  lt1 (Ri_firstStanding ri (Int32.toNatClampNeg (p1 + (1 : Int32)))) fun (v_2 : Int32) =>
  bd1 (f_X0_isOpen bo ri p1) fun (r_3 : Int32) =>
  if r_3 = 0 then
    f_X0_walkRound_L51 p2 v_1 v_2 r_3 v_1 bo
  else
    ck (Bo_parted bo) 8 <|
    f_X0_walkRound_L51 p2 v_1 v_2 r_3 (Ri_linkStart ri (Int32.toNatClampNeg (Bo_parted bo))) bo
def f_X0_has (p0 : Int32) (p1 : Int32) : Option (Int32) :=
  if ((p0 >>> (p1 &&& 31)) &&& (1 : Int32)) = 0 then
    some ((0 : Int32))
  else
    some ((1 : Int32))
def f_X0_addNumber (bo : BoS) (p1 : Int32) : Option ((BoS)) :=
  if (256 : Int32) ≤ (Bo_count bo) then
    some (bo)
  else
    ck (Bo_count bo) 256 <|
    lt1 (Bo_numbers' bo (upd (Bo_numbers bo) (Int32.toNatClampNeg (Bo_count bo)) p1)) fun (bo_1 : BoS) =>
    lt1 (Bo_count' bo_1 ((Bo_count bo_1) + (1 : Int32))) fun (bo_2 : BoS) =>
    some (bo_2)
def f_X0_listTurn (bo : BoS) (p1 : Int32) : Option ((BoS)) :=
  ck p1 10 <|
  bd1 (f_X0_has (Bo_overByUnder bo (Int32.toNatClampNeg p1)) p1) fun (r_1 : Int32) =>
  if r_1 = 0 then
    some (bo)
  else
    bd1 (f_X0_addNumber bo p1) fun (bo_2 : BoS) =>
    some (bo_2)
def f_X0_slipsWith_L24 (x1 : Int32) (t0i : Int32) (bo : BoS) : Option (Int32) :=
  ck x1 10 <|
  ck x1 10 <|
  some ((((Bo_overByOver bo (Int32.toNatClampNeg x1)) &&& (Bo_underByUnder bo (Int32.toNatClampNeg x1))) &&& t0i))
def f_X0_slipsWith (bo : BoS) (p1 : Int32) : Option (Int32) :=
  bd1 (f_X0_has (Bo_plus bo) p1) fun (r_1 : Int32) =>
  if r_1 = 0 then
    f_X0_slipsWith_L24 p1 (Bo_plus bo) bo
  else
    f_X0_slipsWith_L24 p1 ((Bo_plus bo) ^^^ (-1 : Int32)) bo
def f_X0_lowLink_L38 (t1i : Int32) (ri : RiS) : Option (Int32) :=
  ck t1i 16 <|
  some ((Ri_standingLink ri (Int32.toNatClampNeg t1i)))
def f_X0_lowLink (bo : BoS) (ri : RiS) (p1 : Int32) (p2 : Int32) : Option (Int32) :=
  ck ((2 : Int32) * p1) 16 <|
  lt1 (Bo_standing bo (Int32.toNatClampNeg ((2 : Int32) * p1))) fun (v_1 : Int32) =>
  ck ((2 : Int32) * p2) 16 <|
  lt1 (Bo_standing bo (Int32.toNatClampNeg ((2 : Int32) * p2))) fun (v_2 : Int32) =>
  if v_2 ≤ v_1 then
    f_X0_lowLink_L38 v_2 ri
  else
    f_X0_lowLink_L38 v_1 ri
def f_X0_fits (bo : BoS) (ri : RiS) (p1 : Int32) (p2 : Int32) : Option (Int32) :=
  bd1 (f_X0_lowLink bo ri p1 p2) fun (r_1 : Int32) =>
  ck r_1 8 <|
  zb (Ri_linkFits ri (Int32.toNatClampNeg r_1)) <|
  some ((Ri_linkFits ri (Int32.toNatClampNeg r_1)))
def f_X0_listSlips_L55 (x1 : Int32) (x2 : Int32) (x3 : Int32) (bo : BoS) (ri : RiS) (k10 : (Int32) → (Int32) → (Int32) → (BoS) → (RiS) → Option ((BoS))) : Option ((BoS)) :=
  lt1 (x3 + (1 : Int32)) fun (v_6 : Int32) =>
  k10 x1 x2 v_6 bo ri
def f_X0_listSlips_L10 : Nat → (Int32) → (Int32) → (Int32) → (BoS) → (RiS) → Option ((BoS))
  | 0, _, _, _, _, _ => none
  | n_ + 1, x1, x2, x3, bo, ri =>
    if x2 = 0 then
      some (bo)
    else
      if (Ri_crossings ri) ≤ x3 then
        some (bo)
      else
        bd1 (f_X0_has x2 x3) fun (r_3 : Int32) =>
        if r_3 = 0 then
          f_X0_listSlips_L55 x1 x2 x3 bo ri (fun y0 y1 y2 y3 y4 => f_X0_listSlips_L10 n_ y0 y1 y2 y3 y4)
        else
          bd1 (f_X0_fits bo ri x1 x3) fun (r_4 : Int32) =>
          if r_4 = 0 then
            f_X0_listSlips_L55 x1 x2 x3 bo ri (fun y0 y1 y2 y3 y4 => f_X0_listSlips_L10 n_ y0 y1 y2 y3 y4)
          else
            bd1 (f_X0_addNumber bo (((100 : Int32) + ((10 : Int32) * x1)) + x3)) fun (bo_5 : BoS) =>
            f_X0_listSlips_L55 x1 x2 x3 bo_5 ri (fun y0 y1 y2 y3 y4 => f_X0_listSlips_L10 n_ y0 y1 y2 y3 y4)
def f_X0_listSlips (bo : BoS) (ri : RiS) (p1 : Int32) : Option ((BoS)) :=
  bd1 (f_X0_slipsWith bo p1) fun (r_1 : Int32) =>
  lt1 (p1 + (1 : Int32)) fun (v_2 : Int32) =>
  f_X0_listSlips_L10 FU p1 r_1 v_2 bo ri
def f_X0_stepsWith (bo : BoS) (p1 : Int32) (p2 : Int32) : Option (Int32) :=
  ck p1 10 <|
  ck p2 10 <|
  some (((((Bo_overByUnder bo (Int32.toNatClampNeg p1)) &&& (Bo_underByUnder bo (Int32.toNatClampNeg p2))) &&& (((1 : Int32) <<< (p1 &&& 31)) ^^^ (-1 : Int32))) &&& (((1 : Int32) <<< (p2 &&& 31)) ^^^ (-1 : Int32))))
def f_X0_listSteps_L119 (x1 : Int32) (x2 : Int32) (x3 : Int32) (x4 : Int32) (bo : BoS) (ri : RiS) (k64 : (Int32) → (Int32) → (Int32) → (Int32) → (BoS) → (RiS) → Option ((BoS))) : Option ((BoS)) :=
  lt1 (x4 + (1 : Int32)) fun (v_7 : Int32) =>
  k64 x1 x2 x3 v_7 bo ri
def f_X0_listSteps_L125 (x1 : Int32) (x2 : Int32) (bo : BoS) (ri : RiS) (k21 : (Int32) → (Int32) → (BoS) → (RiS) → Option ((BoS))) : Option ((BoS)) :=
  lt1 (x2 + (1 : Int32)) fun (v_6 : Int32) =>
  k21 x1 v_6 bo ri
def f_X0_listSteps_L64 : Nat → (Int32) → (Int32) → (Int32) → (Int32) → (BoS) → (RiS) → ((Int32) → (Int32) → (BoS) → (RiS) → Option ((BoS))) → Option ((BoS))
  | 0, _, _, _, _, _, _, _ => none
  | n_ + 1, x1, x2, x3, x4, bo, ri, k21 =>
    if x3 = 0 then
      f_X0_listSteps_L125 x1 x2 bo ri k21
    else
      if (Ri_crossings ri) ≤ x4 then
        f_X0_listSteps_L125 x1 x2 bo ri k21
      else
        bd1 (f_X0_has x3 x4) fun (r_3 : Int32) =>
        if r_3 = 0 then
          f_X0_listSteps_L119 x1 x2 x3 x4 bo ri (fun y0 y1 y2 y3 y4 y5 => f_X0_listSteps_L64 n_ y0 y1 y2 y3 y4 y5 k21)
        else
          bd1 (f_X0_fits bo ri x2 x4) fun (r_4 : Int32) =>
          if r_4 = 0 then
            f_X0_listSteps_L119 x1 x2 x3 x4 bo ri (fun y0 y1 y2 y3 y4 y5 => f_X0_listSteps_L64 n_ y0 y1 y2 y3 y4 y5 k21)
          else
            bd1 (f_X0_addNumber bo ((((1000 : Int32) + ((100 : Int32) * x1)) + ((10 : Int32) * x2)) + x4)) fun (bo_5 : BoS) =>
            f_X0_listSteps_L119 x1 x2 x3 x4 bo_5 ri (fun y0 y1 y2 y3 y4 y5 => f_X0_listSteps_L64 n_ y0 y1 y2 y3 y4 y5 k21)
def f_X0_listSteps_L60 (x1 : Int32) (x2 : Int32) (t0i : Int32) (bo : BoS) (ri : RiS) (k21 : (Int32) → (Int32) → (BoS) → (RiS) → Option ((BoS))) : Option ((BoS)) :=
  f_X0_listSteps_L64 FU x1 x2 t0i (0 : Int32) bo ri k21
def f_X0_listSteps_L59 (x1 : Int32) (x2 : Int32) (bo : BoS) (ri : RiS) (k21 : (Int32) → (Int32) → (BoS) → (RiS) → Option ((BoS))) : Option ((BoS)) :=
  f_X0_listSteps_L60 x1 x2 (0 : Int32) bo ri k21
def f_X0_listSteps_L21 : Nat → (Int32) → (Int32) → (BoS) → (RiS) → Option ((BoS))
  | 0, _, _, _, _ => none
  | n_ + 1, x1, x2, bo, ri =>
    if (Ri_crossings ri) ≤ x2 then
      some (bo)
    else
      ck x1 10 <|
      bd1 (f_X0_has (Bo_overByOver bo (Int32.toNatClampNeg x1)) x2) fun (r_1 : Int32) =>
      if r_1 = 0 then
        f_X0_listSteps_L59 x1 x2 bo ri (fun y0 y1 y2 y3 => f_X0_listSteps_L21 n_ y0 y1 y2 y3)
      else
        if x2 = x1 then
          f_X0_listSteps_L59 x1 x2 bo ri (fun y0 y1 y2 y3 => f_X0_listSteps_L21 n_ y0 y1 y2 y3)
        else
          bd1 (f_X0_stepsWith bo x1 x2) fun (r_2 : Int32) =>
          f_X0_listSteps_L60 x1 x2 r_2 bo ri (fun y0 y1 y2 y3 => f_X0_listSteps_L21 n_ y0 y1 y2 y3)
def f_X0_listSteps (bo : BoS) (ri : RiS) (p1 : Int32) : Option ((BoS)) :=
  ck p1 10 <|
  if (Bo_overByOver bo (Int32.toNatClampNeg p1)) = 0 then
    some (bo)
  else
    ck p1 10 <|
    if (Bo_overByUnder bo (Int32.toNatClampNeg p1)) = 0 then
      some (bo)
    else
      f_X0_listSteps_L21 FU p1 (0 : Int32) bo ri
def f_X0_layOut_L210 : Nat → (Int32) → (BoS) → (RiS) → Option ((BoS))
  | 0, _, _, _ => none
  | n_ + 1, x6, bo, ri =>
    if (Ri_crossings ri) ≤ x6 then
      some (bo)
    else
      bd1 (f_X0_listSteps bo ri x6) fun (bo_21 : BoS) =>
      lt1 (x6 + (1 : Int32)) fun (v_22 : Int32) =>
      f_X0_layOut_L210 n_ v_22 bo_21 ri
def f_X0_layOut_L183 : Nat → (Int32) → (BoS) → (RiS) → Option ((BoS))
  | 0, _, _, _ => none
  | n_ + 1, x6, bo, ri =>
    if (Ri_crossings ri) ≤ x6 then
      f_X0_layOut_L210 FU (0 : Int32) bo ri
    else
      bd1 (f_X0_listSlips bo ri x6) fun (bo_19 : BoS) =>
      lt1 (x6 + (1 : Int32)) fun (v_20 : Int32) =>
      f_X0_layOut_L183 n_ v_20 bo_19 ri
def f_X0_layOut_L156 : Nat → (Int32) → (BoS) → (RiS) → Option ((BoS))
  | 0, _, _, _ => none
  | n_ + 1, x6, bo, ri =>
    if (Ri_crossings ri) ≤ x6 then
      f_X0_layOut_L183 FU (0 : Int32) bo ri
    else
      bd1 (f_X0_listTurn bo x6) fun (bo_17 : BoS) =>
      lt1 (x6 + (1 : Int32)) fun (v_18 : Int32) =>
      f_X0_layOut_L156 n_ v_18 bo_17 ri
def f_X0_layOut_L89 : Nat → (Int32) → (Int32) → (BoS) → (RiS) → Option ((BoS))
  | 0, _, _, _, _ => none
  | n_ + 1, x5, x6, bo, ri =>
    if (Ri_count ri) ≤ x6 then
      ck (Ri_count ri) 9 <|
      lt1 (Bo_walkStart' bo (upd (Bo_walkStart bo) (Int32.toNatClampNeg (Ri_count ri)) x5)) fun (bo_10 : BoS) =>
      lt1 (Bo_left' bo_10 (x5 / (2 : Int32))) fun (bo_11 : BoS) =>
      lt1 (Bo_count' bo_11 (0 : Int32)) fun (bo_12 : BoS) =>
      f_X0_layOut_L156 FU (0 : Int32) bo_12 ri
    else
      ck x6 9 <|
      lt1 (Bo_walkStart' bo (upd (Bo_walkStart bo) (Int32.toNatClampNeg x6) x5)) fun (bo_13 : BoS) =>
      bd2 (f_X0_walkRound bo_13 ri x6 x5) fun (r_14 : Int32) (bo_15 : BoS) =>
      lt1 (x6 + (1 : Int32)) fun (v_16 : Int32) =>
      f_X0_layOut_L89 n_ r_14 v_16 bo_15 ri
def f_X0_layOut_L19 : Nat → (Int32) → (BoS) → (RiS) → Option ((BoS))
  | 0, _, _, _ => none
  | n_ + 1, x5, bo, ri =>
    if (Ri_crossings ri) ≤ x5 then
      f_X0_layOut_L89 FU (0 : Int32) (0 : Int32) bo ri
    else
      ck ((2 : Int32) * x5) 16 <|
      lt1 (Bo_standing' bo (upd (Bo_standing bo) (Int32.toNatClampNeg ((2 : Int32) * x5)) (-1 : Int32))) fun (bo_4 : BoS) =>
      ck (((2 : Int32) * x5) + (1 : Int32)) 16 <|
      lt1 (Bo_standing' bo_4 (upd (Bo_standing bo_4) (Int32.toNatClampNeg (((2 : Int32) * x5) + (1 : Int32))) (-1 : Int32))) fun (bo_5 : BoS) =>
      ck x5 10 <|
      lt1 (Bo_overByOver' bo_5 (upd (Bo_overByOver bo_5) (Int32.toNatClampNeg x5) (0 : Int32))) fun (bo_6 : BoS) =>
      ck x5 10 <|
      lt1 (Bo_overByUnder' bo_6 (upd (Bo_overByUnder bo_6) (Int32.toNatClampNeg x5) (0 : Int32))) fun (bo_7 : BoS) =>
      ck x5 10 <|
      lt1 (Bo_underByUnder' bo_7 (upd (Bo_underByUnder bo_7) (Int32.toNatClampNeg x5) (0 : Int32))) fun (bo_8 : BoS) =>
      lt1 (x5 + (1 : Int32)) fun (v_9 : Int32) =>
      f_X0_layOut_L19 n_ v_9 bo_8 ri
def f_X0_layOut (bo : BoS) (ri : RiS) (p1 : Int64) (p3 : Int32) (p4 : Int32) : Option ((BoS)) :=
  lt1 (Bo_key' bo p1) fun (bo_1 : BoS) =>
  lt1 (Bo_plus' bo_1 p3) fun (bo_2 : BoS) =>
  lt1 (Bo_parted' bo_2 p4) fun (bo_3 : BoS) =>
  f_X0_layOut_L19 FU (0 : Int32) bo_3 ri
def f_X0_lay (bo : BoS) (mo : MoS) (ri : RiS) : Option ((BoS)) :=
  bd1 (f_X0_layOut bo ri (Mo_key mo) (Mo_plus mo) (Mo_parted mo)) fun (bo_1 : BoS) =>
  some (bo_1)
def f_X0_isLeft (bo : BoS) (p1 : Int32) : Option (Int32) :=
  ck ((2 : Int32) * p1) 16 <|
  if (Bo_standing bo (Int32.toNatClampNeg ((2 : Int32) * p1))) = (-1 : Int32) then
    some ((0 : Int32))
  else
    some ((1 : Int32))
def f_X0_signOf (bo : BoS) (p1 : Int32) : Option (Int32) :=
  bd1 (f_X0_isLeft bo p1) fun (r_1 : Int32) =>
  if r_1 = 0 then
    some ((0 : Int32))
  else
    bd1 (f_X0_has (Bo_plus bo) p1) fun (r_2 : Int32) =>
    if r_2 = 0 then
      some ((-1 : Int32))
    else
      some ((1 : Int32))
def f_X0_ringOfPass (bo : BoS) (ri : RiS) (p1 : Int32) : Option (Int32) :=
  ck p1 16 <|
  ck (Bo_standing bo (Int32.toNatClampNeg p1)) 16 <|
  ck (Ri_standingLink ri (Int32.toNatClampNeg (Bo_standing bo (Int32.toNatClampNeg p1)))) 8 <|
  some ((Ri_linkRing ri (Int32.toNatClampNeg (Ri_standingLink ri (Int32.toNatClampNeg (Bo_standing bo (Int32.toNatClampNeg p1)))))))
def f_X0_signsBetween_L81 (x1 : Int32) (x2 : Int32) (x3 : Int32) (x4 : Int32) (bo : BoS) (ri : RiS) (k5 : (Int32) → (Int32) → (Int32) → (Int32) → (BoS) → (RiS) → Option (Int32)) : Option (Int32) :=
  lt1 (x4 + (1 : Int32)) fun (v_4 : Int32) =>
  k5 x1 x2 x3 v_4 bo ri
def f_X0_signsBetween_L72 (x1 : Int32) (x2 : Int32) (x3 : Int32) (x4 : Int32) (bo : BoS) (ri : RiS) (k5 : (Int32) → (Int32) → (Int32) → (Int32) → (BoS) → (RiS) → Option (Int32)) : Option (Int32) :=
  bd1 (f_X0_signOf bo x4) fun (r_5 : Int32) =>
  lt1 (x3 + r_5) fun (v_6 : Int32) =>
  f_X0_signsBetween_L81 x1 x2 v_6 x4 bo ri k5
def f_X0_signsBetween_L60 (x1 : Int32) (x2 : Int32) (x3 : Int32) (x4 : Int32) (x5 : Int32) (x6 : Int32) (bo : BoS) (ri : RiS) (k5 : (Int32) → (Int32) → (Int32) → (Int32) → (BoS) → (RiS) → Option (Int32)) : Option (Int32) :=
  if x5 = x2 then
    if x6 = x1 then
      f_X0_signsBetween_L72 x1 x2 x3 x4 bo ri k5
    else
      f_X0_signsBetween_L81 x1 x2 x3 x4 bo ri k5
  else
    f_X0_signsBetween_L81 x1 x2 x3 x4 bo ri k5
def f_X0_signsBetween_L5 : Nat → (Int32) → (Int32) → (Int32) → (Int32) → (BoS) → (RiS) → Option (Int32)
  | 0, _, _, _, _, _, _ => none
  | n_ + 1, x1, x2, x3, x4, bo, ri =>
    if (Ri_crossings ri) ≤ x4 then
      some (x3)
    else
      bd1 (f_X0_isLeft bo x4) fun (r_1 : Int32) =>
      if r_1 = 0 then
        f_X0_signsBetween_L81 x1 x2 x3 x4 bo ri (fun y0 y1 y2 y3 y4 y5 => f_X0_signsBetween_L5 n_ y0 y1 y2 y3 y4 y5)
      else
        bd1 (f_X0_ringOfPass bo ri ((2 : Int32) * x4)) fun (r_2 : Int32) =>
        bd1 (f_X0_ringOfPass bo ri (((2 : Int32) * x4) + (1 : Int32))) fun (r_3 : Int32) =>
        if r_2 = x1 then
          if r_3 = x2 then
            f_X0_signsBetween_L72 x1 x2 x3 x4 bo ri (fun y0 y1 y2 y3 y4 y5 => f_X0_signsBetween_L5 n_ y0 y1 y2 y3 y4 y5)
          else
            f_X0_signsBetween_L60 x1 x2 x3 x4 r_2 r_3 bo ri (fun y0 y1 y2 y3 y4 y5 => f_X0_signsBetween_L5 n_ y0 y1 y2 y3 y4 y5)
        else
          f_X0_signsBetween_L60 x1 x2 x3 x4 r_2 r_3 bo ri (fun y0 y1 y2 y3 y4 y5 => f_X0_signsBetween_L5 n_ y0 y1 y2 y3 y4 y5)
def f_X0_signsBetween (bo : BoS) (ri : RiS) (p1 : Int32) (p2 : Int32) : Option (Int32) :=
  f_X0_signsBetween_L5 FU p1 p2 (0 : Int32) (0 : Int32) bo ri
def f_X0_seenBy_L82 (x1 : Int32) (x2 : Int32) (x3 : Int32) (bo : BoS) (ri : RiS) (k4 : (Int32) → (Int32) → (Int32) → (BoS) → (RiS) → Option (Int32)) : Option (Int32) :=
  lt1 (x3 + (1 : Int32)) fun (v_3 : Int32) =>
  k4 x1 x2 v_3 bo ri
def f_X0_seenBy_L69 (x1 : Int32) (x2 : Int32) (x3 : Int32) (bo : BoS) (ri : RiS) (k4 : (Int32) → (Int32) → (Int32) → (BoS) → (RiS) → Option (Int32)) : Option (Int32) :=
  ck x3 16 <|
  lt1 (x2 ||| ((1 : Int32) <<< (((Bo_walk bo (Int32.toNatClampNeg x3)) / (2 : Int32)) &&& 31))) fun (v_2 : Int32) =>
  f_X0_seenBy_L82 x1 v_2 x3 bo ri k4
def f_X0_seenBy_L4 : Nat → (Int32) → (Int32) → (Int32) → (BoS) → (RiS) → Option (Int32)
  | 0, _, _, _, _, _ => none
  | n_ + 1, x1, x2, x3, bo, ri =>
    if ((2 : Int32) * (Bo_left bo)) ≤ x3 then
      some (x2)
    else
      ck x3 16 <|
      ck (Bo_walk bo (Int32.toNatClampNeg x3)) 16 <|
      ck (Bo_standing bo (Int32.toNatClampNeg (Bo_walk bo (Int32.toNatClampNeg x3)))) 16 <|
      lt1 (Ri_standingLink ri (Int32.toNatClampNeg (Bo_standing bo (Int32.toNatClampNeg (Bo_walk bo (Int32.toNatClampNeg x3)))))) fun (v_1 : Int32) =>
      ck ((2 : Int32) * x1) 16 <|
      if v_1 = (Ri_linkIn ri (Int32.toNatClampNeg ((2 : Int32) * x1))) then
        f_X0_seenBy_L69 x1 x2 x3 bo ri (fun y0 y1 y2 y3 y4 => f_X0_seenBy_L4 n_ y0 y1 y2 y3 y4)
      else
        ck (((2 : Int32) * x1) + (1 : Int32)) 16 <|
        if v_1 = (Ri_linkIn ri (Int32.toNatClampNeg (((2 : Int32) * x1) + (1 : Int32)))) then
          f_X0_seenBy_L69 x1 x2 x3 bo ri (fun y0 y1 y2 y3 y4 => f_X0_seenBy_L4 n_ y0 y1 y2 y3 y4)
        else
          f_X0_seenBy_L82 x1 x2 x3 bo ri (fun y0 y1 y2 y3 y4 => f_X0_seenBy_L4 n_ y0 y1 y2 y3 y4)
def f_X0_seenBy (bo : BoS) (ri : RiS) (p1 : Int32) : Option (Int32) :=
  f_X0_seenBy_L4 FU p1 (0 : Int32) (0 : Int32) bo ri
def f_X0_can (bo : BoS) (p1 : Int32) : Option (Int32) :=
  bd1 (f_X0_firstOf p1) fun (r_1 : Int32) =>
  bd1 (f_X0_secondOf p1) fun (r_2 : Int32) =>
  if (100 : Int32) ≤ p1 then
    if (1000 : Int32) ≤ p1 then
      ck r_1 10 <|
      bd1 (f_X0_has (Bo_overByOver bo (Int32.toNatClampNeg r_1)) r_2) fun (r_3 : Int32) =>
      if r_3 = 0 then
        some ((0 : Int32))
      else
        bd1 (f_X0_stepsWith bo r_1 r_2) fun (r_4 : Int32) =>
        bd1 (f_X0_thirdOf p1) fun (r_5 : Int32) =>
        bd1 (f_X0_has r_4 r_5) fun (r_6 : Int32) =>
        if r_6 = 0 then
          some ((0 : Int32))
        else
          some ((1 : Int32))
    else
      bd1 (f_X0_slipsWith bo r_1) fun (r_7 : Int32) =>
      bd1 (f_X0_has r_7 r_2) fun (r_8 : Int32) =>
      zb r_8 <|
      some (r_8)
  else
    ck r_1 10 <|
    bd1 (f_X0_has (Bo_overByUnder bo (Int32.toNatClampNeg r_1)) r_1) fun (r_9 : Int32) =>
    zb r_9 <|
    some (r_9)
def f_X0_goerLink_L37 (x2 : Int32) (t0i : Int32) (bo : BoS) (ri : RiS) : Option (Int32) :=
  bd1 (f_X0_lowLink bo ri x2 t0i) fun (r_5 : Int32) =>
  some (r_5)
def f_X0_goerLink_L18 (x1 : Int32) (t0i : Int32) (bo : BoS) (ri : RiS) : Option (Int32) :=
  if (1000 : Int32) ≤ x1 then
    bd1 (f_X0_thirdOf x1) fun (r_3 : Int32) =>
    f_X0_goerLink_L37 t0i r_3 bo ri
  else
    bd1 (f_X0_secondOf x1) fun (r_4 : Int32) =>
    f_X0_goerLink_L37 t0i r_4 bo ri
def f_X0_goerLink (bo : BoS) (ri : RiS) (p1 : Int32) : Option (Int32) :=
  if (1000 : Int32) ≤ p1 then
    bd1 (f_X0_secondOf p1) fun (r_1 : Int32) =>
    f_X0_goerLink_L18 p1 r_1 bo ri
  else
    bd1 (f_X0_firstOf p1) fun (r_2 : Int32) =>
    f_X0_goerLink_L18 p1 r_2 bo ri
def f_X0_allows (bo : BoS) (ri : RiS) (p1 : Int32) : Option (Int32) :=
  bd1 (f_X0_can bo p1) fun (r_1 : Int32) =>
  if r_1 = 0 then
    some ((0 : Int32))
  else
    if p1 < (100 : Int32) then
      some ((1 : Int32))
    else
      bd1 (f_X0_goerLink bo ri p1) fun (r_2 : Int32) =>
      ck r_2 8 <|
      if (Ri_linkFits ri (Int32.toNatClampNeg r_2)) = 0 then
        some ((0 : Int32))
      else
        some ((1 : Int32))
def f_X0_whoGoes (bo : BoS) (ri : RiS) (p1 : Int32) : Option (Int32) :=
  if (100 : Int32) ≤ p1 then
    bd1 (f_X0_goerLink bo ri p1) fun (r_1 : Int32) =>
    ck r_1 8 <|
    some ((Ri_linkGoer ri (Int32.toNatClampNeg r_1)))
  else
    some ((-2 : Int32))
def f_X0_leftBehind (bo : BoS) (p1 : Int32) : Option (Int32) :=
  if (100 : Int32) ≤ p1 then
    if (1000 : Int32) ≤ p1 then
      some ((Bo_left bo))
    else
      some (((Bo_left bo) - (2 : Int32)))
  else
    some (((Bo_left bo) - (1 : Int32)))
def f_X0_drawn (bo : BoS) (p1 : Int32) : Option (Int32) :=
  if (Bo_count bo) = 0 then
    some ((-2 : Int32))
  else
    nz (Bo_count bo) <|
    ck (p1 - p1 / (Bo_count bo) * (Bo_count bo)) 256 <|
    some ((Bo_numbers bo (Int32.toNatClampNeg (p1 - p1 / (Bo_count bo) * (Bo_count bo)))))
def f_X0_exchange (bo : BoS) (p1 : Int32) (p2 : Int32) : Option (Int64) :=
  lt1 (Int32.toInt64 ((p1 + (1 : Int32)) ^^^ (p2 + (1 : Int32)))) fun (v_1 : Int64) =>
  ck p1 16 <|
  ck p2 16 <|
  some (((v_1 <<< (Int32.toInt64 ((4 : Int32) * (Bo_standing bo (Int32.toNatClampNeg p1))) &&& 63)) ||| (v_1 <<< (Int32.toInt64 ((4 : Int32) * (Bo_standing bo (Int32.toNatClampNeg p2))) &&& 63))))
def f_X0_placesOf (bo : BoS) (p1 : Int32) : Option (Int64) :=
  ck ((2 : Int32) * p1) 16 <|
  ck (((2 : Int32) * p1) + (1 : Int32)) 16 <|
  some ((((15 : Int64) <<< (Int32.toInt64 ((4 : Int32) * (Bo_standing bo (Int32.toNatClampNeg ((2 : Int32) * p1)))) &&& 63)) ||| ((15 : Int64) <<< (Int32.toInt64 ((4 : Int32) * (Bo_standing bo (Int32.toNatClampNeg (((2 : Int32) * p1) + (1 : Int32))))) &&& 63))))
def f_X0_after (bo : BoS) (p1 : Int32) : Option (Int64) :=
  bd1 (f_X0_firstOf p1) fun (r_1 : Int32) =>
  bd1 (f_X0_secondOf p1) fun (r_2 : Int32) =>
  if (100 : Int32) ≤ p1 then
    if (1000 : Int32) ≤ p1 then
      bd1 (f_X0_thirdOf p1) fun (r_3 : Int32) =>
      bd1 (f_X0_exchange bo (((2 : Int32) * r_1) + (1 : Int32)) (((2 : Int32) * r_2) + (1 : Int32))) fun (r_4 : Int64) =>
      bd1 (f_X0_exchange bo ((2 : Int32) * r_1) (((2 : Int32) * r_3) + (1 : Int32))) fun (r_5 : Int64) =>
      bd1 (f_X0_exchange bo ((2 : Int32) * r_2) ((2 : Int32) * r_3)) fun (r_6 : Int64) =>
      some (((((Bo_key bo) ^^^ r_4) ^^^ r_5) ^^^ r_6))
    else
      bd1 (f_X0_placesOf bo r_1) fun (r_7 : Int64) =>
      bd1 (f_X0_placesOf bo r_2) fun (r_8 : Int64) =>
      some ((((Bo_key bo) &&& (r_7 ^^^ (-1 : Int64))) &&& (r_8 ^^^ (-1 : Int64))))
  else
    bd1 (f_X0_placesOf bo r_1) fun (r_9 : Int64) =>
    some (((Bo_key bo) &&& (r_9 ^^^ (-1 : Int64))))
def f_X0_make (bo : BoS) (ri : RiS) (p1 : Int32) : Option ((BoS)) :=
  bd1 (f_X0_after bo p1) fun (r_1 : Int64) =>
  bd1 (f_X0_layOut bo ri r_1 (Bo_plus bo) (Bo_parted bo)) fun (bo_2 : BoS) =>
  some (bo_2)
def f_X6_ringWith (ri : RiS) (p1 : Int32) : Option (Int32) :=
  ck ((2 : Int32) * p1) 16 <|
  lt1 (Ri_linkIn ri (Int32.toNatClampNeg ((2 : Int32) * p1))) fun (v_1 : Int32) =>
  if 0 ≤ v_1 then
    ck v_1 8 <|
    some ((Ri_linkRing ri (Int32.toNatClampNeg v_1)))
  else
    some ((-1 : Int32))
def f_X6_peopleIn (ri : RiS) (p1 : Int32) : Option (Int32) :=
  if p1 < 0 then
    some ((0 : Int32))
  else
    if (Ri_count ri) ≤ p1 then
      some ((0 : Int32))
    else
      ck (p1 + (1 : Int32)) 9 <|
      ck p1 9 <|
      some (((Ri_firstMember ri (Int32.toNatClampNeg (p1 + (1 : Int32)))) - (Ri_firstMember ri (Int32.toNatClampNeg p1))))
def f_X6_traceHands_L119 (t1i : Int32) (t2i : Int32) (ri : RiS) : Option ((RiS)) :=
  ck t1i 8 <|
  lt1 (Ri_linkFits' ri (upd (Ri_linkFits ri) (Int32.toNatClampNeg t1i) (vp_nar .boolean t2i))) fun (ri_8 : RiS) =>
  some (ri_8)
def f_X6_traceHands_L90 (x2 : Int32) (t1i : Int32) (t2i : Int32) (ri : RiS) (to : ToS) : Option ((RiS)) :=
  ck t1i 8 <|
  lt1 (Ri_linkGoer' ri (upd (Ri_linkGoer ri) (Int32.toNatClampNeg t1i) t2i)) fun (ri_7 : RiS) =>
  ck x2 8 <|
  ck (Ri_linkGoer ri_7 (Int32.toNatClampNeg x2)) 8 <|
  if (Ri_tall ri_7) < (To_talls to (Int32.toNatClampNeg (Ri_linkGoer ri_7 (Int32.toNatClampNeg x2)))) then
    f_X6_traceHands_L119 x2 (0 : Int32) ri_7
  else
    f_X6_traceHands_L119 x2 (1 : Int32) ri_7
def f_X6_traceHands (ri : RiS) (to : ToS) (p2 : Int32) : Option ((RiS)) :=
  ck ((2 : Int32) * p2) 16 <|
  lt1 (To_handAt to (Int32.toNatClampNeg ((2 : Int32) * p2))) fun (v_1 : Int32) =>
  ck (((2 : Int32) * p2) + (1 : Int32)) 16 <|
  lt1 (To_handAt to (Int32.toNatClampNeg (((2 : Int32) * p2) + (1 : Int32)))) fun (v_2 : Int32) =>
  ck v_1 16 <|
  lt1 (Ri_partner' ri (upd (Ri_partner ri) (Int32.toNatClampNeg v_1) v_2)) fun (ri_3 : RiS) =>
  ck v_2 16 <|
  lt1 (Ri_partner' ri_3 (upd (Ri_partner ri_3) (Int32.toNatClampNeg v_2) v_1)) fun (ri_4 : RiS) =>
  lt1 (if (v_2 / (2 : Int32)) < (v_1 / (2 : Int32)) then (v_2 / (2 : Int32)) else (v_1 / (2 : Int32))) fun (v_5 : Int32) =>
  lt1 (if (v_1 / (2 : Int32)) < (v_2 / (2 : Int32)) then (v_2 / (2 : Int32)) else (v_1 / (2 : Int32))) fun (v_6 : Int32) =>
  ck v_6 8 <|
  ck v_5 8 <|
  if (To_talls to (Int32.toNatClampNeg v_5)) ≤ (To_talls to (Int32.toNatClampNeg v_6)) then
    f_X6_traceHands_L90 p2 p2 v_5 ri_4 to
  else
    f_X6_traceHands_L90 p2 p2 v_6 ri_4 to
def f_X6_traceSigns_L55 (x2 : Int32) (ri : RiS) (to : ToS) (k10 : (Int32) → (RiS) → (ToS) → Option ((RiS))) : Option ((RiS)) :=
  lt1 (x2 + (1 : Int32)) fun (v_3 : Int32) =>
  k10 v_3 ri to
def f_X6_traceSigns_L10 : Nat → (Int32) → (RiS) → (ToS) → Option ((RiS))
  | 0, _, _, _ => none
  | n_ + 1, x2, ri, to =>
    if (Ri_crossings ri) ≤ x2 then
      some (ri)
    else
      ck x2 7 <|
      ck (To_linkOver to (Int32.toNatClampNeg x2)) 8 <|
      ck x2 7 <|
      ck (To_linkUnder to (Int32.toNatClampNeg x2)) 8 <|
      if (Ri_along ri (Int32.toNatClampNeg (To_linkOver to (Int32.toNatClampNeg x2)))) = (Ri_along ri (Int32.toNatClampNeg (To_linkUnder to (Int32.toNatClampNeg x2)))) then
        f_X6_traceSigns_L55 x2 ri to (fun y0 y1 y2 => f_X6_traceSigns_L10 n_ y0 y1 y2)
      else
        lt1 (Ri_plus' ri ((Ri_plus ri) ^^^ ((1 : Int32) <<< (x2 &&& 31)))) fun (ri_2 : RiS) =>
        f_X6_traceSigns_L55 x2 ri_2 to (fun y0 y1 y2 => f_X6_traceSigns_L10 n_ y0 y1 y2)
def f_X6_traceSigns (ri : RiS) (to : ToS) : Option ((RiS)) :=
  lt1 (Ri_plus' ri (To_plus to)) fun (ri_1 : RiS) =>
  f_X6_traceSigns_L10 FU (0 : Int32) ri_1 to
def f_X6_traceLink_L121 (x2 : Int32) (x3 : Int32) (x4 : Int32) (ri : RiS) (to : ToS) (k38 : (Int32) → (Int32) → (Int32) → (RiS) → (ToS) → Option ((RiS))) : Option ((RiS)) :=
  lt1 (x4 + (1 : Int32)) fun (v_9 : Int32) =>
  k38 x2 x3 v_9 ri to
def f_X6_traceLink_L61 (x2 : Int32) (x3 : Int32) (x4 : Int32) (t1i : Int32) (t2i : Int32) (ri : RiS) (to : ToS) (k38 : (Int32) → (Int32) → (Int32) → (RiS) → (ToS) → Option ((RiS))) : Option ((RiS)) :=
  bd1 (f_X9_passOn to t1i t2i) fun (r_4 : Int32) =>
  lt1 (Int32.toInt64 r_4) fun (v_5 : Int64) =>
  if (lg_cmp v_5 (0 : Int64)) = 0 then
    f_X6_traceLink_L121 x2 x3 x4 ri to k38
  else
    if (14 : Int32) ≤ (Ri_standings ri) then
      f_X6_traceLink_L121 x2 x3 x4 ri to k38
    else
      lt1 (Ri_key' ri ((Ri_key ri) ||| (v_5 <<< (Int32.toInt64 ((4 : Int32) * (Ri_standings ri)) &&& 63)))) fun (ri_6 : RiS) =>
      ck (Ri_standings ri_6) 16 <|
      lt1 (Ri_standingLink' ri_6 (upd (Ri_standingLink ri_6) (Int32.toNatClampNeg (Ri_standings ri_6)) x2)) fun (ri_7 : RiS) =>
      lt1 (Ri_standings' ri_7 ((Ri_standings ri_7) + (1 : Int32))) fun (ri_8 : RiS) =>
      f_X6_traceLink_L121 x2 x3 x4 ri_8 to k38
def f_X6_traceLink_L38 : Nat → (Int32) → (Int32) → (Int32) → (RiS) → (ToS) → Option ((RiS))
  | 0, _, _, _, _, _ => none
  | n_ + 1, x2, x3, x4, ri, to =>
    if (9 : Int32) < x4 then
      some (ri)
    else
      if x3 = 0 then
        f_X6_traceLink_L61 x2 x3 x4 x2 ((10 : Int32) - x4) ri to (fun y0 y1 y2 y3 y4 => f_X6_traceLink_L38 n_ y0 y1 y2 y3 y4)
      else
        f_X6_traceLink_L61 x2 x3 x4 x2 x4 ri to (fun y0 y1 y2 y3 y4 => f_X6_traceLink_L38 n_ y0 y1 y2 y3 y4)
def f_X6_traceLink_L14 (x2 : Int32) (x3 : Int32) (t1i : Int32) (t2i : Int32) (ri : RiS) (to : ToS) : Option ((RiS)) :=
  ck t1i 8 <|
  lt1 (Ri_along' ri (upd (Ri_along ri) (Int32.toNatClampNeg t1i) t2i)) fun (ri_1 : RiS) =>
  ck x2 8 <|
  lt1 (Ri_linkRing' ri_1 (upd (Ri_linkRing ri_1) (Int32.toNatClampNeg x2) (Ri_count ri_1))) fun (ri_2 : RiS) =>
  ck x2 8 <|
  lt1 (Ri_linkStart' ri_2 (upd (Ri_linkStart ri_2) (Int32.toNatClampNeg x2) (Ri_standings ri_2))) fun (ri_3 : RiS) =>
  f_X6_traceLink_L38 FU x2 x3 (1 : Int32) ri_3 to
def f_X6_traceLink (ri : RiS) (to : ToS) (p2 : Int32) (p3 : Int32) : Option ((RiS)) :=
  if p3 = 0 then
    f_X6_traceLink_L14 p2 p3 p2 (0 : Int32) ri to
  else
    f_X6_traceLink_L14 p2 p3 p2 (1 : Int32) ri to
def f_X6_traceRing_L145 (x4 : Int32) (ri : RiS) : Option (Int32 × (RiS)) :=
  lt1 (Ri_count' ri ((Ri_count ri) + (1 : Int32))) fun (ri_7 : RiS) =>
  ck (Ri_count ri_7) 9 <|
  lt1 (Ri_firstMember' ri_7 (upd (Ri_firstMember ri_7) (Int32.toNatClampNeg (Ri_count ri_7)) x4)) fun (ri_8 : RiS) =>
  ck (Ri_count ri_8) 9 <|
  lt1 (Ri_firstStanding' ri_8 (upd (Ri_firstStanding ri_8) (Int32.toNatClampNeg (Ri_count ri_8)) (Ri_standings ri_8))) fun (ri_9 : RiS) =>
  some (x4, ri_9)
def f_X6_traceRing_L109 (x2 : Int32) (x4 : Int32) (x5 : Int32) (x6 : Int32) (t2i : Int32) (t3i : Int32) (ri : RiS) (to : ToS) (k35 : (Int32) → (Int32) → (Int32) → (Int32) → (RiS) → (ToS) → Option (Int32 × (RiS))) : Option (Int32 × (RiS)) :=
  bd1 (f_X6_traceLink ri to t2i t3i) fun (ri_10 : RiS) =>
  ck x5 16 <|
  if ((Ri_partner ri_10 (Int32.toNatClampNeg x5)) / (2 : Int32)) = x2 then
    f_X6_traceRing_L145 x4 ri_10
  else
    ck x5 16 <|
    lt1 ((Ri_partner ri_10 (Int32.toNatClampNeg x5)) ^^^ (1 : Int32)) fun (v_11 : Int32) =>
    lt1 (x6 + (1 : Int32)) fun (v_12 : Int32) =>
    k35 x2 x4 v_11 v_12 ri_10 to
def f_X6_traceRing_L35 : Nat → (Int32) → (Int32) → (Int32) → (Int32) → (RiS) → (ToS) → Option (Int32 × (RiS))
  | 0, _, _, _, _, _, _ => none
  | n_ + 1, x2, x4, x5, x6, ri, to =>
    if (Ri_people ri) ≤ x6 then
      f_X6_traceRing_L145 x4 ri
    else
      if (Ri_people ri) ≤ x4 then
        f_X6_traceRing_L145 x4 ri
      else
        ck x5 16 <|
        if (Ri_linkIn ri (Int32.toNatClampNeg x5)) < 0 then
          f_X6_traceRing_L145 x4 ri
        else
          ck x4 8 <|
          lt1 (Ri_members' ri (upd (Ri_members ri) (Int32.toNatClampNeg x4) (x5 / (2 : Int32)))) fun (ri_4 : RiS) =>
          lt1 (x4 + (1 : Int32)) fun (v_5 : Int32) =>
          ck x5 16 <|
          lt1 (Ri_linkIn ri_4 (Int32.toNatClampNeg x5)) fun (v_6 : Int32) =>
          ck ((2 : Int32) * v_6) 16 <|
          if (To_handAt to (Int32.toNatClampNeg ((2 : Int32) * v_6))) = x5 then
            f_X6_traceRing_L109 x2 v_5 x5 x6 v_6 (1 : Int32) ri_4 to (fun y0 y1 y2 y3 y4 y5 => f_X6_traceRing_L35 n_ y0 y1 y2 y3 y4 y5)
          else
            f_X6_traceRing_L109 x2 v_5 x5 x6 v_6 (0 : Int32) ri_4 to (fun y0 y1 y2 y3 y4 y5 => f_X6_traceRing_L35 n_ y0 y1 y2 y3 y4 y5)
def f_X6_traceRing (ri : RiS) (to : ToS) (p2 : Int32) (p3 : Int32) : Option (Int32 × (RiS)) :=
  lt1 ((2 : Int32) * p2) fun (v_1 : Int32) =>
  ck (Ri_count ri) 9 <|
  lt1 (Ri_firstMember' ri (upd (Ri_firstMember ri) (Int32.toNatClampNeg (Ri_count ri)) p3)) fun (ri_2 : RiS) =>
  ck (Ri_count ri_2) 9 <|
  lt1 (Ri_firstStanding' ri_2 (upd (Ri_firstStanding ri_2) (Int32.toNatClampNeg (Ri_count ri_2)) (Ri_standings ri_2))) fun (ri_3 : RiS) =>
  f_X6_traceRing_L35 FU p2 p3 v_1 (0 : Int32) ri_3 to
def f_X6_trace_L132 (x2 : Int32) (x3 : Int32) (ri : RiS) (to : ToS) (k107 : (Int32) → (Int32) → (RiS) → (ToS) → Option ((RiS))) : Option ((RiS)) :=
  lt1 (x3 + (1 : Int32)) fun (v_18 : Int32) =>
  k107 x2 v_18 ri to
def f_X6_trace_L107 : Nat → (Int32) → (Int32) → (RiS) → (ToS) → Option ((RiS))
  | 0, _, _, _, _ => none
  | n_ + 1, x2, x3, ri, to =>
    if (Ri_people ri) ≤ x3 then
      bd1 (f_X6_traceSigns ri to) fun (ri_14 : RiS) =>
      some (ri_14)
    else
      bd1 (f_X6_ringWith ri x3) fun (r_15 : Int32) =>
      if r_15 = (-1 : Int32) then
        bd2 (f_X6_traceRing ri to x3 x2) fun (r_16 : Int32) (ri_17 : RiS) =>
        f_X6_trace_L132 r_16 x3 ri_17 to (fun y0 y1 y2 y3 => f_X6_trace_L107 n_ y0 y1 y2 y3)
      else
        f_X6_trace_L132 x2 x3 ri to (fun y0 y1 y2 y3 => f_X6_trace_L107 n_ y0 y1 y2 y3)
def f_X6_trace_L83 : Nat → (Int32) → (RiS) → (ToS) → Option ((RiS))
  | 0, _, _, _ => none
  | n_ + 1, x2, ri, to =>
    if (Ri_links ri) ≤ x2 then
      f_X6_trace_L107 FU (0 : Int32) (0 : Int32) ri to
    else
      bd1 (f_X6_traceHands ri to x2) fun (ri_12 : RiS) =>
      lt1 (x2 + (1 : Int32)) fun (v_13 : Int32) =>
      f_X6_trace_L83 n_ v_13 ri_12 to
def f_X6_trace (ri : RiS) (to : ToS) : Option ((RiS)) :=
  lt1 (Ri_people' ri (To_people to)) fun (ri_1 : RiS) =>
  lt1 (Ri_links' ri_1 (To_links to)) fun (ri_2 : RiS) =>
  lt1 (Ri_crossings' ri_2 (To_crossings to)) fun (ri_3 : RiS) =>
  lt1 (Ri_tall' ri_3 (To_tall to)) fun (ri_4 : RiS) =>
  zb (To_once to) <|
  lt1 (Ri_once' ri_4 (To_once to)) fun (ri_5 : RiS) =>
  lt1 (Ri_standings' ri_5 (0 : Int32)) fun (ri_6 : RiS) =>
  lt1 (Ri_count' ri_6 (0 : Int32)) fun (ri_7 : RiS) =>
  lt1 (Ri_key' ri_7 (0 : Int64)) fun (ri_8 : RiS) =>
  ckc (0 : Int32) (0 : Int32) (16 : Int32) 16 16 <|
  lt1 (Ri_linkIn' ri_8 (va_cpy (To_linkIn to) (Ri_linkIn ri_8) (Int32.toNatClampNeg (0 : Int32)) (Int32.toNatClampNeg (0 : Int32)) (Int32.toNatClampNeg (16 : Int32)))) fun (ri_9 : RiS) =>
  bd1 (f_J7_fill_53178 (Ri_linkRing ri_9) 8 (-1 : Int32)) fun (ra_10 : Nat → Int32) =>
  lt1 (Ri_linkRing' ri_9 ra_10) fun (ri_11 : RiS) =>
  f_X6_trace_L83 FU (0 : Int32) ri_11 to
def f_X7_forget_L2 : Nat → (Int32) → (SeS) → Option ((SeS))
  | 0, _, _ => none
  | n_ + 1, x1, se =>
    if (Se_count se) ≤ x1 then
      lt1 (Se_count' se (0 : Int32)) fun (se_1 : SeS) =>
      lt1 (Se_looseAt' se_1 (-1 : Int32)) fun (se_2 : SeS) =>
      lt1 (Se_over' se_2 (0 : Int32)) fun (se_3 : SeS) =>
      some (se_3)
    else
      ck x1 4000 <|
      ck (Se_slots se (Int32.toNatClampNeg x1)) 8192 <|
      lt1 (Se_table' se (upd (Se_table se) (Int32.toNatClampNeg (Se_slots se (Int32.toNatClampNeg x1))) (0 : Int32))) fun (se_4 : SeS) =>
      lt1 (x1 + (1 : Int32)) fun (v_5 : Int32) =>
      f_X7_forget_L2 n_ v_5 se_4
def f_X7_forget (se : SeS) : Option ((SeS)) :=
  f_X7_forget_L2 FU (0 : Int32) se
def f_X7_slotFor_L13 : Nat → (Int64) → (Int32) → (Int32) → (SeS) → Option (Int32)
  | 0, _, _, _, _ => none
  | n_ + 1, x1, x3, x4, se =>
    if (8192 : Int32) ≤ x4 then
      some (x3)
    else
      ck x3 8192 <|
      lt1 ((Se_table se (Int32.toNatClampNeg x3)) - (1 : Int32)) fun (v_2 : Int32) =>
      if v_2 < 0 then
        some (x3)
      else
        ck v_2 4000 <|
        if (lg_cmp (Se_keys se (Int32.toNatClampNeg v_2)) x1) = 0 then
          some (x3)
        else
          lt1 ((x3 + (1 : Int32)) &&& (8191 : Int32)) fun (v_3 : Int32) =>
          lt1 (x4 + (1 : Int32)) fun (v_4 : Int32) =>
          f_X7_slotFor_L13 n_ x1 v_3 v_4 se
def f_X7_slotFor (se : SeS) (p1 : Int64) : Option (Int32) :=
  lt1 (Int64.toInt32 ((Int64.toUInt64 (p1 * (-7046029254386353131 : Int64)) >>> ((Int32.toInt64 (51 : Int32)).toUInt64 &&& Int64.toUInt64 63)).toInt64)) fun (v_1 : Int32) =>
  f_X7_slotFor_L13 FU p1 v_1 (0 : Int32) se
def f_X7_add_L81 (x4 : Int32) (se : SeS) : Option ((SeS)) :=
  lt1 (Se_count' se ((Se_count se) + (1 : Int32))) fun (se_7 : SeS) =>
  ck x4 8192 <|
  lt1 (Se_table' se_7 (upd (Se_table se_7) (Int32.toNatClampNeg x4) (Se_count se_7))) fun (se_8 : SeS) =>
  some (se_8)
def f_X7_add (se : SeS) (p1 : Int64) (p3 : Int32) : Option ((SeS)) :=
  bd1 (f_X7_slotFor se p1) fun (r_1 : Int32) =>
  ck r_1 8192 <|
  if (Se_table se (Int32.toNatClampNeg r_1)) = 0 then
    if (Se_count se) < (4000 : Int32) then
      ck (Se_count se) 4000 <|
      lt1 (Se_keys' se (vp_updL (Se_keys se) (Int32.toNatClampNeg (Se_count se)) p1)) fun (se_2 : SeS) =>
      ck (Se_count se_2) 4000 <|
      lt1 (Se_firsts' se_2 (upd (Se_firsts se_2) (Int32.toNatClampNeg (Se_count se_2)) p3)) fun (se_3 : SeS) =>
      ck (Se_count se_3) 4000 <|
      lt1 (Se_slots' se_3 (upd (Se_slots se_3) (Int32.toNatClampNeg (Se_count se_3)) r_1)) fun (se_4 : SeS) =>
      if (lg_cmp p1 (0 : Int64)) = 0 then
        lt1 (Se_looseAt' se_4 (Se_count se_4)) fun (se_5 : SeS) =>
        f_X7_add_L81 r_1 se_5
      else
        f_X7_add_L81 r_1 se_4
    else
      lt1 (Se_over' se (1 : Int32)) fun (se_6 : SeS) =>
      some (se_6)
  else
    some (se)
def f_X7_spreadFrom_L77 (x1 : Int32) (x3 : Int32) (t1j : Int64) (t2i : Int32) (se : SeS) (sb : BoS) (k23 : (Int32) → (Int32) → (SeS) → (BoS) → Option ((SeS) × (BoS))) : Option ((SeS) × (BoS)) :=
  bd1 (f_X7_add se t1j t2i) fun (se_4 : SeS) =>
  lt1 (x3 + (1 : Int32)) fun (v_5 : Int32) =>
  k23 x1 v_5 se_4 sb
def f_X7_spreadFrom_L23 : Nat → (Int32) → (Int32) → (SeS) → (BoS) → Option ((SeS) × (BoS))
  | 0, _, _, _, _ => none
  | n_ + 1, x1, x3, se, sb =>
    if (Bo_count sb) ≤ x3 then
      some (se, sb)
    else
      if (Se_over se) = 0 then
        ck x3 256 <|
        lt1 (Bo_numbers sb (Int32.toNatClampNeg x3)) fun (v_2 : Int32) =>
        bd1 (f_X0_after sb v_2) fun (r_3 : Int64) =>
        if x1 = 0 then
          f_X7_spreadFrom_L77 x1 x3 r_3 v_2 se sb (fun y0 y1 y2 y3 => f_X7_spreadFrom_L23 n_ y0 y1 y2 y3)
        else
          ck x1 4000 <|
          f_X7_spreadFrom_L77 x1 x3 r_3 (Se_firsts se (Int32.toNatClampNeg x1)) se sb (fun y0 y1 y2 y3 => f_X7_spreadFrom_L23 n_ y0 y1 y2 y3)
      else
        some (se, sb)
def f_X7_spreadFrom (se : SeS) (sb : BoS) (fm : MoS) (ri : RiS) (p1 : Int32) : Option ((SeS) × (BoS)) :=
  ck p1 4000 <|
  bd1 (f_X0_layOut sb ri (Se_keys se (Int32.toNatClampNeg p1)) (Mo_plus fm) (Mo_parted fm)) fun (sb_1 : BoS) =>
  f_X7_spreadFrom_L23 FU p1 (0 : Int32) se sb_1
def f_X7_grow_L110 (x2 : Int32) (x3 : Int32) (x5 : Int32) (x6 : Int32) (se : SeS) (sb : BoS) (fm : MoS) (ri : RiS) (k33 : (Int32) → (Int32) → (Int32) → (Int32) → (SeS) → (BoS) → (MoS) → (RiS) → Option (Int32 × (SeS) × (BoS))) : Option (Int32 × (SeS) × (BoS)) :=
  lt1 (x5 + (1 : Int32)) fun (v_7 : Int32) =>
  k33 x2 x3 x6 v_7 se sb fm ri
def f_X7_grow_L85 (x2 : Int32) (x3 : Int32) (x5 : Int32) (x6 : Int32) (se : SeS) (sb : BoS) (fm : MoS) (ri : RiS) (k33 : (Int32) → (Int32) → (Int32) → (Int32) → (SeS) → (BoS) → (MoS) → (RiS) → Option (Int32 × (SeS) × (BoS))) : Option (Int32 × (SeS) × (BoS)) :=
  if (Se_over se) = 0 then
    if x3 = 0 then
      f_X7_grow_L110 x2 x3 x5 x6 se sb fm ri k33
    else
      if (Se_looseAt se) = (-1 : Int32) then
        f_X7_grow_L110 x2 x3 x5 x6 se sb fm ri k33
      else
        some (x5, se, sb)
  else
    some ((-3 : Int32), se, sb)
def f_X7_grow_L58 : Nat → (Int32) → (Int32) → (Int32) → (Int32) → (Int32) → (SeS) → (BoS) → (MoS) → (RiS) → ((Int32) → (Int32) → (Int32) → (Int32) → (SeS) → (BoS) → (MoS) → (RiS) → Option (Int32 × (SeS) × (BoS))) → Option (Int32 × (SeS) × (BoS))
  | 0, _, _, _, _, _, _, _, _, _, _ => none
  | n_ + 1, x2, x3, x5, x6, x7, se, sb, fm, ri, k33 =>
    if x6 ≤ x7 then
      f_X7_grow_L85 x2 x3 x5 x6 se sb fm ri k33
    else
      if (Se_over se) = 0 then
        bd2 (f_X7_spreadFrom se sb fm ri x7) fun (se_4 : SeS) (sb_5 : BoS) =>
        lt1 (x7 + (1 : Int32)) fun (v_6 : Int32) =>
        f_X7_grow_L58 n_ x2 x3 x5 x6 v_6 se_4 sb_5 fm ri k33
      else
        f_X7_grow_L85 x2 x3 x5 x6 se sb fm ri k33
def f_X7_grow_L33 : Nat → (Int32) → (Int32) → (Int32) → (Int32) → (SeS) → (BoS) → (MoS) → (RiS) → Option (Int32 × (SeS) × (BoS))
  | 0, _, _, _, _, _, _, _, _ => none
  | n_ + 1, x2, x3, x4, x5, se, sb, fm, ri =>
    if x2 < x5 then
      some ((-2 : Int32), se, sb)
    else
      if (Se_count se) ≤ x4 then
        some ((-2 : Int32), se, sb)
      else
        lt1 (Se_count se) fun (v_3 : Int32) =>
        f_X7_grow_L58 FU x2 x3 x5 v_3 x4 se sb fm ri (fun y0 y1 y2 y3 y4 y5 y6 y7 => f_X7_grow_L33 n_ y0 y1 y2 y3 y4 y5 y6 y7)
def f_X7_grow_L27 (x2 : Int32) (x3 : Int32) (se : SeS) (sb : BoS) (fm : MoS) (ri : RiS) : Option (Int32 × (SeS) × (BoS)) :=
  f_X7_grow_L33 FU x2 x3 (0 : Int32) (1 : Int32) se sb fm ri
def f_X7_grow (se : SeS) (sb : BoS) (fm : MoS) (ri : RiS) (p2 : Int32) (p3 : Int32) : Option (Int32 × (SeS) × (BoS)) :=
  bd1 (f_X7_forget se) fun (se_1 : SeS) =>
  bd1 (f_X7_add se_1 (Mo_key fm) (-1 : Int32)) fun (se_2 : SeS) =>
  if p3 = 0 then
    f_X7_grow_L27 p2 p3 se_2 sb fm ri
  else
    if (Se_looseAt se_2) = (-1 : Int32) then
      f_X7_grow_L27 p2 p3 se_2 sb fm ri
    else
      some ((0 : Int32), se_2, sb)
def f_X7_firstToLoose (se : SeS) (sb : BoS) (fm : MoS) (ri : RiS) (p2 : Int32) : Option (Int32 × (SeS) × (BoS)) :=
  bd3 (f_X7_grow se sb fm ri p2 (1 : Int32)) fun (r_1 : Int32) (se_2 : SeS) (sb_3 : BoS) =>
  if r_1 = (-3 : Int32) then
    some ((-3 : Int32), se_2, sb_3)
  else
    if r_1 ≤ 0 then
      some ((-2 : Int32), se_2, sb_3)
    else
      if (Se_looseAt se_2) < 0 then
        some ((-2 : Int32), se_2, sb_3)
      else
        ck (Se_looseAt se_2) 4000 <|
        some ((Se_firsts se_2 (Int32.toNatClampNeg (Se_looseAt se_2))), se_2, sb_3)
def f_X7_countReached (se : SeS) (sb : BoS) (fm : MoS) (ri : RiS) (p2 : Int32) : Option (Int32 × (SeS) × (BoS)) :=
  bd3 (f_X7_grow se sb fm ri p2 (0 : Int32)) fun (r_1 : Int32) (se_2 : SeS) (sb_3 : BoS) =>
  if r_1 = (-3 : Int32) then
    some ((-3 : Int32), se_2, sb_3)
  else
    some ((Se_count se_2), se_2, sb_3)
def f_X7_crossingsIn_L25 (x0 : Int64) (x3 : Int32) (t0i : Int32) (t1i : Int32) (k4 : (Int64) → (Int32) → (Int32) → Option (Int32)) : Option (Int32) :=
  lt1 (t0i + t1i) fun (v_2 : Int32) =>
  lt1 (x3 + (1 : Int32)) fun (v_3 : Int32) =>
  k4 x0 v_2 v_3
def f_X7_crossingsIn_L4 : Nat → (Int64) → (Int32) → (Int32) → Option (Int32)
  | 0, _, _, _ => none
  | n_ + 1, x0, x2, x3 =>
    if (14 : Int32) ≤ x3 then
      some ((x2 / (2 : Int32)))
    else
      bd1 (f_X4_passAt x0 x3) fun (r_1 : Int32) =>
      if r_1 = (-1 : Int32) then
        f_X7_crossingsIn_L25 x0 x3 x2 (0 : Int32) (fun y0 y1 y2 => f_X7_crossingsIn_L4 n_ y0 y1 y2)
      else
        f_X7_crossingsIn_L25 x0 x3 x2 (1 : Int32) (fun y0 y1 y2 => f_X7_crossingsIn_L4 n_ y0 y1 y2)
def f_X7_crossingsIn (p0 : Int64) : Option (Int32) :=
  f_X7_crossingsIn_L4 FU p0 (0 : Int32) (0 : Int32)
def f_X7_leastLeft_L21 : Nat → (Int32) → (Int32) → (SeS) → (BoS) → Option (Int32 × (SeS) × (BoS))
  | 0, _, _, _, _ => none
  | n_ + 1, x3, x4, se, sb =>
    if (Se_count se) ≤ x4 then
      some (x3, se, sb)
    else
      ck x4 4000 <|
      bd1 (f_X7_crossingsIn (Se_keys se (Int32.toNatClampNeg x4))) fun (r_4 : Int32) =>
      lt1 (if r_4 < x3 then r_4 else x3) fun (v_5 : Int32) =>
      lt1 (x4 + (1 : Int32)) fun (v_6 : Int32) =>
      f_X7_leastLeft_L21 n_ v_5 v_6 se sb
def f_X7_leastLeft (se : SeS) (sb : BoS) (fm : MoS) (ri : RiS) (p2 : Int32) : Option (Int32 × (SeS) × (BoS)) :=
  bd3 (f_X7_grow se sb fm ri p2 (0 : Int32)) fun (r_1 : Int32) (se_2 : SeS) (sb_3 : BoS) =>
  if r_1 = (-3 : Int32) then
    some ((-3 : Int32), se_2, sb_3)
  else
    f_X7_leastLeft_L21 FU (7 : Int32) (0 : Int32) se_2 sb_3
def f_X10_leastBehind_L7 : Nat → (Int32) → (Int32) → (BoS) → Option (Int32)
  | 0, _, _, _ => none
  | n_ + 1, x1, x2, bo =>
    if (Bo_count bo) ≤ x2 then
      some (x1)
    else
      ck x2 256 <|
      bd1 (f_X0_leftBehind bo (Bo_numbers bo (Int32.toNatClampNeg x2))) fun (r_2 : Int32) =>
      lt1 (if r_2 < x1 then r_2 else x1) fun (v_3 : Int32) =>
      lt1 (x2 + (1 : Int32)) fun (v_4 : Int32) =>
      f_X10_leastBehind_L7 n_ v_3 v_4 bo
def f_X10_leastBehind (bo : BoS) : Option (Int32) :=
  lt1 (Bo_left bo) fun (v_1 : Int32) =>
  f_X10_leastBehind_L7 FU v_1 (0 : Int32) bo
def f_X10_bestCall_L72 (x3 : Int32) (x4 : Int32) (x5 : Int32) (wb : BoS) (bo : BoS) (now : MoS) (ri : RiS) (k10 : (Int32) → (Int32) → (Int32) → (BoS) → (BoS) → (MoS) → (RiS) → Option (Int32 × (BoS))) : Option (Int32 × (BoS)) :=
  lt1 (x5 + (1 : Int32)) fun (v_5 : Int32) =>
  k10 x3 x4 v_5 wb bo now ri
def f_X10_bestCall_L10 : Nat → (Int32) → (Int32) → (Int32) → (BoS) → (BoS) → (MoS) → (RiS) → Option (Int32 × (BoS))
  | 0, _, _, _, _, _, _, _ => none
  | n_ + 1, x3, x4, x5, wb, bo, now, ri =>
    if (Bo_count bo) ≤ x5 then
      some (x3, wb)
    else
      ck x5 256 <|
      lt1 (Bo_numbers bo (Int32.toNatClampNeg x5)) fun (v_1 : Int32) =>
      bd1 (f_X0_after bo v_1) fun (r_2 : Int64) =>
      bd1 (f_X0_layOut wb ri r_2 (Mo_plus now) (Mo_parted now)) fun (wb_3 : BoS) =>
      bd1 (f_X10_leastBehind wb_3) fun (r_4 : Int32) =>
      if x4 ≤ r_4 then
        f_X10_bestCall_L72 x3 x4 x5 wb_3 bo now ri (fun y0 y1 y2 y3 y4 y5 y6 => f_X10_bestCall_L10 n_ y0 y1 y2 y3 y4 y5 y6)
      else
        f_X10_bestCall_L72 v_1 r_4 x5 wb_3 bo now ri (fun y0 y1 y2 y3 y4 y5 y6 => f_X10_bestCall_L10 n_ y0 y1 y2 y3 y4 y5 y6)
def f_X10_bestCall (bo : BoS) (wb : BoS) (now : MoS) (ri : RiS) : Option (Int32 × (BoS)) :=
  f_X10_bestCall_L10 FU (-2 : Int32) (8 : Int32) (0 : Int32) wb bo now ri
def f_X10_bestOwn_L80 (x2 : Int32) (x3 : Int32) (x4 : Int32) (x5 : Int32) (bo : BoS) (k16 : (Int32) → (Int32) → (Int32) → (Int32) → (BoS) → Option (Int32)) : Option (Int32) :=
  lt1 (x5 + (1 : Int32)) fun (v_6 : Int32) =>
  k16 x2 x3 x4 v_6 bo
def f_X10_bestOwn_L51 (x2 : Int32) (x3 : Int32) (x4 : Int32) (x5 : Int32) (x6 : Int32) (t0i : Int32) (bo : BoS) (k16 : (Int32) → (Int32) → (Int32) → (Int32) → (BoS) → Option (Int32)) : Option (Int32) :=
  if t0i = 0 then
    f_X10_bestOwn_L80 x2 x3 x4 x5 bo k16
  else
    bd1 (f_X0_leftBehind bo x6) fun (r_4 : Int32) =>
    if x4 ≤ r_4 then
      f_X10_bestOwn_L80 x2 x3 x4 x5 bo k16
    else
      bd1 (f_X0_leftBehind bo x6) fun (r_5 : Int32) =>
      f_X10_bestOwn_L80 x2 x6 r_5 x5 bo k16
def f_X10_bestOwn_L16 : Nat → (Int32) → (Int32) → (Int32) → (Int32) → (BoS) → Option (Int32)
  | 0, _, _, _, _, _ => none
  | n_ + 1, x2, x3, x4, x5, bo =>
    if (Bo_count bo) ≤ x5 then
      some (x3)
    else
      ck x5 256 <|
      lt1 (Bo_numbers bo (Int32.toNatClampNeg x5)) fun (v_2 : Int32) =>
      bd1 (f_X0_touchedBy v_2) fun (r_3 : Int32) =>
      if (r_3 &&& (x2 ^^^ (-1 : Int32))) = 0 then
        f_X10_bestOwn_L51 x2 x3 x4 x5 v_2 (1 : Int32) bo (fun y0 y1 y2 y3 y4 => f_X10_bestOwn_L16 n_ y0 y1 y2 y3 y4)
      else
        f_X10_bestOwn_L51 x2 x3 x4 x5 v_2 (0 : Int32) bo (fun y0 y1 y2 y3 y4 => f_X10_bestOwn_L16 n_ y0 y1 y2 y3 y4)
def f_X10_bestOwn (bo : BoS) (ri : RiS) (p1 : Int32) : Option (Int32) :=
  bd1 (f_X0_seenBy bo ri p1) fun (r_1 : Int32) =>
  f_X10_bestOwn_L16 FU r_1 (-2 : Int32) (8 : Int32) (0 : Int32) bo
def f_X10_leftBehindRounds_L76 (x2 : Int32) (x3 : Int32) (x4 : Int32) (wb : BoS) (ri : RiS) (k18 : (Int32) → (Int32) → (Int32) → (BoS) → (RiS) → Option (Int32 × (BoS))) : Option (Int32 × (BoS)) :=
  lt1 (x4 + (1 : Int32)) fun (v_6 : Int32) =>
  k18 x2 x3 v_6 wb ri
def f_X10_leftBehindRounds_L18 : Nat → (Int32) → (Int32) → (Int32) → (BoS) → (RiS) → ((Int32) → (Int32) → (BoS) → (RiS) → Option (Int32 × (BoS))) → Option (Int32 × (BoS))
  | 0, _, _, _, _, _, _ => none
  | n_ + 1, x2, x3, x4, wb, ri, k10 =>
    if (Ri_people ri) ≤ x4 then
      lt1 (x3 + (1 : Int32)) fun (v_2 : Int32) =>
      k10 x2 v_2 wb ri
    else
      bd1 (f_X10_bestOwn wb ri x4) fun (r_3 : Int32) =>
      if r_3 = (-2 : Int32) then
        f_X10_leftBehindRounds_L76 x2 x3 x4 wb ri (fun y0 y1 y2 y3 y4 => f_X10_leftBehindRounds_L18 n_ y0 y1 y2 y3 y4 k10)
      else
        bd1 (f_X0_leftBehind wb r_3) fun (r_4 : Int32) =>
        if (Bo_left wb) ≤ r_4 then
          f_X10_leftBehindRounds_L76 x2 x3 x4 wb ri (fun y0 y1 y2 y3 y4 => f_X10_leftBehindRounds_L18 n_ y0 y1 y2 y3 y4 k10)
        else
          bd1 (f_X0_make wb ri r_3) fun (wb_5 : BoS) =>
          f_X10_leftBehindRounds_L76 x2 x3 x4 wb_5 ri (fun y0 y1 y2 y3 y4 => f_X10_leftBehindRounds_L18 n_ y0 y1 y2 y3 y4 k10)
def f_X10_leftBehindRounds_L10 : Nat → (Int32) → (Int32) → (BoS) → (RiS) → Option (Int32 × (BoS))
  | 0, _, _, _, _ => none
  | n_ + 1, x2, x3, wb, ri =>
    if x2 ≤ x3 then
      some ((Bo_left wb), wb)
    else
      f_X10_leftBehindRounds_L18 FU x2 x3 (0 : Int32) wb ri (fun y0 y1 y2 y3 => f_X10_leftBehindRounds_L10 n_ y0 y1 y2 y3)
def f_X10_leftBehindRounds (wb : BoS) (now : MoS) (ri : RiS) (p2 : Int32) : Option (Int32 × (BoS)) :=
  bd1 (f_X0_lay wb now ri) fun (wb_1 : BoS) =>
  f_X10_leftBehindRounds_L10 FU p2 (0 : Int32) wb_1 ri
def f_X10_looseTries_L89 (x3 : Int32) (x4 : Int32) (x5 : Int32) (x7 : Int32) (t0i : Int32) (t1i : Int32) (wb : BoS) (now : MoS) (ri : RiS) (k9 : (Int32) → (Int32) → (Int32) → (Int32) → (Int32) → (BoS) → (MoS) → (RiS) → Option (Int32 × (BoS))) : Option (Int32 × (BoS)) :=
  lt1 (t0i + t1i) fun (v_6 : Int32) =>
  lt1 (x7 + (1 : Int32)) fun (v_7 : Int32) =>
  k9 x3 x4 x5 v_6 v_7 wb now ri
def f_X10_looseTries_L72 (x3 : Int32) (x4 : Int32) (x5 : Int32) (x6 : Int32) (x7 : Int32) (wb : BoS) (now : MoS) (ri : RiS) (k9 : (Int32) → (Int32) → (Int32) → (Int32) → (Int32) → (BoS) → (MoS) → (RiS) → Option (Int32 × (BoS))) : Option (Int32 × (BoS)) :=
  if (Bo_left wb) = 0 then
    f_X10_looseTries_L89 x3 x4 x5 x7 x6 (1 : Int32) wb now ri k9
  else
    f_X10_looseTries_L89 x3 x4 x5 x7 x6 (0 : Int32) wb now ri k9
def f_X10_looseTries_L26 : Nat → (Int32) → (Int32) → (Int32) → (Int32) → (Int32) → (Int32) → (BoS) → (MoS) → (RiS) → ((Int32) → (Int32) → (Int32) → (Int32) → (Int32) → (BoS) → (MoS) → (RiS) → Option (Int32 × (BoS))) → Option (Int32 × (BoS))
  | 0, _, _, _, _, _, _, _, _, _, _ => none
  | n_ + 1, x3, x4, x5, x6, x7, x8, wb, now, ri, k9 =>
    if x4 ≤ x8 then
      f_X10_looseTries_L72 x3 x4 x5 x6 x7 wb now ri k9
    else
      if (Bo_count wb) ≤ 0 then
        f_X10_looseTries_L72 x3 x4 x5 x6 x7 wb now ri k9
      else
        bd1 (f_X4_seedBehind x5) fun (r_2 : Int32) =>
        bd1 (f_X0_drawn wb r_2) fun (r_3 : Int32) =>
        bd1 (f_X0_make wb ri r_3) fun (wb_4 : BoS) =>
        lt1 (x8 + (1 : Int32)) fun (v_5 : Int32) =>
        f_X10_looseTries_L26 n_ x3 x4 r_2 x6 x7 v_5 wb_4 now ri k9
def f_X10_looseTries_L9 : Nat → (Int32) → (Int32) → (Int32) → (Int32) → (Int32) → (BoS) → (MoS) → (RiS) → Option (Int32 × (BoS))
  | 0, _, _, _, _, _, _, _, _ => none
  | n_ + 1, x3, x4, x5, x6, x7, wb, now, ri =>
    if x3 ≤ x7 then
      some (x6, wb)
    else
      bd1 (f_X0_lay wb now ri) fun (wb_1 : BoS) =>
      f_X10_looseTries_L26 FU x3 x4 x5 x6 x7 (0 : Int32) wb_1 now ri (fun y0 y1 y2 y3 y4 y5 y6 y7 => f_X10_looseTries_L9 n_ y0 y1 y2 y3 y4 y5 y6 y7)
def f_X10_looseTries (wb : BoS) (now : MoS) (ri : RiS) (p2 : Int32) (p3 : Int32) (p4 : Int32) : Option (Int32 × (BoS)) :=
  f_X10_looseTries_L9 FU p3 p4 p2 (0 : Int32) (0 : Int32) wb now ri
def f_X2_traceArcs_L49 (x2 : Int32) (x3 : Int32) (x4 : Int32) (x6 : Int32) (t0i : Int32) (t1i : Int32) (co : CoS) (bo : BoS) (ri : RiS) (k23 : (Int32) → (Int32) → (Int32) → (Int32) → (Int32) → (CoS) → (BoS) → (RiS) → Option ((CoS))) : Option ((CoS)) :=
  lt1 (t0i + t1i) fun (v_5 : Int32) =>
  lt1 (x6 + (1 : Int32)) fun (v_6 : Int32) =>
  k23 x2 x3 x4 v_5 v_6 co bo ri
def f_X2_traceArcs_L193 (x4 : Int32) (x7 : Int32) (x8 : Int32) (x9 : Int32) (co : CoS) (bo : BoS) (k111 : (Int32) → (Int32) → (Int32) → (Int32) → (CoS) → (BoS) → Option ((CoS))) : Option ((CoS)) :=
  lt1 (x9 + (1 : Int32)) fun (v_12 : Int32) =>
  k111 x4 x7 x8 v_12 co bo
def f_X2_traceArcs_L182 (x4 : Int32) (x7 : Int32) (x9 : Int32) (x10 : Int32) (t0i : Int32) (co : CoS) (bo : BoS) (k111 : (Int32) → (Int32) → (Int32) → (Int32) → (CoS) → (BoS) → Option ((CoS))) : Option ((CoS)) :=
  ck x10 7 <|
  lt1 (Co_arcBehind' co (upd (Co_arcBehind co) (Int32.toNatClampNeg x10) t0i)) fun (co_11 : CoS) =>
  f_X2_traceArcs_L193 x4 x7 t0i x9 co_11 bo k111
def f_X2_traceArcs_L111 : Nat → (Int32) → (Int32) → (Int32) → (Int32) → (CoS) → (BoS) → Option ((CoS))
  | 0, _, _, _, _, _, _ => none
  | n_ + 1, x4, x7, x8, x9, co, bo =>
    if x4 ≤ x9 then
      lt1 (Co_arcs' co x7) fun (co_7 : CoS) =>
      some (co_7)
    else
      ck x9 16 <|
      lt1 ((Bo_walk bo (Int32.toNatClampNeg x9)) / (2 : Int32)) fun (v_8 : Int32) =>
      ck x9 16 <|
      if ((Bo_walk bo (Int32.toNatClampNeg x9)) &&& (1 : Int32)) = 0 then
        ck v_8 7 <|
        lt1 (Co_arcBefore' co (upd (Co_arcBefore co) (Int32.toNatClampNeg v_8) x8)) fun (co_9 : CoS) =>
        if x7 ≤ (x8 + (1 : Int32)) then
          f_X2_traceArcs_L182 x4 x7 x9 v_8 (Co_arcs co_9) co_9 bo (fun y0 y1 y2 y3 y4 y5 => f_X2_traceArcs_L111 n_ y0 y1 y2 y3 y4 y5)
        else
          f_X2_traceArcs_L182 x4 x7 x9 v_8 (x8 + (1 : Int32)) co_9 bo (fun y0 y1 y2 y3 y4 y5 => f_X2_traceArcs_L111 n_ y0 y1 y2 y3 y4 y5)
      else
        ck v_8 7 <|
        lt1 (Co_overArc' co (upd (Co_overArc co) (Int32.toNatClampNeg v_8) x8)) fun (co_10 : CoS) =>
        f_X2_traceArcs_L193 x4 x7 x8 x9 co_10 bo (fun y0 y1 y2 y3 y4 y5 => f_X2_traceArcs_L111 n_ y0 y1 y2 y3 y4 y5)
def f_X2_traceArcs_L106 (x3 : Int32) (x4 : Int32) (x7 : Int32) (t0i : Int32) (co : CoS) (bo : BoS) : Option ((CoS)) :=
  f_X2_traceArcs_L111 FU x4 x7 t0i x3 co bo
def f_X2_traceArcs_L87 (x3 : Int32) (x4 : Int32) (x6 : Int32) (t0i : Int32) (t1i : Int32) (co : CoS) (bo : BoS) : Option ((CoS)) :=
  lt1 (t0i + t1i) fun (v_4 : Int32) =>
  if x6 = 0 then
    f_X2_traceArcs_L106 x3 x4 v_4 (v_4 - (1 : Int32)) co bo
  else
    f_X2_traceArcs_L106 x3 x4 v_4 (Co_arcs co) co bo
def f_X2_traceArcs_L23 : Nat → (Int32) → (Int32) → (Int32) → (Int32) → (Int32) → (CoS) → (BoS) → (RiS) → Option ((CoS))
  | 0, _, _, _, _, _, _, _, _ => none
  | n_ + 1, x2, x3, x4, x5, x6, co, bo, ri =>
    if x4 ≤ x6 then
      bd1 (f_X0_isOpen bo ri x2) fun (r_3 : Int32) =>
      if r_3 = 0 then
        f_X2_traceArcs_L87 x3 x4 r_3 (Co_arcs co) (if x5 < (1 : Int32) then (1 : Int32) else x5) co bo
      else
        f_X2_traceArcs_L87 x3 x4 r_3 (Co_arcs co) (x5 + (1 : Int32)) co bo
    else
      ck x6 16 <|
      if ((Bo_walk bo (Int32.toNatClampNeg x6)) &&& (1 : Int32)) = 0 then
        f_X2_traceArcs_L49 x2 x3 x4 x6 x5 (1 : Int32) co bo ri (fun y0 y1 y2 y3 y4 y5 y6 y7 => f_X2_traceArcs_L23 n_ y0 y1 y2 y3 y4 y5 y6 y7)
      else
        f_X2_traceArcs_L49 x2 x3 x4 x6 x5 (0 : Int32) co bo ri (fun y0 y1 y2 y3 y4 y5 y6 y7 => f_X2_traceArcs_L23 n_ y0 y1 y2 y3 y4 y5 y6 y7)
def f_X2_traceArcs (co : CoS) (bo : BoS) (ri : RiS) (p2 : Int32) : Option ((CoS)) :=
  ck p2 9 <|
  lt1 (Bo_walkStart bo (Int32.toNatClampNeg p2)) fun (v_1 : Int32) =>
  ck (p2 + (1 : Int32)) 9 <|
  lt1 (Bo_walkStart bo (Int32.toNatClampNeg (p2 + (1 : Int32)))) fun (v_2 : Int32) =>
  f_X2_traceArcs_L23 FU p2 v_1 v_2 (0 : Int32) v_1 co bo ri
def f_X2_countArcs_L7 : Nat → (Int32) → (Int32) → (CoS) → (BoS) → (RiS) → Option (Int32 × (CoS))
  | 0, _, _, _, _, _ => none
  | n_ + 1, x2, x3, co, bo, ri =>
    if x2 ≤ x3 then
      some ((Co_arcs co), co)
    else
      bd1 (f_X2_traceArcs co bo ri x3) fun (co_2 : CoS) =>
      lt1 (x3 + (1 : Int32)) fun (v_3 : Int32) =>
      f_X2_countArcs_L7 n_ x2 v_3 co_2 bo ri
def f_X2_countArcs (co : CoS) (bo : BoS) (ri : RiS) (p2 : Int32) : Option (Int32 × (CoS)) :=
  lt1 (Co_arcs' co (0 : Int32)) fun (co_1 : CoS) =>
  f_X2_countArcs_L7 FU p2 (0 : Int32) co_1 bo ri
def f_X2_fillRow_L48 : Nat → (Int32) → (Int32) → (CoS) → (Nat) → Option ((CoS))
  | 0, _, _, _, _ => none
  | n_ + 1, x3, x4, co, j1 =>
    ckn j1 7 <|
    if (16 : Int32) ≤ x4 then
      some (co)
    else
      ckn j1 7 <|
      ck x4 16 <|
      bd1 (f_J9_floorMod_7cf53 (Co_rw co j1 (Int32.toNatClampNeg x4)) x3) fun (r_6 : Int32) =>
      ckn j1 7 <|
      ck x4 16 <|
      lt1 (Co_rw' co (va_up (Co_rw co) j1 (upd (Co_rw co j1) (Int32.toNatClampNeg x4) r_6))) fun (co_7 : CoS) =>
      lt1 (x4 + (1 : Int32)) fun (v_8 : Int32) =>
      f_X2_fillRow_L48 n_ x3 v_8 co_7 j1
def f_X2_fillRow (co : CoS) (j1 : Nat) (p2 : Int32) (p3 : Int32) : Option ((CoS)) :=
  ckn j1 7 <|
  bd1 (f_J7_fill_53178 (Co_rw co j1) 16 (0 : Int32)) fun (ra_1 : Nat → Int32) =>
  lt1 (Co_rw' co (va_up (Co_rw co) j1 ra_1)) fun (co_2 : CoS) =>
  ck p2 7 <|
  ckn j1 7 <|
  ck (Co_overArc co_2 (Int32.toNatClampNeg p2)) 16 <|
  ckn j1 7 <|
  ck (Co_overArc co_2 (Int32.toNatClampNeg p2)) 16 <|
  lt1 (Co_rw' co_2 (va_up (Co_rw co_2) j1 (upd (Co_rw co_2 j1) (Int32.toNatClampNeg (Co_overArc co_2 (Int32.toNatClampNeg p2))) ((Co_rw co_2 j1 (Int32.toNatClampNeg (Co_overArc co_2 (Int32.toNatClampNeg p2)))) + (2 : Int32))))) fun (co_3 : CoS) =>
  ck p2 7 <|
  ckn j1 7 <|
  ck (Co_arcBefore co_3 (Int32.toNatClampNeg p2)) 16 <|
  ckn j1 7 <|
  ck (Co_arcBefore co_3 (Int32.toNatClampNeg p2)) 16 <|
  lt1 (Co_rw' co_3 (va_up (Co_rw co_3) j1 (upd (Co_rw co_3 j1) (Int32.toNatClampNeg (Co_arcBefore co_3 (Int32.toNatClampNeg p2))) ((Co_rw co_3 j1 (Int32.toNatClampNeg (Co_arcBefore co_3 (Int32.toNatClampNeg p2)))) + (p3 - (1 : Int32)))))) fun (co_4 : CoS) =>
  ck p2 7 <|
  ckn j1 7 <|
  ck (Co_arcBehind co_4 (Int32.toNatClampNeg p2)) 16 <|
  ckn j1 7 <|
  ck (Co_arcBehind co_4 (Int32.toNatClampNeg p2)) 16 <|
  lt1 (Co_rw' co_4 (va_up (Co_rw co_4) j1 (upd (Co_rw co_4 j1) (Int32.toNatClampNeg (Co_arcBehind co_4 (Int32.toNatClampNeg p2))) ((Co_rw co_4 j1 (Int32.toNatClampNeg (Co_arcBehind co_4 (Int32.toNatClampNeg p2)))) + (p3 - (1 : Int32)))))) fun (co_5 : CoS) =>
  f_X2_fillRow_L48 FU p3 (0 : Int32) co_5 j1
def f_X2_bringsUp_L3 : Nat → (Int32) → (Int32) → (Int32) → (Int32) → (CoS) → Option (Int32 × (CoS))
  | 0, _, _, _, _, _ => none
  | n_ + 1, x1, x2, x3, x4, co =>
    if x2 ≤ x4 then
      some ((0 : Int32), co)
    else
      ck x4 7 <|
      ckn (Co_pi co (Int32.toNatClampNeg x4)) 7 <|
      ck x3 16 <|
      if (Co_rw co (Co_pi co (Int32.toNatClampNeg x4)) (Int32.toNatClampNeg x3)) = 0 then
        lt1 (x4 + (1 : Int32)) fun (v_1 : Int32) =>
        f_X2_bringsUp_L3 n_ x1 x2 x3 v_1 co
      else
        ck x4 7 <|
        ck x1 7 <|
        ckn (Co_pi co (Int32.toNatClampNeg x1)) 7 <|
        ck x4 7 <|
        lt1 (Co_pi' co (va_up (Co_pi co) (Int32.toNatClampNeg x4) (Co_pi co (Int32.toNatClampNeg x1)))) fun (co_2 : CoS) =>
        ckn (Co_pi co (Int32.toNatClampNeg x4)) 7 <|
        ck x1 7 <|
        lt1 (Co_pi' co_2 (va_up (Co_pi co_2) (Int32.toNatClampNeg x1) (Co_pi co (Int32.toNatClampNeg x4)))) fun (co_3 : CoS) =>
        some ((1 : Int32), co_3)
def f_X2_bringsUp (co : CoS) (p1 : Int32) (p2 : Int32) (p3 : Int32) : Option (Int32 × (CoS)) :=
  f_X2_bringsUp_L3 FU p1 p2 p3 p1 co
def f_X2_clearColumn_L13 : Nat → (Int32) → (Int32) → (Int32) → (Int32) → (CoS) → (Nat) → (Nat) → Option ((CoS))
  | 0, _, _, _, _, _, _, _ => none
  | n_ + 1, x3, x4, x5, x6, co, j1, j2 =>
    if x4 = 0 then
      some (co)
    else
      ckn j1 7 <|
      if (16 : Int32) ≤ x6 then
        some (co)
      else
        ckn j2 7 <|
        if (16 : Int32) ≤ x6 then
          some (co)
        else
          ckn j1 7 <|
          ck x6 16 <|
          ckn j2 7 <|
          ck x6 16 <|
          bd1 (f_J9_floorMod_7cf53 (((Co_rw co j1 (Int32.toNatClampNeg x6)) * x5) - ((Co_rw co j2 (Int32.toNatClampNeg x6)) * x4)) x3) fun (r_3 : Int32) =>
          ckn j1 7 <|
          ck x6 16 <|
          lt1 (Co_rw' co (va_up (Co_rw co) j1 (upd (Co_rw co j1) (Int32.toNatClampNeg x6) r_3))) fun (co_4 : CoS) =>
          lt1 (x6 + (1 : Int32)) fun (v_5 : Int32) =>
          f_X2_clearColumn_L13 n_ x3 x4 x5 v_5 co_4 j1 j2
def f_X2_clearColumn (co : CoS) (j1 : Nat) (j2 : Nat) (p2 : Int32) (p3 : Int32) : Option ((CoS)) :=
  ckn j1 7 <|
  ck p2 16 <|
  lt1 (Co_rw co j1 (Int32.toNatClampNeg p2)) fun (v_1 : Int32) =>
  ckn j2 7 <|
  ck p2 16 <|
  lt1 (Co_rw co j2 (Int32.toNatClampNeg p2)) fun (v_2 : Int32) =>
  f_X2_clearColumn_L13 FU p3 v_1 v_2 (0 : Int32) co j1 j2
def f_X2_rank_L71 (x1 : Int32) (x2 : Int32) (x3 : Int32) (x4 : Int32) (co : CoS) (k5 : (Int32) → (Int32) → (Int32) → (Int32) → (CoS) → Option (Int32 × (CoS))) : Option (Int32 × (CoS)) :=
  lt1 (x4 + (1 : Int32)) fun (v_4 : Int32) =>
  k5 x1 x2 x3 v_4 co
def f_X2_rank_L37 : Nat → (Int32) → (Int32) → (Int32) → (Int32) → (Int32) → (CoS) → ((Int32) → (Int32) → (Int32) → (Int32) → (CoS) → Option (Int32 × (CoS))) → Option (Int32 × (CoS))
  | 0, _, _, _, _, _, _, _ => none
  | n_ + 1, x1, x2, x3, x4, x5, co, k5 =>
    if x1 ≤ x5 then
      lt1 (x3 + (1 : Int32)) fun (v_5 : Int32) =>
      f_X2_rank_L71 x1 x2 v_5 x4 co k5
    else
      ck x5 7 <|
      ck x3 7 <|
      bd1 (f_X2_clearColumn co (Co_pi co (Int32.toNatClampNeg x5)) (Co_pi co (Int32.toNatClampNeg x3)) x4 x2) fun (co_6 : CoS) =>
      lt1 (x5 + (1 : Int32)) fun (v_7 : Int32) =>
      f_X2_rank_L37 n_ x1 x2 x3 x4 v_7 co_6 k5
def f_X2_rank_L5 : Nat → (Int32) → (Int32) → (Int32) → (Int32) → (CoS) → Option (Int32 × (CoS))
  | 0, _, _, _, _, _ => none
  | n_ + 1, x1, x2, x3, x4, co =>
    if (Co_arcs co) ≤ x4 then
      some (x3, co)
    else
      if (16 : Int32) ≤ x4 then
        some (x3, co)
      else
        bd2 (f_X2_bringsUp co x3 x1 x4) fun (r_1 : Int32) (co_2 : CoS) =>
        if r_1 = 0 then
          f_X2_rank_L71 x1 x2 x3 x4 co_2 (fun y0 y1 y2 y3 y4 => f_X2_rank_L5 n_ y0 y1 y2 y3 y4)
        else
          lt1 (x3 + (1 : Int32)) fun (v_3 : Int32) =>
          f_X2_rank_L37 FU x1 x2 x3 x4 v_3 co_2 (fun y0 y1 y2 y3 y4 => f_X2_rank_L5 n_ y0 y1 y2 y3 y4)
def f_X2_rank (co : CoS) (p1 : Int32) (p2 : Int32) : Option (Int32 × (CoS)) :=
  f_X2_rank_L5 FU p1 p2 (0 : Int32) (0 : Int32) co
def f_X2_freeColours_L58 (x3 : Int32) (x4 : Int32) (x5 : Int32) (co : CoS) (bo : BoS) (ri : RiS) (k13 : (Int32) → (Int32) → (Int32) → (CoS) → (BoS) → (RiS) → Option (Int32 × (CoS))) : Option (Int32 × (CoS)) :=
  lt1 (x5 + (1 : Int32)) fun (v_8 : Int32) =>
  k13 x3 x4 v_8 co bo ri
def f_X2_freeColours_L64 (x3 : Int32) (x4 : Int32) (co : CoS) : Option (Int32 × (CoS)) :=
  bd2 (f_X2_rank co x4 x3) fun (r_6 : Int32) (co_7 : CoS) =>
  some (((Co_arcs co) - r_6), co_7)
def f_X2_freeColours_L13 : Nat → (Int32) → (Int32) → (Int32) → (CoS) → (BoS) → (RiS) → Option (Int32 × (CoS))
  | 0, _, _, _, _, _, _ => none
  | n_ + 1, x3, x4, x5, co, bo, ri =>
    if (7 : Int32) ≤ x5 then
      f_X2_freeColours_L64 x3 x4 co
    else
      if (Ri_crossings ri) ≤ x5 then
        f_X2_freeColours_L64 x3 x4 co
      else
        bd1 (f_X0_isLeft bo x5) fun (r_3 : Int32) =>
        if r_3 = 0 then
          f_X2_freeColours_L58 x3 x4 x5 co bo ri (fun y0 y1 y2 y3 y4 y5 => f_X2_freeColours_L13 n_ y0 y1 y2 y3 y4 y5)
        else
          ck x4 7 <|
          bd1 (f_X2_fillRow co (Co_pi co (Int32.toNatClampNeg x4)) x5 x3) fun (co_4 : CoS) =>
          lt1 (x4 + (1 : Int32)) fun (v_5 : Int32) =>
          f_X2_freeColours_L58 x3 v_5 x5 co_4 bo ri (fun y0 y1 y2 y3 y4 y5 => f_X2_freeColours_L13 n_ y0 y1 y2 y3 y4 y5)
def f_X2_freeColours (co : CoS) (bo : BoS) (ri : RiS) (p2 : Int32) (p3 : Int32) : Option (Int32 × (CoS)) :=
  bd2 (f_X2_countArcs co bo ri p2) fun (r_1 : Int32) (co_2 : CoS) =>
  f_X2_freeColours_L13 FU p3 (0 : Int32) (0 : Int32) co_2 bo ri
def f_X3_clear (hi : HiS) : Option ((HiS)) :=
  lt1 (Hi_kept' hi (0 : Int32)) fun (hi_1 : HiS) =>
  lt1 (Hi_marked' hi_1 (0 : Int32)) fun (hi_2 : HiS) =>
  lt1 (Hi_free' hi_2 (0 : Int32)) fun (hi_3 : HiS) =>
  some (hi_3)
def f_X3_keep (hi : HiS) (now : MoS) : Option ((HiS)) :=
  ck ((Hi_free hi) &&& (15 : Int32)) 16 <|
  bd1 (f_X4_become (Hi_mo hi (Int32.toNatClampNeg ((Hi_free hi) &&& (15 : Int32)))) now) fun (mo_1 : MoS) =>
  lt1 (Hi_mo' hi (va_up (Hi_mo hi) (Int32.toNatClampNeg ((Hi_free hi) &&& (15 : Int32))) mo_1)) fun (hi_2 : HiS) =>
  lt1 (Hi_free' hi_2 (((Hi_free hi_2) + (1 : Int32)) &&& (15 : Int32))) fun (hi_3 : HiS) =>
  lt1 (Hi_kept' hi_3 (if (16 : Int32) < ((Hi_kept hi_3) + (1 : Int32)) then (16 : Int32) else ((Hi_kept hi_3) + (1 : Int32)))) fun (hi_4 : HiS) =>
  some (hi_4)
def f_X3_giveLatest (hi : HiS) (now : MoS) : Option (Int32 × (HiS) × (MoS)) :=
  if (Hi_kept hi) = 0 then
    some ((0 : Int32), hi, now)
  else
    lt1 (Hi_kept' hi ((Hi_kept hi) - (1 : Int32))) fun (hi_1 : HiS) =>
    lt1 (Hi_free' hi_1 (((Hi_free hi_1) - (1 : Int32)) &&& (15 : Int32))) fun (hi_2 : HiS) =>
    ck (Hi_free hi_2) 16 <|
    bd1 (f_X4_become now (Hi_mo hi_2 (Int32.toNatClampNeg (Hi_free hi_2)))) fun (now_3 : MoS) =>
    some ((1 : Int32), hi_2, now_3)
def f_X3_setMark (hi : HiS) (now : MoS) : Option (Int32 × (HiS)) :=
  if (Hi_marked hi) < (3 : Int32) then
    ck (Hi_marked hi) 3 <|
    bd1 (f_X4_become (Hi_mk hi (Int32.toNatClampNeg (Hi_marked hi))) now) fun (mo_1 : MoS) =>
    lt1 (Hi_mk' hi (va_up (Hi_mk hi) (Int32.toNatClampNeg (Hi_marked hi)) mo_1)) fun (hi_2 : HiS) =>
    lt1 (Hi_marked' hi_2 ((Hi_marked hi_2) + (1 : Int32))) fun (hi_3 : HiS) =>
    some (((Hi_marked hi_3) - (1 : Int32)), hi_3)
  else
    some ((-1 : Int32), hi)
def f_X3_giveMarked (hi : HiS) (now : MoS) (p1 : Int32) : Option (Int32 × (HiS) × (MoS)) :=
  if p1 < 0 then
    some ((0 : Int32), hi, now)
  else
    if p1 < (Hi_marked hi) then
      ck p1 3 <|
      bd1 (f_X4_become now (Hi_mk hi (Int32.toNatClampNeg p1))) fun (now_1 : MoS) =>
      lt1 (Hi_kept' hi (0 : Int32)) fun (hi_2 : HiS) =>
      some ((1 : Int32), hi_2, now_1)
    else
      some ((0 : Int32), hi, now)
def f_X5_isFaulty (re : ReS) (ta : TaS) (p1 : Int32) : Option (Int32 × (ReS)) :=
  lt1 (Re_fault' re p1) fun (re_1 : ReS) =>
  ck (Re_token re_1) 901 <|
  lt1 (Re_place' re_1 (Ta_starts ta (Int32.toNatClampNeg (Re_token re_1)))) fun (re_2 : ReS) =>
  some ((0 : Int32), re_2)
def f_X5_advance (re : ReS) (ta : TaS) : Option ((ReS)) :=
  if ((Ta_count ta) - (1 : Int32)) ≤ (Re_token re) then
    some (re)
  else
    lt1 (Re_token' re ((Re_token re) + (1 : Int32))) fun (re_1 : ReS) =>
    some (re_1)
def f_X5_isWord (re : ReS) (ta : TaS) (p1 : Int32) : Option (Int32) :=
  ck (Re_token re) 901 <|
  if (Ta_kinds ta (Int32.toNatClampNeg (Re_token re))) = (1 : Int32) then
    ck (Re_token re) 901 <|
    if (Ta_values ta (Int32.toNatClampNeg (Re_token re))) = p1 then
      some ((1 : Int32))
    else
      some ((0 : Int32))
  else
    some ((0 : Int32))
def f_X5_takesWord (re : ReS) (ta : TaS) (p1 : Int32) : Option (Int32 × (ReS)) :=
  bd1 (f_X5_advance re ta) fun (re_1 : ReS) =>
  bd1 (f_X5_isWord re_1 ta p1) fun (r_2 : Int32) =>
  if r_2 = 0 then
    bd2 (f_X5_isFaulty re_1 ta (1 : Int32)) fun (r_3 : Int32) (re_4 : ReS) =>
    if r_3 = 0 then
      some ((0 : Int32), re_4)
    else
      some ((1 : Int32), re_4)
  else
    some ((1 : Int32), re_1)
def f_X5_kind (re : ReS) (ta : TaS) : Option (Int32) :=
  ck (Re_token re) 901 <|
  some ((Ta_kinds ta (Int32.toNatClampNeg (Re_token re))))
def f_X5_takesWhole_L50 (re : ReS) (ta : TaS) : Option (Int32 × (ReS)) :=
  bd2 (f_X5_isFaulty re ta (4 : Int32)) fun (r_6 : Int32) (re_7 : ReS) =>
  if r_6 = 0 then
    some ((0 : Int32), re_7)
  else
    some ((1 : Int32), re_7)
def f_X5_takesWhole (re : ReS) (ta : TaS) (p1 : Int32) (p2 : Int32) : Option (Int32 × (ReS)) :=
  bd1 (f_X5_advance re ta) fun (re_1 : ReS) =>
  bd1 (f_X5_kind re_1 ta) fun (r_2 : Int32) =>
  if r_2 = (2 : Int32) then
    ck (Re_token re_1) 901 <|
    lt1 (Re_taken' re_1 (Ta_values ta (Int32.toNatClampNeg (Re_token re_1)))) fun (re_3 : ReS) =>
    if (Re_taken re_3) < p1 then
      f_X5_takesWhole_L50 re_3 ta
    else
      if (Re_taken re_3) ≤ p2 then
        some ((1 : Int32), re_3)
      else
        f_X5_takesWhole_L50 re_3 ta
  else
    bd2 (f_X5_isFaulty re_1 ta (1 : Int32)) fun (r_4 : Int32) (re_5 : ReS) =>
    zb r_4 <|
    some (r_4, re_5)
def f_X5_readsTangle (re : ReS) (ta : TaS) (to : ToS) : Option (Int32 × (ReS) × (ToS)) :=
  if (To_begun to) = 0 then
    bd2 (f_X5_takesWord re ta (4 : Int32)) fun (r_1 : Int32) (re_2 : ReS) =>
    if r_1 = 0 then
      some ((0 : Int32), re_2, to)
    else
      bd2 (f_X5_takesWhole re_2 ta (0 : Int32) (99 : Int32)) fun (r_3 : Int32) (re_4 : ReS) =>
      if r_3 = 0 then
        some ((0 : Int32), re_4, to)
      else
        lt1 (To_begun' to (1 : Int32)) fun (to_5 : ToS) =>
        lt1 (To_tall' to_5 (Re_taken re_4)) fun (to_6 : ToS) =>
        bd1 (f_X5_advance re_4 ta) fun (re_7 : ReS) =>
        bd1 (f_X5_isWord re_7 ta (5 : Int32)) fun (r_8 : Int32) =>
        if r_8 = 0 then
          some ((1 : Int32), re_7, to_6)
        else
          lt1 (To_once' to_6 (1 : Int32)) fun (to_9 : ToS) =>
          bd1 (f_X5_advance re_7 ta) fun (re_10 : ReS) =>
          some ((1 : Int32), re_10, to_9)
  else
    bd2 (f_X5_isFaulty re ta (3 : Int32)) fun (r_11 : Int32) (re_12 : ReS) =>
    zb r_11 <|
    some (r_11, re_12, to)
def f_X5_takesName_L44 (re : ReS) (ta : TaS) : Option (Int32 × (ReS)) :=
  bd2 (f_X5_isFaulty re ta (1 : Int32)) fun (r_4 : Int32) (re_5 : ReS) =>
  if r_4 = 0 then
    some ((0 : Int32), re_5)
  else
    some ((1 : Int32), re_5)
def f_X5_takesName (re : ReS) (ta : TaS) : Option (Int32 × (ReS)) :=
  bd1 (f_X5_advance re ta) fun (re_1 : ReS) =>
  ck (Re_token re_1) 901 <|
  lt1 (Re_name' re_1 (Ta_spellings ta (Int32.toNatClampNeg (Re_token re_1)))) fun (re_2 : ReS) =>
  bd1 (f_X5_kind re_2 ta) fun (r_3 : Int32) =>
  if r_3 = (1 : Int32) then
    ck (Re_token re_2) 901 <|
    if (3 : Int32) < (Ta_values ta (Int32.toNatClampNeg (Re_token re_2))) then
      some ((1 : Int32), re_2)
    else
      f_X5_takesName_L44 re_2 ta
  else
    f_X5_takesName_L44 re_2 ta
def f_X5_takesLink (re : ReS) (ta : TaS) (to : ToS) : Option (Int32 × (ReS)) :=
  bd2 (f_X5_takesName re ta) fun (r_1 : Int32) (re_2 : ReS) =>
  if r_1 = 0 then
    some ((0 : Int32), re_2)
  else
    bd1 (f_X9_linkNamed to (Re_name re_2)) fun (r_3 : Int32) =>
    lt1 (Re_taken' re_2 r_3) fun (re_4 : ReS) =>
    if (Re_taken re_4) = (-1 : Int32) then
      bd2 (f_X5_isFaulty re_4 ta (2 : Int32)) fun (r_5 : Int32) (re_6 : ReS) =>
      if r_5 = 0 then
        some ((0 : Int32), re_6)
      else
        some ((1 : Int32), re_6)
    else
      some ((1 : Int32), re_4)
def f_X5_takesPass (re : ReS) (ta : TaS) (to : ToS) (p1 : Int32) : Option (Int32 × (ReS) × (ToS)) :=
  bd2 (f_X5_takesLink re ta to) fun (r_1 : Int32) (re_2 : ReS) =>
  if r_1 = 0 then
    some ((0 : Int32), re_2, to)
  else
    lt1 (Re_taken re_2) fun (v_3 : Int32) =>
    bd2 (f_X5_takesWhole re_2 ta (1 : Int32) (9 : Int32)) fun (r_4 : Int32) (re_5 : ReS) =>
    if r_4 = 0 then
      some ((0 : Int32), re_5, to)
    else
      bd1 (f_X9_passOn to v_3 (Re_taken re_5)) fun (r_6 : Int32) =>
      if r_6 = 0 then
        bd1 (f_X9_addPass to v_3 (Re_taken re_5) p1) fun (to_7 : ToS) =>
        some ((1 : Int32), re_5, to_7)
      else
        bd2 (f_X5_isFaulty re_5 ta (3 : Int32)) fun (r_8 : Int32) (re_9 : ReS) =>
        zb r_8 <|
        some (r_8, re_9, to)
def f_X5_readsCross_L73 (re : ReS) (to : ToS) (ta : TaS) : Option (Int32 × (ReS) × (ToS)) :=
  bd1 (f_X5_isWord re ta (9 : Int32)) fun (r_16 : Int32) =>
  bd1 (f_X9_addCrossing to r_16) fun (to_17 : ToS) =>
  some ((1 : Int32), re, to_17)
def f_X5_readsCross (re : ReS) (ta : TaS) (to : ToS) : Option (Int32 × (ReS) × (ToS)) :=
  if (To_crossings to) < (7 : Int32) then
    bd3 (f_X5_takesPass re ta to (1 : Int32)) fun (r_1 : Int32) (re_2 : ReS) (to_3 : ToS) =>
    if r_1 = 0 then
      some ((0 : Int32), re_2, to_3)
    else
      bd2 (f_X5_takesWord re_2 ta (8 : Int32)) fun (r_4 : Int32) (re_5 : ReS) =>
      if r_4 = 0 then
        some ((0 : Int32), re_5, to_3)
      else
        bd3 (f_X5_takesPass re_5 ta to_3 (0 : Int32)) fun (r_6 : Int32) (re_7 : ReS) (to_8 : ToS) =>
        if r_6 = 0 then
          some ((0 : Int32), re_7, to_8)
        else
          bd1 (f_X5_advance re_7 ta) fun (re_9 : ReS) =>
          bd1 (f_X5_isWord re_9 ta (9 : Int32)) fun (r_10 : Int32) =>
          if r_10 = 0 then
            bd1 (f_X5_isWord re_9 ta (10 : Int32)) fun (r_11 : Int32) =>
            if r_11 = 0 then
              bd2 (f_X5_isFaulty re_9 ta (1 : Int32)) fun (r_12 : Int32) (re_13 : ReS) =>
              zb r_12 <|
              some (r_12, re_13, to_8)
            else
              f_X5_readsCross_L73 re_9 to_8 ta
          else
            f_X5_readsCross_L73 re_9 to_8 ta
  else
    bd2 (f_X5_isFaulty re ta (5 : Int32)) fun (r_14 : Int32) (re_15 : ReS) =>
    zb r_14 <|
    some (r_14, re_15, to)
def f_X5_takesNewName_L44 (t0i : Int32) (re : ReS) (ta : TaS) : Option (Int32 × (ReS)) :=
  if t0i = 0 then
    some ((1 : Int32), re)
  else
    bd2 (f_X5_isFaulty re ta (3 : Int32)) fun (r_5 : Int32) (re_6 : ReS) =>
    if r_5 = 0 then
      some ((0 : Int32), re_6)
    else
      some ((1 : Int32), re_6)
def f_X5_takesNewName_L39 (re : ReS) (ta : TaS) : Option (Int32 × (ReS)) :=
  f_X5_takesNewName_L44 (1 : Int32) re ta
def f_X5_takesNewName (re : ReS) (ta : TaS) (to : ToS) : Option (Int32 × (ReS)) :=
  bd2 (f_X5_takesName re ta) fun (r_1 : Int32) (re_2 : ReS) =>
  if r_1 = 0 then
    some ((0 : Int32), re_2)
  else
    bd1 (f_X9_personNamed to (Re_name re_2)) fun (r_3 : Int32) =>
    if r_3 = (-1 : Int32) then
      bd1 (f_X9_linkNamed to (Re_name re_2)) fun (r_4 : Int32) =>
      if r_4 = (-1 : Int32) then
        f_X5_takesNewName_L44 (0 : Int32) re_2 ta
      else
        f_X5_takesNewName_L39 re_2 ta
    else
      f_X5_takesNewName_L39 re_2 ta
def f_X5_takesPerson (re : ReS) (ta : TaS) (to : ToS) : Option (Int32 × (ReS)) :=
  bd2 (f_X5_takesName re ta) fun (r_1 : Int32) (re_2 : ReS) =>
  if r_1 = 0 then
    some ((0 : Int32), re_2)
  else
    bd1 (f_X9_personNamed to (Re_name re_2)) fun (r_3 : Int32) =>
    lt1 (Re_taken' re_2 r_3) fun (re_4 : ReS) =>
    if (Re_taken re_4) = (-1 : Int32) then
      bd2 (f_X5_isFaulty re_4 ta (2 : Int32)) fun (r_5 : Int32) (re_6 : ReS) =>
      if r_5 = 0 then
        some ((0 : Int32), re_6)
      else
        some ((1 : Int32), re_6)
    else
      some ((1 : Int32), re_4)
def f_X5_takesHand_L46 (t1i : Int32) (t2i : Int32) (re : ReS) (ta : TaS) (to : ToS) : Option (Int32 × (ReS)) :=
  lt1 (Re_taken' re (t1i + t2i)) fun (re_7 : ReS) =>
  bd1 (f_X9_isHeld to (Re_taken re_7)) fun (r_8 : Int32) =>
  if r_8 = 0 then
    some ((1 : Int32), re_7)
  else
    bd2 (f_X5_isFaulty re_7 ta (3 : Int32)) fun (r_9 : Int32) (re_10 : ReS) =>
    if r_9 = 0 then
      some ((0 : Int32), re_10)
    else
      some ((1 : Int32), re_10)
def f_X5_takesHand_L28 (x1 : Int32) (re : ReS) (ta : TaS) (to : ToS) : Option (Int32 × (ReS)) :=
  bd1 (f_X5_isWord re ta (7 : Int32)) fun (r_6 : Int32) =>
  if r_6 = 0 then
    f_X5_takesHand_L46 ((2 : Int32) * x1) (0 : Int32) re ta to
  else
    f_X5_takesHand_L46 ((2 : Int32) * x1) (1 : Int32) re ta to
def f_X5_takesHand (re : ReS) (ta : TaS) (to : ToS) (p1 : Int32) : Option (Int32 × (ReS)) :=
  bd1 (f_X5_advance re ta) fun (re_1 : ReS) =>
  bd1 (f_X5_isWord re_1 ta (6 : Int32)) fun (r_2 : Int32) =>
  if r_2 = 0 then
    bd1 (f_X5_isWord re_1 ta (7 : Int32)) fun (r_3 : Int32) =>
    if r_3 = 0 then
      bd2 (f_X5_isFaulty re_1 ta (1 : Int32)) fun (r_4 : Int32) (re_5 : ReS) =>
      zb r_4 <|
      some (r_4, re_5)
    else
      f_X5_takesHand_L28 p1 re_1 ta to
  else
    f_X5_takesHand_L28 p1 re_1 ta to
def f_X5_readsHold_L106 (re : ReS) (to : ToS) (ta : TaS) : Option (Int32 × (ReS) × (ToS)) :=
  bd2 (f_X5_isFaulty re ta (3 : Int32)) fun (r_16 : Int32) (re_17 : ReS) =>
  zb r_16 <|
  some (r_16, re_17, to)
def f_X5_readsHold_L112 (x1 : Int64) (x4 : Int32) (x5 : Int32) (re : ReS) (to : ToS) (ta : TaS) : Option (Int32 × (ReS) × (ToS)) :=
  bd2 (f_X5_takesHand re ta to x5) fun (r_18 : Int32) (re_19 : ReS) =>
  if r_18 = 0 then
    some ((0 : Int32), re_19, to)
  else
    bd1 (f_X9_addLink to x1 x4 (Re_taken re_19)) fun (to_20 : ToS) =>
    some ((1 : Int32), re_19, to_20)
def f_X5_readsHold (re : ReS) (ta : TaS) (to : ToS) : Option (Int32 × (ReS) × (ToS)) :=
  if (To_links to) < (8 : Int32) then
    bd2 (f_X5_takesNewName re ta to) fun (r_1 : Int32) (re_2 : ReS) =>
    if r_1 = 0 then
      some ((0 : Int32), re_2, to)
    else
      lt1 (Re_name re_2) fun (v_3 : Int64) =>
      bd2 (f_X5_takesPerson re_2 ta to) fun (r_4 : Int32) (re_5 : ReS) =>
      if r_4 = 0 then
        some ((0 : Int32), re_5, to)
      else
        lt1 (Re_taken re_5) fun (v_6 : Int32) =>
        bd2 (f_X5_takesHand re_5 ta to v_6) fun (r_7 : Int32) (re_8 : ReS) =>
        if r_7 = 0 then
          some ((0 : Int32), re_8, to)
        else
          lt1 (Re_taken re_8) fun (v_9 : Int32) =>
          bd2 (f_X5_takesPerson re_8 ta to) fun (r_10 : Int32) (re_11 : ReS) =>
          if r_10 = 0 then
            some ((0 : Int32), re_11, to)
          else
            lt1 (Re_taken re_11) fun (v_12 : Int32) =>
            if v_12 = v_6 then
              f_X5_readsHold_L106 re_11 to ta
            else
              if (To_once to) = 0 then
                f_X5_readsHold_L112 v_3 v_9 v_12 re_11 to ta
              else
                bd1 (f_X9_areHeld to v_6 v_12) fun (r_13 : Int32) =>
                if r_13 = 0 then
                  f_X5_readsHold_L112 v_3 v_9 v_12 re_11 to ta
                else
                  f_X5_readsHold_L106 re_11 to ta
  else
    bd2 (f_X5_isFaulty re ta (5 : Int32)) fun (r_14 : Int32) (re_15 : ReS) =>
    zb r_14 <|
    some (r_14, re_15, to)
def f_X5_readsPerson (re : ReS) (ta : TaS) (to : ToS) : Option (Int32 × (ReS) × (ToS)) :=
  if (To_people to) < (8 : Int32) then
    bd2 (f_X5_takesNewName re ta to) fun (r_1 : Int32) (re_2 : ReS) =>
    if r_1 = 0 then
      some ((0 : Int32), re_2, to)
    else
      lt1 (Re_name re_2) fun (v_3 : Int64) =>
      bd2 (f_X5_takesWord re_2 ta (4 : Int32)) fun (r_4 : Int32) (re_5 : ReS) =>
      if r_4 = 0 then
        some ((0 : Int32), re_5, to)
      else
        bd2 (f_X5_takesWhole re_5 ta (1 : Int32) (99 : Int32)) fun (r_6 : Int32) (re_7 : ReS) =>
        if r_6 = 0 then
          some ((0 : Int32), re_7, to)
        else
          bd1 (f_X9_addPerson to v_3 (Re_taken re_7)) fun (to_8 : ToS) =>
          some ((1 : Int32), re_7, to_8)
  else
    bd2 (f_X5_isFaulty re ta (5 : Int32)) fun (r_9 : Int32) (re_10 : ReS) =>
    zb r_9 <|
    some (r_9, re_10, to)
def f_X5_readsLine_L94 (t0i : Int32) (re : ReS) (to : ToS) (ta : TaS) : Option (Int32 × (ReS) × (ToS)) :=
  if t0i = 0 then
    zb t0i <|
    some (t0i, re, to)
  else
    bd1 (f_X5_advance re ta) fun (re_22 : ReS) =>
    zb t0i <|
    some (t0i, re_22, to)
def f_X5_readsLine_L51 (x1 : Int32) (x2 : Int32) (re : ReS) (to : ToS) (ta : TaS) : Option (Int32 × (ReS) × (ToS)) :=
  if (To_begun to) = 0 then
    bd2 (f_X5_isFaulty re ta (6 : Int32)) fun (r_20 : Int32) (re_21 : ReS) =>
    zb r_20 <|
    some (r_20, re_21, to)
  else
    if x1 = 0 then
      if x2 = 0 then
        bd3 (f_X5_readsCross re ta to) fun (r_11 : Int32) (re_12 : ReS) (to_13 : ToS) =>
        f_X5_readsLine_L94 r_11 re_12 to_13 ta
      else
        bd3 (f_X5_readsHold re ta to) fun (r_14 : Int32) (re_15 : ReS) (to_16 : ToS) =>
        f_X5_readsLine_L94 r_14 re_15 to_16 ta
    else
      bd3 (f_X5_readsPerson re ta to) fun (r_17 : Int32) (re_18 : ReS) (to_19 : ToS) =>
      f_X5_readsLine_L94 r_17 re_18 to_19 ta
def f_X5_readsLine (re : ReS) (ta : TaS) (to : ToS) : Option (Int32 × (ReS) × (ToS)) :=
  bd1 (f_X5_advance re ta) fun (re_1 : ReS) =>
  bd1 (f_X5_isWord re_1 ta (0 : Int32)) fun (r_2 : Int32) =>
  if r_2 = 0 then
    bd1 (f_X5_isWord re_1 ta (1 : Int32)) fun (r_3 : Int32) =>
    bd1 (f_X5_isWord re_1 ta (2 : Int32)) fun (r_4 : Int32) =>
    if r_3 = 0 then
      if r_4 = 0 then
        bd1 (f_X5_isWord re_1 ta (3 : Int32)) fun (r_5 : Int32) =>
        if r_5 = 0 then
          bd2 (f_X5_isFaulty re_1 ta (1 : Int32)) fun (r_6 : Int32) (re_7 : ReS) =>
          zb r_6 <|
          some (r_6, re_7, to)
        else
          f_X5_readsLine_L51 r_3 r_4 re_1 to ta
      else
        f_X5_readsLine_L51 r_3 r_4 re_1 to ta
    else
      f_X5_readsLine_L51 r_3 r_4 re_1 to ta
  else
    bd3 (f_X5_readsTangle re_1 ta to) fun (r_8 : Int32) (re_9 : ReS) (to_10 : ToS) =>
    zb r_8 <|
    some (r_8, re_9, to_10)
def f_X5_reads_L32 : Nat → (Int32) → (ReS) → (TaS) → (ToS) → Option (Int32 × (ReS) × (TaS) × (ToS))
  | 0, _, _, _, _ => none
  | n_ + 1, x2, re, ta, to =>
    if (Ta_count ta) ≤ x2 then
      bd2 (f_X5_isFaulty re ta (1 : Int32)) fun (r_6 : Int32) (re_7 : ReS) =>
      zb r_6 <|
      some (r_6, re_7, ta, to)
    else
      bd3 (f_X5_readsLine re ta to) fun (r_8 : Int32) (re_9 : ReS) (to_10 : ToS) =>
      if r_8 = 0 then
        some ((0 : Int32), re_9, ta, to_10)
      else
        bd1 (f_X5_kind re_9 ta) fun (r_11 : Int32) =>
        if r_11 = 0 then
          bd1 (f_X9_lacksSomething to_10) fun (r_16 : Int32) =>
          if r_16 = 0 then
            some ((1 : Int32), re_9, ta, to_10)
          else
            bd2 (f_X5_isFaulty re_9 ta (6 : Int32)) fun (r_17 : Int32) (re_18 : ReS) =>
            if r_17 = 0 then
              some ((0 : Int32), re_18, ta, to_10)
            else
              some ((1 : Int32), re_18, ta, to_10)
        else
          bd1 (f_X5_kind re_9 ta) fun (r_12 : Int32) =>
          if r_12 = (3 : Int32) then
            lt1 (x2 + (1 : Int32)) fun (v_13 : Int32) =>
            f_X5_reads_L32 n_ v_13 re_9 ta to_10
          else
            bd2 (f_X5_isFaulty re_9 ta (1 : Int32)) fun (r_14 : Int32) (re_15 : ReS) =>
            zb r_14 <|
            some (r_14, re_15, ta, to_10)
def f_X5_reads (re : ReS) (ta : TaS) (to : ToS) (p1 : Int32) : Option (Int32 × (ReS) × (TaS) × (ToS)) :=
  bd1 (f_X8_cut ta p1) fun (ta_1 : TaS) =>
  bd1 (f_X9_clear to) fun (to_2 : ToS) =>
  lt1 (Re_fault' re (0 : Int32)) fun (re_3 : ReS) =>
  lt1 (Re_place' re_3 (0 : Int32)) fun (re_4 : ReS) =>
  lt1 (Re_token' re_4 (-1 : Int32)) fun (re_5 : ReS) =>
  f_X5_reads_L32 FU (0 : Int32) re_5 ta_1 to_2
def f_X11_refuse (hk : HKS) (p1 : Int32) : Option (Int32 × (HKS)) :=
  lt1 (HK_trouble' hk p1) fun (hk_1 : HKS) =>
  some ((-1 : Int32), hk_1)
def f_X11_refuseSigned (hk : HKS) (p1 : Int32) : Option (Int32 × (HKS)) :=
  lt1 (HK_trouble' hk p1) fun (hk_1 : HKS) =>
  some ((-100 : Int32), hk_1)
def f_X11_refuseFlatly (hk : HKS) (p1 : Int32) : Option (Int32 × (HKS)) :=
  lt1 (HK_trouble' hk p1) fun (hk_1 : HKS) =>
  some ((0 : Int32), hk_1)
def f_X11_grant (hk : HKS) (p1 : Int32) : Option (Int32 × (HKS)) :=
  lt1 (HK_trouble' hk (0 : Int32)) fun (hk_1 : HKS) =>
  some (p1, hk_1)
def f_X11_isPerson (hk : HKS) (ri : RiS) (p1 : Int32) : Option (Int32) :=
  if (HK_there hk) = 0 then
    some ((0 : Int32))
  else
    if p1 < 0 then
      some ((0 : Int32))
    else
      if (Ri_people ri) ≤ p1 then
        some ((0 : Int32))
      else
        some ((1 : Int32))
def f_X11_isLink (hk : HKS) (ri : RiS) (p1 : Int32) : Option (Int32) :=
  if (HK_there hk) = 0 then
    some ((0 : Int32))
  else
    if p1 < 0 then
      some ((0 : Int32))
    else
      if (Ri_links ri) ≤ p1 then
        some ((0 : Int32))
      else
        some ((1 : Int32))
def f_X11_isRing (hk : HKS) (ri : RiS) (p1 : Int32) : Option (Int32) :=
  if (HK_there hk) = 0 then
    some ((0 : Int32))
  else
    if p1 < 0 then
      some ((0 : Int32))
    else
      if (Ri_count ri) ≤ p1 then
        some ((0 : Int32))
      else
        some ((1 : Int32))
def f_X11_isCrossing (hk : HKS) (ri : RiS) (p1 : Int32) : Option (Int32) :=
  if (HK_there hk) = 0 then
    some ((0 : Int32))
  else
    if p1 < 0 then
      some ((0 : Int32))
    else
      if (Ri_crossings ri) ≤ p1 then
        some ((0 : Int32))
      else
        some ((1 : Int32))
def f_X11_isStanding (hk : HKS) (ri : RiS) (p1 : Int32) : Option (Int32) :=
  if (HK_there hk) = 0 then
    some ((0 : Int32))
  else
    if p1 < 0 then
      some ((0 : Int32))
    else
      if (Ri_standings ri) ≤ p1 then
        some ((0 : Int32))
      else
        some ((1 : Int32))
def f_X11_isMove (hk : HKS) (ri : RiS) (p1 : Int32) : Option (Int32) :=
  if (HK_there hk) = 0 then
    some ((0 : Int32))
  else
    bd1 (f_X0_isNumber p1 (Ri_crossings ri)) fun (r_1 : Int32) =>
    if r_1 = 0 then
      some ((0 : Int32))
    else
      some ((1 : Int32))
def f_X11_isDepth (p0 : Int32) : Option (Int32) :=
  if p0 < 0 then
    some ((0 : Int32))
  else
    if (8 : Int32) < p0 then
      some ((0 : Int32))
    else
      some ((1 : Int32))
def f_X11_isSeed (p0 : Int32) : Option (Int32) :=
  if p0 < 0 then
    some ((0 : Int32))
  else
    if (65537 : Int32) ≤ p0 then
      some ((0 : Int32))
    else
      some ((1 : Int32))
def f_X11_feed (ta : TaS) (p1 : Int32) (p2 : Int32) (p3 : Int32) (p4 : Int32) (p5 : Int32) : Option (Int32 × (TaS)) :=
  bd1 (f_X8_hasRoom ta) fun (r_1 : Int32) =>
  if r_1 = 0 then
    some ((-1 : Int32), ta)
  else
    bd1 (f_X8_take ta p1) fun (ta_2 : TaS) =>
    bd1 (f_X8_take ta_2 p2) fun (ta_3 : TaS) =>
    bd1 (f_X8_take ta_3 p3) fun (ta_4 : TaS) =>
    bd1 (f_X8_take ta_4 p4) fun (ta_5 : TaS) =>
    bd1 (f_X8_take ta_5 p5) fun (ta_6 : TaS) =>
    some ((Ta_filled ta_6), ta_6)
def f_X11_tangle_L18 (hk : HKS) (re : ReS) (ta : TaS) (bo : BoS) (hi : HiS) (now : MoS) (ri : RiS) (to : ToS) : Option (Int32 × (HKS) × (ReS) × (TaS) × (BoS) × (HiS) × (MoS) × (RiS) × (ToS)) :=
  bd2 (f_X11_refuse hk (2 : Int32)) fun (r_14 : Int32) (hk_15 : HKS) =>
  some (r_14, hk_15, re, ta, bo, hi, now, ri, to)
def f_X11_tangle (hk : HKS) (re : ReS) (ta : TaS) (bo : BoS) (hi : HiS) (now : MoS) (ri : RiS) (to : ToS) (p1 : Int32) : Option (Int32 × (HKS) × (ReS) × (TaS) × (BoS) × (HiS) × (MoS) × (RiS) × (ToS)) :=
  if p1 < 0 then
    f_X11_tangle_L18 hk re ta bo hi now ri to
  else
    if p1 ≤ (Ta_filled ta) then
      bd4 (f_X5_reads re ta to p1) fun (r_1 : Int32) (re_2 : ReS) (ta_3 : TaS) (to_4 : ToS) =>
      if r_1 = 0 then
        bd2 (f_X11_refuse hk (4 : Int32)) fun (r_12 : Int32) (hk_13 : HKS) =>
        some (r_12, hk_13, re_2, ta_3, bo, hi, now, ri, to_4)
      else
        bd1 (f_X6_trace ri to_4) fun (ri_5 : RiS) =>
        lt1 (HK_there' hk (1 : Int32)) fun (hk_6 : HKS) =>
        bd1 (f_X3_clear hi) fun (hi_7 : HiS) =>
        bd1 (f_X4_begin now (Ri_key ri_5) (Ri_plus ri_5)) fun (now_8 : MoS) =>
        bd1 (f_X0_lay bo now_8 ri_5) fun (bo_9 : BoS) =>
        bd2 (f_X11_grant hk_6 (Ri_count ri_5)) fun (r_10 : Int32) (hk_11 : HKS) =>
        some (r_10, hk_11, re_2, ta_3, bo_9, hi_7, now_8, ri_5, to_4)
    else
      f_X11_tangle_L18 hk re ta bo hi now ri to
def f_X11_fault (re : ReS) : Option (Int32) :=
  some ((Re_fault re))
def f_X11_where (hk : HKS) (re : ReS) : Option (Int32) :=
  if (HK_trouble hk) = (4 : Int32) then
    some ((Re_place re))
  else
    some ((-1 : Int32))
def f_X11_ring (hk : HKS) (ri : RiS) (p1 : Int32) : Option (Int32 × (HKS)) :=
  bd1 (f_X11_isPerson hk ri p1) fun (r_1 : Int32) =>
  if r_1 = 0 then
    bd2 (f_X11_refuse hk (1 : Int32)) fun (r_2 : Int32) (hk_3 : HKS) =>
    some (r_2, hk_3)
  else
    bd1 (f_X6_ringWith ri p1) fun (r_4 : Int32) =>
    bd2 (f_X11_grant hk r_4) fun (r_5 : Int32) (hk_6 : HKS) =>
    some (r_5, hk_6)
def f_X11_people (hk : HKS) (ri : RiS) (p1 : Int32) : Option (Int32 × (HKS)) :=
  bd1 (f_X11_isRing hk ri p1) fun (r_1 : Int32) =>
  if r_1 = 0 then
    bd2 (f_X11_refuse hk (1 : Int32)) fun (r_2 : Int32) (hk_3 : HKS) =>
    some (r_2, hk_3)
  else
    bd1 (f_X6_peopleIn ri p1) fun (r_4 : Int32) =>
    bd2 (f_X11_grant hk r_4) fun (r_5 : Int32) (hk_6 : HKS) =>
    some (r_5, hk_6)
def f_X11_member_L24 (hk : HKS) : Option (Int32 × (HKS)) :=
  bd2 (f_X11_refuse hk (1 : Int32)) fun (r_5 : Int32) (hk_6 : HKS) =>
  some (r_5, hk_6)
def f_X11_member (hk : HKS) (ri : RiS) (p1 : Int32) (p2 : Int32) : Option (Int32 × (HKS)) :=
  bd1 (f_X11_isRing hk ri p1) fun (r_1 : Int32) =>
  if r_1 = 0 then
    f_X11_member_L24 hk
  else
    if p2 < 0 then
      f_X11_member_L24 hk
    else
      bd1 (f_X6_peopleIn ri p1) fun (r_2 : Int32) =>
      if p2 < r_2 then
        ck p1 9 <|
        ck ((Ri_firstMember ri (Int32.toNatClampNeg p1)) + p2) 8 <|
        bd2 (f_X11_grant hk (Ri_members ri (Int32.toNatClampNeg ((Ri_firstMember ri (Int32.toNatClampNeg p1)) + p2)))) fun (r_3 : Int32) (hk_4 : HKS) =>
        some (r_3, hk_4)
      else
        f_X11_member_L24 hk
def f_X11_holds_L34 (t2i : Int32) (t3i : Int32) (hk : HKS) (ri : RiS) : Option (Int32 × (HKS)) :=
  ck (t2i + t3i) 16 <|
  bd2 (f_X11_grant hk (Ri_partner ri (Int32.toNatClampNeg (t2i + t3i)))) fun (r_4 : Int32) (hk_5 : HKS) =>
  some (r_4, hk_5)
def f_X11_holds (hk : HKS) (ri : RiS) (p1 : Int32) (p2 : Int32) : Option (Int32 × (HKS)) :=
  bd1 (f_X11_isPerson hk ri p1) fun (r_1 : Int32) =>
  if r_1 = 0 then
    bd2 (f_X11_refuse hk (1 : Int32)) fun (r_2 : Int32) (hk_3 : HKS) =>
    some (r_2, hk_3)
  else
    if p2 = 0 then
      f_X11_holds_L34 ((2 : Int32) * p1) (0 : Int32) hk ri
    else
      f_X11_holds_L34 ((2 : Int32) * p1) (1 : Int32) hk ri
def f_X11_along (hk : HKS) (ri : RiS) (p1 : Int32) : Option (Int32 × (HKS)) :=
  bd1 (f_X11_isLink hk ri p1) fun (r_1 : Int32) =>
  if r_1 = 0 then
    bd2 (f_X11_refuse hk (1 : Int32)) fun (r_2 : Int32) (hk_3 : HKS) =>
    some (r_2, hk_3)
  else
    ck p1 8 <|
    bd2 (f_X11_grant hk (Ri_along ri (Int32.toNatClampNeg p1))) fun (r_4 : Int32) (hk_5 : HKS) =>
    some (r_4, hk_5)
def f_X11_stands_L38 (t1i : Int32) (hk : HKS) : Option (Int32 × (HKS)) :=
  bd2 (f_X11_grant hk t1i) fun (r_5 : Int32) (hk_6 : HKS) =>
  some (r_5, hk_6)
def f_X11_stands (hk : HKS) (now : MoS) (ri : RiS) (p1 : Int32) : Option (Int32 × (HKS)) :=
  bd1 (f_X11_isStanding hk ri p1) fun (r_1 : Int32) =>
  if r_1 = 0 then
    bd2 (f_X11_refuse hk (1 : Int32)) fun (r_3 : Int32) (hk_4 : HKS) =>
    some (r_3, hk_4)
  else
    bd1 (f_X4_passAt (Mo_key now) p1) fun (r_2 : Int32) =>
    if r_2 = (-1 : Int32) then
      f_X11_stands_L38 (-2 : Int32) hk
    else
      f_X11_stands_L38 r_2 hk
def f_X11_place_L17 (hk : HKS) : Option (Int32 × (HKS)) :=
  bd2 (f_X11_refuse hk (1 : Int32)) fun (r_3 : Int32) (hk_4 : HKS) =>
  some (r_3, hk_4)
def f_X11_place_L51 (t1i : Int32) (hk : HKS) : Option (Int32 × (HKS)) :=
  bd2 (f_X11_grant hk t1i) fun (r_5 : Int32) (hk_6 : HKS) =>
  some (r_5, hk_6)
def f_X11_place (hk : HKS) (ri : RiS) (p1 : Int32) (p2 : Int32) : Option (Int32 × (HKS)) :=
  bd1 (f_X11_isStanding hk ri p1) fun (r_1 : Int32) =>
  if r_1 = 0 then
    f_X11_place_L17 hk
  else
    if p2 < 0 then
      f_X11_place_L17 hk
    else
      if p2 ≤ (1 : Int32) then
        ck p1 16 <|
        lt1 (Ri_standingLink ri (Int32.toNatClampNeg p1)) fun (v_2 : Int32) =>
        if p2 = 0 then
          ck v_2 8 <|
          f_X11_place_L51 (Ri_linkRing ri (Int32.toNatClampNeg v_2)) hk
        else
          f_X11_place_L51 v_2 hk
      else
        f_X11_place_L17 hk
def f_X11_sign (hk : HKS) (bo : BoS) (ri : RiS) (p1 : Int32) : Option (Int32 × (HKS)) :=
  bd1 (f_X11_isCrossing hk ri p1) fun (r_1 : Int32) =>
  if r_1 = 0 then
    bd2 (f_X11_refuseSigned hk (1 : Int32)) fun (r_2 : Int32) (hk_3 : HKS) =>
    some (r_2, hk_3)
  else
    bd1 (f_X0_signOf bo p1) fun (r_4 : Int32) =>
    bd2 (f_X11_grant hk r_4) fun (r_5 : Int32) (hk_6 : HKS) =>
    some (r_5, hk_6)
def f_X11_left (hk : HKS) (bo : BoS) : Option (Int32 × (HKS)) :=
  if (HK_there hk) = 0 then
    bd2 (f_X11_refuse hk (1 : Int32)) fun (r_1 : Int32) (hk_2 : HKS) =>
    some (r_1, hk_2)
  else
    bd2 (f_X11_grant hk (Bo_left bo)) fun (r_3 : Int32) (hk_4 : HKS) =>
    some (r_3, hk_4)
def f_X11_loose_L23 (t1i : Int32) (hk : HKS) : Option (Int32 × (HKS)) :=
  bd2 (f_X11_grant hk t1i) fun (r_3 : Int32) (hk_4 : HKS) =>
  some (r_3, hk_4)
def f_X11_loose (hk : HKS) (bo : BoS) : Option (Int32 × (HKS)) :=
  if (HK_there hk) = 0 then
    bd2 (f_X11_refuse hk (1 : Int32)) fun (r_1 : Int32) (hk_2 : HKS) =>
    some (r_1, hk_2)
  else
    if (Bo_left bo) = 0 then
      f_X11_loose_L23 (1 : Int32) hk
    else
      f_X11_loose_L23 (0 : Int32) hk
def f_X11_may_L25 (t1i : Int32) (hk : HKS) : Option (Int32 × (HKS)) :=
  bd2 (f_X11_grant hk t1i) fun (r_5 : Int32) (hk_6 : HKS) =>
  some (r_5, hk_6)
def f_X11_may (hk : HKS) (bo : BoS) (ri : RiS) (p1 : Int32) : Option (Int32 × (HKS)) :=
  bd1 (f_X11_isMove hk ri p1) fun (r_1 : Int32) =>
  if r_1 = 0 then
    bd2 (f_X11_refuse hk (1 : Int32)) fun (r_2 : Int32) (hk_3 : HKS) =>
    some (r_2, hk_3)
  else
    bd1 (f_X0_allows bo ri p1) fun (r_4 : Int32) =>
    if r_4 = 0 then
      f_X11_may_L25 (0 : Int32) hk
    else
      f_X11_may_L25 (1 : Int32) hk
def f_X11_goer (hk : HKS) (bo : BoS) (ri : RiS) (p1 : Int32) : Option (Int32 × (HKS)) :=
  bd1 (f_X11_isMove hk ri p1) fun (r_1 : Int32) =>
  if r_1 = 0 then
    bd2 (f_X11_refuse hk (1 : Int32)) fun (r_8 : Int32) (hk_9 : HKS) =>
    some (r_8, hk_9)
  else
    bd1 (f_X0_can bo p1) fun (r_2 : Int32) =>
    if r_2 = 0 then
      bd2 (f_X11_refuse hk (5 : Int32)) fun (r_6 : Int32) (hk_7 : HKS) =>
      some (r_6, hk_7)
    else
      bd1 (f_X0_whoGoes bo ri p1) fun (r_3 : Int32) =>
      bd2 (f_X11_grant hk r_3) fun (r_4 : Int32) (hk_5 : HKS) =>
      some (r_4, hk_5)
def f_X11_moves (hk : HKS) (bo : BoS) : Option (Int32 × (HKS)) :=
  if (HK_there hk) = 0 then
    bd2 (f_X11_refuse hk (1 : Int32)) fun (r_1 : Int32) (hk_2 : HKS) =>
    some (r_1, hk_2)
  else
    bd2 (f_X11_grant hk (Bo_count bo)) fun (r_3 : Int32) (hk_4 : HKS) =>
    some (r_3, hk_4)
def f_X11_moveAt_L22 (hk : HKS) : Option (Int32 × (HKS)) :=
  bd2 (f_X11_refuse hk (1 : Int32)) fun (r_3 : Int32) (hk_4 : HKS) =>
  some (r_3, hk_4)
def f_X11_moveAt (hk : HKS) (bo : BoS) (p1 : Int32) : Option (Int32 × (HKS)) :=
  if (HK_there hk) = 0 then
    f_X11_moveAt_L22 hk
  else
    if p1 < 0 then
      f_X11_moveAt_L22 hk
    else
      if p1 < (Bo_count bo) then
        ck p1 256 <|
        bd2 (f_X11_grant hk (Bo_numbers bo (Int32.toNatClampNeg p1))) fun (r_1 : Int32) (hk_2 : HKS) =>
        some (r_1, hk_2)
      else
        f_X11_moveAt_L22 hk
def f_X11_fewest (hk : HKS) (se : SeS) (sb : BoS) (now : MoS) (ri : RiS) (p1 : Int32) : Option (Int32 × (HKS) × (SeS) × (BoS)) :=
  if (HK_there hk) = 0 then
    bd2 (f_X11_refuse hk (1 : Int32)) fun (r_11 : Int32) (hk_12 : HKS) =>
    some (r_11, hk_12, se, sb)
  else
    bd1 (f_X11_isDepth p1) fun (r_1 : Int32) =>
    if r_1 = 0 then
      bd2 (f_X11_refuse hk (2 : Int32)) fun (r_9 : Int32) (hk_10 : HKS) =>
      some (r_9, hk_10, se, sb)
    else
      bd3 (f_X7_grow se sb now ri p1 (1 : Int32)) fun (r_2 : Int32) (se_3 : SeS) (sb_4 : BoS) =>
      if r_2 = (-3 : Int32) then
        bd2 (f_X11_refuse hk (3 : Int32)) fun (r_7 : Int32) (hk_8 : HKS) =>
        some (r_7, hk_8, se_3, sb_4)
      else
        bd2 (f_X11_grant hk r_2) fun (r_5 : Int32) (hk_6 : HKS) =>
        some (r_5, hk_6, se_3, sb_4)
def f_X11_next_L24 (hk : HKS) (se : SeS) (sb : BoS) : Option (Int32 × (HKS) × (SeS) × (BoS)) :=
  bd2 (f_X11_refuse hk (2 : Int32)) fun (r_11 : Int32) (hk_12 : HKS) =>
  some (r_11, hk_12, se, sb)
def f_X11_next (hk : HKS) (se : SeS) (sb : BoS) (now : MoS) (ri : RiS) (p1 : Int32) : Option (Int32 × (HKS) × (SeS) × (BoS)) :=
  if (HK_there hk) = 0 then
    bd2 (f_X11_refuse hk (1 : Int32)) fun (r_9 : Int32) (hk_10 : HKS) =>
    some (r_9, hk_10, se, sb)
  else
    bd1 (f_X11_isDepth p1) fun (r_1 : Int32) =>
    if r_1 = 0 then
      f_X11_next_L24 hk se sb
    else
      if p1 = 0 then
        f_X11_next_L24 hk se sb
      else
        bd3 (f_X7_firstToLoose se sb now ri p1) fun (r_2 : Int32) (se_3 : SeS) (sb_4 : BoS) =>
        if r_2 = (-3 : Int32) then
          bd2 (f_X11_refuse hk (3 : Int32)) fun (r_7 : Int32) (hk_8 : HKS) =>
          some (r_7, hk_8, se_3, sb_4)
        else
          bd2 (f_X11_grant hk r_2) fun (r_5 : Int32) (hk_6 : HKS) =>
          some (r_5, hk_6, se_3, sb_4)
def f_X11_caller (hk : HKS) (bo : BoS) (wb : BoS) (now : MoS) (ri : RiS) : Option (Int32 × (HKS) × (BoS)) :=
  if (HK_there hk) = 0 then
    bd2 (f_X11_refuse hk (1 : Int32)) fun (r_1 : Int32) (hk_2 : HKS) =>
    some (r_1, hk_2, wb)
  else
    bd2 (f_X10_bestCall bo wb now ri) fun (r_3 : Int32) (wb_4 : BoS) =>
    bd2 (f_X11_grant hk r_3) fun (r_5 : Int32) (hk_6 : HKS) =>
    some (r_5, hk_6, wb_4)
def f_X11_hang_L21 (hk : HKS) : Option (Int32 × (HKS)) :=
  bd2 (f_X11_refuseSigned hk (1 : Int32)) fun (r_6 : Int32) (hk_7 : HKS) =>
  some (r_6, hk_7)
def f_X11_hang (hk : HKS) (bo : BoS) (ri : RiS) (p1 : Int32) (p2 : Int32) : Option (Int32 × (HKS)) :=
  bd1 (f_X11_isRing hk ri p1) fun (r_1 : Int32) =>
  if r_1 = 0 then
    f_X11_hang_L21 hk
  else
    bd1 (f_X11_isRing hk ri p2) fun (r_2 : Int32) =>
    if r_2 = 0 then
      f_X11_hang_L21 hk
    else
      if p1 = p2 then
        f_X11_hang_L21 hk
      else
        bd1 (f_X0_signsBetween bo ri p1 p2) fun (r_3 : Int32) =>
        bd2 (f_X11_grant hk r_3) fun (r_4 : Int32) (hk_5 : HKS) =>
        some (r_4, hk_5)
def f_X11_colours_L35 (x1 : Int32) (hk : HKS) (co : CoS) (bo : BoS) (ri : RiS) : Option (Int32 × (HKS) × (CoS)) :=
  bd2 (f_X2_freeColours co bo ri (Ri_count ri) x1) fun (r_5 : Int32) (co_6 : CoS) =>
  bd2 (f_X11_grant hk r_5) fun (r_7 : Int32) (hk_8 : HKS) =>
  some (r_7, hk_8, co_6)
def f_X11_colours (hk : HKS) (co : CoS) (bo : BoS) (ri : RiS) (p1 : Int32) : Option (Int32 × (HKS) × (CoS)) :=
  if (HK_there hk) = 0 then
    bd2 (f_X11_refuse hk (1 : Int32)) fun (r_3 : Int32) (hk_4 : HKS) =>
    some (r_3, hk_4, co)
  else
    if p1 = (3 : Int32) then
      f_X11_colours_L35 p1 hk co bo ri
    else
      if p1 = (5 : Int32) then
        f_X11_colours_L35 p1 hk co bo ri
      else
        if p1 = (7 : Int32) then
          f_X11_colours_L35 p1 hk co bo ri
        else
          bd2 (f_X11_refuse hk (2 : Int32)) fun (r_1 : Int32) (hk_2 : HKS) =>
          some (r_1, hk_2, co)
def f_X11_isProvedTight_L62 : Nat → (Int32) → (Int32) → (CoS) → (BoS) → (RiS) → ((Int32) → (CoS) → (BoS) → (RiS) → Option (Int32 × (CoS))) → Option (Int32 × (CoS))
  | 0, _, _, _, _, _, _ => none
  | n_ + 1, x1, x2, co, bo, ri, k47 =>
    if (Ri_count ri) ≤ x2 then
      lt1 (x1 + (1 : Int32)) fun (v_5 : Int32) =>
      k47 v_5 co bo ri
    else
      bd1 (f_X0_signsBetween bo ri x1 x2) fun (r_6 : Int32) =>
      if r_6 = 0 then
        lt1 (x2 + (1 : Int32)) fun (v_7 : Int32) =>
        f_X11_isProvedTight_L62 n_ x1 v_7 co bo ri k47
      else
        some ((1 : Int32), co)
def f_X11_isProvedTight_L47 : Nat → (Int32) → (CoS) → (BoS) → (RiS) → Option (Int32 × (CoS))
  | 0, _, _, _, _ => none
  | n_ + 1, x1, co, bo, ri =>
    if (Ri_count ri) ≤ x1 then
      some ((0 : Int32), co)
    else
      lt1 (x1 + (1 : Int32)) fun (v_4 : Int32) =>
      f_X11_isProvedTight_L62 FU x1 v_4 co bo ri (fun y0 y1 y2 y3 => f_X11_isProvedTight_L47 n_ y0 y1 y2 y3)
def f_X11_isProvedTight_L2 : Nat → (Int32) → (CoS) → (BoS) → (RiS) → Option (Int32 × (CoS))
  | 0, _, _, _, _ => none
  | n_ + 1, x1, co, bo, ri =>
    if (7 : Int32) < x1 then
      f_X11_isProvedTight_L47 FU (0 : Int32) co bo ri
    else
      bd2 (f_X2_freeColours co bo ri (Ri_count ri) x1) fun (r_1 : Int32) (co_2 : CoS) =>
      if r_1 = (Ri_count ri) then
        lt1 (x1 + (2 : Int32)) fun (v_3 : Int32) =>
        f_X11_isProvedTight_L2 n_ v_3 co_2 bo ri
      else
        some ((1 : Int32), co_2)
def f_X11_isProvedTight (co : CoS) (bo : BoS) (ri : RiS) : Option (Int32 × (CoS)) :=
  f_X11_isProvedTight_L2 FU (3 : Int32) co bo ri
def f_X11_cannot_L20 (t1i : Int32) (hk : HKS) (co : CoS) : Option (Int32 × (HKS) × (CoS)) :=
  bd2 (f_X11_grant hk t1i) fun (r_5 : Int32) (hk_6 : HKS) =>
  some (r_5, hk_6, co)
def f_X11_cannot (hk : HKS) (co : CoS) (bo : BoS) (ri : RiS) : Option (Int32 × (HKS) × (CoS)) :=
  if (HK_there hk) = 0 then
    bd2 (f_X11_refuse hk (1 : Int32)) fun (r_1 : Int32) (hk_2 : HKS) =>
    some (r_1, hk_2, co)
  else
    bd2 (f_X11_isProvedTight co bo ri) fun (r_3 : Int32) (co_4 : CoS) =>
    if r_3 = 0 then
      f_X11_cannot_L20 (0 : Int32) hk co_4
    else
      f_X11_cannot_L20 (1 : Int32) hk co_4
def f_X11_bestPart_L88 (x1 : Int32) (x2 : Int32) (x3 : Int32) (x4 : Int32) (se : SeS) (sb : BoS) (tr : MoS) (now : MoS) (ri : RiS) (k10 : (Int32) → (Int32) → (Int32) → (Int32) → (SeS) → (BoS) → (MoS) → (MoS) → (RiS) → Option (Int32 × (SeS) × (BoS) × (MoS))) : Option (Int32 × (SeS) × (BoS) × (MoS)) :=
  lt1 (x4 + (1 : Int32)) fun (v_7 : Int32) =>
  k10 x1 x2 x3 v_7 se sb tr now ri
def f_X11_bestPart_L10 : Nat → (Int32) → (Int32) → (Int32) → (Int32) → (SeS) → (BoS) → (MoS) → (MoS) → (RiS) → Option (Int32 × (SeS) × (BoS) × (MoS))
  | 0, _, _, _, _, _, _, _, _, _ => none
  | n_ + 1, x1, x2, x3, x4, se, sb, tr, now, ri =>
    if (Ri_links ri) ≤ x4 then
      some (x2, se, sb, tr)
    else
      bd1 (f_X4_become tr now) fun (tr_2 : MoS) =>
      bd1 (f_X4_letGo tr_2 ri x4) fun (tr_3 : MoS) =>
      bd3 (f_X7_grow se sb tr_3 ri x1 (1 : Int32)) fun (r_4 : Int32) (se_5 : SeS) (sb_6 : BoS) =>
      if r_4 = (-3 : Int32) then
        some (r_4, se_5, sb_6, tr_3)
      else
        if r_4 < 0 then
          f_X11_bestPart_L88 x1 x2 x3 x4 se_5 sb_6 tr_3 now ri (fun y0 y1 y2 y3 y4 y5 y6 y7 y8 => f_X11_bestPart_L10 n_ y0 y1 y2 y3 y4 y5 y6 y7 y8)
        else
          if x3 ≤ r_4 then
            f_X11_bestPart_L88 x1 x2 x3 x4 se_5 sb_6 tr_3 now ri (fun y0 y1 y2 y3 y4 y5 y6 y7 y8 => f_X11_bestPart_L10 n_ y0 y1 y2 y3 y4 y5 y6 y7 y8)
          else
            f_X11_bestPart_L88 x1 x4 r_4 x4 se_5 sb_6 tr_3 now ri (fun y0 y1 y2 y3 y4 y5 y6 y7 y8 => f_X11_bestPart_L10 n_ y0 y1 y2 y3 y4 y5 y6 y7 y8)
def f_X11_bestPart (se : SeS) (sb : BoS) (tr : MoS) (now : MoS) (ri : RiS) (p1 : Int32) : Option (Int32 × (SeS) × (BoS) × (MoS)) :=
  lt1 (p1 + (1 : Int32)) fun (v_1 : Int32) =>
  f_X11_bestPart_L10 FU p1 (-2 : Int32) v_1 (0 : Int32) se sb tr now ri
def f_X11_part (hk : HKS) (se : SeS) (sb : BoS) (tr : MoS) (now : MoS) (ri : RiS) (p1 : Int32) : Option (Int32 × (HKS) × (SeS) × (BoS) × (MoS)) :=
  if (HK_there hk) = 0 then
    bd2 (f_X11_refuse hk (1 : Int32)) fun (r_14 : Int32) (hk_15 : HKS) =>
    some (r_14, hk_15, se, sb, tr)
  else
    bd1 (f_X11_isDepth p1) fun (r_1 : Int32) =>
    if r_1 = 0 then
      bd2 (f_X11_refuse hk (2 : Int32)) fun (r_12 : Int32) (hk_13 : HKS) =>
      some (r_12, hk_13, se, sb, tr)
    else
      if (Mo_parted now) = (-2 : Int32) then
        bd4 (f_X11_bestPart se sb tr now ri p1) fun (r_2 : Int32) (se_3 : SeS) (sb_4 : BoS) (tr_5 : MoS) =>
        if r_2 = (-3 : Int32) then
          bd2 (f_X11_refuse hk (3 : Int32)) fun (r_8 : Int32) (hk_9 : HKS) =>
          some (r_8, hk_9, se_3, sb_4, tr_5)
        else
          bd2 (f_X11_grant hk r_2) fun (r_6 : Int32) (hk_7 : HKS) =>
          some (r_6, hk_7, se_3, sb_4, tr_5)
      else
        bd2 (f_X11_refuse hk (5 : Int32)) fun (r_10 : Int32) (hk_11 : HKS) =>
        some (r_10, hk_11, se, sb, tr)
def f_X11_bestLift_L99 (x1 : Int32) (x2 : Int32) (x3 : Int32) (x4 : Int32) (se : SeS) (sb : BoS) (tr : MoS) (bo : BoS) (now : MoS) (ri : RiS) (k10 : (Int32) → (Int32) → (Int32) → (Int32) → (SeS) → (BoS) → (MoS) → (BoS) → (MoS) → (RiS) → Option (Int32 × (SeS) × (BoS) × (MoS))) : Option (Int32 × (SeS) × (BoS) × (MoS)) :=
  lt1 (x4 + (1 : Int32)) fun (v_8 : Int32) =>
  k10 x1 x2 x3 v_8 se sb tr bo now ri
def f_X11_bestLift_L10 : Nat → (Int32) → (Int32) → (Int32) → (Int32) → (SeS) → (BoS) → (MoS) → (BoS) → (MoS) → (RiS) → Option (Int32 × (SeS) × (BoS) × (MoS))
  | 0, _, _, _, _, _, _, _, _, _, _ => none
  | n_ + 1, x1, x2, x3, x4, se, sb, tr, bo, now, ri =>
    if (Ri_crossings ri) ≤ x4 then
      some (x2, se, sb, tr)
    else
      bd1 (f_X0_isLeft bo x4) fun (r_2 : Int32) =>
      if r_2 = 0 then
        f_X11_bestLift_L99 x1 x2 x3 x4 se sb tr bo now ri (fun y0 y1 y2 y3 y4 y5 y6 y7 y8 y9 => f_X11_bestLift_L10 n_ y0 y1 y2 y3 y4 y5 y6 y7 y8 y9)
      else
        bd1 (f_X4_become tr now) fun (tr_3 : MoS) =>
        bd1 (f_X4_turnOver tr_3 x4) fun (tr_4 : MoS) =>
        bd3 (f_X7_grow se sb tr_4 ri x1 (1 : Int32)) fun (r_5 : Int32) (se_6 : SeS) (sb_7 : BoS) =>
        if r_5 = (-3 : Int32) then
          some (r_5, se_6, sb_7, tr_4)
        else
          if r_5 < 0 then
            f_X11_bestLift_L99 x1 x2 x3 x4 se_6 sb_7 tr_4 bo now ri (fun y0 y1 y2 y3 y4 y5 y6 y7 y8 y9 => f_X11_bestLift_L10 n_ y0 y1 y2 y3 y4 y5 y6 y7 y8 y9)
          else
            if x3 ≤ r_5 then
              f_X11_bestLift_L99 x1 x2 x3 x4 se_6 sb_7 tr_4 bo now ri (fun y0 y1 y2 y3 y4 y5 y6 y7 y8 y9 => f_X11_bestLift_L10 n_ y0 y1 y2 y3 y4 y5 y6 y7 y8 y9)
            else
              f_X11_bestLift_L99 x1 x4 r_5 x4 se_6 sb_7 tr_4 bo now ri (fun y0 y1 y2 y3 y4 y5 y6 y7 y8 y9 => f_X11_bestLift_L10 n_ y0 y1 y2 y3 y4 y5 y6 y7 y8 y9)
def f_X11_bestLift (se : SeS) (bo : BoS) (sb : BoS) (tr : MoS) (now : MoS) (ri : RiS) (p1 : Int32) : Option (Int32 × (SeS) × (BoS) × (MoS)) :=
  lt1 (p1 + (1 : Int32)) fun (v_1 : Int32) =>
  f_X11_bestLift_L10 FU p1 (-2 : Int32) v_1 (0 : Int32) se sb tr bo now ri
def f_X11_lift (hk : HKS) (se : SeS) (bo : BoS) (sb : BoS) (tr : MoS) (now : MoS) (ri : RiS) (p1 : Int32) : Option (Int32 × (HKS) × (SeS) × (BoS) × (MoS)) :=
  if (HK_there hk) = 0 then
    bd2 (f_X11_refuse hk (1 : Int32)) fun (r_12 : Int32) (hk_13 : HKS) =>
    some (r_12, hk_13, se, sb, tr)
  else
    bd1 (f_X11_isDepth p1) fun (r_1 : Int32) =>
    if r_1 = 0 then
      bd2 (f_X11_refuse hk (2 : Int32)) fun (r_10 : Int32) (hk_11 : HKS) =>
      some (r_10, hk_11, se, sb, tr)
    else
      bd4 (f_X11_bestLift se bo sb tr now ri p1) fun (r_2 : Int32) (se_3 : SeS) (sb_4 : BoS) (tr_5 : MoS) =>
      if r_2 = (-3 : Int32) then
        bd2 (f_X11_refuse hk (3 : Int32)) fun (r_8 : Int32) (hk_9 : HKS) =>
        some (r_8, hk_9, se_3, sb_4, tr_5)
      else
        bd2 (f_X11_grant hk r_2) fun (r_6 : Int32) (hk_7 : HKS) =>
        some (r_6, hk_7, se_3, sb_4, tr_5)
def f_X11_twist (hk : HKS) (bo : BoS) (ri : RiS) (p1 : Int32) : Option (Int32 × (HKS)) :=
  bd1 (f_X11_isRing hk ri p1) fun (r_1 : Int32) =>
  if r_1 = 0 then
    bd2 (f_X11_refuseSigned hk (1 : Int32)) fun (r_5 : Int32) (hk_6 : HKS) =>
    some (r_5, hk_6)
  else
    bd1 (f_X0_signsBetween bo ri p1 p1) fun (r_2 : Int32) =>
    bd2 (f_X11_grant hk r_2) fun (r_3 : Int32) (hk_4 : HKS) =>
    some (r_3, hk_4)
def f_X11_arcs (hk : HKS) (co : CoS) (bo : BoS) (ri : RiS) : Option (Int32 × (HKS) × (CoS)) :=
  if (HK_there hk) = 0 then
    bd2 (f_X11_refuse hk (1 : Int32)) fun (r_1 : Int32) (hk_2 : HKS) =>
    some (r_1, hk_2, co)
  else
    bd2 (f_X2_countArcs co bo ri (Ri_count ri)) fun (r_3 : Int32) (co_4 : CoS) =>
    bd2 (f_X11_grant hk r_3) fun (r_5 : Int32) (hk_6 : HKS) =>
    some (r_5, hk_6, co_4)
def f_X11_reached (hk : HKS) (se : SeS) (sb : BoS) (now : MoS) (ri : RiS) (p1 : Int32) : Option (Int32 × (HKS) × (SeS) × (BoS)) :=
  if (HK_there hk) = 0 then
    bd2 (f_X11_refuse hk (1 : Int32)) fun (r_11 : Int32) (hk_12 : HKS) =>
    some (r_11, hk_12, se, sb)
  else
    bd1 (f_X11_isDepth p1) fun (r_1 : Int32) =>
    if r_1 = 0 then
      bd2 (f_X11_refuse hk (2 : Int32)) fun (r_9 : Int32) (hk_10 : HKS) =>
      some (r_9, hk_10, se, sb)
    else
      bd3 (f_X7_countReached se sb now ri p1) fun (r_2 : Int32) (se_3 : SeS) (sb_4 : BoS) =>
      if r_2 = (-3 : Int32) then
        bd2 (f_X11_refuse hk (3 : Int32)) fun (r_7 : Int32) (hk_8 : HKS) =>
        some (r_7, hk_8, se_3, sb_4)
      else
        bd2 (f_X11_grant hk r_2) fun (r_5 : Int32) (hk_6 : HKS) =>
        some (r_5, hk_6, se_3, sb_4)
def f_X11_few (hk : HKS) (se : SeS) (sb : BoS) (now : MoS) (ri : RiS) (p1 : Int32) : Option (Int32 × (HKS) × (SeS) × (BoS)) :=
  if (HK_there hk) = 0 then
    bd2 (f_X11_refuse hk (1 : Int32)) fun (r_11 : Int32) (hk_12 : HKS) =>
    some (r_11, hk_12, se, sb)
  else
    bd1 (f_X11_isDepth p1) fun (r_1 : Int32) =>
    if r_1 = 0 then
      bd2 (f_X11_refuse hk (2 : Int32)) fun (r_9 : Int32) (hk_10 : HKS) =>
      some (r_9, hk_10, se, sb)
    else
      bd3 (f_X7_leastLeft se sb now ri p1) fun (r_2 : Int32) (se_3 : SeS) (sb_4 : BoS) =>
      if r_2 = (-3 : Int32) then
        bd2 (f_X11_refuse hk (3 : Int32)) fun (r_7 : Int32) (hk_8 : HKS) =>
        some (r_7, hk_8, se_3, sb_4)
      else
        bd2 (f_X11_grant hk r_2) fun (r_5 : Int32) (hk_6 : HKS) =>
        some (r_5, hk_6, se_3, sb_4)
def f_X11_sees (hk : HKS) (bo : BoS) (ri : RiS) (p1 : Int32) : Option (Int32 × (HKS)) :=
  bd1 (f_X11_isPerson hk ri p1) fun (r_1 : Int32) =>
  if r_1 = 0 then
    bd2 (f_X11_refuse hk (1 : Int32)) fun (r_2 : Int32) (hk_3 : HKS) =>
    some (r_2, hk_3)
  else
    bd1 (f_X0_seenBy bo ri p1) fun (r_4 : Int32) =>
    bd2 (f_X11_grant hk r_4) fun (r_5 : Int32) (hk_6 : HKS) =>
    some (r_5, hk_6)
def f_X11_own (hk : HKS) (bo : BoS) (ri : RiS) (p1 : Int32) : Option (Int32 × (HKS)) :=
  bd1 (f_X11_isPerson hk ri p1) fun (r_1 : Int32) =>
  if r_1 = 0 then
    bd2 (f_X11_refuse hk (1 : Int32)) fun (r_2 : Int32) (hk_3 : HKS) =>
    some (r_2, hk_3)
  else
    bd1 (f_X10_bestOwn bo ri p1) fun (r_4 : Int32) =>
    bd2 (f_X11_grant hk r_4) fun (r_5 : Int32) (hk_6 : HKS) =>
    some (r_5, hk_6)
def f_X11_rounds_L23 (hk : HKS) (wb : BoS) : Option (Int32 × (HKS) × (BoS)) :=
  bd2 (f_X11_refuse hk (2 : Int32)) fun (r_7 : Int32) (hk_8 : HKS) =>
  some (r_7, hk_8, wb)
def f_X11_rounds (hk : HKS) (wb : BoS) (now : MoS) (ri : RiS) (p1 : Int32) : Option (Int32 × (HKS) × (BoS)) :=
  if (HK_there hk) = 0 then
    bd2 (f_X11_refuse hk (1 : Int32)) fun (r_5 : Int32) (hk_6 : HKS) =>
    some (r_5, hk_6, wb)
  else
    if p1 < 0 then
      f_X11_rounds_L23 hk wb
    else
      if p1 ≤ (9 : Int32) then
        bd2 (f_X10_leftBehindRounds wb now ri p1) fun (r_1 : Int32) (wb_2 : BoS) =>
        bd2 (f_X11_grant hk r_1) fun (r_3 : Int32) (hk_4 : HKS) =>
        some (r_3, hk_4, wb_2)
      else
        f_X11_rounds_L23 hk wb
def f_X11_tries_L41 (hk : HKS) (wb : BoS) : Option (Int32 × (HKS) × (BoS)) :=
  bd2 (f_X11_refuse hk (2 : Int32)) fun (r_8 : Int32) (hk_9 : HKS) =>
  some (r_8, hk_9, wb)
def f_X11_tries (hk : HKS) (wb : BoS) (now : MoS) (ri : RiS) (p1 : Int32) (p2 : Int32) (p3 : Int32) : Option (Int32 × (HKS) × (BoS)) :=
  if (HK_there hk) = 0 then
    bd2 (f_X11_refuse hk (1 : Int32)) fun (r_6 : Int32) (hk_7 : HKS) =>
    some (r_6, hk_7, wb)
  else
    bd1 (f_X11_isSeed p1) fun (r_1 : Int32) =>
    if r_1 = 0 then
      f_X11_tries_L41 hk wb
    else
      if p2 < (1 : Int32) then
        f_X11_tries_L41 hk wb
      else
        if (20 : Int32) < p2 then
          f_X11_tries_L41 hk wb
        else
          if p3 < 0 then
            f_X11_tries_L41 hk wb
          else
            if p3 ≤ (20 : Int32) then
              bd2 (f_X10_looseTries wb now ri p1 p2 p3) fun (r_2 : Int32) (wb_3 : BoS) =>
              bd2 (f_X11_grant hk r_2) fun (r_4 : Int32) (hk_5 : HKS) =>
              some (r_4, hk_5, wb_3)
            else
              f_X11_tries_L41 hk wb
def f_X11_ways_L14 (hk : HKS) (ch : ChS) : Option (Int64 × (HKS) × (ChS)) :=
  bd2 (f_X11_refuse hk (2 : Int32)) fun (r_6 : Int32) (hk_7 : HKS) =>
  some ((Int32.toInt64 r_6), hk_7, ch)
def f_X11_ways (hk : HKS) (ch : ChS) (p1 : Int32) (p2 : Int32) (p3 : Int32) : Option (Int64 × (HKS) × (ChS)) :=
  bd1 (f_X1_isCrowd p1) fun (r_1 : Int32) =>
  if r_1 = 0 then
    f_X11_ways_L14 hk ch
  else
    bd1 (f_X1_isRingCount p2) fun (r_2 : Int32) =>
    if r_2 = 0 then
      f_X11_ways_L14 hk ch
    else
      lt1 (HK_trouble' hk (0 : Int32)) fun (hk_3 : HKS) =>
      bd2 (f_X1_waysInto ch p1 p2 p3) fun (r_4 : Int64) (ch_5 : ChS) =>
      some (r_4, hk_3, ch_5)
def f_X11_odds_L14 (hk : HKS) (ch : ChS) : Option (Int64 × (HKS) × (ChS)) :=
  bd2 (f_X11_refuse hk (2 : Int32)) fun (r_11 : Int32) (hk_12 : HKS) =>
  some ((Int32.toInt64 r_11), hk_12, ch)
def f_X11_odds (hk : HKS) (ch : ChS) (p1 : Int32) (p2 : Int32) (p3 : Int32) (p4 : Int32) : Option (Int64 × (HKS) × (ChS)) :=
  bd1 (f_X1_isCrowd p1) fun (r_1 : Int32) =>
  if r_1 = 0 then
    f_X11_odds_L14 hk ch
  else
    bd1 (f_X1_isRingCount p2) fun (r_2 : Int32) =>
    if r_2 = 0 then
      f_X11_odds_L14 hk ch
    else
      bd2 (f_X1_allWays ch p1 p3) fun (r_3 : Int64) (ch_4 : ChS) =>
      if (lg_cmp r_3 (0 : Int64)) = 0 then
        bd2 (f_X11_refuse hk (6 : Int32)) fun (r_9 : Int32) (hk_10 : HKS) =>
        some ((Int32.toInt64 r_9), hk_10, ch_4)
      else
        lt1 (HK_trouble' hk (0 : Int32)) fun (hk_5 : HKS) =>
        bd2 (f_X1_waysInto ch_4 p1 p2 p3) fun (r_6 : Int64) (ch_7 : ChS) =>
        bd1 (f_X1_inLowestTerms r_6 r_3 p4) fun (r_8 : Int64) =>
        some (r_8, hk_5, ch_7)
def f_X11_mean (hk : HKS) (ch : ChS) (p1 : Int32) (p2 : Int32) (p3 : Int32) : Option (Int64 × (HKS) × (ChS)) :=
  bd1 (f_X1_isCrowd p1) fun (r_1 : Int32) =>
  if r_1 = 0 then
    bd2 (f_X11_refuse hk (2 : Int32)) fun (r_10 : Int32) (hk_11 : HKS) =>
    some ((Int32.toInt64 r_10), hk_11, ch)
  else
    bd2 (f_X1_allWays ch p1 p2) fun (r_2 : Int64) (ch_3 : ChS) =>
    if (lg_cmp r_2 (0 : Int64)) = 0 then
      bd2 (f_X11_refuse hk (6 : Int32)) fun (r_8 : Int32) (hk_9 : HKS) =>
      some ((Int32.toInt64 r_8), hk_9, ch_3)
    else
      lt1 (HK_trouble' hk (0 : Int32)) fun (hk_4 : HKS) =>
      bd2 (f_X1_allRings ch_3 p1 p2) fun (r_5 : Int64) (ch_6 : ChS) =>
      bd1 (f_X1_inLowestTerms r_5 r_2 p3) fun (r_7 : Int64) =>
      some (r_7, hk_4, ch_6)
def f_X11_makeMove (bo : BoS) (now : MoS) (ri : RiS) (p1 : Int32) : Option ((BoS) × (MoS)) :=
  bd1 (f_X0_after bo p1) fun (r_1 : Int64) =>
  lt1 (Mo_key' now r_1) fun (now_2 : MoS) =>
  bd1 (f_X0_lay bo now_2 ri) fun (bo_3 : BoS) =>
  some (bo_3, now_2)
def f_X11_move (hk : HKS) (bo : BoS) (hi : HiS) (now : MoS) (ri : RiS) (p1 : Int32) : Option (Int32 × (HKS) × (BoS) × (HiS) × (MoS)) :=
  bd1 (f_X11_isMove hk ri p1) fun (r_1 : Int32) =>
  if r_1 = 0 then
    bd2 (f_X11_refuse hk (1 : Int32)) fun (r_10 : Int32) (hk_11 : HKS) =>
    some (r_10, hk_11, bo, hi, now)
  else
    bd1 (f_X0_allows bo ri p1) fun (r_2 : Int32) =>
    if r_2 = 0 then
      bd2 (f_X11_refuse hk (5 : Int32)) fun (r_8 : Int32) (hk_9 : HKS) =>
      some (r_8, hk_9, bo, hi, now)
    else
      bd1 (f_X3_keep hi now) fun (hi_3 : HiS) =>
      bd2 (f_X11_makeMove bo now ri p1) fun (bo_4 : BoS) (now_5 : MoS) =>
      bd2 (f_X11_grant hk (Bo_left bo_4)) fun (r_6 : Int32) (hk_7 : HKS) =>
      some (r_6, hk_7, bo_4, hi_3, now_5)
def f_X11_parts (hk : HKS) (bo : BoS) (hi : HiS) (now : MoS) (ri : RiS) (p1 : Int32) : Option (Int32 × (HKS) × (BoS) × (HiS) × (MoS)) :=
  bd1 (f_X11_isLink hk ri p1) fun (r_1 : Int32) =>
  if r_1 = 0 then
    bd2 (f_X11_refuse hk (1 : Int32)) fun (r_10 : Int32) (hk_11 : HKS) =>
    some (r_10, hk_11, bo, hi, now)
  else
    if (Mo_parted now) = (-2 : Int32) then
      bd1 (f_X3_keep hi now) fun (hi_2 : HiS) =>
      lt1 (Bo_left bo) fun (v_3 : Int32) =>
      bd1 (f_X4_letGo now ri p1) fun (now_4 : MoS) =>
      bd1 (f_X0_lay bo now_4 ri) fun (bo_5 : BoS) =>
      bd2 (f_X11_grant hk (v_3 - (Bo_left bo_5))) fun (r_6 : Int32) (hk_7 : HKS) =>
      some (r_6, hk_7, bo_5, hi_2, now_4)
    else
      bd2 (f_X11_refuse hk (5 : Int32)) fun (r_8 : Int32) (hk_9 : HKS) =>
      some (r_8, hk_9, bo, hi, now)
def f_X11_lifts (hk : HKS) (bo : BoS) (hi : HiS) (now : MoS) (ri : RiS) (p1 : Int32) : Option (Int32 × (HKS) × (BoS) × (HiS) × (MoS)) :=
  bd1 (f_X11_isCrossing hk ri p1) fun (r_1 : Int32) =>
  if r_1 = 0 then
    bd2 (f_X11_refuseSigned hk (1 : Int32)) fun (r_11 : Int32) (hk_12 : HKS) =>
    some (r_11, hk_12, bo, hi, now)
  else
    bd1 (f_X0_isLeft bo p1) fun (r_2 : Int32) =>
    if r_2 = 0 then
      bd2 (f_X11_refuseSigned hk (5 : Int32)) fun (r_9 : Int32) (hk_10 : HKS) =>
      some (r_9, hk_10, bo, hi, now)
    else
      bd1 (f_X3_keep hi now) fun (hi_3 : HiS) =>
      bd1 (f_X4_turnOver now p1) fun (now_4 : MoS) =>
      bd1 (f_X0_lay bo now_4 ri) fun (bo_5 : BoS) =>
      bd1 (f_X0_signOf bo_5 p1) fun (r_6 : Int32) =>
      bd2 (f_X11_grant hk r_6) fun (r_7 : Int32) (hk_8 : HKS) =>
      some (r_7, hk_8, bo_5, hi_3, now_4)
def f_X11_lot (hk : HKS) (bo : BoS) (hi : HiS) (now : MoS) (ri : RiS) : Option (Int32 × (HKS) × (BoS) × (HiS) × (MoS)) :=
  if (HK_there hk) = 0 then
    bd2 (f_X11_refuse hk (1 : Int32)) fun (r_11 : Int32) (hk_12 : HKS) =>
    some (r_11, hk_12, bo, hi, now)
  else
    if (Bo_count bo) = 0 then
      bd2 (f_X11_refuse hk (6 : Int32)) fun (r_9 : Int32) (hk_10 : HKS) =>
      some (r_9, hk_10, bo, hi, now)
    else
      bd1 (f_X3_keep hi now) fun (hi_1 : HiS) =>
      bd1 (f_X4_seedBehind (Mo_seed now)) fun (r_2 : Int32) =>
      lt1 (Mo_seed' now r_2) fun (now_3 : MoS) =>
      bd1 (f_X0_drawn bo (Mo_seed now_3)) fun (r_4 : Int32) =>
      bd2 (f_X11_makeMove bo now_3 ri r_4) fun (bo_5 : BoS) (now_6 : MoS) =>
      bd2 (f_X11_grant hk r_4) fun (r_7 : Int32) (hk_8 : HKS) =>
      some (r_7, hk_8, bo_5, hi_1, now_6)
def f_X11_call (hk : HKS) (bo : BoS) (wb : BoS) (hi : HiS) (now : MoS) (ri : RiS) : Option (Int32 × (HKS) × (BoS) × (BoS) × (HiS) × (MoS)) :=
  if (HK_there hk) = 0 then
    bd2 (f_X11_refuse hk (1 : Int32)) fun (r_10 : Int32) (hk_11 : HKS) =>
    some (r_10, hk_11, bo, wb, hi, now)
  else
    bd2 (f_X10_bestCall bo wb now ri) fun (r_1 : Int32) (wb_2 : BoS) =>
    if r_1 = (-2 : Int32) then
      bd2 (f_X11_refuse hk (6 : Int32)) fun (r_8 : Int32) (hk_9 : HKS) =>
      some (r_8, hk_9, bo, wb_2, hi, now)
    else
      bd1 (f_X3_keep hi now) fun (hi_3 : HiS) =>
      bd2 (f_X11_makeMove bo now ri r_1) fun (bo_4 : BoS) (now_5 : MoS) =>
      bd2 (f_X11_grant hk r_1) fun (r_6 : Int32) (hk_7 : HKS) =>
      some (r_6, hk_7, bo_4, wb_2, hi_3, now_5)
def f_X11_seed (hk : HKS) (now : MoS) (p1 : Int32) : Option (Int32 × (HKS) × (MoS)) :=
  if (HK_there hk) = 0 then
    bd2 (f_X11_refuseFlatly hk (1 : Int32)) fun (r_6 : Int32) (hk_7 : HKS) =>
    zb r_6 <|
    some (r_6, hk_7, now)
  else
    bd1 (f_X11_isSeed p1) fun (r_1 : Int32) =>
    if r_1 = 0 then
      bd2 (f_X11_refuseFlatly hk (2 : Int32)) fun (r_4 : Int32) (hk_5 : HKS) =>
      zb r_4 <|
      some (r_4, hk_5, now)
    else
      lt1 (Mo_seed' now p1) fun (now_2 : MoS) =>
      lt1 (HK_trouble' hk (0 : Int32)) fun (hk_3 : HKS) =>
      some ((1 : Int32), hk_3, now_2)
def f_X11_undo (hk : HKS) (bo : BoS) (hi : HiS) (now : MoS) (ri : RiS) : Option (Int32 × (HKS) × (BoS) × (HiS) × (MoS)) :=
  bd3 (f_X3_giveLatest hi now) fun (r_1 : Int32) (hi_2 : HiS) (now_3 : MoS) =>
  if r_1 = 0 then
    bd2 (f_X11_refuseFlatly hk (6 : Int32)) fun (r_6 : Int32) (hk_7 : HKS) =>
    zb r_6 <|
    some (r_6, hk_7, bo, hi_2, now_3)
  else
    bd1 (f_X0_lay bo now_3 ri) fun (bo_4 : BoS) =>
    lt1 (HK_trouble' hk (0 : Int32)) fun (hk_5 : HKS) =>
    some ((1 : Int32), hk_5, bo_4, hi_2, now_3)
def f_X11_mark (hk : HKS) (hi : HiS) (now : MoS) : Option (Int32 × (HKS) × (HiS)) :=
  if (HK_there hk) = 0 then
    bd2 (f_X11_refuse hk (1 : Int32)) fun (r_7 : Int32) (hk_8 : HKS) =>
    some (r_7, hk_8, hi)
  else
    bd2 (f_X3_setMark hi now) fun (r_1 : Int32) (hi_2 : HiS) =>
    if r_1 = (-1 : Int32) then
      bd2 (f_X11_refuse hk (3 : Int32)) fun (r_5 : Int32) (hk_6 : HKS) =>
      some (r_5, hk_6, hi_2)
    else
      bd2 (f_X11_grant hk r_1) fun (r_3 : Int32) (hk_4 : HKS) =>
      some (r_3, hk_4, hi_2)
def f_X11_back (hk : HKS) (bo : BoS) (hi : HiS) (now : MoS) (ri : RiS) (p1 : Int32) : Option (Int32 × (HKS) × (BoS) × (HiS) × (MoS)) :=
  bd3 (f_X3_giveMarked hi now p1) fun (r_1 : Int32) (hi_2 : HiS) (now_3 : MoS) =>
  if r_1 = 0 then
    bd2 (f_X11_refuseFlatly hk (1 : Int32)) fun (r_6 : Int32) (hk_7 : HKS) =>
    zb r_6 <|
    some (r_6, hk_7, bo, hi_2, now_3)
  else
    bd1 (f_X0_lay bo now_3 ri) fun (bo_4 : BoS) =>
    lt1 (HK_trouble' hk (0 : Int32)) fun (hk_5 : HKS) =>
    some ((1 : Int32), hk_5, bo_4, hi_2, now_3)
def f_X11_changingSize (hi : HiS) (now : MoS) (p1 : Int32) : Option (Int32) :=
  if p1 = (7 : Int32) then
    some ((Mo_parted now))
  else
    if p1 = (8 : Int32) then
      some ((Mo_seed now))
    else
      if p1 = (9 : Int32) then
        some ((Hi_kept hi))
      else
        some ((Hi_marked hi))
def f_X11_toldSize (ri : RiS) (p1 : Int32) : Option (Int32) :=
  if p1 = (0 : Int32) then
    some ((Ri_people ri))
  else
    if p1 = (1 : Int32) then
      some ((Ri_links ri))
    else
      if p1 = (2 : Int32) then
        some ((Ri_count ri))
      else
        if p1 = (3 : Int32) then
          some ((Ri_crossings ri))
        else
          if p1 = (4 : Int32) then
            some ((Ri_standings ri))
          else
            if p1 = (5 : Int32) then
              some ((Ri_tall ri))
            else
              if (Ri_once ri) = 0 then
                some ((0 : Int32))
              else
                some ((1 : Int32))
def f_X11_size (hk : HKS) (ta : TaS) (hi : HiS) (now : MoS) (ri : RiS) (p1 : Int32) : Option (Int32) :=
  if p1 < 0 then
    some ((-1 : Int32))
  else
    if p1 ≤ (11 : Int32) then
      if p1 = (11 : Int32) then
        some ((Ta_filled ta))
      else
        if (HK_there hk) = 0 then
          some ((0 : Int32))
        else
          if (7 : Int32) ≤ p1 then
            bd1 (f_X11_changingSize hi now p1) fun (r_1 : Int32) =>
            some (r_1)
          else
            bd1 (f_X11_toldSize ri p1) fun (r_2 : Int32) =>
            some (r_2)
    else
      some ((-1 : Int32))
def f_X11_trouble (hk : HKS) : Option (Int32) :=
  some ((HK_trouble hk))
