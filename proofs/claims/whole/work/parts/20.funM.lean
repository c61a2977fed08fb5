def f_X12_in (xq0 : Int64) (xq2 : Int64) (xq4 : Int64) (σ : Sg) : Bool :=
  if (lg_cmp xq0 xq2) < 0 then
    false
  else
    if 0 < (lg_cmp xq0 xq4) then
      false
    else
      true
def f_X12_isKind (xq0 : Int32) (σ : Sg) : Bool :=
  (f_X12_in xq0.toInt64 (1 : Int64) (5 : Int64) σ)
def f_X12_isCell (xq0 : Int32) (σ : Sg) : Bool :=
  (f_X12_in xq0.toInt64 (0 : Int64) (63 : Int64) σ)
def f_X12_isFarm (xq0 : Int32) (σ : Sg) : Bool :=
  (f_X12_in xq0.toInt64 (0 : Int64) (5 : Int64) σ)
def f_X12_isPart (xq0 : Int32) (xq1 : Int32) (σ : Sg) : Bool :=
  if xq0 = 1 then
    (f_X12_isCell xq1 σ)
  else
    if xq0 = 2 then
      (f_X12_in xq1.toInt64 (0 : Int64) (9 : Int64) σ)
    else
      if xq0 = 3 then
        (f_X12_isFarm xq1 σ)
      else
        if (f_X12_in xq0.toInt64 (4 : Int64) (5 : Int64) σ) = true then
          if (f_X12_in xq1.toInt64 (0 : Int64) (1 : Int64) σ) = true then
            true
          else
            false
        else
          false
def f_X12_at (xq0 : Int32) (xq1 : Int32) (σ : Sg) : Int32 :=
  ((35 + (6 * xq0)) + xq1)
def f_X12_kite (xq1 : Int32) (xq2 : Int32) (xq3 : Int32) (xq4 : Int32) (σ : Sg) : Option (Int32 × Sg) :=
  if (f_X12_isKind xq1 σ) = true then
    if (f_X12_isPart 1 xq2 σ) = true then
      if (f_X12_isPart 2 xq3 σ) = true then
        if (f_X12_isPart 3 xq4 σ) = true then
          if ¬ (σ 1 0) = 6 then
            lt (σ 1 0) fun vq1 =>
            Option.bind (wr σ 1 319 (f_X12_at vq1 0 σ) xq1) fun σ2 =>
            Option.bind (wr σ2 1 319 (f_X12_at vq1 1 σ2) xq2) fun σ3 =>
            Option.bind (wr σ3 1 319 (f_X12_at vq1 2 σ3) xq3) fun σ4 =>
            Option.bind (wr σ4 1 319 (f_X12_at vq1 3 σ4) xq4) fun σ5 =>
            Option.bind (wr σ5 1 319 (f_X12_at vq1 4 σ5) 1) fun σ6 =>
            Option.bind (wr σ6 1 319 (f_X12_at vq1 5 σ6) 0) fun σ7 =>
            lt (upS σ7 1 0 ((σ7 1 0) + 1)) fun σ8 =>
            some (vq1, σ8)
          else
            some ((-2), σ)
        else
          some ((-1), σ)
      else
        some ((-1), σ)
    else
      some ((-1), σ)
  else
    some ((-1), σ)
def f_X12_isKite (xq1 : Int32) (σ : Sg) : Bool :=
  (f_X12_in xq1.toInt64 (0 : Int64) (((σ 1 0) - 1).toInt64) σ)
def f_X12_its (xq1 : Int32) (xq2 : Int32) (σ : Sg) : Option Int32 :=
  Option.bind (rd σ 1 319 (f_X12_at xq1 xq2 σ)) fun vq1 =>
  some vq1
def f_X12_windNow (σ : Sg) : Option Int32 :=
  if 16 ≤ (σ 1 3) then
    some 0
  else
    Option.bind (rd σ 1 319 (7 + (σ 1 3))) fun vq1 =>
    some vq1
def f_X12_driftOf_b22 (xq0 : Int32) (xq1 : Int32) (xq2 : Int32) (xq3 : Int32) (tq0 : Int32) (σ : Sg) : Int32 :=
  if xq0 = 1 then
    (2 * xq1)
  else
    if xq0 = 2 then
      xq3
    else
      if xq0 = 3 then
        if ¬ (rem32 xq2 2) = 0 then
          xq3
        else
          (xq3 + 1)
      else
        if xq0 = 4 then
          tq0
        else
          if xq0 = 5 then
            if ¬ (rem32 xq2 2) = 0 then
              0
            else
              tq0
          else
            xq1
def f_X12_driftOf_b11 (xq0 : Int32) (xq1 : Int32) (xq2 : Int32) (tq0 : Int32) (σ : Sg) : Int32 :=
  if xq1 ≤ 1 then
    f_X12_driftOf_b22 xq0 xq1 xq2 tq0 xq1 σ
  else
    f_X12_driftOf_b22 xq0 xq1 xq2 tq0 1 σ
def f_X12_driftOf (xq0 : Int32) (xq1 : Int32) (xq2 : Int32) (σ : Sg) : Int32 :=
  if xq1 ≤ 0 then
    f_X12_driftOf_b11 xq0 xq1 xq2 0 σ
  else
    f_X12_driftOf_b11 xq0 xq1 xq2 (xq1 - 1) σ
def f_X12_drifts (xq1 : Int32) (σ : Sg) : Option Int32 :=
  if 16 ≤ (σ 1 3) then
    some 0
  else
    Option.bind (f_X12_its xq1 0 σ) fun vq1 =>
    Option.bind (f_X12_windNow σ) fun vq2 =>
    some (f_X12_driftOf vq1 (vq2 / 4) (σ 1 3) σ)
def f_X12_fee (xq1 : Int32) (σ : Sg) : Option Int32 :=
  Option.bind (f_X12_its xq1 0 σ) fun vq1 =>
  if vq1 = 1 then
    some 6
  else
    if vq1 = 2 then
      some (4 + xq1)
    else
      if vq1 = 3 then
        some (8 + (2 * xq1))
      else
        if vq1 = 4 then
          some 3
        else
          if vq1 = 5 then
            some 1
          else
            some 4
def f_X12_isUnder_b19 (xq0 : Int32) (xq1 : Int32) (σ : Sg) : Bool :=
  if ¬ xq0 = 5 then
    false
  else
    if ¬ xq1 = 4 then
      false
    else
      true
def f_X12_isUnder (xq0 : Int32) (xq1 : Int32) (σ : Sg) : Bool :=
  if xq1 = 0 then
    true
  else
    if xq0 = xq1 then
      true
    else
      if ¬ xq0 = 3 then
        f_X12_isUnder_b19 xq0 xq1 σ
      else
        if xq1 = 2 then
          true
        else
          f_X12_isUnder_b19 xq0 xq1 σ
def f_X12_isHolding (xq0 : Int32) (xq1 : Int32) (xq2 : Int32) (σ : Sg) : Bool :=
  if xq0 = (-21) then
    if ¬ xq1 = 1 then
      false
    else
      if ¬ xq2 = 1 then
        false
      else
        true
  else
    if xq0 = (-13) then
      if xq1 ≤ xq2 then
        false
      else
        true
    else
      if xq0 = (-12) then
        if ¬ xq1 = xq2 then
          false
        else
          true
      else
        if xq0 = (-11) then
          if xq2 ≤ xq1 then
            false
          else
            true
        else
          if xq1 = 1 then
            true
          else
            if ¬ xq2 = 1 then
              false
            else
              true
def f_X12_distance (xq0 : Int32) (xq1 : Int32) (σ : Sg) : Int32 :=
  if xq1 ≤ xq0 then
    (xq0 - xq1)
  else
    (xq1 - xq0)
def f_X12_far (xq0 : Int32) (xq1 : Int32) (σ : Sg) : Int32 :=
  ((f_X12_distance (rem32 xq0 8) (rem32 xq1 8) σ) + (f_X12_distance (xq0 / 8) (xq1 / 8) σ))
def f_X12_farOf (xq1 : Int32) (σ : Sg) : Option Int32 :=
  Option.bind (f_X12_its xq1 1 σ) fun vq1 =>
  Option.bind (f_X12_its xq1 3 σ) fun vq2 =>
  Option.bind (rd σ 1 319 (23 + (2 * vq2))) fun vq3 =>
  some (f_X12_far vq1 vq3 σ)
def f_X12_fact (xq1 : Int32) (xq2 : Int32) (σ : Sg) : Option Int32 :=
  if xq1 = (-5) then
    some xq2
  else
    if xq1 = (-4) then
      Option.bind (f_X12_its xq2 3 σ) fun vq1 =>
      some vq1
    else
      if xq1 = (-3) then
        Option.bind (f_X12_farOf xq2 σ) fun vq2 =>
        some vq2
      else
        if xq1 = (-2) then
          Option.bind (f_X12_its xq2 2 σ) fun vq3 =>
          some vq3
        else
          if xq1 = (-1) then
            some (σ 1 3)
          else
            some xq1
def f_X12_isSo_b6 (kq6 : Int32 → Int32 → Sg → Option (Bool × Sg)) (xq2 : Int32) (xq3 : Int32) (xq4 : Int32) (xq5 : Int32) (σ : Sg) : Option (Bool × Sg) :=
  if xq2 ≤ xq5 then
    if xq4 = 0 then
      some (true, σ)
    else
      if ¬ (σ 4 0) = 1 then
        some (false, σ)
      else
        some (true, σ)
  else
    Option.bind (rd σ 1 319 (119 + xq5)) fun vq1 =>
    if vq1 ≤ (-10) then
      if ¬ vq1 = (-20) then
        Option.bind (rd σ 4 200 ((xq4 + (-1)) - 1)) fun vq2 =>
        Option.bind (rd σ 4 200 (xq4 + (-1))) fun vq3 =>
        if (f_X12_isHolding vq1 vq2 vq3 σ) = true then
          Option.bind (wr σ 4 200 ((xq4 + (-1)) - 1) 1) fun σ5 =>
          kq6 (xq4 + (-1)) (xq5 + 1) σ5
        else
          Option.bind (wr σ 4 200 ((xq4 + (-1)) - 1) 0) fun σ4 =>
          kq6 (xq4 + (-1)) (xq5 + 1) σ4
      else
        Option.bind (rd σ 4 200 (xq4 - 1)) fun vq6 =>
        Option.bind (wr σ 4 200 (xq4 - 1) (1 - vq6)) fun σ7 =>
        kq6 xq4 (xq5 + 1) σ7
    else
      Option.bind (f_X12_fact vq1 xq3 σ) fun vq8 =>
      Option.bind (wr σ 4 200 xq4 vq8) fun σ9 =>
      kq6 (xq4 + 1) (xq5 + 1) σ9
def f_X12_isSo_l6 (xq2 : Int32) (xq3 : Int32) : Nat → Int32 → Int32 → Sg → Option (Bool × Sg) := fuel (fun _ _ _ => none) (fun kq6 => f_X12_isSo_b6 kq6 xq2 xq3)
def f_X12_isSo (xq1 : Int32) (xq2 : Int32) (xq3 : Int32) (σ : Sg) : Option (Bool × Sg) :=
  f_X12_isSo_l6 xq2 xq3 400 0 xq1 σ
def f_X12_will_b87 (kq15 : Int32 → Int32 → Int32 → Sg → Option (Int32 × Sg)) (xq1 : Int32) (xq2 : Int32) (xq5 : Int32) (xq6 : Int32) (tq0 : Int32) (σ : Sg) : Option (Int32 × Sg) :=
  Option.bind (rd σ 1 319 (xq6 + 2)) fun vq8 =>
  kq15 tq0 vq8 (xq5 + 1) σ
def f_X12_will_b105 (xq3 : Int32) (σ : Sg) : Option (Int32 × Sg) :=
  if 0 ≤ xq3 then
    some (xq3, σ)
  else
    some (0, σ)
def f_X12_will_b15 (kq15 : Int32 → Int32 → Int32 → Sg → Option (Int32 × Sg)) (xq1 : Int32) (xq2 : Int32) (xq3 : Int32) (xq4 : Int32) (xq5 : Int32) (σ : Sg) : Option (Int32 × Sg) :=
  if (σ 1 1) ≤ xq5 then
    f_X12_will_b105 xq3 σ
  else
    if 0 ≤ xq3 then
      f_X12_will_b105 xq3 σ
    else
      lt (95 + (3 * xq5)) fun vq2 =>
      Option.bind (rd σ 1 319 (vq2 + 0)) fun vq3 =>
      if (f_X12_isUnder xq2 vq3 σ) = true then
        Option.bind (rd σ 1 319 (vq2 + 2)) fun vq4 =>
        bd2 (f_X12_isSo xq4 vq4 xq1 σ) fun vq5 σ6 =>
        if vq5 = true then
          Option.bind (rd σ6 1 319 (vq2 + 1)) fun vq7 =>
          f_X12_will_b87 kq15 xq1 xq2 xq5 vq2 vq7 σ6
        else
          f_X12_will_b87 kq15 xq1 xq2 xq5 vq2 (-1) σ6
      else
        f_X12_will_b87 kq15 xq1 xq2 xq5 vq2 (-1) σ
def f_X12_will_l15 (xq1 : Int32) (xq2 : Int32) : Nat → Int32 → Int32 → Int32 → Sg → Option (Int32 × Sg) := fuel (fun _ _ _ _ => none) (fun kq15 => f_X12_will_b15 kq15 xq1 xq2)
def f_X12_will (xq1 : Int32) (σ : Sg) : Option (Int32 × Sg) :=
  Option.bind (f_X12_its xq1 0 σ) fun vq1 =>
  f_X12_will_l15 xq1 vq1 400 (-1) 0 0 σ
def f_X12_kiteOf (xq1 : Int32) (xq2 : Int32) (σ : Sg) : Option (Int32 × Sg) :=
  if (f_X12_isKite xq1 σ) = true then
    if (f_X12_in xq2.toInt64 (0 : Int64) (9 : Int64) σ) = true then
      if xq2 = 6 then
        Option.bind (f_X12_drifts xq1 σ) fun vq1 =>
        some (vq1, σ)
      else
        if xq2 = 7 then
          Option.bind (f_X12_fee xq1 σ) fun vq2 =>
          some (vq2, σ)
        else
          if xq2 = 8 then
            bd2 (f_X12_will xq1 σ) fun vq3 σ4 =>
            some (vq3, σ4)
          else
            if xq2 = 9 then
              Option.bind (f_X12_farOf xq1 σ) fun vq5 =>
              some (vq5, σ)
            else
              Option.bind (f_X12_its xq1 xq2 σ) fun vq6 =>
              some (vq6, σ)
    else
      some ((-1), σ)
  else
    some ((-1), σ)
def f_X12_becomes (xq1 : Int32) (xq2 : Int32) (σ : Sg) : Option (Int32 × Sg) :=
  Option.bind (rd σ 1 319 xq1) fun vq1 =>
  Option.bind (wr σ 1 319 xq1 xq2) fun σ2 =>
  some (vq1, σ2)
def f_X12_change (xq1 : Int32) (xq2 : Int32) (xq3 : Int32) (σ : Sg) : Option (Int32 × Sg) :=
  if (f_X12_isKite xq1 σ) = true then
    if (f_X12_isPart xq2 xq3 σ) = true then
      bd2 (f_X12_becomes (f_X12_at xq1 xq2 σ) xq3 σ) fun vq1 σ2 =>
      some (vq1, σ2)
    else
      some ((-1), σ)
  else
    some ((-1), σ)
def f_X12_remake (xq1 : Int32) (xq2 : Int32) (σ : Sg) : Option (Int32 × Sg) :=
  if (f_X12_isKite xq1 σ) = true then
    if (f_X12_isKind xq2 σ) = true then
      bd2 (f_X12_becomes (f_X12_at xq1 0 σ) xq2 σ) fun vq1 σ2 =>
      some (vq1, σ2)
    else
      some ((-1), σ)
  else
    some ((-1), σ)
def f_X12_isGust (xq0 : Int32) (σ : Sg) : Bool :=
  (f_X12_in xq0.toInt64 (0 : Int64) (15 : Int64) σ)
def f_X12_wind (xq1 : Int32) (xq2 : Int32) (σ : Sg) : Option (Int32 × Sg) :=
  if (f_X12_isGust xq1 σ) = true then
    if (f_X12_in xq2.toInt64 (0 : Int64) (15 : Int64) σ) = true then
      bd2 (f_X12_becomes (7 + xq1) xq2 σ) fun vq1 σ2 =>
      some (vq1, σ2)
    else
      some ((-1), σ)
  else
    some ((-1), σ)
def f_X12_farm_b33 (xq1 : Int32) (xq2 : Int32) (xq3 : Int32) (tq0 : Int32) (σ : Sg) : Option (Int32 × Sg) :=
  if (f_X12_isFarm xq1 σ) = true then
    if tq0 = 0 then
      some ((-1), σ)
    else
      bd2 (f_X12_becomes ((23 + (2 * xq1)) + xq2) xq3 σ) fun vq1 σ2 =>
      some (vq1, σ2)
  else
    some ((-1), σ)
def f_X12_farm (xq1 : Int32) (xq2 : Int32) (xq3 : Int32) (σ : Sg) : Option (Int32 × Sg) :=
  if ¬ xq2 = 0 then
    if ¬ xq2 = 1 then
      f_X12_farm_b33 xq1 xq2 xq3 0 σ
    else
      if (f_X12_in xq3.toInt64 (0 : Int64) (14 : Int64) σ) = true then
        f_X12_farm_b33 xq1 xq2 xq3 1 σ
      else
        f_X12_farm_b33 xq1 xq2 xq3 0 σ
  else
    f_X12_farm_b33 xq1 xq2 xq3 (b2i (f_X12_isCell xq3 σ)) σ
def f_X12_farmOf (xq1 : Int32) (xq2 : Int32) (σ : Sg) : Option Int32 :=
  if (f_X12_isFarm xq1 σ) = true then
    if (f_X12_in xq2.toInt64 (0 : Int64) (1 : Int64) σ) = true then
      Option.bind (rd σ 1 319 ((23 + (2 * xq1)) + xq2)) fun vq1 =>
      some vq1
    else
      some (-1)
  else
    some (-1)
def f_X12_ends (xq1 : Int32) (σ : Sg) : Option (Int32 × Sg) :=
  if (f_X12_in xq1.toInt64 (1 : Int64) (16 : Int64) σ) = true then
    if (σ 1 3) ≤ xq1 then
      bd2 (f_X12_becomes 2 xq1 σ) fun vq1 σ2 =>
      some (vq1, σ2)
    else
      some ((-4), σ)
  else
    some ((-1), σ)
def f_X12_anew_b9 (kq9 : Int32 → Sg → Option (Int32 × Sg)) (xq1 : Int32) (σ : Sg) : Option (Int32 × Sg) :=
  if (σ 1 0) ≤ xq1 then
    bd2 (f_X12_becomes 3 0 σ) fun vq2 σ3 =>
    some (vq2, σ3)
  else
    Option.bind (wr σ 1 319 (f_X12_at xq1 4 σ) 1) fun σ4 =>
    Option.bind (wr σ4 1 319 (f_X12_at xq1 5 σ4) 0) fun σ5 =>
    kq9 (xq1 + 1) σ5
def f_X12_anew_l9 : Nat → Int32 → Sg → Option (Int32 × Sg) := fuel (fun _ _ => none) (fun kq9 => f_X12_anew_b9 kq9)
def f_X12_anew (σ : Sg) : Option (Int32 × Sg) :=
  lt (upS σ 1 4 0) fun σ1 =>
  f_X12_anew_l9 400 0 σ1
def f_X12_isOver (σ : Sg) : Bool :=
  if (σ 1 3) < (σ 1 2) then
    false
  else
    true
def f_X12_those_b4 (kq4 : Int32 → Int32 → Option Int32) (xq1 : Int32) (σ : Sg) (xq2 : Int32) (xq3 : Int32) : Option Int32 :=
  if (σ 1 0) ≤ xq3 then
    some xq2
  else
    Option.bind (f_X12_its xq3 xq1 σ) fun vq1 =>
    lt (xq2 ||| (shl32 vq1 xq3)) fun vq2 =>
    kq4 vq2 (xq3 + 1)
def f_X12_those_l4 (xq1 : Int32) (σ : Sg) : Nat → Int32 → Int32 → Option Int32 := fuel (fun _ _ => none) (fun kq4 => f_X12_those_b4 kq4 xq1 σ)
def f_X12_those (xq1 : Int32) (σ : Sg) : Option Int32 :=
  f_X12_those_l4 xq1 σ 400 0 0
def f_X12_state (xq1 : Int32) (σ : Sg) : Option Int32 :=
  if xq1 = 0 then
    some (σ 1 3)
  else
    if xq1 = 1 then
      some (σ 1 2)
    else
      if xq1 = 2 then
        some (σ 1 4)
      else
        if xq1 = 3 then
          if (f_X12_isOver σ) = true then
            some 1
          else
            some 0
        else
          if xq1 = 4 then
            Option.bind (f_X12_those 4 σ) fun vq1 =>
            some vq1
          else
            if xq1 = 5 then
              Option.bind (f_X12_those 5 σ) fun vq2 =>
              some vq2
            else
              if xq1 = 6 then
                Option.bind (f_X12_windNow σ) fun vq3 =>
                some vq3
              else
                some (-1)
def f_X12_feed_b32 (kq32 : Int32 → Sg → Option (Int32 × Sg)) (xq1 : Int64) (xq3 : Int32) (xq4 : Int32) (σ : Sg) : Option (Int32 × Sg) :=
  if xq3 ≤ xq4 then
    some ((σ 0 21), σ)
  else
    Option.bind (wr σ 9 200 (σ 0 21) (((shr64 xq1 (8 * xq4)) &&& (255 : Int64)).toInt32)) fun σ1 =>
    lt (upS σ1 0 21 ((σ1 0 21) + 1)) fun σ2 =>
    kq32 (xq4 + 1) σ2
def f_X12_feed_l32 (xq1 : Int64) (xq3 : Int32) : Nat → Int32 → Sg → Option (Int32 × Sg) := fuel (fun _ _ => none) (fun kq32 => f_X12_feed_b32 kq32 xq1 xq3)
def f_X12_feed (xq1 : Int64) (xq3 : Int32) (σ : Sg) : Option (Int32 × Sg) :=
  if (f_X12_in xq3.toInt64 (1 : Int64) (8 : Int64) σ) = true then
    if ((σ 0 21) + xq3) ≤ 200 then
      f_X12_feed_l32 xq1 xq3 400 0 σ
    else
      some ((-2), σ)
  else
    some ((-1), σ)
def f_X12_puts_b2 (kq2 : Int32 → Sg → Option Sg) (xq1 : Int32) (σ : Sg) : Option Sg :=
  if 319 ≤ xq1 then
    some σ
  else
    Option.bind (rd σ 1 319 xq1) fun vq1 =>
    Option.bind (wr σ 3 319 xq1 vq1) fun σ2 =>
    kq2 (xq1 + 1) σ2
def f_X12_puts_l2 : Nat → Int32 → Sg → Option Sg := fuel (fun _ _ => none) (fun kq2 => f_X12_puts_b2 kq2)
def f_X12_puts (σ : Sg) : Option Sg :=
  f_X12_puts_l2 400 0 σ
def f_X12_byteAt (xq1 : Int32) (σ : Sg) : Option Int32 :=
  if (σ 0 21) ≤ xq1 then
    some (-1)
  else
    Option.bind (rd σ 9 200 xq1) fun vq1 =>
    some vq1
def f_X12_isLetter (xq0 : Int32) (σ : Sg) : Bool :=
  (f_X12_in xq0.toInt64 (97 : Int64) (122 : Int64) σ)
def f_X12_isDigit (xq0 : Int32) (σ : Sg) : Bool :=
  (f_X12_in xq0.toInt64 (48 : Int64) (57 : Int64) σ)
def f_X12_token_b122 (kq86 : Sg → Option Sg) (xq1 : Int32) (xq2 : Int32) (σ : Sg) : Option Sg :=
  lt (upS σ 0 23 ((σ 0 23) + 1)) fun σ10 =>
  kq86 σ10
def f_X12_token_b104 (kq86 : Sg → Option Sg) (xq1 : Int32) (xq2 : Int32) (σ : Sg) : Option Sg :=
  if xq2 = 0 then
    some σ
  else
    Option.bind (f_X12_byteAt (σ 0 23) σ) fun vq9 =>
    if (f_X12_isDigit vq9 σ) = true then
      f_X12_token_b122 kq86 xq1 xq2 σ
    else
      some σ
def f_X12_token_b86 (kq86 : Sg → Option Sg) (xq1 : Int32) (xq2 : Int32) (σ : Sg) : Option Sg :=
  if xq1 = 0 then
    f_X12_token_b104 kq86 xq1 xq2 σ
  else
    Option.bind (f_X12_byteAt (σ 0 23) σ) fun vq8 =>
    if (f_X12_isLetter vq8 σ) = true then
      f_X12_token_b122 kq86 xq1 xq2 σ
    else
      f_X12_token_b104 kq86 xq1 xq2 σ
def f_X12_token_l86 (xq1 : Int32) (xq2 : Int32) : Nat → Sg → Option Sg := fuel (fun _ => none) (fun kq86 => f_X12_token_b86 kq86 xq1 xq2)
def f_X12_token_b8 (kq8 : Sg → Option Sg) (σ : Sg) : Option Sg :=
  Option.bind (f_X12_byteAt (σ 0 22) σ) fun vq2 =>
  if ¬ vq2 = 32 then
    Option.bind (f_X12_byteAt (σ 0 22) σ) fun vq3 =>
    Option.bind (f_X12_byteAt (σ 0 22) σ) fun vq4 =>
    if (σ 0 21) ≤ (σ 0 22) then
      lt (upS σ 0 23 (σ 0 22)) fun σ5 =>
      f_X12_token_l86 (b2i (f_X12_isLetter vq3 σ)) (b2i (f_X12_isDigit vq4 σ)) 400 σ5
    else
      lt (upS σ 0 23 ((σ 0 22) + 1)) fun σ6 =>
      f_X12_token_l86 (b2i (f_X12_isLetter vq3 σ)) (b2i (f_X12_isDigit vq4 σ)) 400 σ6
  else
    lt (upS σ 0 22 ((σ 0 22) + 1)) fun σ7 =>
    kq8 σ7
def f_X12_token_l8 : Nat → Sg → Option Sg := fuel (fun _ => none) (fun kq8 => f_X12_token_b8 kq8)
def f_X12_token (σ : Sg) : Option Sg :=
  lt (upS σ 0 22 (σ 0 23)) fun σ1 =>
  f_X12_token_l8 400 σ1
def f_X12_word_b7 (kq7 : Int64 → Int32 → Option Int64) (σ : Sg) (xq1 : Int64) (xq3 : Int32) : Option Int64 :=
  if (σ 0 23) ≤ xq3 then
    if ¬ (σ 0 27) = 0 then
      some (0 : Int64)
    else
      Option.bind (f_X12_byteAt (σ 0 22) σ) fun vq2 =>
      if (f_X12_isLetter vq2 σ) = true then
        some xq1
      else
        some (0 : Int64)
  else
    if (lg_cmp xq1 (36028797018963967 : Int64)) ≤ 0 then
      Option.bind (rd σ 9 200 xq3) fun vq3 =>
      lt (((32 : Int64) * xq1) + (vq3 - 96).toInt64) fun vq4 =>
      kq7 vq4 (xq3 + 1)
    else
      kq7 xq1 (xq3 + 1)
def f_X12_word_l7 (σ : Sg) : Nat → Int64 → Int32 → Option Int64 := fuel (fun _ _ => none) (fun kq7 => f_X12_word_b7 kq7 σ)
def f_X12_word (σ : Sg) : Option Int64 :=
  lt (σ 0 22) fun vq1 =>
  f_X12_word_l7 σ 400 (0 : Int64) vq1
def f_X12_kindHere (σ : Sg) : Option Int32 :=
  Option.bind (f_X12_word σ) fun vq1 =>
  if ¬ (lg_cmp vq1 (370309 : Int64)) = 0 then
    if ¬ (lg_cmp vq1 (18596 : Int64)) = 0 then
      if ¬ (lg_cmp vq1 (8554201 : Int64)) = 0 then
        if ¬ (lg_cmp vq1 (11178213 : Int64)) = 0 then
          if ¬ (lg_cmp vq1 (2552 : Int64)) = 0 then
            if ¬ (lg_cmp vq1 (15748 : Int64)) = 0 then
              some (-1)
            else
              some 5
          else
            some 4
        else
          some 3
      else
        some 2
    else
      some 1
  else
    some 0
def f_X12_wants_b17 (tq1 : Int32) (σ : Sg) : Option Sg :=
  if ¬ (tq1 = 0 ∨ tq1 = 1) then none else lt (upS σ 0 27 tq1) fun σ2 =>
  if ¬ (σ2 0 27) = 0 then
    some σ2
  else
    Option.bind (f_X12_token σ2) fun σ3 =>
    some σ3
def f_X12_wants (xq1 : Int32) (σ : Sg) : Option Sg :=
  if ¬ (σ 0 27) = 0 then
    f_X12_wants_b17 1 σ
  else
    if ¬ xq1 = 0 then
      f_X12_wants_b17 0 σ
    else
      f_X12_wants_b17 1 σ
def f_X12_factHere (σ : Sg) : Option Int32 :=
  Option.bind (f_X12_word σ) fun vq1 =>
  if ¬ (lg_cmp vq1 (251508 : Int64)) = 0 then
    if ¬ (lg_cmp vq1 (659105223 : Int64)) = 0 then
      if ¬ (lg_cmp vq1 (6194 : Int64)) = 0 then
        if ¬ (lg_cmp vq1 (460197 : Int64)) = 0 then
          if ¬ (lg_cmp vq1 (492210354 : Int64)) = 0 then
            some 0
          else
            some (-5)
        else
          some (-4)
      else
        some (-3)
    else
      some (-2)
  else
    some (-1)
def f_X12_number_b82 (xq1 : Int32) (xq2 : Int32) (σ : Sg) : Option Sg :=
  if xq2 = 0 then
    Option.bind (f_X12_wants 0 σ) fun σ6 =>
    some σ6
  else
    if xq1 < (σ 0 24) then
      Option.bind (f_X12_wants 0 σ) fun σ7 =>
      some σ7
    else
      Option.bind (f_X12_wants 1 σ) fun σ8 =>
      some σ8
def f_X12_number_b43 (kq43 : Int32 → Sg → Option Sg) (xq1 : Int32) (xq2 : Int32) (xq3 : Int32) (σ : Sg) : Option Sg :=
  if (σ 0 23) ≤ xq3 then
    f_X12_number_b82 xq1 xq2 σ
  else
    if xq2 = 0 then
      f_X12_number_b82 xq1 xq2 σ
    else
      Option.bind (rd σ 9 200 xq3) fun vq4 =>
      lt (upS σ 0 24 (((10 * (σ 0 24)) + vq4) - 48)) fun σ5 =>
      kq43 (xq3 + 1) σ5
def f_X12_number_l43 (xq1 : Int32) (xq2 : Int32) : Nat → Int32 → Sg → Option Sg := fuel (fun _ _ => none) (fun kq43 => f_X12_number_b43 kq43 xq1 xq2)
def f_X12_number_b32 (xq1 : Int32) (tq0 : Int32) (σ : Sg) : Option Sg :=
  lt (upS σ 0 24 0) fun σ2 =>
  lt (σ2 0 22) fun vq3 =>
  f_X12_number_l43 xq1 tq0 400 vq3 σ2
def f_X12_number (xq1 : Int32) (σ : Sg) : Option Sg :=
  Option.bind (f_X12_byteAt (σ 0 22) σ) fun vq1 =>
  if (f_X12_isDigit vq1 σ) = true then
    if 5 ≤ ((σ 0 23) - (σ 0 22)) then
      f_X12_number_b32 xq1 0 σ
    else
      f_X12_number_b32 xq1 1 σ
  else
    f_X12_number_b32 xq1 0 σ
def f_X12_writes (xq1 : Int32) (σ : Sg) : Option Sg :=
  if ¬ (σ 0 27) = 0 then
    some σ
  else
    Option.bind (wr σ 1 319 (119 + (σ 0 26)) xq1) fun σ1 =>
    lt (upS σ1 0 26 ((σ1 0 26) + 1)) fun σ2 =>
    some σ2
def f_X12_valueHere (σ : Sg) : Option Sg :=
  Option.bind (f_X12_factHere σ) fun vq1 =>
  if 0 ≤ vq1 then
    if ¬ (σ 0 27) = 0 then
      some σ
    else
      Option.bind (f_X12_number 9999 σ) fun σ2 =>
      Option.bind (f_X12_writes (σ2 0 24) σ2) fun σ3 =>
      some σ3
  else
    Option.bind (f_X12_wants 1 σ) fun σ4 =>
    Option.bind (f_X12_writes vq1 σ4) fun σ5 =>
    some σ5
def f_X12_comparison_b48 (xq1 : Int32) (tq1 : Int32) (σ : Sg) : Option Sg :=
  Option.bind (f_X12_wants tq1 σ) fun σ3 =>
  Option.bind (f_X12_valueHere σ3) fun σ4 =>
  if ¬ xq1 = 60 then
    if ¬ xq1 = 61 then
      Option.bind (f_X12_writes (-13) σ4) fun σ5 =>
      some σ5
    else
      Option.bind (f_X12_writes (-12) σ4) fun σ6 =>
      some σ6
  else
    Option.bind (f_X12_writes (-11) σ4) fun σ7 =>
    some σ7
def f_X12_comparison_b23 (tq0 : Int32) (σ : Sg) : Option Sg :=
  if tq0 = 60 then
    f_X12_comparison_b48 tq0 1 σ
  else
    if tq0 = 61 then
      f_X12_comparison_b48 tq0 1 σ
    else
      if ¬ tq0 = 62 then
        f_X12_comparison_b48 tq0 0 σ
      else
        f_X12_comparison_b48 tq0 1 σ
def f_X12_comparison (σ : Sg) : Option Sg :=
  Option.bind (f_X12_valueHere σ) fun σ1 =>
  if (σ1 0 27) = 0 then
    Option.bind (f_X12_byteAt (σ1 0 22) σ1) fun vq2 =>
    f_X12_comparison_b23 vq2 σ1
  else
    f_X12_comparison_b23 (-1) σ1
def f_X12_one_b128 (rec : Sg → Option Sg) (xq1 : Int32) (σ : Sg) : Option Sg :=
  if xq1 = 0 then
    some σ
  else
    Option.bind (f_X12_writes (-20) σ) fun σ7 =>
    some σ7
def f_X12_one_b65 (rec : Sg → Option Sg) (xq1 : Int32) (tq1 : Int32) (σ : Sg) : Option Sg :=
  Option.bind (f_X12_wants tq1 σ) fun σ8 =>
  lt (upS σ8 0 25 ((σ8 0 25) + 1)) fun σ9 =>
  Option.bind (rec σ9) fun σ10 =>
  lt (upS σ10 0 25 ((σ10 0 25) - 1)) fun σ11 =>
  if ¬ (σ11 0 27) = 0 then
    Option.bind (f_X12_wants 0 σ11) fun σ12 =>
    f_X12_one_b128 rec xq1 σ12
  else
    Option.bind (f_X12_byteAt (σ11 0 22) σ11) fun vq13 =>
    if ¬ vq13 = 41 then
      Option.bind (f_X12_wants 0 σ11) fun σ14 =>
      f_X12_one_b128 rec xq1 σ14
    else
      Option.bind (f_X12_wants 1 σ11) fun σ15 =>
      f_X12_one_b128 rec xq1 σ15
def f_X12_one_b2 (rec : Sg → Option Sg) (kq2 : Int32 → Sg → Option Sg) (xq1 : Int32) (σ : Sg) : Option Sg :=
  Option.bind (f_X12_word σ) fun vq1 =>
  if ¬ (lg_cmp vq1 (14836 : Int64)) = 0 then
    if ¬ (σ 0 27) = 0 then
      Option.bind (f_X12_comparison σ) fun σ2 =>
      f_X12_one_b128 rec xq1 σ2
    else
      Option.bind (f_X12_byteAt (σ 0 22) σ) fun vq3 =>
      if ¬ vq3 = 40 then
        Option.bind (f_X12_comparison σ) fun σ4 =>
        f_X12_one_b128 rec xq1 σ4
      else
        if 3 ≤ (σ 0 25) then
          f_X12_one_b65 rec xq1 0 σ
        else
          f_X12_one_b65 rec xq1 1 σ
  else
    if ¬ xq1 = 0 then
      Option.bind (f_X12_wants 1 σ) fun σ5 =>
      kq2 0 σ5
    else
      Option.bind (f_X12_wants 1 σ) fun σ6 =>
      kq2 1 σ6
def f_X12_one_l2 (rec : Sg → Option Sg) : Nat → Int32 → Sg → Option Sg := fuel (fun _ _ => none) (fun kq2 => f_X12_one_b2 rec kq2)
def f_X12_one (rec : Sg → Option Sg) (σ : Sg) : Option Sg :=
  f_X12_one_l2 rec 400 0 σ
def f_X12_all_b4 (rec : Sg → Option Sg) (kq4 : Sg → Option Sg) (σ : Sg) : Option Sg :=
  Option.bind (f_X12_word σ) fun vq2 =>
  if ¬ (lg_cmp vq2 (1476 : Int64)) = 0 then
    some σ
  else
    Option.bind (f_X12_wants 1 σ) fun σ3 =>
    Option.bind (f_X12_one rec σ3) fun σ4 =>
    Option.bind (f_X12_writes (-21) σ4) fun σ5 =>
    kq4 σ5
def f_X12_all_l4 (rec : Sg → Option Sg) : Nat → Sg → Option Sg := fuel (fun _ => none) (fun kq4 => f_X12_all_b4 rec kq4)
def f_X12_all (rec : Sg → Option Sg) (σ : Sg) : Option Sg :=
  Option.bind (f_X12_one rec σ) fun σ1 =>
  f_X12_all_l4 rec 400 σ1
def f_X12_condition_b12 (rec : Sg → Option Sg) (kq12 : Sg → Option Sg) (σ : Sg) : Option Sg :=
  Option.bind (f_X12_word σ) fun vq2 =>
  if ¬ (lg_cmp vq2 (498 : Int64)) = 0 then
    some σ
  else
    Option.bind (f_X12_wants 1 σ) fun σ3 =>
    Option.bind (f_X12_all rec σ3) fun σ4 =>
    Option.bind (f_X12_writes (-22) σ4) fun σ5 =>
    kq12 σ5
def f_X12_condition_l12 (rec : Sg → Option Sg) : Nat → Sg → Option Sg := fuel (fun _ => none) (fun kq12 => f_X12_condition_b12 rec kq12)
def f_X12_condition_s (rec : Sg → Option Sg) (σ : Sg) : Option Sg :=
  if (σ 0 27) = 0 then
    Option.bind (f_X12_all rec σ) fun σ1 =>
    f_X12_condition_l12 rec 400 σ1
  else
    some σ
def f_X12_condition : Nat → Sg → Option Sg := fuel (fun _ => none) f_X12_condition_s
def f_X12_rule_b133 (xq1 : Int32) (xq4 : Int32) (tq1 : Int32) (σ : Sg) : Option Sg :=
  Option.bind (f_X12_wants tq1 σ) fun σ9 =>
  if ¬ (σ9 0 27) = 0 then
    some σ9
  else
    lt (95 + (3 * (σ9 1 1))) fun vq10 =>
    Option.bind (wr σ9 1 319 (vq10 + 0) xq1) fun σ11 =>
    Option.bind (wr σ11 1 319 (vq10 + 1) xq4) fun σ12 =>
    Option.bind (wr σ12 1 319 (vq10 + 2) (σ12 0 26)) fun σ13 =>
    lt (upS σ13 1 1 ((σ13 1 1) + 1)) fun σ14 =>
    some σ14
def f_X12_rule_b104 (xq1 : Int32) (xq4 : Int32) (tq1 : Int32) (σ : Sg) : Option Sg :=
  Option.bind (f_X12_wants tq1 σ) fun σ7 =>
  if ¬ (σ7 0 27) = 0 then
    f_X12_rule_b133 xq1 xq4 0 σ7
  else
    Option.bind (f_X12_byteAt (σ7 0 22) σ7) fun vq8 =>
    if ¬ vq8 = 59 then
      f_X12_rule_b133 xq1 xq4 0 σ7
    else
      f_X12_rule_b133 xq1 xq4 1 σ7
def f_X12_rule_b91 (xq1 : Int32) (tq0 : Int32) (σ : Sg) : Option Sg :=
  if tq0 < 0 then
    f_X12_rule_b104 xq1 tq0 0 σ
  else
    f_X12_rule_b104 xq1 tq0 1 σ
def f_X12_rule_b49 (xq1 : Int32) (σ : Sg) : Option Sg :=
  Option.bind (f_X12_word σ) fun vq6 =>
  if ¬ (lg_cmp vq6 (20105925 : Int64)) = 0 then
    if ¬ (lg_cmp vq6 (277892 : Int64)) = 0 then
      if ¬ (lg_cmp vq6 (3764 : Int64)) = 0 then
        f_X12_rule_b91 xq1 (-1) σ
      else
        f_X12_rule_b91 xq1 2 σ
    else
      f_X12_rule_b91 xq1 1 σ
  else
    f_X12_rule_b91 xq1 0 σ
def f_X12_rule_b26 (xq1 : Int32) (tq1 : Int32) (σ : Sg) : Option Sg :=
  Option.bind (f_X12_wants tq1 σ) fun σ2 =>
  Option.bind (f_X12_word σ2) fun vq3 =>
  if ¬ (lg_cmp vq3 (294 : Int64)) = 0 then
    f_X12_rule_b49 xq1 σ2
  else
    Option.bind (f_X12_wants 1 σ2) fun σ4 =>
    Option.bind (f_X12_condition 6 σ4) fun σ5 =>
    f_X12_rule_b49 xq1 σ5
def f_X12_rule (σ : Sg) : Option Sg :=
  Option.bind (f_X12_kindHere σ) fun vq1 =>
  if vq1 < 0 then
    f_X12_rule_b26 vq1 0 σ
  else
    if 8 ≤ (σ 1 1) then
      f_X12_rule_b26 vq1 0 σ
    else
      f_X12_rule_b26 vq1 1 σ
def f_X12_putsBack_b2 (kq2 : Int32 → Sg → Option Sg) (xq1 : Int32) (σ : Sg) : Option Sg :=
  if 319 ≤ xq1 then
    some σ
  else
    Option.bind (rd σ 3 319 xq1) fun vq1 =>
    Option.bind (wr σ 1 319 xq1 vq1) fun σ2 =>
    kq2 (xq1 + 1) σ2
def f_X12_putsBack_l2 : Nat → Int32 → Sg → Option Sg := fuel (fun _ _ => none) (fun kq2 => f_X12_putsBack_b2 kq2)
def f_X12_putsBack (σ : Sg) : Option Sg :=
  f_X12_putsBack_l2 400 0 σ
def f_X12_rules_b60 (σ : Sg) : Option (Int32 × Sg) :=
  lt (upS σ 0 21 0) fun σ9 =>
  if (σ9 0 27) = 0 then
    some ((σ9 1 1), σ9)
  else
    Option.bind (f_X12_putsBack σ9) fun σ10 =>
    some (((-100) - (σ10 0 22)), σ10)
def f_X12_rules_b35 (kq35 : Sg → Option (Int32 × Sg)) (σ : Sg) : Option (Int32 × Sg) :=
  if ¬ (σ 0 27) = 0 then
    f_X12_rules_b60 σ
  else
    if (σ 0 21) ≤ (σ 0 22) then
      f_X12_rules_b60 σ
    else
      Option.bind (f_X12_rule σ) fun σ8 =>
      kq35 σ8
def f_X12_rules_l35 : Nat → Sg → Option (Int32 × Sg) := fuel (fun _ => none) (fun kq35 => f_X12_rules_b35 kq35)
def f_X12_rules (σ : Sg) : Option (Int32 × Sg) :=
  Option.bind (f_X12_puts σ) fun σ1 =>
  lt (upS σ1 1 1 0) fun σ2 =>
  lt (upS σ2 0 26 0) fun σ3 =>
  lt (upS σ3 0 25 0) fun σ4 =>
  lt (upS σ4 0 23 0) fun σ5 =>
  lt (upS σ5 0 27 0) fun σ6 =>
  Option.bind (f_X12_token σ6) fun σ7 =>
  f_X12_rules_l35 400 σ7
def f_X12_room_b46 (xq2 : Int32) (tq0 : Int32) (σ : Sg) : Int32 :=
  if tq0 ≤ xq2 then
    tq0
  else
    xq2
def f_X12_room (xq0 : Int32) (xq1 : Int32) (xq2 : Int32) (σ : Sg) : Int32 :=
  lt (rem32 xq0 8) fun vq1 =>
  lt (xq0 / 8) fun vq2 =>
  if ¬ xq1 = 0 then
    if ¬ xq1 = 1 then
      if ¬ xq1 = 2 then
        f_X12_room_b46 xq2 vq2 σ
      else
        f_X12_room_b46 xq2 vq1 σ
    else
      f_X12_room_b46 xq2 (7 - vq2) σ
  else
    f_X12_room_b46 xq2 (7 - vq1) σ
def f_X12_moved (xq0 : Int32) (xq1 : Int32) (xq2 : Int32) (σ : Sg) : Int32 :=
  if ¬ xq1 = 0 then
    if ¬ xq1 = 1 then
      if ¬ xq1 = 2 then
        (xq0 + ((-8) * xq2))
      else
        (xq0 + (-xq2))
    else
      (xq0 + (8 * xq2))
  else
    (xq0 + xq2)
def f_X12_blows_b67 (kq19 : Int32 → Sg → Option Sg) (xq1 : Int32) (xq2 : Int32) (tq0 : Int32) (σ : Sg) : Option Sg :=
  Option.bind (f_X12_its xq2 1 σ) fun vq8 =>
  lt (f_X12_room vq8 xq1 tq0 σ) fun vq9 =>
  Option.bind (f_X12_its xq2 1 σ) fun vq10 =>
  Option.bind (wr σ 1 319 (f_X12_at xq2 1 σ) (f_X12_moved vq10 xq1 vq9 σ)) fun σ11 =>
  Option.bind (rd σ11 1 319 (f_X12_at xq2 2 σ11)) fun vq12 =>
  Option.bind (wr σ11 1 319 (f_X12_at xq2 2 σ11) (vq12 - vq9)) fun σ13 =>
  kq19 (xq2 + 1) σ13
def f_X12_blows_b19 (kq19 : Int32 → Sg → Option Sg) (xq1 : Int32) (xq2 : Int32) (σ : Sg) : Option Sg :=
  if (σ 1 0) ≤ xq2 then
    some σ
  else
    Option.bind (f_X12_its xq2 4 σ) fun vq3 =>
    if ¬ vq3 = 1 then
      kq19 (xq2 + 1) σ
    else
      Option.bind (f_X12_drifts xq2 σ) fun vq4 =>
      Option.bind (f_X12_its xq2 2 σ) fun vq5 =>
      if vq5 ≤ vq4 then
        Option.bind (f_X12_its xq2 2 σ) fun vq6 =>
        f_X12_blows_b67 kq19 xq1 xq2 vq6 σ
      else
        Option.bind (f_X12_drifts xq2 σ) fun vq7 =>
        f_X12_blows_b67 kq19 xq1 xq2 vq7 σ
def f_X12_blows_l19 (xq1 : Int32) : Nat → Int32 → Sg → Option Sg := fuel (fun _ _ => none) (fun kq19 => f_X12_blows_b19 kq19 xq1)
def f_X12_blows (σ : Sg) : Option Sg :=
  Option.bind (rd σ 1 319 (7 + (σ 1 3))) fun vq1 =>
  lt (rem32 vq1 4) fun vq2 =>
  f_X12_blows_l19 vq2 400 0 σ
def f_X12_isReached (xq1 : Int32) (σ : Sg) : Option Bool :=
  Option.bind (f_X12_farOf xq1 σ) fun vq1 =>
  Option.bind (f_X12_its xq1 3 σ) fun vq2 =>
  Option.bind (rd σ 1 319 ((23 + (2 * vq2)) + 1)) fun vq3 =>
  if vq3 < vq1 then
    some false
  else
    some true
def f_X12_chosen_b2 (kq2 : Int32 → Option Int32) (σ : Sg) (xq1 : Int32) : Option Int32 :=
  if (σ 1 0) ≤ xq1 then
    some 0
  else
    Option.bind (f_X12_its xq1 4 σ) fun vq1 =>
    if ¬ vq1 = 1 then
      kq2 (xq1 + 1)
    else
      Option.bind (f_X12_isReached xq1 σ) fun vq2 =>
      if vq2 = true then
        some (xq1 + 1)
      else
        kq2 (xq1 + 1)
def f_X12_chosen_l2 (σ : Sg) : Nat → Int32 → Option Int32 := fuel (fun _ => none) (fun kq2 => f_X12_chosen_b2 kq2 σ)
def f_X12_chosen (σ : Sg) : Option Int32 :=
  f_X12_chosen_l2 σ 400 0
def f_X12_isTold_b38 (xq2 : Int32) (σ : Sg) : Option (Int32 × Sg) :=
  if ¬ xq2 = 2 then
    some (0, σ)
  else
    some (1, σ)
def f_X12_isTold_b25 (xq1 : Int32) (xq2 : Int32) (tq1 : Int32) (tq2 : Int32) (σ : Sg) : Option (Int32 × Sg) :=
  Option.bind (wr σ 1 319 tq1 tq2) fun σ3 =>
  if ¬ xq2 = 0 then
    f_X12_isTold_b38 xq2 σ3
  else
    Option.bind (f_X12_isReached xq1 σ3) fun vq4 =>
    if vq4 = true then
      Option.bind (wr σ3 1 319 (f_X12_at xq1 5 σ3) 1) fun σ5 =>
      Option.bind (f_X12_fee xq1 σ5) fun vq6 =>
      Option.bind (f_X12_farOf xq1 σ5) fun vq7 =>
      if 9 ≤ vq7 then
        some ((vq6 + 0), σ5)
      else
        Option.bind (f_X12_farOf xq1 σ5) fun vq8 =>
        some ((vq6 + (9 - vq8)), σ5)
    else
      f_X12_isTold_b38 xq2 σ3
def f_X12_isTold (xq1 : Int32) (σ : Sg) : Option (Int32 × Sg) :=
  bd2 (f_X12_will xq1 σ) fun vq1 σ2 =>
  if ¬ vq1 = 1 then
    f_X12_isTold_b25 xq1 vq1 (f_X12_at xq1 4 σ2) 0 σ2
  else
    f_X12_isTold_b25 xq1 vq1 (f_X12_at xq1 4 σ2) 1 σ2
def f_X12_goes_b45 (tq0 : Int32) (σ : Sg) : Option (Int32 × Sg) :=
  lt (upS σ 1 4 ((σ 1 4) + tq0)) fun σ6 =>
  lt (upS σ6 1 3 ((σ6 1 3) + 1)) fun σ7 =>
  some (tq0, σ7)
def f_X12_goes_b17 (tq0 : Int32) (σ : Sg) : Option (Int32 × Sg) :=
  if tq0 ≤ 0 then
    f_X12_goes_b45 0 σ
  else
    Option.bind (f_X12_its (tq0 - 1) 4 σ) fun vq3 =>
    if ¬ vq3 = 1 then
      f_X12_goes_b45 0 σ
    else
      bd2 (f_X12_isTold (tq0 - 1) σ) fun vq4 σ5 =>
      f_X12_goes_b45 vq4 σ5
def f_X12_goes (xq1 : Int32) (σ : Sg) : Option (Int32 × Sg) :=
  Option.bind (f_X12_blows σ) fun σ1 =>
  if ¬ xq1 = (-1) then
    f_X12_goes_b17 xq1 σ1
  else
    Option.bind (f_X12_chosen σ1) fun vq2 =>
    f_X12_goes_b17 vq2 σ1
def f_X12_gust (σ : Sg) : Option (Int32 × Sg) :=
  if (f_X12_isOver σ) = true then
    some ((-4), σ)
  else
    bd2 (f_X12_goes (-1) σ) fun vq1 σ2 =>
    some (vq1, σ2)
def f_X12_rest_b4 (kq4 : Int32 → Int32 → Sg → Option (Int32 × Sg)) (xq1 : Int32) (xq2 : Int32) (xq3 : Int32) (σ : Sg) : Option (Int32 × Sg) :=
  if xq1 ≤ xq3 then
    some (xq2, σ)
  else
    if (f_X12_isOver σ) = true then
      some (xq2, σ)
    else
      bd2 (f_X12_goes (-1) σ) fun vq1 σ2 =>
      lt (xq2 + vq1) fun vq3 =>
      kq4 vq3 (xq3 + 1) σ2
def f_X12_rest_l4 (xq1 : Int32) : Nat → Int32 → Int32 → Sg → Option (Int32 × Sg) := fuel (fun _ _ _ => none) (fun kq4 => f_X12_rest_b4 kq4 xq1)
def f_X12_rest (xq1 : Int32) (σ : Sg) : Option (Int32 × Sg) :=
  f_X12_rest_l4 xq1 400 0 0 σ
def f_X12_restTried (xq1 : Int32) (σ : Sg) : Option (Int32 × Sg) :=
  Option.bind (f_X12_puts σ) fun σ1 =>
  bd2 (f_X12_rest xq1 σ1) fun vq2 σ3 =>
  Option.bind (f_X12_putsBack σ3) fun σ4 =>
  some (vq2, σ4)
def f_X12_on (xq1 : Int32) (σ : Sg) : Option (Int32 × Sg) :=
  if (f_X12_in xq1.toInt64 (0 : Int64) (16 : Int64) σ) = true then
    bd2 (f_X12_restTried xq1 σ) fun vq1 σ2 =>
    some (vq1, σ2)
  else
    some ((-1), σ)
def f_X12_when_b52 (xq1 : Int32) (σ : Sg) : Option (Int32 × Sg) :=
  Option.bind (f_X12_its xq1 4 σ) fun vq6 =>
  if ¬ vq6 = 0 then
    Option.bind (f_X12_putsBack σ) fun σ7 =>
    some ((-3), σ7)
  else
    lt ((σ 1 3) - 1) fun vq8 =>
    Option.bind (f_X12_putsBack σ) fun σ9 =>
    some (vq8, σ9)
def f_X12_when_b26 (kq26 : Sg → Option (Int32 × Sg)) (xq1 : Int32) (σ : Sg) : Option (Int32 × Sg) :=
  if (f_X12_isOver σ) = true then
    f_X12_when_b52 xq1 σ
  else
    Option.bind (f_X12_its xq1 4 σ) fun vq3 =>
    if ¬ vq3 = 1 then
      f_X12_when_b52 xq1 σ
    else
      bd2 (f_X12_goes (-1) σ) fun vq4 σ5 =>
      kq26 σ5
def f_X12_when_l26 (xq1 : Int32) : Nat → Sg → Option (Int32 × Sg) := fuel (fun _ => none) (fun kq26 => f_X12_when_b26 kq26 xq1)
def f_X12_when (xq1 : Int32) (σ : Sg) : Option (Int32 × Sg) :=
  if (f_X12_isKite xq1 σ) = true then
    Option.bind (f_X12_its xq1 4 σ) fun vq1 =>
    if ¬ vq1 = 0 then
      Option.bind (f_X12_puts σ) fun σ2 =>
      f_X12_when_l26 xq1 400 σ2
    else
      some ((-3), σ)
  else
    some ((-1), σ)
def f_X12_mostFor_b52 (kq16 : Int32 → Int32 → Int32 → Sg → Option (Int32 × Sg)) (xq1 : Int32) (xq2 : Int32) (xq3 : Int32) (xq5 : Int32) (xq6 : Int32) (xq7 : Int32) (tq0 : Int32) (σ : Sg) : Option (Int32 × Sg) :=
  if xq7 ≤ xq5 then
    kq16 tq0 xq5 (xq6 + 1) σ
  else
    kq16 tq0 xq7 (xq6 + 1) σ
def f_X12_mostFor_b16 (kq16 : Int32 → Int32 → Int32 → Sg → Option (Int32 × Sg)) (xq1 : Int32) (xq2 : Int32) (xq3 : Int32) (xq4 : Int32) (xq5 : Int32) (xq6 : Int32) (σ : Sg) : Option (Int32 × Sg) :=
  if xq2 < xq6 then
    Option.bind (wr σ 1 319 xq1 xq3) fun σ2 =>
    some (xq4, σ2)
  else
    Option.bind (wr σ 1 319 xq1 xq6) fun σ3 =>
    bd2 (f_X12_restTried 16 σ3) fun vq4 σ5 =>
    if vq4 ≤ xq5 then
      f_X12_mostFor_b52 kq16 xq1 xq2 xq3 xq5 xq6 vq4 xq4 σ5
    else
      f_X12_mostFor_b52 kq16 xq1 xq2 xq3 xq5 xq6 vq4 xq6 σ5
def f_X12_mostFor_l16 (xq1 : Int32) (xq2 : Int32) (xq3 : Int32) : Nat → Int32 → Int32 → Int32 → Sg → Option (Int32 × Sg) := fuel (fun _ _ _ _ => none) (fun kq16 => f_X12_mostFor_b16 kq16 xq1 xq2 xq3)
def f_X12_mostFor (xq1 : Int32) (xq2 : Int32) (σ : Sg) : Option (Int32 × Sg) :=
  Option.bind (rd σ 1 319 xq1) fun vq1 =>
  f_X12_mostFor_l16 xq1 xq2 vq1 400 0 (-1) 0 σ
def f_X12_stringFor (xq1 : Int32) (σ : Sg) : Option (Int32 × Sg) :=
  if (f_X12_isKite xq1 σ) = true then
    bd2 (f_X12_mostFor (f_X12_at xq1 2 σ) 9 σ) fun vq1 σ2 =>
    some (vq1, σ2)
  else
    some ((-1), σ)
def f_X12_nameFor (xq1 : Int32) (σ : Sg) : Option (Int32 × Sg) :=
  if (f_X12_isKite xq1 σ) = true then
    bd2 (f_X12_mostFor (f_X12_at xq1 3 σ) 5 σ) fun vq1 σ2 =>
    some (vq1, σ2)
  else
    some ((-1), σ)
def f_X12_over_b35 (kq16 : Int32 → Sg → Option (Int32 × Sg)) (kq35 : Int32 → Int32 → Sg → Option (Int32 × Sg)) (xq1 : Int32) (xq2 : Int32) (xq3 : Int32) (σ : Sg) : Option (Int32 × Sg) :=
  if (σ 1 0) ≤ xq3 then
    lt (upS σ 1 3 ((σ 1 3) + 1)) fun σ5 =>
    kq16 xq2 σ5
  else
    Option.bind (f_X12_its xq3 4 σ) fun vq6 =>
    if ¬ vq6 = 1 then
      kq35 xq2 (xq3 + 1) σ
    else
      Option.bind (f_X12_its xq3 1 σ) fun vq7 =>
      if ¬ vq7 = xq1 then
        kq35 xq2 (xq3 + 1) σ
      else
        lt (σ 1 3) fun vq8 =>
        kq35 vq8 (xq3 + 1) σ
def f_X12_over_l35 (kq16 : Int32 → Sg → Option (Int32 × Sg)) (xq1 : Int32) : Nat → Int32 → Int32 → Sg → Option (Int32 × Sg) := fuel (fun _ _ _ => none) (fun kq35 => f_X12_over_b35 kq16 kq35 xq1)
def f_X12_over_b16 (kq16 : Int32 → Sg → Option (Int32 × Sg)) (xq1 : Int32) (xq2 : Int32) (σ : Sg) : Option (Int32 × Sg) :=
  if (f_X12_isOver σ) = true then
    Option.bind (f_X12_putsBack σ) fun σ2 =>
    some (xq2, σ2)
  else
    if ¬ xq2 = (-3) then
      Option.bind (f_X12_putsBack σ) fun σ3 =>
      some (xq2, σ3)
    else
      Option.bind (f_X12_blows σ) fun σ4 =>
      f_X12_over_l35 kq16 xq1 400 xq2 0 σ4
def f_X12_over_l16 (xq1 : Int32) : Nat → Int32 → Sg → Option (Int32 × Sg) := fuel (fun _ _ => none) (fun kq16 => f_X12_over_b16 kq16 xq1)
def f_X12_over (xq1 : Int32) (σ : Sg) : Option (Int32 × Sg) :=
  if (f_X12_isCell xq1 σ) = true then
    Option.bind (f_X12_puts σ) fun σ1 =>
    f_X12_over_l16 xq1 400 (-3) σ1
  else
    some ((-1), σ)
def f_X12_areTangled (xq1 : Int32) (xq2 : Int32) (σ : Sg) : Option Bool :=
  Option.bind (f_X12_its xq1 1 σ) fun vq1 =>
  Option.bind (f_X12_its xq2 1 σ) fun vq2 =>
  Option.bind (f_X12_its xq1 4 σ) fun vq3 =>
  if ¬ vq3 = 1 then
    some false
  else
    Option.bind (f_X12_its xq2 4 σ) fun vq4 =>
    if ¬ vq4 = 1 then
      some false
    else
      if 1 < (f_X12_distance (rem32 vq1 8) (rem32 vq2 8) σ) then
        some false
      else
        if 1 < (f_X12_distance (vq1 / 8) (vq2 / 8) σ) then
          some false
        else
          some true
def f_X12_caseOf_b35 (kq11 : Int32 → Int32 → Option Int32) (kq21 : Int32 → Int32 → Option Int32) (kq35 : Int32 → Int32 → Option Int32) (xq3 : Int32) (xq4 : Int32) (σ : Sg) (xq2 : Int32) (xq5 : Int32) : Option Int32 :=
  if (σ 1 0) ≤ xq5 then
    kq21 xq2 (xq4 + 1)
  else
    if ¬ ((shr32 xq2 xq4) &&& 1) = 1 then
      lt (xq2 ||| 0) fun vq3 =>
      kq35 vq3 (xq5 + 1)
    else
      Option.bind (f_X12_areTangled xq4 xq5 σ) fun vq4 =>
      if vq4 = true then
        lt (xq2 ||| (shl32 1 xq5)) fun vq6 =>
        kq35 vq6 (xq5 + 1)
      else
        lt (xq2 ||| 0) fun vq5 =>
        kq35 vq5 (xq5 + 1)
def f_X12_caseOf_l35 (kq11 : Int32 → Int32 → Option Int32) (kq21 : Int32 → Int32 → Option Int32) (xq3 : Int32) (xq4 : Int32) (σ : Sg) : Nat → Int32 → Int32 → Option Int32 := fuel (fun _ _ => none) (fun kq35 => f_X12_caseOf_b35 kq11 kq21 kq35 xq3 xq4 σ)
def f_X12_caseOf_b21 (kq11 : Int32 → Int32 → Option Int32) (kq21 : Int32 → Int32 → Option Int32) (xq3 : Int32) (σ : Sg) (xq2 : Int32) (xq4 : Int32) : Option Int32 :=
  if (σ 1 0) ≤ xq4 then
    kq11 xq2 xq3
  else
    f_X12_caseOf_l35 kq11 kq21 xq3 xq4 σ 400 xq2 0
def f_X12_caseOf_l21 (kq11 : Int32 → Int32 → Option Int32) (xq3 : Int32) (σ : Sg) : Nat → Int32 → Int32 → Option Int32 := fuel (fun _ _ => none) (fun kq21 => f_X12_caseOf_b21 kq11 kq21 xq3 σ)
def f_X12_caseOf_b11 (kq11 : Int32 → Int32 → Option Int32) (σ : Sg) (xq2 : Int32) (xq3 : Int32) : Option Int32 :=
  if xq3 = xq2 then
    some xq2
  else
    f_X12_caseOf_l21 kq11 xq2 σ 400 xq2 0
def f_X12_caseOf_l11 (σ : Sg) : Nat → Int32 → Int32 → Option Int32 := fuel (fun _ _ => none) (fun kq11 => f_X12_caseOf_b11 kq11 σ)
def f_X12_caseOf (xq1 : Int32) (σ : Sg) : Option Int32 :=
  Option.bind (f_X12_its xq1 4 σ) fun vq1 =>
  lt (shl32 vq1 xq1) fun vq2 =>
  f_X12_caseOf_l11 σ 400 vq2 0
def f_X12_cases_b32 (kq32 : Int32 → Int32 → Int32 → Option Int32) (σ : Sg) (xq2 : Int32) (xq3 : Int32) (xq4 : Int32) : Option Int32 :=
  if (σ 1 0) ≤ xq4 then
    some xq2
  else
    lt (xq2 + ((shr32 xq3 xq4) &&& 1)) fun vq3 =>
    if ¬ ((shr32 xq3 xq4) &&& 1) = 1 then
      lt (xq3 &&& (-1)) fun vq4 =>
      kq32 vq3 vq4 (xq4 + 1)
    else
      Option.bind (f_X12_caseOf xq4 σ) fun vq5 =>
      lt (xq3 &&& (vq5 ^^^ (-1))) fun vq6 =>
      kq32 vq3 vq6 (xq4 + 1)
def f_X12_cases_l32 (σ : Sg) : Nat → Int32 → Int32 → Int32 → Option Int32 := fuel (fun _ _ _ => none) (fun kq32 => f_X12_cases_b32 kq32 σ)
def f_X12_cases (xq1 : Int32) (σ : Sg) : Option Int32 :=
  if (f_X12_isKite xq1 σ) = true then
    Option.bind (f_X12_caseOf xq1 σ) fun vq2 =>
    some vq2
  else
    if xq1 = (-1) then
      Option.bind (f_X12_those 4 σ) fun vq1 =>
      f_X12_cases_l32 σ 400 0 vq1 0
    else
      some (-1)
def f_X12_steps_b13 (rec : Int32 → Int32 → Sg → Option Int32) (kq13 : Int32 → Int32 → Option Int32) (xq1 : Int32) (xq2 : Int32) (σ : Sg) (xq3 : Int32) (xq4 : Int32) : Option Int32 :=
  if (σ 1 0) ≤ xq4 then
    some xq3
  else
    if ¬ ((shr32 xq2 xq4) &&& 1) = 1 then
      kq13 xq3 (xq4 + 1)
    else
      Option.bind (f_X12_its xq4 1 σ) fun vq1 =>
      Option.bind (f_X12_its xq4 1 σ) fun vq2 =>
      Option.bind (rec vq2 (xq2 &&& ((shl32 1 xq4) ^^^ (-1))) σ) fun vq3 =>
      lt ((f_X12_far xq1 vq1 σ) + vq3) fun vq4 =>
      if xq3 < 0 then
        kq13 vq4 (xq4 + 1)
      else
        if xq3 ≤ vq4 then
          kq13 xq3 (xq4 + 1)
        else
          kq13 vq4 (xq4 + 1)
def f_X12_steps_l13 (rec : Int32 → Int32 → Sg → Option Int32) (xq1 : Int32) (xq2 : Int32) (σ : Sg) : Nat → Int32 → Int32 → Option Int32 := fuel (fun _ _ => none) (fun kq13 => f_X12_steps_b13 rec kq13 xq1 xq2 σ)
def f_X12_steps_s (rec : Int32 → Int32 → Sg → Option Int32) (xq1 : Int32) (xq2 : Int32) (σ : Sg) : Option Int32 :=
  if ¬ xq2 = 0 then
    f_X12_steps_l13 rec xq1 xq2 σ 400 (-1) 0
  else
    f_X12_steps_l13 rec xq1 xq2 σ 400 0 0
def f_X12_steps : Nat → Int32 → Int32 → Sg → Option Int32 := fuel (fun _ _ _ => none) f_X12_steps_s
def f_X12_circuit_b56 (kq56 : Int32 → Option Int32) (xq1 : Int32) (xq3 : Int32) (xq4 : Int32) (σ : Sg) (xq5 : Int32) : Option Int32 :=
  if (σ 1 0) ≤ xq5 then
    some (-3)
  else
    if ¬ ((shr32 xq3 xq5) &&& 1) = 1 then
      kq56 (xq5 + 1)
    else
      Option.bind (f_X12_its xq5 1 σ) fun vq4 =>
      Option.bind (f_X12_its xq5 1 σ) fun vq5 =>
      Option.bind (f_X12_steps 8 vq5 (xq3 &&& ((shl32 1 xq5) ^^^ (-1))) σ) fun vq6 =>
      if ¬ ((f_X12_far xq1 vq4 σ) + vq6) = xq4 then
        kq56 (xq5 + 1)
      else
        some xq5
def f_X12_circuit_l56 (xq1 : Int32) (xq3 : Int32) (xq4 : Int32) (σ : Sg) : Nat → Int32 → Option Int32 := fuel (fun _ => none) (fun kq56 => f_X12_circuit_b56 kq56 xq1 xq3 xq4 σ)
def f_X12_circuit (xq1 : Int32) (xq2 : Int32) (σ : Sg) : Option Int32 :=
  if (f_X12_isCell xq1 σ) = true then
    if (f_X12_in xq2.toInt64 (0 : Int64) (1 : Int64) σ) = true then
      Option.bind (f_X12_those 4 σ) fun vq1 =>
      lt (((shl32 1 (σ 1 0)) - 1) &&& (vq1 ^^^ (-1))) fun vq2 =>
      Option.bind (f_X12_steps 8 xq1 vq2 σ) fun vq3 =>
      if ¬ xq2 = 0 then
        f_X12_circuit_l56 xq1 vq2 vq3 σ 400 0
      else
        some vq3
    else
      some (-1)
  else
    some (-1)
def f_X12_isLong (xq0 : Int32) (σ : Sg) : Bool :=
  (f_X12_in xq0.toInt64 (0 : Int64) (4 : Int64) σ)
def f_X12_ended_b75 (kq75 : Int32 → Int32 → Sg → Option Sg) (xq1 : Int32) (xq3 : Int32) (xq4 : Int32) (σ : Sg) : Option Sg :=
  if xq1 ≤ xq4 then
    Option.bind (f_X12_those 5 σ) fun vq7 =>
    lt (upS σ 0 11 ((σ 0 11) ||| vq7)) fun σ8 =>
    if ¬ ((σ8 0 12) &&& (vq7 ^^^ (-1))) = 0 then
      lt (upS σ8 0 10 (σ8 0 10)) fun σ9 =>
      some σ9
    else
      if (σ8 0 10) ≤ xq3 then
        lt (upS σ8 0 10 (σ8 0 10)) fun σ10 =>
        some σ10
      else
        lt (upS σ8 0 10 xq3) fun σ11 =>
        some σ11
  else
    Option.bind (rd σ 6 4 xq4) fun vq12 =>
    if vq12 ≤ 0 then
      lt (xq3 + 0) fun vq13 =>
      kq75 vq13 (xq4 + 1) σ
    else
      lt (xq3 + 1) fun vq14 =>
      kq75 vq14 (xq4 + 1) σ
def f_X12_ended_l75 (xq1 : Int32) : Nat → Int32 → Int32 → Sg → Option Sg := fuel (fun _ _ _ => none) (fun kq75 => f_X12_ended_b75 kq75 xq1)
def f_X12_ended_b66 (xq1 : Int32) (tq1 : Int32) (tq2 : Int32) (σ : Sg) : Option Sg :=
  lt (upS σ 0 9 (tq1 + tq2)) fun σ6 =>
  f_X12_ended_l75 xq1 400 0 0 σ6
def f_X12_ended_b48 (xq1 : Int32) (xq2 : Int32) (σ : Sg) : Option Sg :=
  if ¬ xq2 = (σ 0 8) then
    f_X12_ended_b66 xq1 (σ 0 9) 0 σ
  else
    f_X12_ended_b66 xq1 (σ 0 9) 1 σ
def f_X12_ended_b25 (kq25 : Int32 → Sg → Option Sg) (xq1 : Int32) (xq2 : Int32) (xq3 : Int32) (σ : Sg) : Option Sg :=
  if xq1 ≤ xq3 then
    f_X12_ended_b48 xq1 xq2 σ
  else
    Option.bind (rd σ 6 4 xq3) fun vq4 =>
    Option.bind (wr σ 7 4 xq3 vq4) fun σ5 =>
    kq25 (xq3 + 1) σ5
def f_X12_ended_l25 (xq1 : Int32) (xq2 : Int32) : Nat → Int32 → Sg → Option Sg := fuel (fun _ _ => none) (fun kq25 => f_X12_ended_b25 kq25 xq1 xq2)
def f_X12_ended (xq1 : Int32) (xq2 : Int32) (σ : Sg) : Option Sg :=
  if xq2 ≤ (σ 0 8) then
    f_X12_ended_b48 xq1 xq2 σ
  else
    lt (upS σ 0 8 xq2) fun σ1 =>
    lt (upS σ1 0 9 0) fun σ2 =>
    lt (upS σ2 0 13 xq1) fun σ3 =>
    f_X12_ended_l25 xq1 xq2 400 0 σ3
def f_X12_saves_b2 (kq2 : Int32 → Sg → Option Sg) (xq1 : Int32) (xq2 : Int32) (σ : Sg) : Option Sg :=
  if 6 ≤ xq2 then
    Option.bind (wr σ 5 130 ((26 * xq1) + 24) (σ 1 3)) fun σ1 =>
    Option.bind (wr σ1 5 130 ((26 * xq1) + 25) (σ1 1 4)) fun σ2 =>
    some σ2
  else
    Option.bind (f_X12_its xq2 1 σ) fun vq3 =>
    Option.bind (wr σ 5 130 ((26 * xq1) + xq2) vq3) fun σ4 =>
    Option.bind (f_X12_its xq2 2 σ4) fun vq5 =>
    Option.bind (wr σ4 5 130 (((26 * xq1) + 6) + xq2) vq5) fun σ6 =>
    Option.bind (f_X12_its xq2 4 σ6) fun vq7 =>
    Option.bind (wr σ6 5 130 (((26 * xq1) + 12) + xq2) vq7) fun σ8 =>
    Option.bind (f_X12_its xq2 5 σ8) fun vq9 =>
    Option.bind (wr σ8 5 130 (((26 * xq1) + 18) + xq2) vq9) fun σ10 =>
    kq2 (xq2 + 1) σ10
def f_X12_saves_l2 (xq1 : Int32) : Nat → Int32 → Sg → Option Sg := fuel (fun _ _ => none) (fun kq2 => f_X12_saves_b2 kq2 xq1)
def f_X12_saves (xq1 : Int32) (σ : Sg) : Option Sg :=
  f_X12_saves_l2 xq1 400 0 σ
def f_X12_takesBack_b2 (kq2 : Int32 → Sg → Option Sg) (xq1 : Int32) (xq2 : Int32) (σ : Sg) : Option Sg :=
  if 6 ≤ xq2 then
    Option.bind (rd σ 5 130 ((26 * xq1) + 24)) fun vq1 =>
    lt (upS σ 1 3 vq1) fun σ2 =>
    Option.bind (rd σ2 5 130 ((26 * xq1) + 25)) fun vq3 =>
    lt (upS σ2 1 4 vq3) fun σ4 =>
    some σ4
  else
    Option.bind (rd σ 5 130 ((26 * xq1) + xq2)) fun vq5 =>
    Option.bind (wr σ 1 319 (f_X12_at xq2 1 σ) vq5) fun σ6 =>
    Option.bind (rd σ6 5 130 (((26 * xq1) + 6) + xq2)) fun vq7 =>
    Option.bind (wr σ6 1 319 (f_X12_at xq2 2 σ6) vq7) fun σ8 =>
    Option.bind (rd σ8 5 130 (((26 * xq1) + 12) + xq2)) fun vq9 =>
    Option.bind (wr σ8 1 319 (f_X12_at xq2 4 σ8) vq9) fun σ10 =>
    Option.bind (rd σ10 5 130 (((26 * xq1) + 18) + xq2)) fun vq11 =>
    Option.bind (wr σ10 1 319 (f_X12_at xq2 5 σ10) vq11) fun σ12 =>
    kq2 (xq2 + 1) σ12
def f_X12_takesBack_l2 (xq1 : Int32) : Nat → Int32 → Sg → Option Sg := fuel (fun _ _ => none) (fun kq2 => f_X12_takesBack_b2 kq2 xq1)
def f_X12_takesBack (xq1 : Int32) (σ : Sg) : Option Sg :=
  f_X12_takesBack_l2 xq1 400 0 σ
def f_X12_plans_b22 (rec : Int32 → Int32 → Int32 → Sg → Option Sg) (kq22 : Int32 → Sg → Option Sg) (xq1 : Int32) (xq2 : Int32) (xq3 : Int32) (xq4 : Int32) (σ : Sg) : Option Sg :=
  if (σ 1 0) < xq4 then
    some σ
  else
    Option.bind (f_X12_saves xq1 σ) fun σ3 =>
    Option.bind (wr σ3 6 4 xq1 xq4) fun σ4 =>
    bd2 (f_X12_goes xq4 σ4) fun vq5 σ6 =>
    Option.bind (rec (xq1 + 1) xq2 (xq3 + vq5) σ6) fun σ7 =>
    Option.bind (f_X12_takesBack xq1 σ7) fun σ8 =>
    kq22 (xq4 + 1) σ8
def f_X12_plans_l22 (rec : Int32 → Int32 → Int32 → Sg → Option Sg) (xq1 : Int32) (xq2 : Int32) (xq3 : Int32) : Nat → Int32 → Sg → Option Sg := fuel (fun _ _ => none) (fun kq22 => f_X12_plans_b22 rec kq22 xq1 xq2 xq3)
def f_X12_plans_s (rec : Int32 → Int32 → Int32 → Sg → Option Sg) (xq1 : Int32) (xq2 : Int32) (xq3 : Int32) (σ : Sg) : Option Sg :=
  if xq1 = xq2 then
    Option.bind (f_X12_ended xq1 xq3 σ) fun σ1 =>
    some σ1
  else
    if (f_X12_isOver σ) = true then
      Option.bind (f_X12_ended xq1 xq3 σ) fun σ2 =>
      some σ2
    else
      f_X12_plans_l22 rec xq1 xq2 xq3 400 0 σ
def f_X12_plans : Nat → Int32 → Int32 → Int32 → Sg → Option Sg := fuel (fun _ _ _ _ => none) f_X12_plans_s
def f_X12_plansOf (xq1 : Int32) (xq2 : Int32) (σ : Sg) : Option (Int32 × Sg) :=
  lt (upS σ 0 8 (-1)) fun σ1 =>
  lt (upS σ1 0 9 0) fun σ2 =>
  lt (upS σ2 0 10 5) fun σ3 =>
  lt (upS σ3 0 11 0) fun σ4 =>
  lt (upS σ4 0 12 xq2) fun σ5 =>
  Option.bind (f_X12_plans 6 0 xq1 0 σ5) fun σ6 =>
  some ((σ6 0 13), σ6)
def f_X12_best (xq1 : Int32) (σ : Sg) : Option (Int32 × Sg) :=
  if (f_X12_isLong xq1 σ) = true then
    bd2 (f_X12_plansOf xq1 0 σ) fun vq1 σ2 =>
    some ((σ2 0 8), σ2)
  else
    some ((-1), σ)
def f_X12_ith (xq1 : Int32) (xq2 : Int32) (σ : Sg) : Option (Int32 × Sg) :=
  if (f_X12_isLong xq1 σ) = true then
    if (f_X12_in xq2.toInt64 (0 : Int64) (3 : Int64) σ) = true then
      bd2 (f_X12_plansOf xq1 0 σ) fun vq1 σ2 =>
      if vq1 ≤ xq2 then
        some ((-3), σ2)
      else
        Option.bind (rd σ2 7 4 xq2) fun vq3 =>
        some (vq3, σ2)
    else
      some ((-1), σ)
  else
    some ((-1), σ)
def f_X12_ways (xq1 : Int32) (σ : Sg) : Option (Int32 × Sg) :=
  if (f_X12_isLong xq1 σ) = true then
    bd2 (f_X12_plansOf xq1 0 σ) fun vq1 σ2 =>
    some ((σ2 0 9), σ2)
  else
    some ((-1), σ)
def f_X12_areKites (xq1 : Int32) (σ : Sg) : Bool :=
  (f_X12_in xq1.toInt64 (0 : Int64) (((shl32 1 (σ 1 0)) - 1).toInt64) σ)
def f_X12_writ (xq1 : Int32) (xq2 : Int32) (σ : Sg) : Option (Int32 × Sg) :=
  if (f_X12_isLong xq1 σ) = true then
    if (f_X12_areKites xq2 σ) = true then
      bd2 (f_X12_plansOf xq1 xq2 σ) fun vq1 σ2 =>
      if (σ2 0 10) ≤ 4 then
        some ((σ2 0 10), σ2)
      else
        some ((-3), σ2)
    else
      some ((-1), σ)
  else
    some ((-1), σ)
def f_X12_bars_b27 (kq27 : Int32 → Sg → Option (Int32 × Sg)) (xq2 : Int32) (xq4 : Int32) (σ : Sg) : Option (Int32 × Sg) :=
  if (σ 1 0) ≤ xq4 then
    some ((-3), σ)
  else
    if ¬ ((shr32 (xq2 &&& ((σ 0 11) ^^^ (-1))) xq4) &&& 1) = 1 then
      kq27 (xq4 + 1) σ
    else
      some (xq4, σ)
def f_X12_bars_l27 (xq2 : Int32) : Nat → Int32 → Sg → Option (Int32 × Sg) := fuel (fun _ _ => none) (fun kq27 => f_X12_bars_b27 kq27 xq2)
def f_X12_bars (xq1 : Int32) (xq2 : Int32) (σ : Sg) : Option (Int32 × Sg) :=
  if (f_X12_isLong xq1 σ) = true then
    if (f_X12_areKites xq2 σ) = true then
      bd2 (f_X12_plansOf xq1 xq2 σ) fun vq1 σ2 =>
      f_X12_bars_l27 xq2 400 0 σ2
    else
      some ((-1), σ)
  else
    some ((-1), σ)
def f_X12_played_b119 (rec : Int32 → Int32 → Int32 → Sg → Option (Int32 × Sg)) (kq23 : Int32 → Int32 → Int32 → Sg → Option (Int32 × Sg)) (xq1 : Int32) (xq2 : Int32) (xq3 : Int32) (xq5 : Int32) (xq6 : Int32) (xq8 : Int32) (tq0 : Int32) (σ : Sg) : Option (Int32 × Sg) :=
  if xq8 = 0 then
    kq23 tq0 xq5 (xq6 + 1) σ
  else
    kq23 tq0 xq6 (xq6 + 1) σ
def f_X12_played_b105 (rec : Int32 → Int32 → Int32 → Sg → Option (Int32 × Sg)) (kq23 : Int32 → Int32 → Int32 → Sg → Option (Int32 × Sg)) (xq1 : Int32) (xq2 : Int32) (xq3 : Int32) (xq4 : Int32) (xq5 : Int32) (xq6 : Int32) (xq7 : Int32) (tq0 : Int32) (σ : Sg) : Option (Int32 × Sg) :=
  if tq0 = 0 then
    f_X12_played_b119 rec kq23 xq1 xq2 xq3 xq5 xq6 tq0 xq4 σ
  else
    f_X12_played_b119 rec kq23 xq1 xq2 xq3 xq5 xq6 tq0 xq7 σ
def f_X12_played_b63 (rec : Int32 → Int32 → Int32 → Sg → Option (Int32 × Sg)) (kq23 : Int32 → Int32 → Int32 → Sg → Option (Int32 × Sg)) (xq1 : Int32) (xq2 : Int32) (xq3 : Int32) (xq4 : Int32) (xq5 : Int32) (xq6 : Int32) (tq0 : Int32) (tq2 : Int32) (tq3 : Int32) (tq4 : Int32) (σ : Sg) : Option (Int32 × Sg) :=
  bd2 (rec tq2 tq3 tq4 σ) fun vq5 σ6 =>
  lt (tq0 + vq5) fun vq7 =>
  Option.bind (f_X12_takesBack xq1 σ6) fun σ8 =>
  if xq5 < 0 then
    f_X12_played_b105 rec kq23 xq1 xq2 xq3 xq4 xq5 xq6 vq7 1 σ8
  else
    if xq3 = 0 then
      if xq4 ≤ vq7 then
        f_X12_played_b105 rec kq23 xq1 xq2 xq3 xq4 xq5 xq6 vq7 0 σ8
      else
        f_X12_played_b105 rec kq23 xq1 xq2 xq3 xq4 xq5 xq6 vq7 1 σ8
    else
      if vq7 ≤ xq4 then
        f_X12_played_b105 rec kq23 xq1 xq2 xq3 xq4 xq5 xq6 vq7 0 σ8
      else
        f_X12_played_b105 rec kq23 xq1 xq2 xq3 xq4 xq5 xq6 vq7 1 σ8
def f_X12_played_b23 (rec : Int32 → Int32 → Int32 → Sg → Option (Int32 × Sg)) (kq23 : Int32 → Int32 → Int32 → Sg → Option (Int32 × Sg)) (xq1 : Int32) (xq2 : Int32) (xq3 : Int32) (xq4 : Int32) (xq5 : Int32) (xq6 : Int32) (σ : Sg) : Option (Int32 × Sg) :=
  if (σ 1 0) < xq6 then
    lt (upS σ 0 14 xq5) fun σ1 =>
    some (xq4, σ1)
  else
    Option.bind (f_X12_saves xq1 σ) fun σ2 =>
    bd2 (f_X12_goes xq6 σ2) fun vq3 σ4 =>
    if ¬ xq3 = 0 then
      f_X12_played_b63 rec kq23 xq1 xq2 xq3 xq4 xq5 xq6 vq3 (xq1 + 1) xq2 0 σ4
    else
      f_X12_played_b63 rec kq23 xq1 xq2 xq3 xq4 xq5 xq6 vq3 (xq1 + 1) xq2 1 σ4
def f_X12_played_l23 (rec : Int32 → Int32 → Int32 → Sg → Option (Int32 × Sg)) (xq1 : Int32) (xq2 : Int32) (xq3 : Int32) : Nat → Int32 → Int32 → Int32 → Sg → Option (Int32 × Sg) := fuel (fun _ _ _ _ => none) (fun kq23 => f_X12_played_b23 rec kq23 xq1 xq2 xq3)
def f_X12_played_s (rec : Int32 → Int32 → Int32 → Sg → Option (Int32 × Sg)) (xq1 : Int32) (xq2 : Int32) (xq3 : Int32) (σ : Sg) : Option (Int32 × Sg) :=
  if xq1 = xq2 then
    some (0, σ)
  else
    if (f_X12_isOver σ) = true then
      some (0, σ)
    else
      f_X12_played_l23 rec xq1 xq2 xq3 400 0 (-1) 0 σ
def f_X12_played : Nat → Int32 → Int32 → Int32 → Sg → Option (Int32 × Sg) := fuel (fun _ _ _ _ => none) f_X12_played_s
def f_X12_game (xq1 : Int32) (σ : Sg) : Option (Int32 × Sg) :=
  if (f_X12_in xq1.toInt64 (1 : Int64) (4 : Int64) σ) = true then
    bd2 (f_X12_played 6 0 xq1 1 σ) fun vq1 σ2 =>
    some (vq1, σ2)
  else
    some ((-1), σ)
def f_X12_play (xq1 : Int32) (σ : Sg) : Option (Int32 × Sg) :=
  if (f_X12_in xq1.toInt64 (1 : Int64) (4 : Int64) σ) = true then
    if (f_X12_isOver σ) = true then
      some ((-3), σ)
    else
      bd2 (f_X12_played 6 0 xq1 1 σ) fun vq1 σ2 =>
      some ((σ2 0 14), σ2)
  else
    some ((-1), σ)
def f_X12_report (xq1 : Int32) (xq2 : Int32) (xq3 : Int32) (xq4 : Int32) (σ : Sg) : Option (Int32 × Sg) :=
  if (f_X12_isGust xq1 σ) = true then
    if (f_X12_in xq2.toInt64 (0 : Int64) (1 : Int64) σ) = true then
      if (f_X12_in xq3.toInt64 (0 : Int64) (7 : Int64) σ) = true then
        if (f_X12_in xq4.toInt64 xq3.toInt64 (7 : Int64) σ) = true then
          if ¬ (σ 1 5) = 6 then
            lt (71 + (4 * (σ 1 5))) fun vq1 =>
            Option.bind (wr σ 1 319 vq1 xq1) fun σ2 =>
            Option.bind (wr σ2 1 319 (vq1 + 1) xq2) fun σ3 =>
            Option.bind (wr σ3 1 319 (vq1 + 2) xq3) fun σ4 =>
            Option.bind (wr σ4 1 319 (vq1 + 3) xq4) fun σ5 =>
            lt (upS σ5 1 5 ((σ5 1 5) + 1)) fun σ6 =>
            some (((σ6 1 5) - 1), σ6)
          else
            some ((-2), σ)
        else
          some ((-1), σ)
      else
        some ((-1), σ)
    else
      some ((-1), σ)
  else
    some ((-1), σ)
def f_X12_forget (σ : Sg) : Option (Int32 × Sg) :=
  bd2 (f_X12_becomes 5 0 σ) fun vq1 σ2 =>
  some (vq1, σ2)
def f_X12_isSoBy_b82 (kq18 : Int32 → Int32 → Int32 → Option Bool) (xq2 : Int32) (xq4 : Int32) (xq5 : Int32) (xq6 : Int32) (xq7 : Int32) (xq8 : Int32) (tq0 : Int32) (tq1 : Int32) (tq2 : Int32) (σ : Sg) : Option Bool :=
  lt (f_X12_room tq0 tq1 tq2 σ) fun vq10 =>
  lt (f_X12_moved xq5 xq8 vq10 σ) fun vq11 =>
  lt (xq6 - vq10) fun vq12 =>
  kq18 vq11 vq12 (xq7 + 1)
def f_X12_isSoBy_b138 (xq4 : Int32) (tq0 : Int64) (σ : Sg) : Option Bool :=
  Option.bind (rd σ 1 319 (xq4 + 2)) fun vq8 =>
  Option.bind (rd σ 1 319 (xq4 + 3)) fun vq9 =>
  some (f_X12_in tq0 vq8.toInt64 vq9.toInt64 σ)
def f_X12_isSoBy_b18 (kq18 : Int32 → Int32 → Int32 → Option Bool) (xq2 : Int32) (xq4 : Int32) (σ : Sg) (xq5 : Int32) (xq6 : Int32) (xq7 : Int32) : Option Bool :=
  Option.bind (rd σ 1 319 xq4) fun vq2 =>
  if vq2 ≤ xq7 then
    Option.bind (rd σ 1 319 (xq4 + 1)) fun vq3 =>
    if ¬ vq3 = 0 then
      f_X12_isSoBy_b138 xq4 ((xq5 / 8).toInt64) σ
    else
      f_X12_isSoBy_b138 xq4 ((rem32 xq5 8).toInt64) σ
  else
    Option.bind (rd σ 1 319 (7 + xq7)) fun vq4 =>
    lt (rem32 vq4 4) fun vq5 =>
    Option.bind (rd σ 1 319 (7 + xq7)) fun vq6 =>
    lt (f_X12_driftOf xq2 (vq6 / 4) xq7 σ) fun vq7 =>
    if xq6 ≤ vq7 then
      f_X12_isSoBy_b82 kq18 xq2 xq4 xq5 xq6 xq7 vq5 xq5 vq5 xq6 σ
    else
      f_X12_isSoBy_b82 kq18 xq2 xq4 xq5 xq6 xq7 vq5 xq5 vq5 vq7 σ
def f_X12_isSoBy_l18 (xq2 : Int32) (xq4 : Int32) (σ : Sg) : Nat → Int32 → Int32 → Int32 → Option Bool := fuel (fun _ _ _ => none) (fun kq18 => f_X12_isSoBy_b18 kq18 xq2 xq4 σ)
def f_X12_isSoBy (xq1 : Int32) (xq2 : Int32) (xq3 : Int32) (σ : Sg) : Option Bool :=
  lt (71 + (4 * xq1)) fun vq1 =>
  f_X12_isSoBy_l18 xq2 vq1 σ 400 xq3 9 0
def f_X12_isFit_b6 (kq6 : Int32 → Int32 → Option Bool) (xq1 : Int32) (xq2 : Int32) (xq3 : Int32) (σ : Sg) (xq4 : Int32) (xq5 : Int32) : Option Bool :=
  if (σ 1 5) ≤ xq5 then
    if xq4 = 1 then some true else if xq4 = 0 then some false else none
  else
    if xq4 = 0 then
      if xq4 = 1 then some true else if xq4 = 0 then some false else none
    else
      if xq5 = xq3 then
        kq6 1 (xq5 + 1)
      else
        Option.bind (f_X12_isSoBy xq5 xq1 xq2 σ) fun vq1 =>
        if vq1 = true then
          kq6 1 (xq5 + 1)
        else
          kq6 0 (xq5 + 1)
def f_X12_isFit_l6 (xq1 : Int32) (xq2 : Int32) (xq3 : Int32) (σ : Sg) : Nat → Int32 → Int32 → Option Bool := fuel (fun _ _ => none) (fun kq6 => f_X12_isFit_b6 kq6 xq1 xq2 xq3 σ)
def f_X12_isFit (xq1 : Int32) (xq2 : Int32) (xq3 : Int32) (σ : Sg) : Option Bool :=
  f_X12_isFit_l6 xq1 xq2 xq3 σ 400 1 0
def f_X12_findFits_b74 (kq7 : Int32 → Sg → Option Sg) (xq1 : Int32) (xq2 : Int32) (tq1 : Int32) (σ : Sg) : Option Sg :=
  lt (upS σ 0 17 tq1) fun σ6 =>
  lt (upS σ6 0 15 ((σ6 0 15) + 1)) fun σ7 =>
  kq7 (xq2 + 1) σ7
def f_X12_findFits_b54 (kq7 : Int32 → Sg → Option Sg) (xq1 : Int32) (xq2 : Int32) (xq4 : Int32) (tq1 : Int32) (σ : Sg) : Option Sg :=
  lt (upS σ 0 16 tq1) fun σ5 =>
  if ¬ (σ5 0 15) = 0 then
    f_X12_findFits_b74 kq7 xq1 xq2 (σ5 0 17) σ5
  else
    f_X12_findFits_b74 kq7 xq1 xq2 xq4 σ5
def f_X12_findFits_b7 (kq7 : Int32 → Sg → Option Sg) (xq1 : Int32) (xq2 : Int32) (σ : Sg) : Option Sg :=
  if 320 ≤ xq2 then
    some σ
  else
    lt (1 + (xq2 / 64)) fun vq2 =>
    lt (rem32 xq2 64) fun vq3 =>
    Option.bind (f_X12_isFit vq2 vq3 xq1 σ) fun vq4 =>
    if vq4 = true then
      if ¬ (σ 0 15) = 0 then
        f_X12_findFits_b54 kq7 xq1 xq2 vq3 (σ 0 16) σ
      else
        f_X12_findFits_b54 kq7 xq1 xq2 vq3 vq2 σ
    else
      kq7 (xq2 + 1) σ
def f_X12_findFits_l7 (xq1 : Int32) : Nat → Int32 → Sg → Option Sg := fuel (fun _ _ => none) (fun kq7 => f_X12_findFits_b7 kq7 xq1)
def f_X12_findFits (xq1 : Int32) (σ : Sg) : Option Sg :=
  lt (upS σ 0 15 0) fun σ1 =>
  f_X12_findFits_l7 xq1 400 0 σ1
def f_X12_span (xq1 : Int32) (σ : Sg) : Option (Int32 × Sg) :=
  if (f_X12_in xq1.toInt64 (0 : Int64) (2 : Int64) σ) = true then
    Option.bind (f_X12_findFits (-1) σ) fun σ1 =>
    if ¬ xq1 = 0 then
      if ¬ (σ1 0 15) = 0 then
        if ¬ xq1 = 1 then
          some ((σ1 0 17), σ1)
        else
          some ((σ1 0 16), σ1)
      else
        some ((-3), σ1)
    else
      some ((σ1 0 15), σ1)
  else
    some ((-1), σ)
def f_X12_liar_b20 (kq20 : Int32 → Sg → Option (Int32 × Sg)) (xq1 : Int32) (xq2 : Int32) (σ : Sg) : Option (Int32 × Sg) :=
  if (σ 1 5) ≤ xq2 then
    some ((-3), σ)
  else
    if xq1 = 0 then
      some ((-3), σ)
    else
      Option.bind (f_X12_findFits xq2 σ) fun σ2 =>
      if (σ2 0 15) ≤ 0 then
        kq20 (xq2 + 1) σ2
      else
        some (xq2, σ2)
def f_X12_liar_l20 (xq1 : Int32) : Nat → Int32 → Sg → Option (Int32 × Sg) := fuel (fun _ _ => none) (fun kq20 => f_X12_liar_b20 kq20 xq1)
def f_X12_liar (σ : Sg) : Option (Int32 × Sg) :=
  Option.bind (f_X12_findFits (-1) σ) fun σ1 =>
  if ¬ (σ1 0 15) = 0 then
    f_X12_liar_l20 0 400 0 σ1
  else
    f_X12_liar_l20 1 400 0 σ1
def f_X12_seed (xq1 : Int32) (σ : Sg) : Option (Int32 × Sg) :=
  bd2 (f_X12_becomes 6 xq1 σ) fun vq1 σ2 =>
  some (vq1, σ2)
def f_X12_byLot (σ : Sg) : Option (Int32 × Sg) :=
  lt (upS σ 1 6 (((σ 1 6) * 1103515245) + 12345)) fun σ1 =>
  if ((σ1 1 0) + 1) = 0 then none else bd2 (f_X12_goes (rem32 (ushr32 (σ1 1 6) 16) ((σ1 1 0) + 1)) σ1) fun vq3 σ4 =>
  some (vq3, σ4)
def f_X12_lot (σ : Sg) : Option (Int32 × Sg) :=
  if (f_X12_isOver σ) = true then
    some ((-4), σ)
  else
    bd2 (f_X12_byLot σ) fun vq1 σ2 =>
    some (vq1, σ2)
def f_X12_times_b75 (kq35 : Int32 → Int32 → Sg → Option (Int32 × Sg)) (xq1 : Int32) (xq2 : Int32) (xq4 : Int32) (tq0 : Int32) (tq1 : Int32) (σ : Sg) : Option (Int32 × Sg) :=
  lt (tq0 + tq1) fun vq6 =>
  lt (σ 1 6) fun vq7 =>
  Option.bind (f_X12_putsBack σ) fun σ8 =>
  lt (upS σ8 1 6 vq7) fun σ9 =>
  kq35 vq6 (xq4 + 1) σ9
def f_X12_times_b44 (kq35 : Int32 → Int32 → Sg → Option (Int32 × Sg)) (kq44 : Int32 → Sg → Option (Int32 × Sg)) (xq1 : Int32) (xq2 : Int32) (xq3 : Int32) (xq4 : Int32) (xq5 : Int32) (σ : Sg) : Option (Int32 × Sg) :=
  if (f_X12_isOver σ) = true then
    if xq5 < xq2 then
      f_X12_times_b75 kq35 xq1 xq2 xq4 xq3 0 σ
    else
      f_X12_times_b75 kq35 xq1 xq2 xq4 xq3 1 σ
  else
    bd2 (f_X12_byLot σ) fun vq3 σ4 =>
    lt (xq5 + vq3) fun vq5 =>
    kq44 vq5 σ4
def f_X12_times_l44 (kq35 : Int32 → Int32 → Sg → Option (Int32 × Sg)) (xq1 : Int32) (xq2 : Int32) (xq3 : Int32) (xq4 : Int32) : Nat → Int32 → Sg → Option (Int32 × Sg) := fuel (fun _ _ => none) (fun kq44 => f_X12_times_b44 kq35 kq44 xq1 xq2 xq3 xq4)
def f_X12_times_b35 (kq35 : Int32 → Int32 → Sg → Option (Int32 × Sg)) (xq1 : Int32) (xq2 : Int32) (xq3 : Int32) (xq4 : Int32) (σ : Sg) : Option (Int32 × Sg) :=
  if xq1 ≤ xq4 then
    Option.bind (f_X12_putsBack σ) fun σ2 =>
    some (xq3, σ2)
  else
    f_X12_times_l44 kq35 xq1 xq2 xq3 xq4 400 0 σ
def f_X12_times_l35 (xq1 : Int32) (xq2 : Int32) : Nat → Int32 → Int32 → Sg → Option (Int32 × Sg) := fuel (fun _ _ _ => none) (fun kq35 => f_X12_times_b35 kq35 xq1 xq2)
def f_X12_times (xq1 : Int32) (xq2 : Int32) (σ : Sg) : Option (Int32 × Sg) :=
  if (f_X12_in xq1.toInt64 (1 : Int64) (40 : Int64) σ) = true then
    if (f_X12_in xq2.toInt64 (0 : Int64) (999 : Int64) σ) = true then
      Option.bind (f_X12_puts σ) fun σ1 =>
      f_X12_times_l35 xq1 xq2 400 0 0 σ1
    else
      some ((-1), σ)
  else
    some ((-1), σ)
def f_X12_prove_b25 (kq25 : Int32 → Sg → Option (Int32 × Sg)) (xq2 : Int32) (σ : Sg) : Option (Int32 × Sg) :=
  if (σ 0 19) ≤ xq2 then
    Option.bind (f_X12_putsBack σ) fun σ5 =>
    some ((σ5 0 19), σ5)
  else
    Option.bind (rd σ 7 4 xq2) fun vq6 =>
    Option.bind (wr σ 8 12 (3 * xq2) vq6) fun σ7 =>
    Option.bind (rd σ7 7 4 xq2) fun vq8 =>
    bd2 (f_X12_goes vq8 σ7) fun vq9 σ10 =>
    Option.bind (wr σ10 8 12 ((3 * xq2) + 1) vq9) fun σ11 =>
    Option.bind (f_X12_those 5 σ11) fun vq12 =>
    Option.bind (wr σ11 8 12 ((3 * xq2) + 2) vq12) fun σ13 =>
    kq25 (xq2 + 1) σ13
def f_X12_prove_l25 : Nat → Int32 → Sg → Option (Int32 × Sg) := fuel (fun _ _ => none) (fun kq25 => f_X12_prove_b25 kq25)
def f_X12_prove (xq1 : Int32) (σ : Sg) : Option (Int32 × Sg) :=
  if (f_X12_isLong xq1 σ) = true then
    bd2 (f_X12_plansOf xq1 0 σ) fun vq1 σ2 =>
    lt (upS σ2 0 19 vq1) fun σ3 =>
    Option.bind (f_X12_puts σ3) fun σ4 =>
    f_X12_prove_l25 400 0 σ4
  else
    some ((-1), σ)
def f_X12_isRow (xq1 : Int32) (xq2 : Int32) (σ : Sg) : Bool :=
  if (f_X12_in xq1.toInt64 (0 : Int64) (((σ 0 19) - 1).toInt64) σ) = true then
    if (f_X12_in xq2.toInt64 (0 : Int64) (2 : Int64) σ) = true then
      true
    else
      false
  else
    false
def f_X12_row (xq1 : Int32) (xq2 : Int32) (σ : Sg) : Option Int32 :=
  if (f_X12_isRow xq1 xq2 σ) = true then
    Option.bind (rd σ 8 12 ((3 * xq1) + xq2)) fun vq1 =>
    some vq1
  else
    some (-9)
def f_X12_alterRow (xq1 : Int32) (xq2 : Int32) (xq3 : Int32) (σ : Sg) : Option (Int32 × Sg) :=
  if (f_X12_isRow xq1 xq2 σ) = true then
    Option.bind (rd σ 8 12 ((3 * xq1) + xq2)) fun vq1 =>
    Option.bind (wr σ 8 12 ((3 * xq1) + xq2) xq3) fun σ2 =>
    some (vq1, σ2)
  else
    some ((-9), σ)
def f_X12_isAct (xq1 : Int32) (σ : Sg) : Bool :=
  if (f_X12_in xq1.toInt64 (0 : Int64) ((σ 1 0).toInt64) σ) = true then
    if (f_X12_isOver σ) = true then
      false
    else
      true
  else
    false
def f_X12_judge_b83 (kq8 : Int32 → Int32 → Sg → Option (Int32 × Sg)) (xq2 : Int32) (tq0 : Int32) (σ : Sg) : Option (Int32 × Sg) :=
  if tq0 = 0 then
    lt (xq2 + 1) fun vq11 =>
    kq8 vq11 (xq2 + 1) σ
  else
    kq8 0 (xq2 + 1) σ
def f_X12_judge_b8 (kq8 : Int32 → Int32 → Sg → Option (Int32 × Sg)) (xq1 : Int32) (xq2 : Int32) (σ : Sg) : Option (Int32 × Sg) :=
  if (σ 0 19) ≤ xq2 then
    Option.bind (f_X12_putsBack σ) fun σ2 =>
    some (xq1, σ2)
  else
    if ¬ xq1 = 0 then
      Option.bind (f_X12_putsBack σ) fun σ3 =>
      some (xq1, σ3)
    else
      Option.bind (rd σ 8 12 (3 * xq2)) fun vq4 =>
      if (f_X12_isAct vq4 σ) = true then
        Option.bind (rd σ 8 12 (3 * xq2)) fun vq5 =>
        bd2 (f_X12_goes vq5 σ) fun vq6 σ7 =>
        Option.bind (rd σ7 8 12 ((3 * xq2) + 1)) fun vq8 =>
        if ¬ vq6 = vq8 then
          f_X12_judge_b83 kq8 xq2 0 σ7
        else
          Option.bind (f_X12_those 5 σ7) fun vq9 =>
          Option.bind (rd σ7 8 12 ((3 * xq2) + 2)) fun vq10 =>
          if ¬ vq9 = vq10 then
            f_X12_judge_b83 kq8 xq2 0 σ7
          else
            f_X12_judge_b83 kq8 xq2 1 σ7
      else
        f_X12_judge_b83 kq8 xq2 0 σ
def f_X12_judge_l8 : Nat → Int32 → Int32 → Sg → Option (Int32 × Sg) := fuel (fun _ _ _ => none) (fun kq8 => f_X12_judge_b8 kq8)
def f_X12_judge (σ : Sg) : Option (Int32 × Sg) :=
  Option.bind (f_X12_puts σ) fun σ1 =>
  f_X12_judge_l8 400 0 0 σ1
def f_X12_isOne (xq0 : Int32) (σ : Sg) : Bool :=
  (f_X12_in xq0.toInt64 (0 : Int64) (3 : Int64) σ)
def f_X12_sheet_b69 (kq69 : Int32 → Sg → Option (Int32 × Sg)) (xq1 : Int32) (xq4 : Int32) (σ : Sg) : Option (Int32 × Sg) :=
  if 40 ≤ xq4 then
    some (1, σ)
  else
    Option.bind (wr σ 12 160 ((40 * xq1) + xq4) 0) fun σ4 =>
    kq69 (xq4 + 1) σ4
def f_X12_sheet_l69 (xq1 : Int32) : Nat → Int32 → Sg → Option (Int32 × Sg) := fuel (fun _ _ => none) (fun kq69 => f_X12_sheet_b69 kq69 xq1)
def f_X12_sheet_b44 (xq1 : Int32) (xq2 : Int32) (xq3 : Int32) (σ : Sg) : Option (Int32 × Sg) :=
  Option.bind (wr σ 10 4 xq1 xq2) fun σ1 =>
  if 0 ≤ xq2 then
    Option.bind (wr σ1 11 4 xq1 xq3) fun σ2 =>
    f_X12_sheet_l69 xq1 400 0 σ2
  else
    Option.bind (wr σ1 11 4 xq1 0) fun σ3 =>
    f_X12_sheet_l69 xq1 400 0 σ3
def f_X12_sheet_b33 (xq1 : Int32) (xq2 : Int32) (xq3 : Int32) (σ : Sg) : Option (Int32 × Sg) :=
  if xq2 < 0 then
    f_X12_sheet_b44 xq1 xq2 xq3 σ
  else
    if 0 ≤ xq3 then
      f_X12_sheet_b44 xq1 xq2 xq3 σ
    else
      some ((-14), σ)
def f_X12_sheet (xq1 : Int32) (xq2 : Int32) (xq3 : Int32) (σ : Sg) : Option (Int32 × Sg) :=
  if (f_X12_isOne xq1 σ) = true then
    if (f_X12_in xq2.toInt64 (-1 : Int64) (4 : Int64) σ) = true then
      if xq2 < 0 then
        f_X12_sheet_b33 xq1 xq2 xq3 σ
      else
        if xq3 ≤ 40 then
          f_X12_sheet_b33 xq1 xq2 xq3 σ
        else
          some ((-1), σ)
    else
      some ((-1), σ)
  else
    some ((-1), σ)
def f_X12_narrowed (xq0 : Int32) (xq1 : Int32) (σ : Sg) : Int32 :=
  if ¬ xq0 = 0 then
    if ¬ xq0 = 1 then
      if ¬ xq0 = 4 then
        xq1
      else
        if ¬ xq1 = 0 then
          1
        else
          0
    else
      xq1.toInt16.toInt32
  else
    xq1.toInt8.toInt32
def f_X12_write (xq1 : Int32) (xq2 : Int32) (xq3 : Int32) (σ : Sg) : Option (Int32 × Sg) :=
  if (f_X12_isOne xq1 σ) = true then
    Option.bind (rd σ 10 4 xq1) fun vq1 =>
    if 0 ≤ vq1 then
      Option.bind (rd σ 11 4 xq1) fun vq2 =>
      if (f_X12_in xq2.toInt64 (0 : Int64) ((vq2 - 1).toInt64) σ) = true then
        Option.bind (rd σ 10 4 xq1) fun vq3 =>
        Option.bind (wr σ 12 160 ((40 * xq1) + xq2) (f_X12_narrowed vq3 xq3 σ)) fun σ4 =>
        some (1, σ4)
      else
        some ((-12), σ)
    else
      some ((-11), σ)
  else
    some ((-1), σ)
def f_X12_whyNot (xq1 : Int32) (xq2 : Int32) (σ : Sg) : Option Int32 :=
  Option.bind (rd σ 10 4 xq1) fun vq1 =>
  if 0 ≤ vq1 then
    Option.bind (rd σ 10 4 xq1) fun vq2 =>
    if vq2 = xq2 then
      some 0
    else
      some (-13)
  else
    some (-11)
def f_X12_item (xq1 : Int32) (xq2 : Int32) (xq3 : Int32) (σ : Sg) : Option Int32 :=
  if (f_X12_isOne xq1 σ) = true then
    if (f_X12_in xq2.toInt64 (0 : Int64) (4 : Int64) σ) = true then
      Option.bind (f_X12_whyNot xq1 xq2 σ) fun vq1 =>
      if vq1 = 0 then
        Option.bind (rd σ 11 4 xq1) fun vq2 =>
        if (f_X12_in xq3.toInt64 (0 : Int64) ((vq2 - 1).toInt64) σ) = true then
          Option.bind (rd σ 12 160 ((40 * xq1) + xq3)) fun vq3 =>
          some vq3
        else
          some (-12)
      else
        some vq1
    else
      some (-1)
  else
    some (-1)
def f_X12_isSpan (xq1 : Int32) (xq2 : Int32) (σ : Sg) : Bool :=
  if (f_X12_isOne xq1 σ) = true then
    if (f_X12_in xq2.toInt64 (0 : Int64) (20 : Int64) σ) = true then
      true
    else
      false
  else
    false
def f_X12_isItem (xq1 : Int32) (xq2 : Int64) (σ : Sg) : Option Bool :=
  Option.bind (rd σ 11 4 xq1) fun vq1 =>
  some (f_X12_in xq2 (0 : Int64) ((vq1 - 1).toInt64) σ)
def f_X12_goAll_b33 (kq33 : Int32 → Int32 → Sg → Option (Int32 × Sg)) (xq1 : Int32) (xq2 : Int32) (xq3 : Int32) (xq5 : Int32) (xq6 : Int32) (σ : Sg) : Option (Int32 × Sg) :=
  if xq3 ≤ xq6 then
    some (xq5, σ)
  else
    Option.bind (f_X12_isItem xq1 (xq2.toInt64 + xq6.toInt64) σ) fun vq2 =>
    if vq2 = true then
      Option.bind (rd σ 12 160 (((40 * xq1) + xq2) + xq6)) fun vq3 =>
      if (f_X12_isAct vq3 σ) = true then
        bd2 (f_X12_goes vq3 σ) fun vq5 σ6 =>
        lt (xq5 + vq5) fun vq7 =>
        kq33 vq7 (xq6 + 1) σ6
      else
        lt (xq5 + 0) fun vq4 =>
        kq33 vq4 (xq6 + 1) σ
    else
      some ((-12), σ)
def f_X12_goAll_l33 (xq1 : Int32) (xq2 : Int32) (xq3 : Int32) : Nat → Int32 → Int32 → Sg → Option (Int32 × Sg) := fuel (fun _ _ _ => none) (fun kq33 => f_X12_goAll_b33 kq33 xq1 xq2 xq3)
def f_X12_goAll (xq1 : Int32) (xq2 : Int32) (xq3 : Int32) (σ : Sg) : Option (Int32 × Sg) :=
  if (f_X12_isSpan xq1 xq3 σ) = true then
    Option.bind (f_X12_whyNot xq1 0 σ) fun vq1 =>
    if vq1 = 0 then
      f_X12_goAll_l33 xq1 xq2 xq3 400 0 0 σ
    else
      some (vq1, σ)
  else
    some ((-1), σ)
def f_X12_wouldBe_b98 (kq37 : Int32 → Int32 → Int32 → Sg → Option (Int32 × Sg)) (xq1 : Int32) (xq2 : Int32) (xq3 : Int32) (xq5 : Int32) (xq6 : Int32) (tq0 : Int32) (σ : Sg) : Option (Int32 × Sg) :=
  if ¬ tq0 = 0 then
    lt (xq5 + 0) fun vq6 =>
    kq37 tq0 vq6 (xq6 + 1) σ
  else
    Option.bind (rd σ 12 160 (((40 * xq1) + xq2) + xq6)) fun vq7 =>
    bd2 (f_X12_goes vq7 σ) fun vq8 σ9 =>
    lt (xq5 + vq8) fun vq10 =>
    kq37 tq0 vq10 (xq6 + 1) σ9
def f_X12_wouldBe_b138 (xq4 : Int32) (xq5 : Int32) (σ : Sg) : Option (Int32 × Sg) :=
  Option.bind (f_X12_putsBack σ) fun σ5 =>
  if xq4 = 0 then
    some (xq5, σ5)
  else
    some (xq4, σ5)
def f_X12_wouldBe_b37 (kq37 : Int32 → Int32 → Int32 → Sg → Option (Int32 × Sg)) (xq1 : Int32) (xq2 : Int32) (xq3 : Int32) (xq4 : Int32) (xq5 : Int32) (xq6 : Int32) (σ : Sg) : Option (Int32 × Sg) :=
  if xq3 ≤ xq6 then
    f_X12_wouldBe_b138 xq4 xq5 σ
  else
    if ¬ xq4 = 0 then
      f_X12_wouldBe_b138 xq4 xq5 σ
    else
      Option.bind (f_X12_isItem xq1 (xq2.toInt64 + xq6.toInt64) σ) fun vq3 =>
      if vq3 = true then
        Option.bind (rd σ 12 160 (((40 * xq1) + xq2) + xq6)) fun vq4 =>
        if (f_X12_isAct vq4 σ) = true then
          f_X12_wouldBe_b98 kq37 xq1 xq2 xq3 xq5 xq6 0 σ
        else
          f_X12_wouldBe_b98 kq37 xq1 xq2 xq3 xq5 xq6 (-4) σ
      else
        f_X12_wouldBe_b98 kq37 xq1 xq2 xq3 xq5 xq6 (-12) σ
def f_X12_wouldBe_l37 (xq1 : Int32) (xq2 : Int32) (xq3 : Int32) : Nat → Int32 → Int32 → Int32 → Sg → Option (Int32 × Sg) := fuel (fun _ _ _ _ => none) (fun kq37 => f_X12_wouldBe_b37 kq37 xq1 xq2 xq3)
def f_X12_wouldBe (xq1 : Int32) (xq2 : Int32) (xq3 : Int32) (σ : Sg) : Option (Int32 × Sg) :=
  if (f_X12_isSpan xq1 xq3 σ) = true then
    Option.bind (f_X12_whyNot xq1 0 σ) fun vq1 =>
    if vq1 = 0 then
      Option.bind (f_X12_puts σ) fun σ2 =>
      f_X12_wouldBe_l37 xq1 xq2 xq3 400 vq1 0 0 σ2
    else
      some (vq1, σ)
  else
    some ((-1), σ)
def f_X12_shelf_b106 (xq1 : Int32) (xq2 : Int32) (xq3 : Int32) (tq1 : Int32) (tq2 : Int32) (σ : Sg) : Option (Int32 × Sg) :=
  Option.bind (wr σ 14 4 tq1 tq2) fun σ4 =>
  if ¬ xq2 = 1 then
    Option.bind (wr σ4 15 4 xq1 0) fun σ5 =>
    some (1, σ5)
  else
    Option.bind (rd σ4 10 4 xq3) fun vq6 =>
    Option.bind (wr σ4 15 4 xq1 vq6) fun σ7 =>
    some (1, σ7)
def f_X12_shelf_b77 (xq1 : Int32) (xq2 : Int32) (xq3 : Int32) (tq1 : Int32) (tq2 : Int32) (σ : Sg) : Option (Int32 × Sg) :=
  Option.bind (wr σ 13 4 tq1 tq2) fun σ2 =>
  if ¬ xq2 = 0 then
    if ¬ xq2 = 1 then
      f_X12_shelf_b106 xq1 xq2 xq3 xq1 0 σ2
    else
      Option.bind (rd σ2 11 4 xq3) fun vq3 =>
      f_X12_shelf_b106 xq1 xq2 xq3 xq1 vq3 σ2
  else
    f_X12_shelf_b106 xq1 xq2 xq3 xq1 xq3 σ2
def f_X12_shelf_b45 (xq1 : Int32) (xq2 : Int32) (xq3 : Int32) (σ : Sg) : Option (Int32 × Sg) :=
  if ¬ xq2 = 0 then
    if ¬ xq2 = 1 then
      f_X12_shelf_b77 xq1 xq2 xq3 xq1 0 σ
    else
      Option.bind (rd σ 10 4 xq3) fun vq1 =>
      if vq1 < 0 then
        f_X12_shelf_b77 xq1 xq2 xq3 xq1 0 σ
      else
        f_X12_shelf_b77 xq1 xq2 xq3 xq1 2 σ
  else
    f_X12_shelf_b77 xq1 xq2 xq3 xq1 1 σ
def f_X12_shelf_b31 (xq1 : Int32) (xq2 : Int32) (xq3 : Int32) (σ : Sg) : Option (Int32 × Sg) :=
  if ¬ xq2 = 1 then
    f_X12_shelf_b45 xq1 xq2 xq3 σ
  else
    if (f_X12_isOne xq3 σ) = true then
      f_X12_shelf_b45 xq1 xq2 xq3 σ
    else
      some ((-1), σ)
def f_X12_shelf (xq1 : Int32) (xq2 : Int32) (xq3 : Int32) (σ : Sg) : Option (Int32 × Sg) :=
  if (f_X12_isOne xq1 σ) = true then
    if (f_X12_in xq2.toInt64 (0 : Int64) (2 : Int64) σ) = true then
      if ¬ xq2 = 0 then
        f_X12_shelf_b31 xq1 xq2 xq3 σ
      else
        if (f_X12_isKite xq3 σ) = true then
          f_X12_shelf_b31 xq1 xq2 xq3 σ
        else
          some ((-1), σ)
    else
      some ((-1), σ)
  else
    some ((-1), σ)
def f_X12_onShelf (xq1 : Int32) (σ : Sg) : Option Int32 :=
  if (f_X12_isOne xq1 σ) = true then
    Option.bind (rd σ 13 4 xq1) fun vq1 =>
    if ¬ vq1 = 1 then
      some (-1)
    else
      Option.bind (rd σ 14 4 xq1) fun vq2 =>
      if (f_X12_isKite vq2 σ) = true then
        Option.bind (rd σ 14 4 xq1) fun vq3 =>
        some vq3
      else
        some (-1)
  else
    some (-1)
def f_X12_taken_b107 (xq1 : Int32) (tq0 : Int32) (σ : Sg) : Option Int32 :=
  if tq0 = 0 then
    some (-13)
  else
    Option.bind (rd σ 14 4 xq1) fun vq5 =>
    some vq5
def f_X12_taken_b58 (xq1 : Int32) (xq2 : Int32) (xq3 : Int32) (σ : Sg) : Option Int32 :=
  if xq3 < 0 then
    Option.bind (rd σ 15 4 xq1) fun vq3 =>
    if ¬ (xq2 - 10) = vq3 then
      f_X12_taken_b107 xq1 0 σ
    else
      f_X12_taken_b107 xq1 1 σ
  else
    if 6 ≤ xq2 then
      f_X12_taken_b107 xq1 0 σ
    else
      Option.bind (f_X12_its xq3 0 σ) fun vq4 =>
      if (f_X12_isUnder vq4 xq2 σ) = true then
        f_X12_taken_b107 xq1 1 σ
      else
        f_X12_taken_b107 xq1 0 σ
def f_X12_taken_b35 (xq1 : Int32) (xq2 : Int32) (σ : Sg) : Option Int32 :=
  Option.bind (f_X12_onShelf xq1 σ) fun vq1 =>
  if 0 ≤ vq1 then
    f_X12_taken_b58 xq1 xq2 vq1 σ
  else
    Option.bind (rd σ 13 4 xq1) fun vq2 =>
    if 2 ≤ vq2 then
      f_X12_taken_b58 xq1 xq2 vq1 σ
    else
      some (-11)
def f_X12_taken (xq1 : Int32) (xq2 : Int32) (σ : Sg) : Option Int32 :=
  if (f_X12_isOne xq1 σ) = true then
    if (f_X12_in xq2.toInt64 (0 : Int64) (5 : Int64) σ) = true then
      f_X12_taken_b35 xq1 xq2 σ
    else
      if (f_X12_in xq2.toInt64 (10 : Int64) (14 : Int64) σ) = true then
        f_X12_taken_b35 xq1 xq2 σ
      else
        some (-1)
  else
    some (-1)
def f_X12_runs_b26 (σ : Sg) : Option Sg :=
  lt (upS σ 0 35 ((σ 0 35) + 1)) fun σ2 =>
  some σ2
def f_X12_runs (xq1 : Int32) (σ : Sg) : Option Sg :=
  if ¬ (σ 0 39) = 0 then
    some σ
  else
    if 30 ≤ (σ 0 35) then
      f_X12_runs_b26 σ
    else
      Option.bind (wr σ 16 30 (σ 0 35) xq1) fun σ1 =>
      f_X12_runs_b26 σ1
def f_X12_flies_b28 (xq1 : Int32) (σ : Sg) : Option (Int32 × Sg) :=
  Option.bind (f_X12_runs 10 σ) fun σ3 =>
  lt ((xq1 * 5) + (σ3 0 36)) fun vq4 =>
  if ¬ (σ3 0 38) = 1 then
    if ¬ (σ3 0 38) = 3 then
      some (vq4, σ3)
    else
      some ((vq4 ^^^ 6), σ3)
  else
    some ((vq4 - 1), σ3)
def f_X12_flies_b14 (xq1 : Int32) (σ : Sg) : Option (Int32 × Sg) :=
  if ¬ (σ 0 38) = 3 then
    f_X12_flies_b28 xq1 σ
  else
    Option.bind (f_X12_runs 50 σ) fun σ2 =>
    f_X12_flies_b28 xq1 σ2
def f_X12_flies (xq1 : Int32) (σ : Sg) : Option (Int32 × Sg) :=
  if ¬ (σ 0 38) = 1 then
    f_X12_flies_b14 xq1 σ
  else
    Option.bind (f_X12_runs 20 σ) fun σ1 =>
    f_X12_flies_b14 xq1 σ1
def f_X12_reads_b67 (tq1 : Int32) (σ : Sg) : Option (Int32 × Sg) :=
  bd2 (f_X12_flies tq1 σ) fun vq4 σ5 =>
  lt (vq4 ^^^ (σ5 0 37)) fun vq6 =>
  if ¬ (σ5 0 38) = 5 then
    some (vq6, σ5)
  else
    some ((vq6 * (σ5 0 37)), σ5)
def f_X12_reads_b46 (xq1 : Int32) (xq2 : Int32) (σ : Sg) : Option (Int32 × Sg) :=
  Option.bind (f_X12_runs 11 σ) fun σ3 =>
  if xq2 = 0 then
    f_X12_reads_b67 xq1 σ3
  else
    f_X12_reads_b67 (xq1 + (σ3 0 36)) σ3
def f_X12_reads_b32 (xq1 : Int32) (xq2 : Int32) (σ : Sg) : Option (Int32 × Sg) :=
  if ¬ (σ 0 38) = 5 then
    f_X12_reads_b46 xq1 xq2 σ
  else
    Option.bind (f_X12_runs 60 σ) fun σ2 =>
    f_X12_reads_b46 xq1 xq2 σ2
def f_X12_reads_b21 (xq1 : Int32) (tq0 : Int32) (σ : Sg) : Option (Int32 × Sg) :=
  if tq0 = 0 then
    f_X12_reads_b32 xq1 tq0 σ
  else
    Option.bind (f_X12_runs 30 σ) fun σ1 =>
    f_X12_reads_b32 xq1 tq0 σ1
def f_X12_reads (xq1 : Int32) (σ : Sg) : Option (Int32 × Sg) :=
  if (σ 0 38) = 2 then
    f_X12_reads_b21 xq1 1 σ
  else
    if ¬ (σ 0 38) = 3 then
      f_X12_reads_b21 xq1 0 σ
    else
      f_X12_reads_b21 xq1 1 σ
def f_X12_plainParts (xq1 : Int32) (σ : Sg) : Option (Int32 × Sg) :=
  Option.bind (f_X12_runs 12 σ) fun σ1 =>
  if ¬ (σ1 0 36) = (σ1 0 37) then
    if ((σ1 0 36) - (σ1 0 37)) = 0 then none else some ((rem32 xq1 ((σ1 0 36) - (σ1 0 37))), σ1)
  else
    lt (upS σ1 0 39 1) fun σ3 =>
    some (0, σ3)
def f_X12_parts (xq1 : Int32) (σ : Sg) : Option (Int32 × Sg) :=
  if ¬ (σ 0 38) = 4 then
    if ¬ (σ 0 38) = 5 then
      bd2 (f_X12_plainParts xq1 σ) fun vq1 σ2 =>
      some (vq1, σ2)
    else
      Option.bind (f_X12_runs 61 σ) fun σ3 =>
      Option.bind (f_X12_runs 40 σ3) fun σ4 =>
      bd2 (f_X12_plainParts xq1 σ4) fun vq5 σ6 =>
      lt (0 - vq5) fun vq7 =>
      if (σ6 0 39) = 0 then
        bd2 (f_X12_flies (σ6 0 36) σ6) fun vq8 σ9 =>
        some ((vq7 + vq8), σ9)
      else
        some (0, σ6)
  else
    Option.bind (f_X12_runs 40 σ) fun σ10 =>
    bd2 (f_X12_plainParts xq1 σ10) fun vq11 σ12 =>
    some ((0 - vq11), σ12)
def f_X12_calls_b14 (xq1 : Int32) (σ : Sg) : Option (Int32 × Sg) :=
  Option.bind (f_X12_runs 13 σ) fun σ2 =>
  bd2 (f_X12_reads xq1 σ2) fun vq3 σ4 =>
  bd2 (f_X12_parts xq1 σ4) fun vq5 σ6 =>
  lt (vq3 + (vq5 * 2)) fun vq7 =>
  if ¬ (σ6 0 38) = 3 then
    some (vq7, σ6)
  else
    if ¬ (σ6 0 39) = 0 then
      some (vq7, σ6)
    else
      bd2 (f_X12_reads (σ6 0 36) σ6) fun vq8 σ9 =>
      some ((vq7 - vq8), σ9)
def f_X12_calls (xq1 : Int32) (σ : Sg) : Option (Int32 × Sg) :=
  if ¬ (σ 0 38) = 3 then
    f_X12_calls_b14 xq1 σ
  else
    Option.bind (f_X12_runs 51 σ) fun σ1 =>
    f_X12_calls_b14 xq1 σ1
def f_X12_act_b109 (tq0 : Int32) (σ : Sg) : Option (Int32 × Sg) :=
  if (σ 0 39) = 0 then
    some (tq0, σ)
  else
    some ((-15), σ)
def f_X12_act (xq1 : Int32) (xq2 : Int32) (xq3 : Int32) (σ : Sg) : Option (Int32 × Sg) :=
  lt (upS σ 0 35 0) fun σ1 =>
  lt (upS σ1 0 39 0) fun σ2 =>
  Option.bind (f_X12_onShelf xq1 σ2) fun vq3 =>
  lt (upS σ2 0 36 vq3) fun σ4 =>
  if (σ4 0 36) < 0 then
    some (0, σ4)
  else
    if (f_X12_in xq2.toInt64 (0 : Int64) (3 : Int64) σ4) = true then
      Option.bind (f_X12_its (σ4 0 36) 3 σ4) fun vq5 =>
      lt (upS σ4 0 37 vq5) fun σ6 =>
      Option.bind (f_X12_its (σ6 0 36) 0 σ6) fun vq7 =>
      lt (upS σ6 0 38 vq7) fun σ8 =>
      if ¬ xq2 = 0 then
        if ¬ xq2 = 1 then
          if ¬ xq2 = 2 then
            bd2 (f_X12_calls xq3 σ8) fun vq9 σ10 =>
            f_X12_act_b109 vq9 σ10
          else
            bd2 (f_X12_parts xq3 σ8) fun vq11 σ12 =>
            f_X12_act_b109 vq11 σ12
        else
          bd2 (f_X12_reads xq3 σ8) fun vq13 σ14 =>
          f_X12_act_b109 vq13 σ14
      else
        bd2 (f_X12_flies xq3 σ8) fun vq15 σ16 =>
        f_X12_act_b109 vq15 σ16
    else
      some (0, σ4)
def f_X12_traced (σ : Sg) : Int32 :=
  if 30 ≤ (σ 0 35) then
    30
  else
    (σ 0 35)
def f_X12_trace (xq1 : Int32) (σ : Sg) : Option Int32 :=
  if (f_X12_in xq1.toInt64 (0 : Int64) (((f_X12_traced σ) - 1).toInt64) σ) = true then
    Option.bind (rd σ 16 30 xq1) fun vq1 =>
    some vq1
  else
    some (-3)
def f_X12_ones_b4 (kq4 : Int32 → Int32 → Option Int32) (σ : Sg) (xq1 : Int32) (xq2 : Int32) : Option Int32 :=
  if xq2 = 0 then
    some xq1
  else
    lt (xq2 &&& (xq2 - 1)) fun vq1 =>
    kq4 (xq1 + 1) vq1
def f_X12_ones_l4 (σ : Sg) : Nat → Int32 → Int32 → Option Int32 := fuel (fun _ _ => none) (fun kq4 => f_X12_ones_b4 kq4 σ)
def f_X12_ones (xq0 : Int32) (σ : Sg) : Option Int32 :=
  f_X12_ones_l4 σ 400 0 xq0
def f_X12_many (xq1 : Int32) (σ : Sg) : Option Int32 :=
  if xq1 = 0 then
    some (σ 1 0)
  else
    if xq1 = 1 then
      some (σ 1 1)
    else
      if xq1 = 2 then
        Option.bind (f_X12_those 5 σ) fun vq1 =>
        Option.bind (f_X12_ones vq1 σ) fun vq2 =>
        some vq2
      else
        if xq1 = 3 then
          some (σ 1 5)
        else
          if xq1 = 4 then
            some (σ 0 19)
          else
            if xq1 = 5 then
              some (σ 0 21)
            else
              if xq1 = 6 then
                some (f_X12_traced σ)
              else
                some (-1)
def f_X12_keep_b2 (kq2 : Int32 → Sg → Option (Int32 × Sg)) (xq1 : Int32) (σ : Sg) : Option (Int32 × Sg) :=
  if 319 ≤ xq1 then
    lt (upS σ 0 3 1) fun σ1 =>
    some (1, σ1)
  else
    Option.bind (rd σ 1 319 xq1) fun vq2 =>
    Option.bind (wr σ 2 319 xq1 vq2) fun σ3 =>
    kq2 (xq1 + 1) σ3
def f_X12_keep_l2 : Nat → Int32 → Sg → Option (Int32 × Sg) := fuel (fun _ _ => none) (fun kq2 => f_X12_keep_b2 kq2)
def f_X12_keep (σ : Sg) : Option (Int32 × Sg) :=
  f_X12_keep_l2 400 0 σ
def f_X12_again_b12 (kq12 : Int32 → Sg → Option (Int32 × Sg)) (xq1 : Int32) (σ : Sg) : Option (Int32 × Sg) :=
  if 319 ≤ xq1 then
    some ((σ 1 0), σ)
  else
    Option.bind (rd σ 2 319 xq1) fun vq1 =>
    Option.bind (wr σ 1 319 xq1 vq1) fun σ2 =>
    kq12 (xq1 + 1) σ2
def f_X12_again_l12 : Nat → Int32 → Sg → Option (Int32 × Sg) := fuel (fun _ _ => none) (fun kq12 => f_X12_again_b12 kq12)
def f_X12_again (σ : Sg) : Option (Int32 × Sg) :=
  if ¬ (σ 0 3) = 0 then
    f_X12_again_l12 400 0 σ
  else
    some ((-3), σ)
