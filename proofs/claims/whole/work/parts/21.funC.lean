def f_X4_drifts_p3 (xq1 : Int32) (xq2 : Int32) (σ : Sg) : Int32 :=
  xq1
def f_X4_drifts_p4 (xq1 : Int32) (xq2 : Int32) (σ : Sg) : Int32 :=
  xq1
def f_X7_drifts_p4 (xq1 : Int32) (xq2 : Int32) (σ : Sg) : Int32 :=
  (2 * (f_X4_drifts_p4 xq1 xq2 σ))
def f_X4_drifts_p5 (xq1 : Int32) (xq2 : Int32) (σ : Sg) : Int32 :=
  xq1
def f_X2_drifts_p5 (xq1 : Int32) (xq2 : Int32) (σ : Sg) : Int32 :=
  (max32 0 ((f_X4_drifts_p5 xq1 xq2 σ) - 1))
def f_X4_drifts_p6 (xq1 : Int32) (xq2 : Int32) (σ : Sg) : Int32 :=
  xq1
def f_X2_drifts_p6 (xq1 : Int32) (xq2 : Int32) (σ : Sg) : Int32 :=
  (max32 0 ((f_X4_drifts_p6 xq1 xq2 σ) - 1))
def f_X3_drifts_p6 (xq1 : Int32) (xq2 : Int32) (σ : Sg) : Int32 :=
  if ¬ (rem32 xq2 2) = 0 then
    ((f_X2_drifts_p6 xq1 xq2 σ) + 0)
  else
    ((f_X2_drifts_p6 xq1 xq2 σ) + 1)
def f_X4_drifts_p7 (xq1 : Int32) (xq2 : Int32) (σ : Sg) : Int32 :=
  xq1
def f_X0_drifts_p7 (xq1 : Int32) (xq2 : Int32) (σ : Sg) : Int32 :=
  (min32 1 (f_X4_drifts_p7 xq1 xq2 σ))
def f_X4_drifts_p8 (xq1 : Int32) (xq2 : Int32) (σ : Sg) : Int32 :=
  xq1
def f_X0_drifts_p8 (xq1 : Int32) (xq2 : Int32) (σ : Sg) : Int32 :=
  (min32 1 (f_X4_drifts_p8 xq1 xq2 σ))
def f_X5_drifts_p8 (xq1 : Int32) (xq2 : Int32) (σ : Sg) : Int32 :=
  if ¬ (rem32 xq2 2) = 0 then
    0
  else
    (f_X0_drifts_p8 xq1 xq2 σ)
def f_X4_fee_p3 (xq1 : Int32) (σ : Sg) : Int32 :=
  4
def f_X4_fee_p4 (xq1 : Int32) (σ : Sg) : Int32 :=
  4
def f_X7_fee_p4 (xq1 : Int32) (σ : Sg) : Int32 :=
  ((f_X4_fee_p4 xq1 σ) + 2)
def f_X4_fee_p5 (xq1 : Int32) (σ : Sg) : Int32 :=
  4
def f_X2_fee_p5 (xq1 : Int32) (σ : Sg) : Int32 :=
  ((f_X4_fee_p5 xq1 σ) + xq1)
def f_X4_fee_p6 (xq1 : Int32) (σ : Sg) : Int32 :=
  4
def f_X2_fee_p6 (xq1 : Int32) (σ : Sg) : Int32 :=
  ((f_X4_fee_p6 xq1 σ) + xq1)
def f_X3_fee_p6 (xq1 : Int32) (σ : Sg) : Int32 :=
  ((f_X2_fee_p6 xq1 σ) * 2)
def f_X4_fee_p7 (xq1 : Int32) (σ : Sg) : Int32 :=
  4
def f_X0_fee_p7 (xq1 : Int32) (σ : Sg) : Int32 :=
  ((f_X4_fee_p7 xq1 σ) - 1)
def f_X4_fee_p8 (xq1 : Int32) (σ : Sg) : Int32 :=
  4
def f_X0_fee_p8 (xq1 : Int32) (σ : Sg) : Int32 :=
  ((f_X4_fee_p8 xq1 σ) - 1)
def f_X5_fee_p8 (xq1 : Int32) (σ : Sg) : Int32 :=
  ((f_X0_fee_p8 xq1 σ) / 2)
def f_X4_become_p3 (xq1 : Int32) (xq2 : Int32) (σ : Sg) : Sg :=
  lt (upS σ 3 1 xq1) fun σ1 =>
  lt (upS σ1 3 2 xq2) fun σ2 =>
  lt (upS σ2 3 3 0) fun σ3 =>
  lt (upS σ3 3 4 0) fun σ4 =>
  σ4
def f_X4_become_p4 (xq1 : Int32) (xq2 : Int32) (σ : Sg) : Sg :=
  lt (upS σ 4 1 xq1) fun σ1 =>
  lt (upS σ1 4 2 xq2) fun σ2 =>
  lt (upS σ2 4 3 0) fun σ3 =>
  lt (upS σ3 4 4 0) fun σ4 =>
  σ4
def f_X4_become_p5 (xq1 : Int32) (xq2 : Int32) (σ : Sg) : Sg :=
  lt (upS σ 5 1 xq1) fun σ1 =>
  lt (upS σ1 5 2 xq2) fun σ2 =>
  lt (upS σ2 5 3 0) fun σ3 =>
  lt (upS σ3 5 4 0) fun σ4 =>
  σ4
def f_X4_become_p6 (xq1 : Int32) (xq2 : Int32) (σ : Sg) : Sg :=
  lt (upS σ 6 1 xq1) fun σ1 =>
  lt (upS σ1 6 2 xq2) fun σ2 =>
  lt (upS σ2 6 3 0) fun σ3 =>
  lt (upS σ3 6 4 0) fun σ4 =>
  σ4
def f_X4_become_p7 (xq1 : Int32) (xq2 : Int32) (σ : Sg) : Sg :=
  lt (upS σ 7 1 xq1) fun σ1 =>
  lt (upS σ1 7 2 xq2) fun σ2 =>
  lt (upS σ2 7 3 0) fun σ3 =>
  lt (upS σ3 7 4 0) fun σ4 =>
  σ4
def f_X4_become_p8 (xq1 : Int32) (xq2 : Int32) (σ : Sg) : Sg :=
  lt (upS σ 8 1 xq1) fun σ1 =>
  lt (upS σ1 8 2 xq2) fun σ2 =>
  lt (upS σ2 8 3 0) fun σ3 =>
  lt (upS σ3 8 4 0) fun σ4 =>
  σ4
def f_X4_begin_p3 (xq1 : Int32) (σ : Sg) : Option Sg :=
  if ¬ (σ 3 4) = 0 then
    some σ
  else
    if 30 ≤ (σ 3 3) then
      some σ
    else
      Option.bind (wr σ 1 30 (σ 3 3) xq1) fun σ1 =>
      lt (upS σ1 3 3 ((σ1 3 3) + 1)) fun σ2 =>
      some σ2
def f_X4_flies_p3 (xq1 : Int32) (σ : Sg) : Option (Int32 × Sg) :=
  Option.bind (f_X4_begin_p3 10 σ) fun σ1 =>
  some (((xq1 * 5) + (σ1 3 1)), σ1)
def f_X4_begin_p4 (xq1 : Int32) (σ : Sg) : Option Sg :=
  if ¬ (σ 4 4) = 0 then
    some σ
  else
    if 30 ≤ (σ 4 3) then
      some σ
    else
      Option.bind (wr σ 1 30 (σ 4 3) xq1) fun σ1 =>
      lt (upS σ1 4 3 ((σ1 4 3) + 1)) fun σ2 =>
      some σ2
def f_X4_flies_p4 (xq1 : Int32) (σ : Sg) : Option (Int32 × Sg) :=
  Option.bind (f_X4_begin_p4 10 σ) fun σ1 =>
  some (((xq1 * 5) + (σ1 4 1)), σ1)
def f_X7_flies_p4 (xq1 : Int32) (σ : Sg) : Option (Int32 × Sg) :=
  Option.bind (f_X4_begin_p4 20 σ) fun σ1 =>
  bd2 (f_X4_flies_p4 xq1 σ1) fun vq2 σ3 =>
  some ((vq2 - 1), σ3)
def f_X4_begin_p5 (xq1 : Int32) (σ : Sg) : Option Sg :=
  if ¬ (σ 5 4) = 0 then
    some σ
  else
    if 30 ≤ (σ 5 3) then
      some σ
    else
      Option.bind (wr σ 1 30 (σ 5 3) xq1) fun σ1 =>
      lt (upS σ1 5 3 ((σ1 5 3) + 1)) fun σ2 =>
      some σ2
def f_X4_flies_p5 (xq1 : Int32) (σ : Sg) : Option (Int32 × Sg) :=
  Option.bind (f_X4_begin_p5 10 σ) fun σ1 =>
  some (((xq1 * 5) + (σ1 5 1)), σ1)
def f_X4_begin_p6 (xq1 : Int32) (σ : Sg) : Option Sg :=
  if ¬ (σ 6 4) = 0 then
    some σ
  else
    if 30 ≤ (σ 6 3) then
      some σ
    else
      Option.bind (wr σ 1 30 (σ 6 3) xq1) fun σ1 =>
      lt (upS σ1 6 3 ((σ1 6 3) + 1)) fun σ2 =>
      some σ2
def f_X4_flies_p6 (xq1 : Int32) (σ : Sg) : Option (Int32 × Sg) :=
  Option.bind (f_X4_begin_p6 10 σ) fun σ1 =>
  some (((xq1 * 5) + (σ1 6 1)), σ1)
def f_X3_flies_p6 (xq1 : Int32) (σ : Sg) : Option (Int32 × Sg) :=
  Option.bind (f_X4_begin_p6 50 σ) fun σ1 =>
  bd2 (f_X4_flies_p6 xq1 σ1) fun vq2 σ3 =>
  some ((vq2 ^^^ 6), σ3)
def f_X4_begin_p7 (xq1 : Int32) (σ : Sg) : Option Sg :=
  if ¬ (σ 7 4) = 0 then
    some σ
  else
    if 30 ≤ (σ 7 3) then
      some σ
    else
      Option.bind (wr σ 1 30 (σ 7 3) xq1) fun σ1 =>
      lt (upS σ1 7 3 ((σ1 7 3) + 1)) fun σ2 =>
      some σ2
def f_X4_flies_p7 (xq1 : Int32) (σ : Sg) : Option (Int32 × Sg) :=
  Option.bind (f_X4_begin_p7 10 σ) fun σ1 =>
  some (((xq1 * 5) + (σ1 7 1)), σ1)
def f_X4_begin_p8 (xq1 : Int32) (σ : Sg) : Option Sg :=
  if ¬ (σ 8 4) = 0 then
    some σ
  else
    if 30 ≤ (σ 8 3) then
      some σ
    else
      Option.bind (wr σ 1 30 (σ 8 3) xq1) fun σ1 =>
      lt (upS σ1 8 3 ((σ1 8 3) + 1)) fun σ2 =>
      some σ2
def f_X4_flies_p8 (xq1 : Int32) (σ : Sg) : Option (Int32 × Sg) :=
  Option.bind (f_X4_begin_p8 10 σ) fun σ1 =>
  some (((xq1 * 5) + (σ1 8 1)), σ1)
def f_X4_reads_p3 (xq1 : Int32) (σ : Sg) : Option (Int32 × Sg) :=
  Option.bind (f_X4_begin_p3 11 σ) fun σ1 =>
  bd2 (f_X4_flies_p3 xq1 σ1) fun vq2 σ3 =>
  some ((vq2 ^^^ (σ3 3 2)), σ3)
def f_X4_reads_p4 (xq1 : Int32) (σ : Sg) : Option (Int32 × Sg) :=
  Option.bind (f_X4_begin_p4 11 σ) fun σ1 =>
  bd2 (f_X7_flies_p4 xq1 σ1) fun vq2 σ3 =>
  some ((vq2 ^^^ (σ3 4 2)), σ3)
def f_X4_reads_p5 (xq1 : Int32) (σ : Sg) : Option (Int32 × Sg) :=
  Option.bind (f_X4_begin_p5 11 σ) fun σ1 =>
  bd2 (f_X4_flies_p5 xq1 σ1) fun vq2 σ3 =>
  some ((vq2 ^^^ (σ3 5 2)), σ3)
def f_X2_reads_p5 (xq1 : Int32) (σ : Sg) : Option (Int32 × Sg) :=
  Option.bind (f_X4_begin_p5 30 σ) fun σ1 =>
  bd2 (f_X4_reads_p5 (xq1 + (σ1 5 1)) σ1) fun vq2 σ3 =>
  some (vq2, σ3)
def f_X4_reads_p6 (xq1 : Int32) (σ : Sg) : Option (Int32 × Sg) :=
  Option.bind (f_X4_begin_p6 11 σ) fun σ1 =>
  bd2 (f_X3_flies_p6 xq1 σ1) fun vq2 σ3 =>
  some ((vq2 ^^^ (σ3 6 2)), σ3)
def f_X2_reads_p6 (xq1 : Int32) (σ : Sg) : Option (Int32 × Sg) :=
  Option.bind (f_X4_begin_p6 30 σ) fun σ1 =>
  bd2 (f_X4_reads_p6 (xq1 + (σ1 6 1)) σ1) fun vq2 σ3 =>
  some (vq2, σ3)
def f_X4_reads_p7 (xq1 : Int32) (σ : Sg) : Option (Int32 × Sg) :=
  Option.bind (f_X4_begin_p7 11 σ) fun σ1 =>
  bd2 (f_X4_flies_p7 xq1 σ1) fun vq2 σ3 =>
  some ((vq2 ^^^ (σ3 7 2)), σ3)
def f_X4_reads_p8 (xq1 : Int32) (σ : Sg) : Option (Int32 × Sg) :=
  Option.bind (f_X4_begin_p8 11 σ) fun σ1 =>
  bd2 (f_X4_flies_p8 xq1 σ1) fun vq2 σ3 =>
  some ((vq2 ^^^ (σ3 8 2)), σ3)
def f_X5_reads_p8 (xq1 : Int32) (σ : Sg) : Option (Int32 × Sg) :=
  Option.bind (f_X4_begin_p8 60 σ) fun σ1 =>
  bd2 (f_X4_reads_p8 xq1 σ1) fun vq2 σ3 =>
  some ((vq2 * (σ3 8 2)), σ3)
def f_X4_parts_p3 (xq1 : Int32) (σ : Sg) : Option (Int32 × Sg) :=
  Option.bind (f_X4_begin_p3 12 σ) fun σ1 =>
  lt ((σ1 3 1) - (σ1 3 2)) fun vq2 =>
  if ¬ vq2 = 0 then
    if vq2 = 0 then none else some ((rem32 xq1 vq2), σ1)
  else
    lt (upS σ1 3 4 1) fun σ4 =>
    some (0, σ4)
def f_X4_parts_p4 (xq1 : Int32) (σ : Sg) : Option (Int32 × Sg) :=
  Option.bind (f_X4_begin_p4 12 σ) fun σ1 =>
  lt ((σ1 4 1) - (σ1 4 2)) fun vq2 =>
  if ¬ vq2 = 0 then
    if vq2 = 0 then none else some ((rem32 xq1 vq2), σ1)
  else
    lt (upS σ1 4 4 1) fun σ4 =>
    some (0, σ4)
def f_X4_parts_p5 (xq1 : Int32) (σ : Sg) : Option (Int32 × Sg) :=
  Option.bind (f_X4_begin_p5 12 σ) fun σ1 =>
  lt ((σ1 5 1) - (σ1 5 2)) fun vq2 =>
  if ¬ vq2 = 0 then
    if vq2 = 0 then none else some ((rem32 xq1 vq2), σ1)
  else
    lt (upS σ1 5 4 1) fun σ4 =>
    some (0, σ4)
def f_X4_parts_p6 (xq1 : Int32) (σ : Sg) : Option (Int32 × Sg) :=
  Option.bind (f_X4_begin_p6 12 σ) fun σ1 =>
  lt ((σ1 6 1) - (σ1 6 2)) fun vq2 =>
  if ¬ vq2 = 0 then
    if vq2 = 0 then none else some ((rem32 xq1 vq2), σ1)
  else
    lt (upS σ1 6 4 1) fun σ4 =>
    some (0, σ4)
def f_X4_parts_p7 (xq1 : Int32) (σ : Sg) : Option (Int32 × Sg) :=
  Option.bind (f_X4_begin_p7 12 σ) fun σ1 =>
  lt ((σ1 7 1) - (σ1 7 2)) fun vq2 =>
  if ¬ vq2 = 0 then
    if vq2 = 0 then none else some ((rem32 xq1 vq2), σ1)
  else
    lt (upS σ1 7 4 1) fun σ4 =>
    some (0, σ4)
def f_X0_parts_p7 (xq1 : Int32) (σ : Sg) : Option (Int32 × Sg) :=
  Option.bind (f_X4_begin_p7 40 σ) fun σ1 =>
  bd2 (f_X4_parts_p7 xq1 σ1) fun vq2 σ3 =>
  some ((0 - vq2), σ3)
def f_X4_parts_p8 (xq1 : Int32) (σ : Sg) : Option (Int32 × Sg) :=
  Option.bind (f_X4_begin_p8 12 σ) fun σ1 =>
  lt ((σ1 8 1) - (σ1 8 2)) fun vq2 =>
  if ¬ vq2 = 0 then
    if vq2 = 0 then none else some ((rem32 xq1 vq2), σ1)
  else
    lt (upS σ1 8 4 1) fun σ4 =>
    some (0, σ4)
def f_X0_parts_p8 (xq1 : Int32) (σ : Sg) : Option (Int32 × Sg) :=
  Option.bind (f_X4_begin_p8 40 σ) fun σ1 =>
  bd2 (f_X4_parts_p8 xq1 σ1) fun vq2 σ3 =>
  some ((0 - vq2), σ3)
def f_X5_parts_p8 (xq1 : Int32) (σ : Sg) : Option (Int32 × Sg) :=
  Option.bind (f_X4_begin_p8 61 σ) fun σ1 =>
  bd2 (f_X0_parts_p8 xq1 σ1) fun vq2 σ3 =>
  bd2 (f_X4_flies_p8 (σ3 8 1) σ3) fun vq4 σ5 =>
  some ((vq2 + vq4), σ5)
def f_X4_calls_p3 (xq1 : Int32) (σ : Sg) : Option (Int32 × Sg) :=
  Option.bind (f_X4_begin_p3 13 σ) fun σ1 =>
  bd2 (f_X4_reads_p3 xq1 σ1) fun vq2 σ3 =>
  bd2 (f_X4_parts_p3 xq1 σ3) fun vq4 σ5 =>
  some ((vq2 + (vq4 * 2)), σ5)
def f_X4_calls_p4 (xq1 : Int32) (σ : Sg) : Option (Int32 × Sg) :=
  Option.bind (f_X4_begin_p4 13 σ) fun σ1 =>
  bd2 (f_X4_reads_p4 xq1 σ1) fun vq2 σ3 =>
  bd2 (f_X4_parts_p4 xq1 σ3) fun vq4 σ5 =>
  some ((vq2 + (vq4 * 2)), σ5)
def f_X4_calls_p5 (xq1 : Int32) (σ : Sg) : Option (Int32 × Sg) :=
  Option.bind (f_X4_begin_p5 13 σ) fun σ1 =>
  bd2 (f_X2_reads_p5 xq1 σ1) fun vq2 σ3 =>
  bd2 (f_X4_parts_p5 xq1 σ3) fun vq4 σ5 =>
  some ((vq2 + (vq4 * 2)), σ5)
def f_X4_calls_p6 (xq1 : Int32) (σ : Sg) : Option (Int32 × Sg) :=
  Option.bind (f_X4_begin_p6 13 σ) fun σ1 =>
  bd2 (f_X2_reads_p6 xq1 σ1) fun vq2 σ3 =>
  bd2 (f_X4_parts_p6 xq1 σ3) fun vq4 σ5 =>
  some ((vq2 + (vq4 * 2)), σ5)
def f_X3_calls_p6 (xq1 : Int32) (σ : Sg) : Option (Int32 × Sg) :=
  Option.bind (f_X4_begin_p6 51 σ) fun σ1 =>
  bd2 (f_X4_calls_p6 xq1 σ1) fun vq2 σ3 =>
  bd2 (f_X2_reads_p6 (σ3 6 1) σ3) fun vq4 σ5 =>
  some ((vq2 - vq4), σ5)
def f_X4_calls_p7 (xq1 : Int32) (σ : Sg) : Option (Int32 × Sg) :=
  Option.bind (f_X4_begin_p7 13 σ) fun σ1 =>
  bd2 (f_X4_reads_p7 xq1 σ1) fun vq2 σ3 =>
  bd2 (f_X0_parts_p7 xq1 σ3) fun vq4 σ5 =>
  some ((vq2 + (vq4 * 2)), σ5)
def f_X4_calls_p8 (xq1 : Int32) (σ : Sg) : Option (Int32 × Sg) :=
  Option.bind (f_X4_begin_p8 13 σ) fun σ1 =>
  bd2 (f_X5_reads_p8 xq1 σ1) fun vq2 σ3 =>
  bd2 (f_X5_parts_p8 xq1 σ3) fun vq4 σ5 =>
  some ((vq2 + (vq4 * 2)), σ5)
def cv_drifts (i : Nat) (xq1 xq2 : Int32) (σ : Sg) : Int32 := match i with
  | 0 => f_X4_drifts_p3 xq1 xq2 σ
  | 1 => f_X7_drifts_p4 xq1 xq2 σ
  | 2 => f_X2_drifts_p5 xq1 xq2 σ
  | 3 => f_X3_drifts_p6 xq1 xq2 σ
  | 4 => f_X0_drifts_p7 xq1 xq2 σ
  | _ => f_X5_drifts_p8 xq1 xq2 σ
def cv_fee (i : Nat) (xq1 : Int32) (σ : Sg) : Int32 := match i with
  | 0 => f_X4_fee_p3 xq1 σ
  | 1 => f_X7_fee_p4 xq1 σ
  | 2 => f_X2_fee_p5 xq1 σ
  | 3 => f_X3_fee_p6 xq1 σ
  | 4 => f_X0_fee_p7 xq1 σ
  | _ => f_X5_fee_p8 xq1 σ
def cv_become (i : Nat) (xq1 xq2 : Int32) (σ : Sg) : Sg := match i with
  | 0 => f_X4_become_p3 xq1 xq2 σ
  | 1 => f_X4_become_p4 xq1 xq2 σ
  | 2 => f_X4_become_p5 xq1 xq2 σ
  | 3 => f_X4_become_p6 xq1 xq2 σ
  | 4 => f_X4_become_p7 xq1 xq2 σ
  | _ => f_X4_become_p8 xq1 xq2 σ
def cv_flies (i : Nat) (xq1 : Int32) (σ : Sg) : Option (Int32 × Sg) := match i with
  | 0 => f_X4_flies_p3 xq1 σ
  | 1 => f_X7_flies_p4 xq1 σ
  | 2 => f_X4_flies_p5 xq1 σ
  | 3 => f_X3_flies_p6 xq1 σ
  | 4 => f_X4_flies_p7 xq1 σ
  | _ => f_X4_flies_p8 xq1 σ
def cv_reads (i : Nat) (xq1 : Int32) (σ : Sg) : Option (Int32 × Sg) := match i with
  | 0 => f_X4_reads_p3 xq1 σ
  | 1 => f_X4_reads_p4 xq1 σ
  | 2 => f_X2_reads_p5 xq1 σ
  | 3 => f_X2_reads_p6 xq1 σ
  | 4 => f_X4_reads_p7 xq1 σ
  | _ => f_X5_reads_p8 xq1 σ
def cv_parts (i : Nat) (xq1 : Int32) (σ : Sg) : Option (Int32 × Sg) := match i with
  | 0 => f_X4_parts_p3 xq1 σ
  | 1 => f_X4_parts_p4 xq1 σ
  | 2 => f_X4_parts_p5 xq1 σ
  | 3 => f_X4_parts_p6 xq1 σ
  | 4 => f_X0_parts_p7 xq1 σ
  | _ => f_X5_parts_p8 xq1 σ
def cv_calls (i : Nat) (xq1 : Int32) (σ : Sg) : Option (Int32 × Sg) := match i with
  | 0 => f_X4_calls_p3 xq1 σ
  | 1 => f_X4_calls_p4 xq1 σ
  | 2 => f_X4_calls_p5 xq1 σ
  | 3 => f_X3_calls_p6 xq1 σ
  | 4 => f_X4_calls_p7 xq1 σ
  | _ => f_X4_calls_p8 xq1 σ
def f_X11_within (xq0 : Int32) (xq1 : Int32) (xq2 : Int32) (σ : Sg) : Bool :=
  if xq0 < xq1 then
    false
  else
    if xq2 < xq0 then
      false
    else
      true
def f_X11_withBit (xq0 : Int32) (xq1 : Int32) (xq2 : Int32) (σ : Sg) : Int32 :=
  if ¬ xq2 = 1 then
    (xq0 &&& ((shl32 1 xq1) ^^^ (-1)))
  else
    (xq0 ||| (shl32 1 xq1))
def f_X1_addKite (xq1 : Int32) (xq2 : Int32) (xq3 : Int32) (xq4 : Int32) (σ : Sg) : Option (Int32 × Sg) :=
  lt (σ 24 1) fun vq1 =>
  lt (upS σ 24 1 ((σ 24 1) + 1)) fun σ2 =>
  Option.bind (wr σ2 25 6 vq1 xq1) fun σ3 =>
  Option.bind (wr σ3 26 6 vq1 xq4) fun σ4 =>
  Option.bind (wr σ4 42 6 vq1 xq2) fun σ5 =>
  Option.bind (wr σ5 43 6 vq1 xq3) fun σ6 =>
  lt (upS σ6 41 2 (f_X11_withBit (σ6 41 2) vq1 1 σ6)) fun σ7 =>
  lt (upS σ7 41 3 (f_X11_withBit (σ7 41 3) vq1 0 σ7)) fun σ8 =>
  some (vq1, σ8)
def f_X11_kite (xq1 : Int32) (xq2 : Int32) (xq3 : Int32) (xq4 : Int32) (σ : Sg) : Option (Int32 × Sg) :=
  if (f_X11_within xq1 1 5 σ) = true then
    if (f_X11_within xq2 0 63 σ) = true then
      if (f_X11_within xq3 0 9 σ) = true then
        if (f_X11_within xq4 0 5 σ) = true then
          if (σ 24 1) < 6 then
            bd2 (f_X1_addKite xq1 xq2 xq3 xq4 σ) fun vq1 σ2 =>
            some (vq1, σ2)
          else
            some ((-2), σ)
        else
          some ((-1), σ)
      else
        some ((-1), σ)
    else
      some ((-1), σ)
  else
    some ((-1), σ)
def f_X11_isKite (xq1 : Int32) (σ : Sg) : Bool :=
  (f_X11_within xq1 0 ((σ 24 1) - 1) σ)
def f_X11_isIn (xq0 : Int32) (xq1 : Int32) (σ : Sg) : Bool :=
  if ¬ ((shr32 xq0 xq1) &&& 1) = 1 then
    false
  else
    true
def f_X1_windOf (xq1 : Int32) (σ : Sg) : Option Int32 :=
  if (f_X11_within xq1 0 15 σ) = true then
    Option.bind (rd σ 27 16 xq1) fun vq1 =>
    some vq1
  else
    some 0
def f_X1_driftsNow (xq1 : Int32) (σ : Sg) : Option Int32 :=
  lt (σ 41 0) fun vq1 =>
  if 16 ≤ vq1 then
    some 0
  else
    Option.bind (rd σ 25 6 xq1) fun vq2 =>
    if vq2 < 0 ∨ 6 ≤ vq2.toNatClampNeg then none else
    Option.bind (f_X1_windOf vq1 σ) fun vq4 =>
    some (cv_drifts vq2.toNatClampNeg (vq4 / 4) vq1 σ)
def f_X1_feeOf (xq1 : Int32) (σ : Sg) : Option Int32 :=
  Option.bind (rd σ 25 6 xq1) fun vq1 =>
  if vq1 < 0 ∨ 6 ≤ vq1.toNatClampNeg then none else
  some (cv_fee vq1.toNatClampNeg xq1 σ)
def f_X11_far (xq0 : Int32) (xq1 : Int32) (σ : Sg) : Int32 :=
  ((abs32 ((xq0 &&& 7) - (xq1 &&& 7))) + (abs32 ((shr32 xq0 3) - (shr32 xq1 3))))
def f_X1_farFromFarm (nq1 : Nat) (xq2 : Int32) (σ : Sg) : Option Int32 :=
  Option.bind (rd σ (nq1 + 1) 6 xq2) fun vq1 =>
  Option.bind (rd σ 26 6 xq2) fun vq2 =>
  Option.bind (rd σ 28 6 vq2) fun vq3 =>
  some (f_X11_far vq1 vq3 σ)
def f_X1_layFacts (nq1 : Nat) (xq2 : Int32) (xq3 : Int32) (σ : Sg) : Option Sg :=
  lt (upS σ 40 0 (σ nq1 0)) fun σ1 =>
  Option.bind (rd σ1 (nq1 + 2) 6 xq2) fun vq2 =>
  lt (upS σ1 40 1 vq2) fun σ3 =>
  lt (upS σ3 40 2 xq3) fun σ4 =>
  Option.bind (rd σ4 26 6 xq2) fun vq5 =>
  lt (upS σ4 40 3 vq5) fun σ6 =>
  lt (upS σ6 40 4 xq2) fun σ7 =>
  some σ7
def f_X11_isOrUnder_b19 (xq0 : Int32) (xq1 : Int32) (σ : Sg) : Bool :=
  if ¬ xq0 = 5 then
    false
  else
    if ¬ xq1 = 4 then
      false
    else
      true
def f_X11_isOrUnder (xq0 : Int32) (xq1 : Int32) (σ : Sg) : Bool :=
  if xq1 = xq0 then
    true
  else
    if xq1 = 0 then
      true
    else
      if ¬ xq0 = 3 then
        f_X11_isOrUnder_b19 xq0 xq1 σ
      else
        if xq1 = 2 then
          true
        else
          f_X11_isOrUnder_b19 xq0 xq1 σ
def f_X9_compares_b58 (xq1 : Int32) (xq4 : Int32) (tq0 : Int32) (σ : Sg) : Option Bool :=
  if ¬ xq1 = 23 then
    if ¬ xq1 = 24 then
      if xq4 ≤ tq0 then
        some false
      else
        some true
    else
      if ¬ xq4 = tq0 then
        some false
      else
        some true
  else
    if tq0 ≤ xq4 then
      some false
    else
      some true
def f_X9_compares_b28 (xq1 : Int32) (xq3 : Int32) (tq0 : Int32) (σ : Sg) : Option Bool :=
  if xq3 < 10000 then
    f_X9_compares_b58 xq1 tq0 xq3 σ
  else
    if 10005 ≤ xq3 then
      f_X9_compares_b58 xq1 tq0 xq3 σ
    else
      Option.bind (rd σ 40 5 (xq3 - 10000)) fun vq2 =>
      f_X9_compares_b58 xq1 tq0 vq2 σ
def f_X9_compares (xq1 : Int32) (xq2 : Int32) (xq3 : Int32) (σ : Sg) : Option Bool :=
  if xq2 < 10000 then
    f_X9_compares_b28 xq1 xq3 xq2 σ
  else
    if 10005 ≤ xq2 then
      f_X9_compares_b28 xq1 xq3 xq2 σ
    else
      Option.bind (rd σ 40 5 (xq2 - 10000)) fun vq1 =>
      f_X9_compares_b28 xq1 xq3 vq1 σ
def f_X9_isSo_b9 (kq9 : Int32 → Int32 → Option Bool) (xq1 : Int32) (σ : Sg) (xq2 : Int32) (xq3 : Int32) : Option Bool :=
  Option.bind (rd σ 38 8 xq1) fun vq2 =>
  if vq2 ≤ xq3 then
    if ¬ (xq2 &&& 1) = 1 then
      some false
    else
      some true
  else
    Option.bind (rd σ 39 200 xq3) fun vq3 =>
    if ¬ vq3 = 17 then
      if ¬ vq3 = 16 then
        if ¬ vq3 = 15 then
          Option.bind (rd σ 38 8 xq1) fun vq4 =>
          if vq4 ≤ (xq3 + 2) then
            kq9 xq2 (xq3 + 1)
          else
            Option.bind (rd σ 39 200 (xq3 + 1)) fun vq5 =>
            Option.bind (rd σ 39 200 (xq3 + 2)) fun vq6 =>
            Option.bind (f_X9_compares vq3 vq5 vq6 σ) fun vq7 =>
            if vq7 = true then
              lt ((shl32 xq2 1) ||| 1) fun vq9 =>
              kq9 vq9 ((xq3 + 2) + 1)
            else
              lt ((shl32 xq2 1) ||| 0) fun vq8 =>
              kq9 vq8 ((xq3 + 2) + 1)
        else
          lt ((ushr32 xq2 1) ||| (xq2 &&& 1)) fun vq10 =>
          kq9 vq10 (xq3 + 1)
      else
        if ¬ (xq2 &&& 1) = 1 then
          lt ((ushr32 xq2 1) &&& (-2)) fun vq11 =>
          kq9 vq11 (xq3 + 1)
        else
          lt (ushr32 xq2 1) fun vq12 =>
          kq9 vq12 (xq3 + 1)
    else
      lt (xq2 ^^^ 1) fun vq13 =>
      kq9 vq13 (xq3 + 1)
def f_X9_isSo_l9 (xq1 : Int32) (σ : Sg) : Nat → Int32 → Int32 → Option Bool := fuel (fun _ _ => none) (fun kq9 => f_X9_isSo_b9 kq9 xq1 σ)
def f_X9_isSo (xq1 : Int32) (σ : Sg) : Option Bool :=
  Option.bind (rd σ 37 8 xq1) fun vq1 =>
  f_X9_isSo_l9 xq1 σ 400 1 vq1
def f_X9_doFor_b2 (kq2 : Int32 → Option Int32) (xq1 : Int32) (σ : Sg) (xq2 : Int32) : Option Int32 :=
  if (σ 34 0) ≤ xq2 then
    some 0
  else
    Option.bind (rd σ 35 8 xq2) fun vq1 =>
    if (f_X11_isOrUnder xq1 vq1 σ) = true then
      Option.bind (f_X9_isSo xq2 σ) fun vq2 =>
      if vq2 = true then
        Option.bind (rd σ 36 8 xq2) fun vq3 =>
        some vq3
      else
        kq2 (xq2 + 1)
    else
      kq2 (xq2 + 1)
def f_X9_doFor_l2 (xq1 : Int32) (σ : Sg) : Nat → Int32 → Option Int32 := fuel (fun _ => none) (fun kq2 => f_X9_doFor_b2 kq2 xq1 σ)
def f_X9_doFor (xq1 : Int32) (σ : Sg) : Option Int32 :=
  f_X9_doFor_l2 xq1 σ 400 0
def f_X1_willOf (nq1 : Nat) (xq2 : Int32) (σ : Sg) : Option (Int32 × Sg) :=
  Option.bind (f_X1_farFromFarm nq1 xq2 σ) fun vq1 =>
  Option.bind (f_X1_layFacts nq1 xq2 vq1 σ) fun σ2 =>
  Option.bind (rd σ2 25 6 xq2) fun vq3 =>
  Option.bind (f_X9_doFor vq3 σ2) fun vq4 =>
  some (vq4, σ2)
def f_X11_kiteOf (xq1 : Int32) (xq2 : Int32) (σ : Sg) : Option (Int32 × Sg) :=
  if (f_X11_isKite xq1 σ) = true then
    if xq2 = 0 then
      Option.bind (rd σ 25 6 xq1) fun vq1 =>
      some (vq1, σ)
    else
      if xq2 = 1 then
        Option.bind (rd σ 42 6 xq1) fun vq2 =>
        some (vq2, σ)
      else
        if xq2 = 2 then
          Option.bind (rd σ 43 6 xq1) fun vq3 =>
          some (vq3, σ)
        else
          if xq2 = 3 then
            Option.bind (rd σ 26 6 xq1) fun vq4 =>
            some (vq4, σ)
          else
            if xq2 = 4 then
              if (f_X11_isIn (σ 41 2) xq1 σ) = true then
                some (1, σ)
              else
                some (0, σ)
            else
              if xq2 = 5 then
                if (f_X11_isIn (σ 41 3) xq1 σ) = true then
                  some (1, σ)
                else
                  some (0, σ)
              else
                if xq2 = 6 then
                  Option.bind (f_X1_driftsNow xq1 σ) fun vq5 =>
                  some (vq5, σ)
                else
                  if xq2 = 7 then
                    Option.bind (f_X1_feeOf xq1 σ) fun vq6 =>
                    some (vq6, σ)
                  else
                    if xq2 = 8 then
                      bd2 (f_X1_willOf 41 xq1 σ) fun vq7 σ8 =>
                      some (vq7, σ8)
                    else
                      if xq2 = 9 then
                        Option.bind (f_X1_farFromFarm 41 xq1 σ) fun vq9 =>
                        some (vq9, σ)
                      else
                        some ((-1), σ)
  else
    some ((-1), σ)
def f_X11_mostOf (xq0 : Int32) (σ : Sg) : Int32 :=
  if xq0 = 1 then
    63
  else
    if xq0 = 2 then
      9
    else
      if xq0 = 3 then
        5
      else
        if xq0 = 4 then
          1
        else
          if xq0 = 5 then
            1
          else
            (-1)
def f_X11_change (xq1 : Int32) (xq2 : Int32) (xq3 : Int32) (σ : Sg) : Option (Int32 × Sg) :=
  if (f_X11_isKite xq1 σ) = true then
    if (f_X11_within xq3 0 (f_X11_mostOf xq2 σ) σ) = true then
      bd2 (f_X11_kiteOf xq1 xq2 σ) fun vq1 σ2 =>
      if xq2 = 1 then
        Option.bind (wr σ2 42 6 xq1 xq3) fun σ3 =>
        some (vq1, σ3)
      else
        if xq2 = 2 then
          Option.bind (wr σ2 43 6 xq1 xq3) fun σ4 =>
          some (vq1, σ4)
        else
          if xq2 = 3 then
            Option.bind (wr σ2 26 6 xq1 xq3) fun σ5 =>
            some (vq1, σ5)
          else
            if xq2 = 4 then
              lt (upS σ2 41 2 (f_X11_withBit (σ2 41 2) xq1 xq3 σ2)) fun σ6 =>
              some (vq1, σ6)
            else
              lt (upS σ2 41 3 (f_X11_withBit (σ2 41 3) xq1 xq3 σ2)) fun σ7 =>
              some (vq1, σ7)
    else
      some ((-1), σ)
  else
    some ((-1), σ)
def f_X11_remake (xq1 : Int32) (xq2 : Int32) (σ : Sg) : Option (Int32 × Sg) :=
  if (f_X11_isKite xq1 σ) = true then
    if (f_X11_within xq2 1 5 σ) = true then
      Option.bind (rd σ 25 6 xq1) fun vq1 =>
      Option.bind (wr σ 25 6 xq1 xq2) fun σ2 =>
      some (vq1, σ2)
    else
      some ((-1), σ)
  else
    some ((-1), σ)
def f_X11_wind (xq1 : Int32) (xq2 : Int32) (σ : Sg) : Option (Int32 × Sg) :=
  if (f_X11_within xq1 0 15 σ) = true then
    if (f_X11_within xq2 0 15 σ) = true then
      Option.bind (rd σ 27 16 xq1) fun vq1 =>
      Option.bind (wr σ 27 16 xq1 xq2) fun σ2 =>
      some (vq1, σ2)
    else
      some ((-1), σ)
  else
    some ((-1), σ)
def f_X11_farmOf (xq1 : Int32) (xq2 : Int32) (σ : Sg) : Option Int32 :=
  if (f_X11_within xq1 0 5 σ) = true then
    if (f_X11_within xq2 0 1 σ) = true then
      if ¬ xq2 = 0 then
        Option.bind (rd σ 29 6 xq1) fun vq1 =>
        some vq1
      else
        Option.bind (rd σ 28 6 xq1) fun vq2 =>
        some vq2
    else
      some (-1)
  else
    some (-1)
def f_X11_farm_b27 (xq1 : Int32) (xq2 : Int32) (xq3 : Int32) (xq4 : Int32) (tq0 : Int32) (tq1 : Int32) (tq2 : Int32) (σ : Sg) : Option (Int32 × Sg) :=
  if (f_X11_within tq0 tq1 tq2 σ) = true then
    if ¬ xq2 = 0 then
      Option.bind (wr σ 29 6 xq1 xq3) fun σ2 =>
      some (xq4, σ2)
    else
      Option.bind (wr σ 28 6 xq1 xq3) fun σ3 =>
      some (xq4, σ3)
  else
    some ((-1), σ)
def f_X11_farm (xq1 : Int32) (xq2 : Int32) (xq3 : Int32) (σ : Sg) : Option (Int32 × Sg) :=
  Option.bind (f_X11_farmOf xq1 xq2 σ) fun vq1 =>
  if vq1 = (-1) then
    some ((-1), σ)
  else
    if ¬ xq2 = 0 then
      f_X11_farm_b27 xq1 xq2 xq3 vq1 xq3 0 14 σ
    else
      f_X11_farm_b27 xq1 xq2 xq3 vq1 xq3 0 63 σ
def f_X11_ends (xq1 : Int32) (σ : Sg) : Int32 × Sg :=
  if (f_X11_within xq1 1 16 σ) = true then
    if (σ 41 0) ≤ xq1 then
      lt (σ 24 2) fun vq1 =>
      lt (upS σ 24 2 xq1) fun σ2 =>
      (vq1, σ2)
    else
      ((-4), σ)
  else
    ((-1), σ)
def f_X1_allKites (σ : Sg) : Int32 :=
  ((shl32 1 (σ 24 1)) - 1)
def f_X11_anew (σ : Sg) : Int32 × Sg :=
  lt (σ 41 0) fun vq1 =>
  lt (upS σ 41 0 0) fun σ2 =>
  lt (upS σ2 41 1 0) fun σ3 =>
  lt (upS σ3 41 2 (f_X1_allKites σ3)) fun σ4 =>
  lt (upS σ4 41 3 0) fun σ5 =>
  (vq1, σ5)
def f_X1_isOver (nq1 : Nat) (σ : Sg) : Bool :=
  if (σ nq1 0) < (σ 24 2) then
    false
  else
    true
def f_X11_state (xq1 : Int32) (σ : Sg) : Option Int32 :=
  if xq1 = 0 then
    some (σ 41 0)
  else
    if xq1 = 1 then
      some (σ 24 2)
    else
      if xq1 = 2 then
        some (σ 41 1)
      else
        if xq1 = 3 then
          if (f_X1_isOver 41 σ) = true then
            some 1
          else
            some 0
        else
          if xq1 = 4 then
            some (σ 41 2)
          else
            if xq1 = 5 then
              some (σ 41 3)
            else
              if xq1 = 6 then
                Option.bind (f_X1_windOf (σ 41 0) σ) fun vq1 =>
                some vq1
              else
                some (-1)
def f_X8_take_b3 (kq3 : Int32 → Sg → Option (Int32 × Sg)) (xq1 : Int64) (xq3 : Int32) (xq4 : Int32) (σ : Sg) : Option (Int32 × Sg) :=
  if xq3 ≤ xq4 then
    some ((σ 67 0), σ)
  else
    if 200 ≤ (σ 67 0) then
      some ((σ 67 0), σ)
    else
      Option.bind (wr σ 68 200 (σ 67 0) ((((ushr64 xq1 (8 * xq4)).toInt32).toInt8.toInt32).toInt8.toInt32)) fun σ1 =>
      lt (upS σ1 67 0 ((σ1 67 0) + 1)) fun σ2 =>
      kq3 (xq4 + 1) σ2
def f_X8_take_l3 (xq1 : Int64) (xq3 : Int32) : Nat → Int32 → Sg → Option (Int32 × Sg) := fuel (fun _ _ => none) (fun kq3 => f_X8_take_b3 kq3 xq1 xq3)
def f_X8_take (xq1 : Int64) (xq3 : Int32) (σ : Sg) : Option (Int32 × Sg) :=
  f_X8_take_l3 xq1 xq3 400 0 σ
def f_X11_feed (xq1 : Int64) (xq3 : Int32) (σ : Sg) : Option (Int32 × Sg) :=
  if (f_X11_within xq3 1 8 σ) = true then
    if ((σ 67 0) + xq3) ≤ 200 then
      bd2 (f_X8_take xq1 xq3 σ) fun vq1 σ2 =>
      some (vq1, σ2)
    else
      some ((-2), σ)
  else
    some ((-1), σ)
def f_X8_isLetter (xq1 : Int32) (σ : Sg) : Option Bool :=
  Option.bind (rd σ 68 200 xq1) fun vq1 =>
  some (f_X11_within vq1 97 122 σ)
def f_X8_isDigit (xq1 : Int32) (σ : Sg) : Option Bool :=
  Option.bind (rd σ 68 200 xq1) fun vq1 =>
  some (f_X11_within vq1 48 57 σ)
def f_X8_isOneRow_b16 (xq1 : Int32) (xq2 : Int32) (σ : Sg) : Option Bool :=
  Option.bind (f_X8_isDigit xq1 σ) fun vq3 =>
  if vq3 = true then
    Option.bind (f_X8_isDigit xq2 σ) fun vq4 =>
    if vq4 = true then
      some true
    else
      some false
  else
    some false
def f_X8_isOneRow (xq1 : Int32) (xq2 : Int32) (σ : Sg) : Option Bool :=
  Option.bind (f_X8_isLetter xq1 σ) fun vq1 =>
  if vq1 = true then
    Option.bind (f_X8_isLetter xq2 σ) fun vq2 =>
    if vq2 = true then
      some true
    else
      f_X8_isOneRow_b16 xq1 xq2 σ
  else
    f_X8_isOneRow_b16 xq1 xq2 σ
def f_X8_endOfRow_b4 (kq4 : Int32 → Option Int32) (σ : Sg) (xq2 : Int32) : Option Int32 :=
  if (σ 67 0) ≤ xq2 then
    some (σ 67 0)
  else
    Option.bind (f_X8_isOneRow (xq2 - 1) xq2 σ) fun vq2 =>
    if vq2 = true then
      kq4 (xq2 + 1)
    else
      some xq2
def f_X8_endOfRow_l4 (σ : Sg) : Nat → Int32 → Option Int32 := fuel (fun _ => none) (fun kq4 => f_X8_endOfRow_b4 kq4 σ)
def f_X8_endOfRow (xq1 : Int32) (σ : Sg) : Option Int32 :=
  lt (xq1 + 1) fun vq1 =>
  f_X8_endOfRow_l4 σ 400 vq1
def f_X8_numberOf_b15 (kq15 : Int32 → Int32 → Option Int32) (xq2 : Int32) (σ : Sg) (xq3 : Int32) (xq4 : Int32) : Option Int32 :=
  if xq2 ≤ xq4 then
    some (100 + xq3)
  else
    Option.bind (rd σ 68 200 xq4) fun vq1 =>
    lt (((xq3 * 10) + vq1) - 48) fun vq2 =>
    kq15 vq2 (xq4 + 1)
def f_X8_numberOf_l15 (xq2 : Int32) (σ : Sg) : Nat → Int32 → Int32 → Option Int32 := fuel (fun _ _ => none) (fun kq15 => f_X8_numberOf_b15 kq15 xq2 σ)
def f_X8_numberOf (xq1 : Int32) (xq2 : Int32) (σ : Sg) : Option Int32 :=
  if (xq2 - xq1) ≤ 4 then
    f_X8_numberOf_l15 xq2 σ 400 0 xq1
  else
    some 26
def f_X8_wordOf_b64 (kq11 : Int32 → Int32 → Int32 → Int32 → Option Int32) (xq1 : Int32) (xq2 : Int32) (xq3 : Int32) (xq4 : Int32) (xq6 : Int32) (σ : Sg) : Option Int32 :=
  kq11 xq3 (xq4 + 1) 0 (xq6 + 1)
def f_X8_wordOf_b86 (kq11 : Int32 → Int32 → Int32 → Int32 → Option Int32) (xq1 : Int32) (xq2 : Int32) (xq3 : Int32) (xq6 : Int32) (σ : Sg) : Option Int32 :=
  kq11 (xq3 + 1) xq1 1 (xq6 + 1)
def f_X8_wordOf_b11 (kq11 : Int32 → Int32 → Int32 → Int32 → Option Int32) (xq1 : Int32) (xq2 : Int32) (σ : Sg) (xq3 : Int32) (xq4 : Int32) (xq5 : Int32) (xq6 : Int32) : Option Int32 :=
  if 86 ≤ xq6 then
    some 26
  else
    Option.bind (chW xq6) fun vq1 =>
    if vq1 = 32 then
      if xq5 = 0 then
        f_X8_wordOf_b86 kq11 xq1 xq2 xq3 xq6 σ
      else
        if ¬ xq4 = xq2 then
          f_X8_wordOf_b86 kq11 xq1 xq2 xq3 xq6 σ
        else
          some xq3
    else
      if xq5 = 0 then
        f_X8_wordOf_b64 kq11 xq1 xq2 xq3 xq4 xq6 σ
      else
        if xq2 ≤ xq4 then
          f_X8_wordOf_b64 kq11 xq1 xq2 xq3 xq4 xq6 σ
        else
          Option.bind (rd σ 68 200 xq4) fun vq2 =>
          if ¬ vq2 = vq1 then
            f_X8_wordOf_b64 kq11 xq1 xq2 xq3 xq4 xq6 σ
          else
            kq11 xq3 (xq4 + 1) 1 (xq6 + 1)
def f_X8_wordOf_l11 (xq1 : Int32) (xq2 : Int32) (σ : Sg) : Nat → Int32 → Int32 → Int32 → Int32 → Option Int32 := fuel (fun _ _ _ _ => none) (fun kq11 => f_X8_wordOf_b11 kq11 xq1 xq2 σ)
def f_X8_wordOf (xq1 : Int32) (xq2 : Int32) (σ : Sg) : Option Int32 :=
  f_X8_wordOf_l11 xq1 xq2 σ 400 0 xq1 1 0
def f_X8_tokenOf (xq1 : Int32) (xq2 : Int32) (σ : Sg) : Option Int32 :=
  Option.bind (f_X8_isLetter xq1 σ) fun vq1 =>
  if vq1 = true then
    Option.bind (f_X8_wordOf xq1 xq2 σ) fun vq5 =>
    some vq5
  else
    Option.bind (f_X8_isDigit xq1 σ) fun vq2 =>
    if vq2 = true then
      Option.bind (f_X8_numberOf xq1 xq2 σ) fun vq4 =>
      some vq4
    else
      Option.bind (rd σ 68 200 xq1) fun vq3 =>
      if vq3 = 40 then
        some 21
      else
        if vq3 = 41 then
          some 22
        else
          if vq3 = 59 then
            some 20
          else
            if vq3 = 60 then
              some 23
            else
              if vq3 = 61 then
                some 24
              else
                if vq3 = 62 then
                  some 25
                else
                  some 26
def f_X8_readTokens_b41 (kq7 : Int32 → Sg → Option Sg) (xq1 : Int32) (σ : Sg) : Option Sg :=
  Option.bind (f_X8_endOfRow xq1 σ) fun vq6 =>
  Option.bind (f_X8_tokenOf xq1 vq6 σ) fun vq7 =>
  Option.bind (wr σ 69 201 (σ 67 4) vq7) fun σ8 =>
  Option.bind (wr σ8 70 201 (σ8 67 4) xq1) fun σ9 =>
  lt (upS σ9 67 4 ((σ9 67 4) + 1)) fun σ10 =>
  kq7 (xq1 + 1) σ10
def f_X8_readTokens_b7 (kq7 : Int32 → Sg → Option Sg) (xq1 : Int32) (σ : Sg) : Option Sg :=
  if (σ 67 0) ≤ xq1 then
    Option.bind (wr σ 69 201 (σ 67 4) 27) fun σ2 =>
    Option.bind (wr σ2 70 201 (σ2 67 4) (σ2 67 0)) fun σ3 =>
    some σ3
  else
    Option.bind (rd σ 68 200 xq1) fun vq4 =>
    if vq4 = 32 then
      kq7 (xq1 + 1) σ
    else
      if xq1 ≤ 0 then
        f_X8_readTokens_b41 kq7 xq1 σ
      else
        Option.bind (f_X8_isOneRow (xq1 - 1) xq1 σ) fun vq5 =>
        if vq5 = true then
          kq7 (xq1 + 1) σ
        else
          f_X8_readTokens_b41 kq7 xq1 σ
def f_X8_readTokens_l7 : Nat → Int32 → Sg → Option Sg := fuel (fun _ _ => none) (fun kq7 => f_X8_readTokens_b7 kq7)
def f_X8_readTokens (σ : Sg) : Option Sg :=
  lt (upS σ 67 4 0) fun σ1 =>
  f_X8_readTokens_l7 400 0 σ1
def f_X9_clear (σ : Sg) : Sg :=
  lt (upS σ 71 0 0) fun σ1 =>
  lt (upS σ1 71 1 0) fun σ2 =>
  σ2
def f_X8_isStill (σ : Sg) : Bool :=
  if ¬ (σ 67 6) = (-1) then
    false
  else
    true
def f_X8_token (σ : Sg) : Option Int32 :=
  Option.bind (rd σ 69 201 (σ 67 5)) fun vq1 =>
  some vq1
def f_X8_pass (xq1 : Int32) (σ : Sg) : Option Sg :=
  if (σ 67 6) = (-1) then
    if ¬ xq1 = 0 then
      if (σ 67 4) ≤ (σ 67 5) then
        some σ
      else
        lt (upS σ 67 5 ((σ 67 5) + 1)) fun σ1 =>
        some σ1
    else
      Option.bind (rd σ 70 201 (σ 67 5)) fun vq2 =>
      lt (upS σ 67 6 vq2) fun σ3 =>
      some σ3
  else
    some σ
def f_X8_isValue (xq0 : Int32) (σ : Sg) : Bool :=
  if 100 ≤ xq0 then
    true
  else
    if xq0 < 9 then
      false
    else
      if 13 < xq0 then
        false
      else
        true
def f_X9_addCode (xq1 : Int32) (σ : Sg) : Option Sg :=
  if 200 ≤ (σ 71 1) then
    some σ
  else
    Option.bind (wr σ 76 200 (σ 71 1) xq1) fun σ1 =>
    lt (upS σ1 71 1 ((σ1 71 1) + 1)) fun σ2 =>
    some σ2
def f_X8_operandOf (xq0 : Int32) (σ : Sg) : Int32 :=
  if xq0 < 100 then
    ((10000 + xq0) - 9)
  else
    (xq0 - 100)
def f_X8_readComparison (σ : Sg) : Option Sg :=
  Option.bind (f_X8_token σ) fun vq1 =>
  Option.bind (f_X8_pass (b2i (f_X8_isValue vq1 σ)) σ) fun σ2 =>
  Option.bind (f_X8_token σ2) fun vq3 =>
  Option.bind (f_X8_pass (b2i (f_X11_within vq3 23 25 σ2)) σ2) fun σ4 =>
  Option.bind (f_X8_token σ4) fun vq5 =>
  Option.bind (f_X8_pass (b2i (f_X8_isValue vq5 σ4)) σ4) fun σ6 =>
  Option.bind (f_X9_addCode vq3 σ6) fun σ7 =>
  Option.bind (f_X9_addCode (f_X8_operandOf vq1 σ7) σ7) fun σ8 =>
  Option.bind (f_X9_addCode (f_X8_operandOf vq5 σ8) σ8) fun σ9 =>
  some σ9
def f_X8_readOne_b117 (rec : Int32 → Sg → Option Sg) (xq2 : Int32) (σ : Sg) : Option Sg :=
  if xq2 = 0 then
    some σ
  else
    Option.bind (f_X9_addCode 17 σ) fun σ6 =>
    some σ6
def f_X8_readOne_b92 (rec : Int32 → Sg → Option Sg) (xq2 : Int32) (σ : Sg) : Option Sg :=
  Option.bind (f_X8_token σ) fun vq9 =>
  if ¬ vq9 = 22 then
    Option.bind (f_X8_pass 0 σ) fun σ10 =>
    f_X8_readOne_b117 rec xq2 σ10
  else
    Option.bind (f_X8_pass 1 σ) fun σ11 =>
    f_X8_readOne_b117 rec xq2 σ11
def f_X8_readOne_b75 (rec : Int32 → Sg → Option Sg) (xq1 : Int32) (xq2 : Int32) (tq1 : Int32) (σ : Sg) : Option Sg :=
  Option.bind (f_X8_pass tq1 σ) fun σ7 =>
  if (f_X8_isStill σ7) = true then
    Option.bind (rec (xq1 + 1) σ7) fun σ8 =>
    f_X8_readOne_b92 rec xq2 σ8
  else
    f_X8_readOne_b92 rec xq2 σ7
def f_X8_readOne_b48 (rec : Int32 → Sg → Option Sg) (xq1 : Int32) (xq2 : Int32) (σ : Sg) : Option Sg :=
  if (f_X8_isStill σ) = true then
    Option.bind (f_X8_token σ) fun vq4 =>
    if ¬ vq4 = 21 then
      Option.bind (f_X8_readComparison σ) fun σ5 =>
      f_X8_readOne_b117 rec xq2 σ5
    else
      if 3 ≤ xq1 then
        f_X8_readOne_b75 rec xq1 xq2 0 σ
      else
        f_X8_readOne_b75 rec xq1 xq2 1 σ
  else
    Option.bind (f_X8_readComparison σ) fun σ3 =>
    f_X8_readOne_b117 rec xq2 σ3
def f_X8_readOne_b4 (rec : Int32 → Sg → Option Sg) (kq4 : Int32 → Int32 → Sg → Option Sg) (xq1 : Int32) (xq2 : Int32) (xq3 : Int32) (σ : Sg) : Option Sg :=
  if 200 ≤ xq3 then
    f_X8_readOne_b48 rec xq1 xq2 σ
  else
    if (f_X8_isStill σ) = true then
      Option.bind (f_X8_token σ) fun vq1 =>
      if ¬ vq1 = 17 then
        f_X8_readOne_b48 rec xq1 xq2 σ
      else
        Option.bind (f_X8_pass 1 σ) fun σ2 =>
        if ¬ xq2 = 0 then
          kq4 0 (xq3 + 1) σ2
        else
          kq4 1 (xq3 + 1) σ2
    else
      f_X8_readOne_b48 rec xq1 xq2 σ
def f_X8_readOne_l4 (rec : Int32 → Sg → Option Sg) (xq1 : Int32) : Nat → Int32 → Int32 → Sg → Option Sg := fuel (fun _ _ _ => none) (fun kq4 => f_X8_readOne_b4 rec kq4 xq1)
def f_X8_readOne (rec : Int32 → Sg → Option Sg) (xq1 : Int32) (σ : Sg) : Option Sg :=
  f_X8_readOne_l4 rec xq1 400 0 0 σ
def f_X8_readAll_b7 (rec : Int32 → Sg → Option Sg) (kq7 : Int32 → Sg → Option Sg) (xq1 : Int32) (xq2 : Int32) (σ : Sg) : Option Sg :=
  if 200 ≤ xq2 then
    some σ
  else
    if (f_X8_isStill σ) = true then
      Option.bind (f_X8_token σ) fun vq2 =>
      if ¬ vq2 = 16 then
        some σ
      else
        Option.bind (f_X8_pass 1 σ) fun σ3 =>
        Option.bind (f_X8_readOne rec xq1 σ3) fun σ4 =>
        Option.bind (f_X9_addCode 16 σ4) fun σ5 =>
        kq7 (xq2 + 1) σ5
    else
      some σ
def f_X8_readAll_l7 (rec : Int32 → Sg → Option Sg) (xq1 : Int32) : Nat → Int32 → Sg → Option Sg := fuel (fun _ _ => none) (fun kq7 => f_X8_readAll_b7 rec kq7 xq1)
def f_X8_readAll (rec : Int32 → Sg → Option Sg) (xq1 : Int32) (σ : Sg) : Option Sg :=
  Option.bind (f_X8_readOne rec xq1 σ) fun σ1 =>
  f_X8_readAll_l7 rec xq1 400 0 σ1
def f_X8_readAny_b7 (rec : Int32 → Sg → Option Sg) (kq7 : Int32 → Sg → Option Sg) (xq1 : Int32) (xq2 : Int32) (σ : Sg) : Option Sg :=
  if 200 ≤ xq2 then
    some σ
  else
    if (f_X8_isStill σ) = true then
      Option.bind (f_X8_token σ) fun vq2 =>
      if ¬ vq2 = 15 then
        some σ
      else
        Option.bind (f_X8_pass 1 σ) fun σ3 =>
        Option.bind (f_X8_readAll rec xq1 σ3) fun σ4 =>
        Option.bind (f_X9_addCode 15 σ4) fun σ5 =>
        kq7 (xq2 + 1) σ5
    else
      some σ
def f_X8_readAny_l7 (rec : Int32 → Sg → Option Sg) (xq1 : Int32) : Nat → Int32 → Sg → Option Sg := fuel (fun _ _ => none) (fun kq7 => f_X8_readAny_b7 rec kq7 xq1)
def f_X8_readAny_s (rec : Int32 → Sg → Option Sg) (xq1 : Int32) (σ : Sg) : Option Sg :=
  Option.bind (f_X8_readAll rec xq1 σ) fun σ1 =>
  f_X8_readAny_l7 rec xq1 400 0 σ1
def f_X8_readAny : Nat → Int32 → Sg → Option Sg := fuel (fun _ _ => none) f_X8_readAny_s
def f_X9_addRule (xq1 : Int32) (xq2 : Int32) (xq3 : Int32) (σ : Sg) : Option Sg :=
  if 8 ≤ (σ 71 0) then
    some σ
  else
    Option.bind (wr σ 72 8 (σ 71 0) xq1) fun σ1 =>
    Option.bind (wr σ1 73 8 (σ1 71 0) xq2) fun σ2 =>
    Option.bind (wr σ2 74 8 (σ2 71 0) xq3) fun σ3 =>
    Option.bind (wr σ3 75 8 (σ3 71 0) (σ3 71 1)) fun σ4 =>
    lt (upS σ4 71 0 ((σ4 71 0) + 1)) fun σ5 =>
    some σ5
def f_X8_readRule_b102 (xq1 : Int32) (xq2 : Int32) (xq3 : Int32) (tq1 : Int32) (σ : Sg) : Option Sg :=
  Option.bind (f_X8_pass tq1 σ) fun σ11 =>
  Option.bind (f_X9_addRule xq1 xq3 xq2 σ11) fun σ12 =>
  some σ12
def f_X8_readRule_b69 (xq1 : Int32) (xq2 : Int32) (σ : Sg) : Option Sg :=
  Option.bind (f_X8_token σ) fun vq7 =>
  lt (vq7 - 6) fun vq8 =>
  Option.bind (f_X8_pass (b2i (f_X11_within vq8 0 2 σ)) σ) fun σ9 =>
  Option.bind (f_X8_token σ9) fun vq10 =>
  if ¬ vq10 = 20 then
    f_X8_readRule_b102 xq1 xq2 vq8 0 σ9
  else
    f_X8_readRule_b102 xq1 xq2 vq8 1 σ9
def f_X8_readRule_b40 (xq1 : Int32) (xq2 : Int32) (tq1 : Int32) (σ : Sg) : Option Sg :=
  Option.bind (f_X8_pass tq1 σ) fun σ3 =>
  if (f_X8_isStill σ3) = true then
    Option.bind (f_X8_token σ3) fun vq4 =>
    if ¬ vq4 = 14 then
      f_X8_readRule_b69 xq1 xq2 σ3
    else
      Option.bind (f_X8_pass 1 σ3) fun σ5 =>
      Option.bind (f_X8_readAny 6 0 σ5) fun σ6 =>
      f_X8_readRule_b69 xq1 xq2 σ6
  else
    f_X8_readRule_b69 xq1 xq2 σ3
def f_X8_readRule (σ : Sg) : Option Sg :=
  Option.bind (f_X8_token σ) fun vq1 =>
  lt (σ 71 1) fun vq2 =>
  if (f_X11_within vq1 0 5 σ) = true then
    if 8 ≤ (σ 71 0) then
      f_X8_readRule_b40 vq1 vq2 0 σ
    else
      f_X8_readRule_b40 vq1 vq2 1 σ
  else
    f_X8_readRule_b40 vq1 vq2 0 σ
def f_X9_copy_p34_p71 (σ : Sg) : Sg :=
  lt (upS σ 34 0 (σ 71 0)) fun σ1 =>
  lt (upS σ1 34 1 (σ1 71 1)) fun σ2 =>
  lt (cpy σ2 72 35 8) fun σ3 =>
  lt (cpy σ3 73 36 8) fun σ4 =>
  lt (cpy σ4 74 37 8) fun σ5 =>
  lt (cpy σ5 75 38 8) fun σ6 =>
  lt (cpy σ6 76 39 200) fun σ7 =>
  σ7
def f_X8_readInto_b55 (σ : Sg) : Option (Int32 × Sg) :=
  lt (upS σ 67 0 0) fun σ7 =>
  if (σ7 67 6) = (-1) then
    lt (f_X9_copy_p34_p71 σ7) fun σ8 =>
    some ((σ8 34 0), σ8)
  else
    some (((-100) - (σ7 67 6)), σ7)
def f_X8_readInto_b23 (kq23 : Int32 → Sg → Option (Int32 × Sg)) (xq2 : Int32) (σ : Sg) : Option (Int32 × Sg) :=
  if 8 < xq2 then
    f_X8_readInto_b55 σ
  else
    if (f_X8_isStill σ) = true then
      Option.bind (f_X8_token σ) fun vq5 =>
      if vq5 = 27 then
        f_X8_readInto_b55 σ
      else
        Option.bind (f_X8_readRule σ) fun σ6 =>
        kq23 (xq2 + 1) σ6
    else
      f_X8_readInto_b55 σ
def f_X8_readInto_l23 : Nat → Int32 → Sg → Option (Int32 × Sg) := fuel (fun _ _ => none) (fun kq23 => f_X8_readInto_b23 kq23)
def f_X8_readInto (σ : Sg) : Option (Int32 × Sg) :=
  Option.bind (f_X8_readTokens σ) fun σ1 =>
  lt (f_X9_clear σ1) fun σ2 =>
  lt (upS σ2 67 5 0) fun σ3 =>
  lt (upS σ3 67 6 (-1)) fun σ4 =>
  f_X8_readInto_l23 400 0 σ4
def f_X11_rules (σ : Sg) : Option (Int32 × Sg) :=
  bd2 (f_X8_readInto σ) fun vq1 σ2 =>
  some (vq1, σ2)
def f_X11_room (xq0 : Int32) (xq1 : Int32) (σ : Sg) : Int32 :=
  if xq1 = 0 then
    (7 - (xq0 &&& 7))
  else
    if xq1 = 1 then
      (7 - (shr32 xq0 3))
    else
      if xq1 = 2 then
        (xq0 &&& 7)
      else
        (shr32 xq0 3)
def f_X11_step (xq0 : Int32) (σ : Sg) : Int32 :=
  if xq0 = 0 then
    1
  else
    if xq0 = 1 then
      8
    else
      if xq0 = 2 then
        (-1)
      else
        (-8)
def f_X1_drift_b25 (kq25 : Int32 → Sg → Option Sg) (nq1 : Nat) (xq2 : Int32) (xq3 : Int32) (xq4 : Int32) (σ : Sg) : Option Sg :=
  if (σ 24 1) ≤ xq4 then
    some σ
  else
    if (f_X11_isIn (σ nq1 2) xq4 σ) = true then
      Option.bind (rd σ 25 6 xq4) fun vq5 =>
      if vq5 < 0 ∨ 6 ≤ vq5.toNatClampNeg then none else
      lt (cv_drifts vq5.toNatClampNeg xq2 (σ nq1 0) σ) fun vq7 =>
      Option.bind (rd σ (nq1 + 2) 6 xq4) fun vq8 =>
      Option.bind (rd σ (nq1 + 1) 6 xq4) fun vq9 =>
      lt (min32 (min32 vq7 vq8) (f_X11_room vq9 xq3 σ)) fun vq10 =>
      Option.bind (rd σ (nq1 + 1) 6 xq4) fun vq11 =>
      Option.bind (wr σ (nq1 + 1) 6 xq4 (vq11 + (vq10 * (f_X11_step xq3 σ)))) fun σ12 =>
      Option.bind (rd σ12 (nq1 + 2) 6 xq4) fun vq13 =>
      Option.bind (wr σ12 (nq1 + 2) 6 xq4 (vq13 - vq10)) fun σ14 =>
      kq25 (xq4 + 1) σ14
    else
      kq25 (xq4 + 1) σ
def f_X1_drift_l25 (nq1 : Nat) (xq2 : Int32) (xq3 : Int32) : Nat → Int32 → Sg → Option Sg := fuel (fun _ _ => none) (fun kq25 => f_X1_drift_b25 kq25 nq1 xq2 xq3)
def f_X1_drift (nq1 : Nat) (σ : Sg) : Option Sg :=
  Option.bind (f_X1_windOf (σ nq1 0) σ) fun vq1 =>
  lt (vq1 / 4) fun vq2 =>
  Option.bind (f_X1_windOf (σ nq1 0) σ) fun vq3 =>
  lt (rem32 vq3 4) fun vq4 =>
  f_X1_drift_l25 nq1 vq2 vq4 400 0 σ
def f_X1_firstInReach_b2 (kq2 : Int32 → Option Int32) (nq1 : Nat) (σ : Sg) (xq2 : Int32) : Option Int32 :=
  if (σ 24 1) ≤ xq2 then
    some (-1)
  else
    if (f_X11_isIn (σ nq1 2) xq2 σ) = true then
      Option.bind (f_X1_farFromFarm nq1 xq2 σ) fun vq1 =>
      Option.bind (rd σ 26 6 xq2) fun vq2 =>
      Option.bind (rd σ 29 6 vq2) fun vq3 =>
      if vq3 < vq1 then
        kq2 (xq2 + 1)
      else
        some xq2
    else
      kq2 (xq2 + 1)
def f_X1_firstInReach_l2 (nq1 : Nat) (σ : Sg) : Nat → Int32 → Option Int32 := fuel (fun _ => none) (fun kq2 => f_X1_firstInReach_b2 kq2 nq1 σ)
def f_X1_firstInReach (nq1 : Nat) (σ : Sg) : Option Int32 :=
  f_X1_firstInReach_l2 nq1 σ 400 0
def f_X1_tell_b139 (nq1 : Nat) (xq3 : Int32) (σ : Sg) : Option (Int32 × Sg) :=
  lt (upS σ nq1 1 ((σ nq1 1) + xq3)) fun σ6 =>
  lt (upS σ6 nq1 0 ((σ6 nq1 0) + 1)) fun σ7 =>
  some (xq3, σ7)
def f_X1_tell_b68 (nq1 : Nat) (xq2 : Int32) (xq3 : Int32) (xq4 : Int32) (xq5 : Int32) (σ : Sg) : Option (Int32 × Sg) :=
  if ¬ xq5 = 2 then
    if ¬ xq5 = 0 then
      f_X1_tell_b139 nq1 xq3 σ
    else
      Option.bind (rd σ 26 6 xq2) fun vq8 =>
      Option.bind (rd σ 29 6 vq8) fun vq9 =>
      if vq9 < xq4 then
        f_X1_tell_b139 nq1 xq3 σ
      else
        lt (upS σ nq1 3 (f_X11_withBit (σ nq1 3) xq2 1 σ)) fun σ10 =>
        Option.bind (rd σ10 25 6 xq2) fun vq11 =>
        if vq11 < 0 ∨ 6 ≤ vq11.toNatClampNeg then none else
        lt ((cv_fee vq11.toNatClampNeg xq2 σ10) + (max32 0 (9 - xq4))) fun vq13 =>
        f_X1_tell_b139 nq1 vq13 σ10
  else
    f_X1_tell_b139 nq1 1 σ
def f_X1_tell (nq1 : Nat) (xq2 : Int32) (σ : Sg) : Option (Int32 × Sg) :=
  if xq2 = (-1) then
    f_X1_tell_b139 nq1 0 σ
  else
    if (f_X11_isIn (σ nq1 2) xq2 σ) = true then
      Option.bind (f_X1_farFromFarm nq1 xq2 σ) fun vq1 =>
      Option.bind (f_X1_layFacts nq1 xq2 vq1 σ) fun σ2 =>
      Option.bind (rd σ2 25 6 xq2) fun vq3 =>
      Option.bind (f_X9_doFor vq3 σ2) fun vq4 =>
      if vq4 = 1 then
        f_X1_tell_b68 nq1 xq2 0 vq1 vq4 σ2
      else
        lt (upS σ2 nq1 2 (f_X11_withBit (σ2 nq1 2) xq2 0 σ2)) fun σ5 =>
        f_X1_tell_b68 nq1 xq2 0 vq1 vq4 σ5
    else
      f_X1_tell_b139 nq1 0 σ
def f_X1_goByRest (nq1 : Nat) (σ : Sg) : Option (Int32 × Sg) :=
  Option.bind (f_X1_drift nq1 σ) fun σ1 =>
  Option.bind (f_X1_firstInReach nq1 σ1) fun vq2 =>
  bd2 (f_X1_tell nq1 vq2 σ1) fun vq3 σ4 =>
  some (vq3, σ4)
def f_X11_gust (σ : Sg) : Option (Int32 × Sg) :=
  if (f_X1_isOver 41 σ) = true then
    some ((-4), σ)
  else
    bd2 (f_X1_goByRest 41 σ) fun vq1 σ2 =>
    some (vq1, σ2)
def f_X10_copy (nq0 : Nat) (nq1 : Nat) (σ : Sg) : Sg :=
  lt (upS σ nq0 0 (σ nq1 0)) fun σ1 =>
  lt (upS σ1 nq0 1 (σ1 nq1 1)) fun σ2 =>
  lt (upS σ2 nq0 2 (σ2 nq1 2)) fun σ3 =>
  lt (upS σ3 nq0 3 (σ3 nq1 3)) fun σ4 =>
  lt (cpy σ4 (nq1 + 1) (nq0 + 1) 6) fun σ5 =>
  lt (cpy σ5 (nq1 + 2) (nq0 + 2) 6) fun σ6 =>
  σ6
def f_X11_worthOnTrial_b4 (kq4 : Int32 → Int32 → Sg → Option (Int32 × Sg)) (xq1 : Int32) (xq2 : Int32) (xq3 : Int32) (σ : Sg) : Option (Int32 × Sg) :=
  if xq1 ≤ xq3 then
    some (xq2, σ)
  else
    if (f_X1_isOver 64 σ) = true then
      some (xq2, σ)
    else
      bd2 (f_X1_goByRest 64 σ) fun vq1 σ2 =>
      lt (xq2 + vq1) fun vq3 =>
      kq4 vq3 (xq3 + 1) σ2
def f_X11_worthOnTrial_l4 (xq1 : Int32) : Nat → Int32 → Int32 → Sg → Option (Int32 × Sg) := fuel (fun _ _ _ => none) (fun kq4 => f_X11_worthOnTrial_b4 kq4 xq1)
def f_X11_worthOnTrial (xq1 : Int32) (σ : Sg) : Option (Int32 × Sg) :=
  f_X11_worthOnTrial_l4 xq1 400 0 0 σ
def f_X11_worthOfRest (xq1 : Int32) (σ : Sg) : Option (Int32 × Sg) :=
  lt (f_X10_copy 64 41 σ) fun σ1 =>
  bd2 (f_X11_worthOnTrial xq1 σ1) fun vq2 σ3 =>
  some (vq2, σ3)
def f_X11_on (xq1 : Int32) (σ : Sg) : Option (Int32 × Sg) :=
  if (f_X11_within xq1 0 16 σ) = true then
    bd2 (f_X11_worthOfRest xq1 σ) fun vq1 σ2 =>
    some (vq1, σ2)
  else
    some ((-1), σ)
def f_X11_when_b43 (kq43 : Int32 → Sg → Option (Int32 × Sg)) (xq1 : Int32) (xq2 : Int32) (σ : Sg) : Option (Int32 × Sg) :=
  if 16 ≤ xq2 then
    some ((-3), σ)
  else
    if (f_X1_isOver 64 σ) = true then
      some ((-3), σ)
    else
      bd2 (f_X1_goByRest 64 σ) fun vq2 σ3 =>
      if (f_X11_isIn (σ3 64 2) xq1 σ3) = true then
        kq43 (xq2 + 1) σ3
      else
        some (((σ3 64 0) - 1), σ3)
def f_X11_when_l43 (xq1 : Int32) : Nat → Int32 → Sg → Option (Int32 × Sg) := fuel (fun _ _ => none) (fun kq43 => f_X11_when_b43 kq43 xq1)
def f_X11_when (xq1 : Int32) (σ : Sg) : Option (Int32 × Sg) :=
  if (f_X11_isKite xq1 σ) = true then
    lt (f_X10_copy 64 41 σ) fun σ1 =>
    if (f_X11_isIn (σ1 64 2) xq1 σ1) = true then
      f_X11_when_l43 xq1 400 0 σ1
    else
      some ((-3), σ1)
  else
    some ((-1), σ)
def f_X11_stringFor_b17 (kq17 : Int32 → Int32 → Int32 → Sg → Option (Int32 × Sg)) (xq1 : Int32) (xq2 : Int32) (xq3 : Int32) (xq4 : Int32) (σ : Sg) : Option (Int32 × Sg) :=
  if 9 < xq4 then
    some (xq3, σ)
  else
    lt (f_X10_copy 64 41 σ) fun σ1 =>
    Option.bind (wr σ1 66 6 xq1 xq4) fun σ2 =>
    bd2 (f_X11_worthOnTrial 16 σ2) fun vq3 σ4 =>
    if vq3 ≤ xq2 then
      kq17 xq2 xq3 (xq4 + 1) σ4
    else
      kq17 vq3 xq4 (xq4 + 1) σ4
def f_X11_stringFor_l17 (xq1 : Int32) : Nat → Int32 → Int32 → Int32 → Sg → Option (Int32 × Sg) := fuel (fun _ _ _ _ => none) (fun kq17 => f_X11_stringFor_b17 kq17 xq1)
def f_X11_stringFor (xq1 : Int32) (σ : Sg) : Option (Int32 × Sg) :=
  if (f_X11_isKite xq1 σ) = true then
    f_X11_stringFor_l17 xq1 400 (-1) 0 0 σ
  else
    some ((-1), σ)
def f_X11_nameFor_b28 (kq28 : Int32 → Int32 → Int32 → Sg → Option (Int32 × Sg)) (xq1 : Int32) (xq2 : Int32) (xq3 : Int32) (xq4 : Int32) (xq5 : Int32) (σ : Sg) : Option (Int32 × Sg) :=
  if 6 ≤ xq5 then
    Option.bind (wr σ 26 6 xq1 xq2) fun σ2 =>
    some (xq4, σ2)
  else
    Option.bind (wr σ 26 6 xq1 xq5) fun σ3 =>
    bd2 (f_X11_worthOfRest 16 σ3) fun vq4 σ5 =>
    if vq4 ≤ xq3 then
      kq28 xq3 xq4 (xq5 + 1) σ5
    else
      kq28 vq4 xq5 (xq5 + 1) σ5
def f_X11_nameFor_l28 (xq1 : Int32) (xq2 : Int32) : Nat → Int32 → Int32 → Int32 → Sg → Option (Int32 × Sg) := fuel (fun _ _ _ _ => none) (fun kq28 => f_X11_nameFor_b28 kq28 xq1 xq2)
def f_X11_nameFor (xq1 : Int32) (σ : Sg) : Option (Int32 × Sg) :=
  if (f_X11_isKite xq1 σ) = true then
    Option.bind (rd σ 26 6 xq1) fun vq1 =>
    f_X11_nameFor_l28 xq1 vq1 400 (-1) 0 0 σ
  else
    some ((-1), σ)
def f_X1_goByAct (nq1 : Nat) (xq2 : Int32) (σ : Sg) : Option (Int32 × Sg) :=
  Option.bind (f_X1_drift nq1 σ) fun σ1 =>
  bd2 (f_X1_tell nq1 (xq2 - 1) σ1) fun vq2 σ3 =>
  some (vq2, σ3)
def f_X1_isSomeAloftAt_b2 (kq2 : Int32 → Option Bool) (nq1 : Nat) (xq2 : Int32) (σ : Sg) (xq3 : Int32) : Option Bool :=
  if (σ 24 1) ≤ xq3 then
    some false
  else
    if (f_X11_isIn (σ nq1 2) xq3 σ) = true then
      Option.bind (rd σ (nq1 + 1) 6 xq3) fun vq1 =>
      if ¬ vq1 = xq2 then
        kq2 (xq3 + 1)
      else
        some true
    else
      kq2 (xq3 + 1)
def f_X1_isSomeAloftAt_l2 (nq1 : Nat) (xq2 : Int32) (σ : Sg) : Nat → Int32 → Option Bool := fuel (fun _ => none) (fun kq2 => f_X1_isSomeAloftAt_b2 kq2 nq1 xq2 σ)
def f_X1_isSomeAloftAt (nq1 : Nat) (xq2 : Int32) (σ : Sg) : Option Bool :=
  f_X1_isSomeAloftAt_l2 nq1 xq2 σ 400 0
def f_X11_over_b28 (kq28 : Int32 → Sg → Option (Int32 × Sg)) (xq1 : Int32) (xq2 : Int32) (σ : Sg) : Option (Int32 × Sg) :=
  if 16 ≤ xq2 then
    some ((-3), σ)
  else
    if (f_X1_isOver 64 σ) = true then
      some ((-3), σ)
    else
      bd2 (f_X1_goByAct 64 0 σ) fun vq2 σ3 =>
      Option.bind (f_X1_isSomeAloftAt 64 xq1 σ3) fun vq4 =>
      if vq4 = true then
        some (((σ3 64 0) - 1), σ3)
      else
        kq28 (xq2 + 1) σ3
def f_X11_over_l28 (xq1 : Int32) : Nat → Int32 → Sg → Option (Int32 × Sg) := fuel (fun _ _ => none) (fun kq28 => f_X11_over_b28 kq28 xq1)
def f_X11_over (xq1 : Int32) (σ : Sg) : Option (Int32 × Sg) :=
  if (f_X11_within xq1 0 63 σ) = true then
    lt (f_X10_copy 64 41 σ) fun σ1 =>
    f_X11_over_l28 xq1 400 0 σ1
  else
    some ((-1), σ)
def f_X1_isTangledWithSome_b13 (kq13 : Int32 → Option Bool) (xq2 : Int32) (xq3 : Int32) (σ : Sg) (xq4 : Int32) : Option Bool :=
  if (σ 24 1) ≤ xq4 then
    some false
  else
    Option.bind (rd σ 42 6 xq4) fun vq2 =>
    if (f_X11_isIn xq2 xq4 σ) = true then
      if 1 < (abs32 ((xq3 &&& 7) - (vq2 &&& 7))) then
        kq13 (xq4 + 1)
      else
        if 1 < (abs32 ((shr32 xq3 3) - (shr32 vq2 3))) then
          kq13 (xq4 + 1)
        else
          some true
    else
      kq13 (xq4 + 1)
def f_X1_isTangledWithSome_l13 (xq2 : Int32) (xq3 : Int32) (σ : Sg) : Nat → Int32 → Option Bool := fuel (fun _ => none) (fun kq13 => f_X1_isTangledWithSome_b13 kq13 xq2 xq3 σ)
def f_X1_isTangledWithSome (xq1 : Int32) (xq2 : Int32) (σ : Sg) : Option Bool :=
  Option.bind (rd σ 42 6 xq1) fun vq1 =>
  f_X1_isTangledWithSome_l13 xq2 vq1 σ 400 0
def f_X1_caseOf_b25 (kq14 : Int32 → Int32 → Option Int32) (kq25 : Int32 → Int32 → Option Int32) (xq3 : Int32) (σ : Sg) (xq2 : Int32) (xq4 : Int32) : Option Int32 :=
  if (σ 24 1) ≤ xq4 then
    kq14 xq2 (xq3 + 1)
  else
    if (f_X11_isIn (σ 41 2) xq4 σ) = true then
      Option.bind (f_X1_isTangledWithSome xq4 xq2 σ) fun vq2 =>
      if vq2 = true then
        lt (f_X11_withBit xq2 xq4 1 σ) fun vq3 =>
        kq25 vq3 (xq4 + 1)
      else
        kq25 xq2 (xq4 + 1)
    else
      kq25 xq2 (xq4 + 1)
def f_X1_caseOf_l25 (kq14 : Int32 → Int32 → Option Int32) (xq3 : Int32) (σ : Sg) : Nat → Int32 → Int32 → Option Int32 := fuel (fun _ _ => none) (fun kq25 => f_X1_caseOf_b25 kq14 kq25 xq3 σ)
def f_X1_caseOf_b14 (kq14 : Int32 → Int32 → Option Int32) (σ : Sg) (xq2 : Int32) (xq3 : Int32) : Option Int32 :=
  if (σ 24 1) ≤ xq3 then
    some xq2
  else
    f_X1_caseOf_l25 kq14 xq3 σ 400 xq2 0
def f_X1_caseOf_l14 (σ : Sg) : Nat → Int32 → Int32 → Option Int32 := fuel (fun _ _ => none) (fun kq14 => f_X1_caseOf_b14 kq14 σ)
def f_X1_caseOf (xq1 : Int32) (σ : Sg) : Option Int32 :=
  lt ((σ 41 2) &&& (shl32 1 xq1)) fun vq1 =>
  f_X1_caseOf_l14 σ 400 vq1 0
def f_X1_countCases_b6 (kq6 : Int32 → Int32 → Int32 → Option Int32) (σ : Sg) (xq1 : Int32) (xq2 : Int32) (xq3 : Int32) : Option Int32 :=
  if (σ 24 1) ≤ xq3 then
    some xq1
  else
    if (f_X11_isIn (σ 41 2) xq3 σ) = true then
      if (f_X11_isIn xq2 xq3 σ) = true then
        kq6 xq1 xq2 (xq3 + 1)
      else
        Option.bind (f_X1_caseOf xq3 σ) fun vq1 =>
        lt (xq2 ||| vq1) fun vq2 =>
        kq6 (xq1 + 1) vq2 (xq3 + 1)
    else
      kq6 xq1 xq2 (xq3 + 1)
def f_X1_countCases_l6 (σ : Sg) : Nat → Int32 → Int32 → Int32 → Option Int32 := fuel (fun _ _ _ => none) (fun kq6 => f_X1_countCases_b6 kq6 σ)
def f_X1_countCases (σ : Sg) : Option Int32 :=
  f_X1_countCases_l6 σ 400 0 0 0
def f_X11_cases (xq1 : Int32) (σ : Sg) : Option Int32 :=
  if ¬ xq1 = (-1) then
    if (f_X11_isKite xq1 σ) = true then
      Option.bind (f_X1_caseOf xq1 σ) fun vq1 =>
      some vq1
    else
      some (-1)
  else
    Option.bind (f_X1_countCases σ) fun vq2 =>
    some vq2
def f_X11_fewestSteps_b6 (rec : Int32 → Int32 → Sg → Option Int32) (kq6 : Int32 → Int32 → Option Int32) (xq1 : Int32) (xq2 : Int32) (σ : Sg) (xq3 : Int32) (xq4 : Int32) : Option Int32 :=
  if (σ 24 1) ≤ xq4 then
    if ¬ xq3 = (-3) then
      some xq3
    else
      some 0
  else
    if (f_X11_isIn xq2 xq4 σ) = true then
      Option.bind (rd σ 42 6 xq4) fun vq1 =>
      Option.bind (rec vq1 (f_X11_withBit xq2 xq4 0 σ) σ) fun vq2 =>
      lt ((f_X11_far xq1 vq1 σ) + vq2) fun vq3 =>
      if xq3 = (-3) then
        kq6 vq3 (xq4 + 1)
      else
        if xq3 ≤ vq3 then
          kq6 xq3 (xq4 + 1)
        else
          kq6 vq3 (xq4 + 1)
    else
      kq6 xq3 (xq4 + 1)
def f_X11_fewestSteps_l6 (rec : Int32 → Int32 → Sg → Option Int32) (xq1 : Int32) (xq2 : Int32) (σ : Sg) : Nat → Int32 → Int32 → Option Int32 := fuel (fun _ _ => none) (fun kq6 => f_X11_fewestSteps_b6 rec kq6 xq1 xq2 σ)
def f_X11_fewestSteps_s (rec : Int32 → Int32 → Sg → Option Int32) (xq1 : Int32) (xq2 : Int32) (σ : Sg) : Option Int32 :=
  f_X11_fewestSteps_l6 rec xq1 xq2 σ 400 (-3) 0
def f_X11_fewestSteps : Nat → Int32 → Int32 → Sg → Option Int32 := fuel (fun _ _ _ => none) f_X11_fewestSteps_s
def f_X11_firstOnCircuit_b3 (kq3 : Int32 → Option Int32) (xq1 : Int32) (xq2 : Int32) (xq3 : Int32) (σ : Sg) (xq4 : Int32) : Option Int32 :=
  if (σ 24 1) ≤ xq4 then
    some (-3)
  else
    if (f_X11_isIn xq2 xq4 σ) = true then
      Option.bind (rd σ 42 6 xq4) fun vq1 =>
      Option.bind (f_X11_fewestSteps 8 vq1 (f_X11_withBit xq2 xq4 0 σ) σ) fun vq2 =>
      if ¬ ((f_X11_far xq1 vq1 σ) + vq2) = xq3 then
        kq3 (xq4 + 1)
      else
        some xq4
    else
      kq3 (xq4 + 1)
def f_X11_firstOnCircuit_l3 (xq1 : Int32) (xq2 : Int32) (xq3 : Int32) (σ : Sg) : Nat → Int32 → Option Int32 := fuel (fun _ => none) (fun kq3 => f_X11_firstOnCircuit_b3 kq3 xq1 xq2 xq3 σ)
def f_X11_firstOnCircuit (xq1 : Int32) (xq2 : Int32) (xq3 : Int32) (σ : Sg) : Option Int32 :=
  f_X11_firstOnCircuit_l3 xq1 xq2 xq3 σ 400 0
def f_X11_circuit (xq1 : Int32) (xq2 : Int32) (σ : Sg) : Option Int32 :=
  if (f_X11_within xq1 0 63 σ) = true then
    if (f_X11_within xq2 0 1 σ) = true then
      lt ((f_X1_allKites σ) &&& ((σ 41 2) ^^^ (-1))) fun vq1 =>
      Option.bind (f_X11_fewestSteps 8 xq1 vq1 σ) fun vq2 =>
      if ¬ xq2 = 0 then
        Option.bind (f_X11_firstOnCircuit xq1 vq1 vq2 σ) fun vq3 =>
        some vq3
      else
        some vq2
    else
      some (-1)
  else
    some (-1)
def f_X11_isPlanLength (xq0 : Int32) (σ : Sg) : Bool :=
  (f_X11_within xq0 0 4 σ)
def f_X6_weigh_b58 (xq1 : Int32) (xq2 : Int32) (σ : Sg) : Option Sg :=
  if ¬ xq2 = (σ 78 5) then
    if xq2 ≤ (σ 78 5) then
      some σ
    else
      lt (upS σ 78 5 xq2) fun σ6 =>
      lt (upS σ6 78 6 1) fun σ7 =>
      lt (upS σ7 78 4 xq1) fun σ8 =>
      lt (cpy σ8 80 81 4) fun σ9 =>
      some σ9
  else
    lt (upS σ 78 6 ((σ 78 6) + 1)) fun σ10 =>
    some σ10
def f_X6_weigh (xq1 : Int32) (xq2 : Int32) (xq3 : Int32) (σ : Sg) : Option Sg :=
  if xq1 < 0 ∨ 5 ≤ xq1.toNatClampNeg then none else
  lt (σ (82 + 3 * xq1.toNatClampNeg) 3) fun vq2 =>
  lt (upS σ 78 9 ((σ 78 9) ||| vq2)) fun σ3 =>
  if ¬ (vq2 &&& (σ3 78 8)) = (σ3 78 8) then
    f_X6_weigh_b58 xq1 xq2 σ3
  else
    if (σ3 78 7) = (-3) then
      lt (upS σ3 78 7 xq3) fun σ4 =>
      f_X6_weigh_b58 xq1 xq2 σ4
    else
      if (σ3 78 7) ≤ xq3 then
        f_X6_weigh_b58 xq1 xq2 σ3
      else
        lt (upS σ3 78 7 xq3) fun σ5 =>
        f_X6_weigh_b58 xq1 xq2 σ5
def f_X6_extend_b52 (rec : Int32 → Int32 → Int32 → Int32 → Sg → Option Sg) (kq52 : Int32 → Sg → Option Sg) (xq1 : Int32) (xq2 : Int32) (xq3 : Int32) (xq4 : Int32) (nq5 : Nat) (nq6 : Nat) (xq7 : Int32) (σ : Sg) : Option Sg :=
  if (σ 24 1) < xq7 then
    some σ
  else
    lt (f_X10_copy nq6 nq5 σ) fun σ6 =>
    Option.bind (wr σ6 80 4 xq1 xq7) fun σ7 =>
    bd2 (f_X1_goByAct nq6 xq7 σ7) fun vq8 σ9 =>
    if ¬ xq7 = 0 then
      Option.bind (rec (xq1 + 1) xq2 (xq3 + vq8) (xq4 + 1) σ9) fun σ10 =>
      kq52 (xq7 + 1) σ10
    else
      Option.bind (rec (xq1 + 1) xq2 (xq3 + vq8) xq4 σ9) fun σ11 =>
      kq52 (xq7 + 1) σ11
def f_X6_extend_l52 (rec : Int32 → Int32 → Int32 → Int32 → Sg → Option Sg) (xq1 : Int32) (xq2 : Int32) (xq3 : Int32) (xq4 : Int32) (nq5 : Nat) (nq6 : Nat) : Nat → Int32 → Sg → Option Sg := fuel (fun _ _ => none) (fun kq52 => f_X6_extend_b52 rec kq52 xq1 xq2 xq3 xq4 nq5 nq6)
def f_X6_extend_s (rec : Int32 → Int32 → Int32 → Int32 → Sg → Option Sg) (xq1 : Int32) (xq2 : Int32) (xq3 : Int32) (xq4 : Int32) (σ : Sg) : Option Sg :=
  if xq1 < 0 ∨ 5 ≤ xq1.toNatClampNeg then none else
  if xq2 ≤ xq1 then
    Option.bind (f_X6_weigh xq1 xq3 xq4 σ) fun σ2 =>
    some σ2
  else
    if 4 ≤ xq1 then
      Option.bind (f_X6_weigh xq1 xq3 xq4 σ) fun σ3 =>
      some σ3
    else
      if (f_X1_isOver (82 + 3 * xq1.toNatClampNeg) σ) = true then
        Option.bind (f_X6_weigh xq1 xq3 xq4 σ) fun σ5 =>
        some σ5
      else
        if (xq1 + 1) < 0 ∨ 5 ≤ (xq1 + 1).toNatClampNeg then none else
        f_X6_extend_l52 rec xq1 xq2 xq3 xq4 (82 + 3 * xq1.toNatClampNeg) (82 + 3 * (xq1 + 1).toNatClampNeg) 400 0 σ
def f_X6_extend : Nat → Int32 → Int32 → Int32 → Int32 → Sg → Option Sg := fuel (fun _ _ _ _ _ => none) f_X6_extend_s
def f_X6_search (xq1 : Int32) (xq2 : Int32) (σ : Sg) : Option Sg :=
  lt (upS σ 78 8 xq2) fun σ1 =>
  lt (upS σ1 78 5 (-1)) fun σ2 =>
  lt (upS σ2 78 7 (-3)) fun σ3 =>
  lt (upS σ3 78 9 0) fun σ4 =>
  lt (f_X10_copy 82 41 σ4) fun σ5 =>
  Option.bind (f_X6_extend 6 0 xq1 0 0 σ5) fun σ6 =>
  some σ6
def f_X11_best (xq1 : Int32) (σ : Sg) : Option (Int32 × Sg) :=
  if (f_X11_isPlanLength xq1 σ) = true then
    Option.bind (f_X6_search xq1 0 σ) fun σ1 =>
    some ((σ1 78 5), σ1)
  else
    some ((-1), σ)
def f_X11_ith (xq1 : Int32) (xq2 : Int32) (σ : Sg) : Option (Int32 × Sg) :=
  if (f_X11_isPlanLength xq1 σ) = true then
    if (f_X11_within xq2 0 3 σ) = true then
      Option.bind (f_X6_search xq1 0 σ) fun σ1 =>
      if (σ1 78 4) ≤ xq2 then
        some ((-3), σ1)
      else
        Option.bind (rd σ1 81 4 xq2) fun vq2 =>
        some (vq2, σ1)
    else
      some ((-1), σ)
  else
    some ((-1), σ)
def f_X11_ways (xq1 : Int32) (σ : Sg) : Option (Int32 × Sg) :=
  if (f_X11_isPlanLength xq1 σ) = true then
    Option.bind (f_X6_search xq1 0 σ) fun σ1 =>
    some ((σ1 78 6), σ1)
  else
    some ((-1), σ)
def f_X11_writ (xq1 : Int32) (xq2 : Int32) (σ : Sg) : Option (Int32 × Sg) :=
  if (f_X11_isPlanLength xq1 σ) = true then
    if (f_X11_within xq2 0 (f_X1_allKites σ) σ) = true then
      Option.bind (f_X6_search xq1 xq2 σ) fun σ1 =>
      some ((σ1 78 7), σ1)
    else
      some ((-1), σ)
  else
    some ((-1), σ)
def f_X11_bars_b35 (kq35 : Int32 → Sg → Option (Int32 × Sg)) (xq2 : Int32) (xq3 : Int32) (σ : Sg) : Option (Int32 × Sg) :=
  if (σ 24 1) ≤ xq3 then
    some ((-3), σ)
  else
    if (f_X11_isIn xq2 xq3 σ) = true then
      if (f_X11_isIn (σ 78 9) xq3 σ) = true then
        kq35 (xq3 + 1) σ
      else
        some (xq3, σ)
    else
      kq35 (xq3 + 1) σ
def f_X11_bars_l35 (xq2 : Int32) : Nat → Int32 → Sg → Option (Int32 × Sg) := fuel (fun _ _ => none) (fun kq35 => f_X11_bars_b35 kq35 xq2)
def f_X11_bars (xq1 : Int32) (xq2 : Int32) (σ : Sg) : Option (Int32 × Sg) :=
  if (f_X11_isPlanLength xq1 σ) = true then
    if (f_X11_within xq2 0 (f_X1_allKites σ) σ) = true then
      Option.bind (f_X6_search xq1 0 σ) fun σ1 =>
      f_X11_bars_l35 xq2 400 0 σ1
    else
      some ((-1), σ)
  else
    some ((-1), σ)
def f_X6_valueFrom_b130 (rec : Int32 → Int32 → Sg → Option (Int32 × Sg)) (kq59 : Int32 → Int32 → Sg → Option (Int32 × Sg)) (xq1 : Int32) (xq2 : Int32) (nq3 : Nat) (xq4 : Int32) (nq5 : Nat) (xq7 : Int32) (xq8 : Int32) (σ : Sg) : Option (Int32 × Sg) :=
  if ¬ xq1 = 0 then
    kq59 xq8 (xq7 + 1) σ
  else
    lt (upS σ 78 10 xq7) fun σ9 =>
    kq59 xq8 (xq7 + 1) σ9
def f_X6_valueFrom_b59 (rec : Int32 → Int32 → Sg → Option (Int32 × Sg)) (kq59 : Int32 → Int32 → Sg → Option (Int32 × Sg)) (xq1 : Int32) (xq2 : Int32) (nq3 : Nat) (xq4 : Int32) (nq5 : Nat) (xq6 : Int32) (xq7 : Int32) (σ : Sg) : Option (Int32 × Sg) :=
  if (σ 24 1) < xq7 then
    some (xq6, σ)
  else
    lt (f_X10_copy nq5 nq3 σ) fun σ3 =>
    bd2 (f_X1_goByAct nq5 xq7 σ3) fun vq4 σ5 =>
    bd2 (rec (xq1 + 1) xq2 σ5) fun vq6 σ7 =>
    lt (vq4 + vq6) fun vq8 =>
    if xq7 = 0 then
      f_X6_valueFrom_b130 rec kq59 xq1 xq2 nq3 xq4 nq5 xq7 vq8 σ7
    else
      if xq4 = 0 then
        if xq6 ≤ vq8 then
          kq59 xq6 (xq7 + 1) σ7
        else
          f_X6_valueFrom_b130 rec kq59 xq1 xq2 nq3 xq4 nq5 xq7 vq8 σ7
      else
        if vq8 ≤ xq6 then
          kq59 xq6 (xq7 + 1) σ7
        else
          f_X6_valueFrom_b130 rec kq59 xq1 xq2 nq3 xq4 nq5 xq7 vq8 σ7
def f_X6_valueFrom_l59 (rec : Int32 → Int32 → Sg → Option (Int32 × Sg)) (xq1 : Int32) (xq2 : Int32) (nq3 : Nat) (xq4 : Int32) (nq5 : Nat) : Nat → Int32 → Int32 → Sg → Option (Int32 × Sg) := fuel (fun _ _ _ => none) (fun kq59 => f_X6_valueFrom_b59 rec kq59 xq1 xq2 nq3 xq4 nq5)
def f_X6_valueFrom_b41 (rec : Int32 → Int32 → Sg → Option (Int32 × Sg)) (xq1 : Int32) (xq2 : Int32) (nq3 : Nat) (tq0 : Int32) (σ : Sg) : Option (Int32 × Sg) :=
  if (xq1 + 1) < 0 ∨ 5 ≤ (xq1 + 1).toNatClampNeg then none else
  f_X6_valueFrom_l59 rec xq1 xq2 nq3 tq0 (82 + 3 * (xq1 + 1).toNatClampNeg) 400 0 0 σ
def f_X6_valueFrom_s (rec : Int32 → Int32 → Sg → Option (Int32 × Sg)) (xq1 : Int32) (xq2 : Int32) (σ : Sg) : Option (Int32 × Sg) :=
  if xq1 < 0 ∨ 5 ≤ xq1.toNatClampNeg then none else
  if xq2 ≤ xq1 then
    some (0, σ)
  else
    if 4 ≤ xq1 then
      some (0, σ)
    else
      if (f_X1_isOver (82 + 3 * xq1.toNatClampNeg) σ) = true then
        some (0, σ)
      else
        if ¬ (rem32 xq1 2) = 0 then
          f_X6_valueFrom_b41 rec xq1 xq2 (82 + 3 * xq1.toNatClampNeg) 0 σ
        else
          f_X6_valueFrom_b41 rec xq1 xq2 (82 + 3 * xq1.toNatClampNeg) 1 σ
def f_X6_valueFrom : Nat → Int32 → Int32 → Sg → Option (Int32 × Sg) := fuel (fun _ _ _ => none) f_X6_valueFrom_s
def f_X6_valueOfGame (xq1 : Int32) (σ : Sg) : Option (Int32 × Sg) :=
  lt (f_X10_copy 82 41 σ) fun σ1 =>
  bd2 (f_X6_valueFrom 6 0 xq1 σ1) fun vq2 σ3 =>
  some (vq2, σ3)
def f_X11_game (xq1 : Int32) (σ : Sg) : Option (Int32 × Sg) :=
  if (f_X11_within xq1 1 4 σ) = true then
    bd2 (f_X6_valueOfGame xq1 σ) fun vq1 σ2 =>
    some (vq1, σ2)
  else
    some ((-1), σ)
def f_X11_play (xq1 : Int32) (σ : Sg) : Option (Int32 × Sg) :=
  if (f_X11_within xq1 1 4 σ) = true then
    if (f_X1_isOver 41 σ) = true then
      some ((-3), σ)
    else
      bd2 (f_X6_valueOfGame xq1 σ) fun vq1 σ2 =>
      some ((σ2 78 10), σ2)
  else
    some ((-1), σ)
def f_X1_addReport (xq1 : Int32) (xq2 : Int32) (xq3 : Int32) (xq4 : Int32) (σ : Sg) : Option (Int32 × Sg) :=
  lt (σ 24 4) fun vq1 =>
  lt (upS σ 24 4 ((σ 24 4) + 1)) fun σ2 =>
  Option.bind (wr σ2 30 6 vq1 xq1) fun σ3 =>
  Option.bind (wr σ3 31 6 vq1 xq2) fun σ4 =>
  Option.bind (wr σ4 32 6 vq1 xq3) fun σ5 =>
  Option.bind (wr σ5 33 6 vq1 xq4) fun σ6 =>
  some (vq1, σ6)
def f_X11_report (xq1 : Int32) (xq2 : Int32) (xq3 : Int32) (xq4 : Int32) (σ : Sg) : Option (Int32 × Sg) :=
  if (f_X11_within xq1 0 15 σ) = true then
    if (f_X11_within xq2 0 1 σ) = true then
      if (f_X11_within xq3 0 7 σ) = true then
        if (f_X11_within xq4 xq3 7 σ) = true then
          if (σ 24 4) < 6 then
            bd2 (f_X1_addReport xq1 xq2 xq3 xq4 σ) fun vq1 σ2 =>
            some (vq1, σ2)
          else
            some ((-2), σ)
        else
          some ((-1), σ)
      else
        some ((-1), σ)
    else
      some ((-1), σ)
  else
    some ((-1), σ)
def f_X11_forget (σ : Sg) : Int32 × Sg :=
  lt (σ 24 4) fun vq1 =>
  lt (upS σ 24 4 0) fun σ2 =>
  (vq1, σ2)
def f_X1_isAsReported_b49 (kq3 : Int32 → Option Bool) (xq1 : Int32) (xq2 : Int32) (xq3 : Int32) (xq4 : Int32) (tq0 : Int32) (σ : Sg) : Option Bool :=
  Option.bind (rd σ 32 6 xq4) fun vq3 =>
  Option.bind (rd σ 33 6 xq4) fun vq4 =>
  if (f_X11_within tq0 vq3 vq4 σ) = true then
    kq3 (xq4 + 1)
  else
    some false
def f_X1_isAsReported_b3 (kq3 : Int32 → Option Bool) (xq1 : Int32) (xq2 : Int32) (xq3 : Int32) (σ : Sg) (xq4 : Int32) : Option Bool :=
  if (σ 24 4) ≤ xq4 then
    some true
  else
    if xq4 = xq3 then
      kq3 (xq4 + 1)
    else
      Option.bind (rd σ 30 6 xq4) fun vq1 =>
      if ¬ vq1 = xq1 then
        kq3 (xq4 + 1)
      else
        Option.bind (rd σ 31 6 xq4) fun vq2 =>
        if ¬ vq2 = 0 then
          f_X1_isAsReported_b49 kq3 xq1 xq2 xq3 xq4 (shr32 xq2 3) σ
        else
          f_X1_isAsReported_b49 kq3 xq1 xq2 xq3 xq4 (xq2 &&& 7) σ
def f_X1_isAsReported_l3 (xq1 : Int32) (xq2 : Int32) (xq3 : Int32) (σ : Sg) : Nat → Int32 → Option Bool := fuel (fun _ => none) (fun kq3 => f_X1_isAsReported_b3 kq3 xq1 xq2 xq3 σ)
def f_X1_isAsReported (xq1 : Int32) (xq2 : Int32) (xq3 : Int32) (σ : Sg) : Option Bool :=
  f_X1_isAsReported_l3 xq1 xq2 xq3 σ 400 0
def f_X1_fits_b10 (kq10 : Int32 → Int32 → Int32 → Option Bool) (xq1 : Int32) (xq3 : Int32) (σ : Sg) (xq4 : Int32) (xq5 : Int32) (xq6 : Int32) : Option Bool :=
  if 16 ≤ xq6 then
    some true
  else
    Option.bind (f_X1_isAsReported xq6 xq4 xq3 σ) fun vq1 =>
    if vq1 = true then
      Option.bind (rd σ 27 16 xq6) fun vq2 =>
      lt (rem32 vq2 4) fun vq3 =>
      if xq1 < 0 ∨ 6 ≤ xq1.toNatClampNeg then none else
      Option.bind (rd σ 27 16 xq6) fun vq5 =>
      lt (cv_drifts xq1.toNatClampNeg (vq5 / 4) xq6 σ) fun vq6 =>
      lt (min32 (min32 vq6 xq5) (f_X11_room xq4 vq3 σ)) fun vq7 =>
      lt (xq4 + (vq7 * (f_X11_step vq3 σ))) fun vq8 =>
      lt (xq5 - vq7) fun vq9 =>
      kq10 vq8 vq9 (xq6 + 1)
    else
      some false
def f_X1_fits_l10 (xq1 : Int32) (xq3 : Int32) (σ : Sg) : Nat → Int32 → Int32 → Int32 → Option Bool := fuel (fun _ _ _ => none) (fun kq10 => f_X1_fits_b10 kq10 xq1 xq3 σ)
def f_X1_fits (xq1 : Int32) (xq2 : Int32) (xq3 : Int32) (σ : Sg) : Option Bool :=
  f_X1_fits_l10 xq1 xq3 σ 400 xq2 9 0
def f_X1_firstFitting_b9 (kq2 : Int32 → Option Int32) (kq9 : Int32 → Option Int32) (xq1 : Int32) (xq2 : Int32) (σ : Sg) (xq3 : Int32) : Option Int32 :=
  if 63 < xq3 then
    kq2 (xq2 + 1)
  else
    Option.bind (f_X1_fits xq2 xq3 xq1 σ) fun vq1 =>
    if vq1 = true then
      some ((xq2 * 64) + xq3)
    else
      kq9 (xq3 + 1)
def f_X1_firstFitting_l9 (kq2 : Int32 → Option Int32) (xq1 : Int32) (xq2 : Int32) (σ : Sg) : Nat → Int32 → Option Int32 := fuel (fun _ => none) (fun kq9 => f_X1_firstFitting_b9 kq2 kq9 xq1 xq2 σ)
def f_X1_firstFitting_b2 (kq2 : Int32 → Option Int32) (xq1 : Int32) (σ : Sg) (xq2 : Int32) : Option Int32 :=
  if 5 < xq2 then
    some (-3)
  else
    f_X1_firstFitting_l9 kq2 xq1 xq2 σ 400 0
def f_X1_firstFitting_l2 (xq1 : Int32) (σ : Sg) : Nat → Int32 → Option Int32 := fuel (fun _ => none) (fun kq2 => f_X1_firstFitting_b2 kq2 xq1 σ)
def f_X1_firstFitting (xq1 : Int32) (σ : Sg) : Option Int32 :=
  f_X1_firstFitting_l2 xq1 σ 400 1
def f_X1_countFitting_b11 (kq4 : Int32 → Int32 → Option Int32) (kq11 : Int32 → Int32 → Option Int32) (xq2 : Int32) (σ : Sg) (xq1 : Int32) (xq3 : Int32) : Option Int32 :=
  if 63 < xq3 then
    kq4 xq1 (xq2 + 1)
  else
    Option.bind (f_X1_fits xq2 xq3 (-3) σ) fun vq1 =>
    if vq1 = true then
      kq11 (xq1 + 1) (xq3 + 1)
    else
      kq11 xq1 (xq3 + 1)
def f_X1_countFitting_l11 (kq4 : Int32 → Int32 → Option Int32) (xq2 : Int32) (σ : Sg) : Nat → Int32 → Int32 → Option Int32 := fuel (fun _ _ => none) (fun kq11 => f_X1_countFitting_b11 kq4 kq11 xq2 σ)
def f_X1_countFitting_b4 (kq4 : Int32 → Int32 → Option Int32) (σ : Sg) (xq1 : Int32) (xq2 : Int32) : Option Int32 :=
  if 5 < xq2 then
    some xq1
  else
    f_X1_countFitting_l11 kq4 xq2 σ 400 xq1 0
def f_X1_countFitting_l4 (σ : Sg) : Nat → Int32 → Int32 → Option Int32 := fuel (fun _ _ => none) (fun kq4 => f_X1_countFitting_b4 kq4 σ)
def f_X1_countFitting (σ : Sg) : Option Int32 :=
  f_X1_countFitting_l4 σ 400 0 1
def f_X11_span (xq1 : Int32) (σ : Sg) : Option Int32 :=
  if (f_X11_within xq1 0 2 σ) = true then
    if ¬ xq1 = 0 then
      Option.bind (f_X1_firstFitting (-3) σ) fun vq1 =>
      if ¬ vq1 = (-3) then
        if ¬ xq1 = 1 then
          some (rem32 vq1 64)
        else
          some (vq1 / 64)
      else
        some (-3)
    else
      Option.bind (f_X1_countFitting σ) fun vq2 =>
      some vq2
  else
    some (-1)
def f_X11_liar_b19 (kq19 : Int32 → Option Int32) (σ : Sg) (xq1 : Int32) : Option Int32 :=
  if (σ 24 4) ≤ xq1 then
    some (-3)
  else
    Option.bind (f_X1_firstFitting xq1 σ) fun vq2 =>
    if vq2 = (-3) then
      kq19 (xq1 + 1)
    else
      some xq1
def f_X11_liar_l19 (σ : Sg) : Nat → Int32 → Option Int32 := fuel (fun _ => none) (fun kq19 => f_X11_liar_b19 kq19 σ)
def f_X11_liar (σ : Sg) : Option Int32 :=
  Option.bind (f_X1_firstFitting (-3) σ) fun vq1 =>
  if vq1 = (-3) then
    f_X11_liar_l19 σ 400 0
  else
    some (-3)
def f_X11_seed (xq1 : Int32) (σ : Sg) : Int32 × Sg :=
  lt (σ 24 3) fun vq1 =>
  lt (upS σ 24 3 xq1) fun σ2 =>
  (vq1, σ2)
def f_X11_nextLot (xq0 : Int32) (σ : Sg) : Int32 :=
  ((xq0 * 1103515245) + 12345)
def f_X1_actOfLot (xq1 : Int32) (σ : Sg) : Option Int32 :=
  if ((σ 24 1) + 1) = 0 then none else some (rem32 (ushr32 xq1 16) ((σ 24 1) + 1))
def f_X11_lot (σ : Sg) : Option (Int32 × Sg) :=
  if (f_X1_isOver 41 σ) = true then
    some ((-4), σ)
  else
    lt (upS σ 24 3 (f_X11_nextLot (σ 24 3) σ)) fun σ1 =>
    Option.bind (f_X1_actOfLot (σ1 24 3) σ1) fun vq2 =>
    bd2 (f_X1_goByAct 41 vq2 σ1) fun vq3 σ4 =>
    some (vq3, σ4)
def f_X11_times_b119 (kq37 : Int32 → Int32 → Int32 → Sg → Option (Int32 × Sg)) (xq1 : Int32) (xq2 : Int32) (xq3 : Int32) (xq4 : Int32) (xq5 : Int32) (xq6 : Int32) (σ : Sg) : Option (Int32 × Sg) :=
  if xq6 < xq2 then
    kq37 xq3 xq4 (xq5 + 1) σ
  else
    kq37 xq3 (xq4 + 1) (xq5 + 1) σ
def f_X11_times_b63 (kq37 : Int32 → Int32 → Int32 → Sg → Option (Int32 × Sg)) (kq63 : Int32 → Int32 → Int32 → Sg → Option (Int32 × Sg)) (xq1 : Int32) (xq2 : Int32) (xq4 : Int32) (xq5 : Int32) (xq3 : Int32) (xq6 : Int32) (xq7 : Int32) (σ : Sg) : Option (Int32 × Sg) :=
  if 16 ≤ xq7 then
    f_X11_times_b119 kq37 xq1 xq2 xq3 xq4 xq5 xq6 σ
  else
    if (f_X1_isOver 64 σ) = true then
      f_X11_times_b119 kq37 xq1 xq2 xq3 xq4 xq5 xq6 σ
    else
      lt (f_X11_nextLot xq3 σ) fun vq3 =>
      Option.bind (f_X1_actOfLot vq3 σ) fun vq4 =>
      bd2 (f_X1_goByAct 64 vq4 σ) fun vq5 σ6 =>
      lt (xq6 + vq5) fun vq7 =>
      kq63 vq3 vq7 (xq7 + 1) σ6
def f_X11_times_l63 (kq37 : Int32 → Int32 → Int32 → Sg → Option (Int32 × Sg)) (xq1 : Int32) (xq2 : Int32) (xq4 : Int32) (xq5 : Int32) : Nat → Int32 → Int32 → Int32 → Sg → Option (Int32 × Sg) := fuel (fun _ _ _ _ => none) (fun kq63 => f_X11_times_b63 kq37 kq63 xq1 xq2 xq4 xq5)
def f_X11_times_b37 (kq37 : Int32 → Int32 → Int32 → Sg → Option (Int32 × Sg)) (xq1 : Int32) (xq2 : Int32) (xq3 : Int32) (xq4 : Int32) (xq5 : Int32) (σ : Sg) : Option (Int32 × Sg) :=
  if xq1 ≤ xq5 then
    some (xq4, σ)
  else
    lt (f_X10_copy 64 41 σ) fun σ2 =>
    f_X11_times_l63 kq37 xq1 xq2 xq4 xq5 400 xq3 0 0 σ2
def f_X11_times_l37 (xq1 : Int32) (xq2 : Int32) : Nat → Int32 → Int32 → Int32 → Sg → Option (Int32 × Sg) := fuel (fun _ _ _ _ => none) (fun kq37 => f_X11_times_b37 kq37 xq1 xq2)
def f_X11_times (xq1 : Int32) (xq2 : Int32) (σ : Sg) : Option (Int32 × Sg) :=
  if (f_X11_within xq1 1 40 σ) = true then
    if (f_X11_within xq2 0 999 σ) = true then
      lt (σ 24 3) fun vq1 =>
      f_X11_times_l37 xq1 xq2 400 vq1 0 0 σ
    else
      some ((-1), σ)
  else
    some ((-1), σ)
def f_X11_prove_b34 (kq34 : Int32 → Sg → Option (Int32 × Sg)) (xq2 : Int32) (σ : Sg) : Option (Int32 × Sg) :=
  if (σ 78 4) ≤ xq2 then
    lt (upS σ 0 15 (σ 78 4)) fun σ3 =>
    some ((σ3 0 15), σ3)
  else
    if xq2 < 0 ∨ 4 ≤ xq2.toNatClampNeg then none else
    Option.bind (rd σ 81 4 xq2) fun vq5 =>
    lt (upS σ (15 + xq2.toNatClampNeg) 0 vq5) fun σ6 =>
    if xq2 < 0 ∨ 4 ≤ xq2.toNatClampNeg then none else
    Option.bind (rd σ6 81 4 xq2) fun vq8 =>
    bd2 (f_X1_goByAct 64 vq8 σ6) fun vq9 σ10 =>
    lt (upS σ10 (15 + xq2.toNatClampNeg) 1 vq9) fun σ11 =>
    if xq2 < 0 ∨ 4 ≤ xq2.toNatClampNeg then none else
    lt (upS σ11 (15 + xq2.toNatClampNeg) 2 (σ11 64 3)) fun σ13 =>
    kq34 (xq2 + 1) σ13
def f_X11_prove_l34 : Nat → Int32 → Sg → Option (Int32 × Sg) := fuel (fun _ _ => none) (fun kq34 => f_X11_prove_b34 kq34)
def f_X11_prove (xq1 : Int32) (σ : Sg) : Option (Int32 × Sg) :=
  if (f_X11_isPlanLength xq1 σ) = true then
    Option.bind (f_X6_search xq1 0 σ) fun σ1 =>
    lt (f_X10_copy 64 41 σ1) fun σ2 =>
    f_X11_prove_l34 400 0 σ2
  else
    some ((-1), σ)
def f_X11_isInRows (xq1 : Int32) (xq2 : Int32) (σ : Sg) : Bool :=
  if (f_X11_within xq1 0 ((σ 0 15) - 1) σ) = true then
    if (f_X11_within xq2 0 2 σ) = true then
      true
    else
      false
  else
    false
def f_X11_row (xq1 : Int32) (xq2 : Int32) (σ : Sg) : Option Int32 :=
  if (f_X11_isInRows xq1 xq2 σ) = true then
    if xq1 < 0 ∨ 4 ≤ xq1.toNatClampNeg then none else
    Option.bind (rd σ (15 + xq1.toNatClampNeg) 3 xq2) fun vq2 =>
    some vq2
  else
    some (-9)
def f_X11_alterRow (xq1 : Int32) (xq2 : Int32) (xq3 : Int32) (σ : Sg) : Option (Int32 × Sg) :=
  if (f_X11_isInRows xq1 xq2 σ) = true then
    if xq1 < 0 ∨ 4 ≤ xq1.toNatClampNeg then none else
    Option.bind (rd σ (15 + xq1.toNatClampNeg) 3 xq2) fun vq2 =>
    if xq1 < 0 ∨ 4 ≤ xq1.toNatClampNeg then none else
    Option.bind (wr σ (15 + xq1.toNatClampNeg) 3 xq2 xq3) fun σ4 =>
    some (vq2, σ4)
  else
    some ((-9), σ)
def f_X11_isRightOnTrial (nq1 : Nat) (σ : Sg) : Option (Bool × Sg) :=
  if (f_X1_isOver 64 σ) = true then
    some (false, σ)
  else
    if (f_X11_within (σ nq1 0) 0 (σ 24 1) σ) = true then
      bd2 (f_X1_goByAct 64 (σ nq1 0) σ) fun vq1 σ2 =>
      if ¬ (σ2 nq1 1) = vq1 then
        some (false, σ2)
      else
        if ¬ (σ2 nq1 2) = (σ2 64 3) then
          some (false, σ2)
        else
          some (true, σ2)
    else
      some (false, σ)
def f_X11_judge_b16 (kq16 : Int32 → Sg → Option (Int32 × Sg)) (xq1 : Int32) (σ : Sg) : Option (Int32 × Sg) :=
  if (σ 0 15) ≤ xq1 then
    some (0, σ)
  else
    if xq1 < 0 ∨ 4 ≤ xq1.toNatClampNeg then none else
    bd2 (f_X11_isRightOnTrial (15 + xq1.toNatClampNeg) σ) fun vq3 σ4 =>
    if vq3 = true then
      kq16 (xq1 + 1) σ4
    else
      some ((xq1 + 1), σ4)
def f_X11_judge_l16 : Nat → Int32 → Sg → Option (Int32 × Sg) := fuel (fun _ _ => none) (fun kq16 => f_X11_judge_b16 kq16)
def f_X11_judge (σ : Sg) : Option (Int32 × Sg) :=
  lt (f_X10_copy 64 41 σ) fun σ1 =>
  f_X11_judge_l16 400 0 σ1
def f_X11_isSheet (xq0 : Int32) (σ : Sg) : Bool :=
  (f_X11_within xq0 0 3 σ)
def f_J7_fill_d0a16_b6 (kq6 : Int32 → Sg → Option Sg) (nq0 : Nat) (xq1 : Int32) (xq4 : Int32) (xq3 : Int32) (σ : Sg) : Option Sg :=
  if xq4 ≤ xq3 then
    some σ
  else
    Option.bind (wr σ nq0 40 xq3 xq1) fun σ1 =>
    kq6 (xq3 + 1) σ1
def f_J7_fill_d0a16_l6 (nq0 : Nat) (xq1 : Int32) (xq4 : Int32) : Nat → Int32 → Sg → Option Sg := fuel (fun _ _ => none) (fun kq6 => f_J7_fill_d0a16_b6 kq6 nq0 xq1 xq4)
def f_J7_fill_d0a16 (nq0 : Nat) (xq1 : Int32) (σ : Sg) : Option Sg :=
  f_J7_fill_d0a16_l6 nq0 xq1 40 400 0 σ
def f_X11_sheet_b65 (xq1 : Int32) (tq1 : Int32) (tq2 : Int32) (σ : Sg) : Option (Int32 × Sg) :=
  Option.bind (wr σ 10 4 tq1 tq2) fun σ2 =>
  if xq1 < 0 ∨ 4 ≤ xq1.toNatClampNeg then none else
  Option.bind (f_J7_fill_d0a16 (20 + xq1.toNatClampNeg) 0 σ2) fun σ4 =>
  some (1, σ4)
def f_X11_sheet_b43 (xq1 : Int32) (xq2 : Int32) (xq3 : Int32) (σ : Sg) : Option (Int32 × Sg) :=
  Option.bind (wr σ 9 4 xq1 xq2) fun σ1 =>
  if ¬ xq2 = (-1) then
    f_X11_sheet_b65 xq1 xq1 xq3 σ1
  else
    f_X11_sheet_b65 xq1 xq1 0 σ1
def f_X11_sheet_b31 (xq1 : Int32) (xq2 : Int32) (xq3 : Int32) (σ : Sg) : Option (Int32 × Sg) :=
  if xq2 = (-1) then
    f_X11_sheet_b43 xq1 xq2 xq3 σ
  else
    if 0 ≤ xq3 then
      f_X11_sheet_b43 xq1 xq2 xq3 σ
    else
      some ((-14), σ)
def f_X11_sheet (xq1 : Int32) (xq2 : Int32) (xq3 : Int32) (σ : Sg) : Option (Int32 × Sg) :=
  if (f_X11_isSheet xq1 σ) = true then
    if (f_X11_within xq2 (-1) 4 σ) = true then
      if xq2 = (-1) then
        f_X11_sheet_b31 xq1 xq2 xq3 σ
      else
        if xq3 ≤ 40 then
          f_X11_sheet_b31 xq1 xq2 xq3 σ
        else
          some ((-1), σ)
    else
      some ((-1), σ)
  else
    some ((-1), σ)
def f_X11_narrowed (xq0 : Int32) (xq1 : Int32) (σ : Sg) : Int32 :=
  if xq1 = 0 then
    xq0.toInt8.toInt32
  else
    if xq1 = 1 then
      xq0.toInt16.toInt32
    else
      if xq1 = 2 then
        xq0
      else
        if xq1 = 3 then
          xq0
        else
          if xq1 = 4 then
            if xq0 = 0 then
              0
            else
              1
          else
            xq0
def f_X11_write (xq1 : Int32) (xq2 : Int32) (xq3 : Int32) (σ : Sg) : Option (Int32 × Sg) :=
  if (f_X11_isSheet xq1 σ) = true then
    Option.bind (rd σ 9 4 xq1) fun vq1 =>
    if ¬ vq1 = (-1) then
      Option.bind (rd σ 10 4 xq1) fun vq2 =>
      if (f_X11_within xq2 0 (vq2 - 1) σ) = true then
        if xq1 < 0 ∨ 4 ≤ xq1.toNatClampNeg then none else
        Option.bind (rd σ 9 4 xq1) fun vq4 =>
        Option.bind (wr σ (20 + xq1.toNatClampNeg) 40 xq2 (f_X11_narrowed xq3 vq4 σ)) fun σ5 =>
        some (1, σ5)
      else
        some ((-12), σ)
    else
      some ((-11), σ)
  else
    some ((-1), σ)
def f_X11_refusalAs (xq1 : Int32) (xq2 : Int32) (σ : Sg) : Option Int32 :=
  Option.bind (rd σ 9 4 xq1) fun vq1 =>
  if ¬ vq1 = (-1) then
    Option.bind (rd σ 9 4 xq1) fun vq2 =>
    if ¬ vq2 = xq2 then
      some (-13)
    else
      some 0
  else
    some (-11)
def f_X11_item (xq1 : Int32) (xq2 : Int32) (xq3 : Int32) (σ : Sg) : Option Int32 :=
  if (f_X11_isSheet xq1 σ) = true then
    if (f_X11_within xq2 0 4 σ) = true then
      Option.bind (f_X11_refusalAs xq1 xq2 σ) fun vq1 =>
      if vq1 = 0 then
        Option.bind (rd σ 10 4 xq1) fun vq2 =>
        if (f_X11_within xq3 0 (vq2 - 1) σ) = true then
          if xq1 < 0 ∨ 4 ≤ xq1.toNatClampNeg then none else
          Option.bind (rd σ (20 + xq1.toNatClampNeg) 40 xq3) fun vq4 =>
          some vq4
        else
          some (-12)
      else
        some vq1
    else
      some (-1)
  else
    some (-1)
def f_X11_goAll_b41 (kq41 : Int32 → Int32 → Sg → Option (Int32 × Sg)) (xq1 : Int32) (xq2 : Int32) (xq3 : Int32) (xq5 : Int32) (xq6 : Int32) (σ : Sg) : Option (Int32 × Sg) :=
  if xq3 ≤ xq6 then
    some (xq5, σ)
  else
    Option.bind (rd σ 10 4 xq1) fun vq2 =>
    if (f_X11_within (xq2 + xq6) 0 (vq2 - 1) σ) = true then
      if xq1 < 0 ∨ 4 ≤ xq1.toNatClampNeg then none else
      Option.bind (rd σ (20 + xq1.toNatClampNeg) 40 (xq2 + xq6)) fun vq4 =>
      lt vq4 fun vq5 =>
      if (f_X11_within vq5 0 (σ 24 1) σ) = true then
        if (f_X1_isOver 41 σ) = true then
          kq41 xq5 (xq6 + 1) σ
        else
          bd2 (f_X1_goByAct 41 vq5 σ) fun vq6 σ7 =>
          lt (xq5 + vq6) fun vq8 =>
          kq41 vq8 (xq6 + 1) σ7
      else
        kq41 xq5 (xq6 + 1) σ
    else
      some ((-12), σ)
def f_X11_goAll_l41 (xq1 : Int32) (xq2 : Int32) (xq3 : Int32) : Nat → Int32 → Int32 → Sg → Option (Int32 × Sg) := fuel (fun _ _ _ => none) (fun kq41 => f_X11_goAll_b41 kq41 xq1 xq2 xq3)
def f_X11_goAll (xq1 : Int32) (xq2 : Int32) (xq3 : Int32) (σ : Sg) : Option (Int32 × Sg) :=
  if (f_X11_isSheet xq1 σ) = true then
    if (f_X11_within xq3 0 20 σ) = true then
      Option.bind (f_X11_refusalAs xq1 0 σ) fun vq1 =>
      if vq1 = 0 then
        f_X11_goAll_l41 xq1 xq2 xq3 400 0 0 σ
      else
        some (vq1, σ)
    else
      some ((-1), σ)
  else
    some ((-1), σ)
def f_X11_wouldBe_b55 (kq55 : Int32 → Int32 → Sg → Option (Int32 × Sg)) (xq1 : Int32) (xq2 : Int32) (xq3 : Int32) (xq5 : Int32) (xq6 : Int32) (σ : Sg) : Option (Int32 × Sg) :=
  if xq3 ≤ xq6 then
    some (xq5, σ)
  else
    Option.bind (rd σ 10 4 xq1) fun vq3 =>
    if (f_X11_within (xq2 + xq6) 0 (vq3 - 1) σ) = true then
      if xq1 < 0 ∨ 4 ≤ xq1.toNatClampNeg then none else
      Option.bind (rd σ (20 + xq1.toNatClampNeg) 40 (xq2 + xq6)) fun vq5 =>
      lt vq5 fun vq6 =>
      if (f_X11_within vq6 0 (σ 24 1) σ) = true then
        if (f_X1_isOver 64 σ) = true then
          some ((-4), σ)
        else
          bd2 (f_X1_goByAct 64 vq6 σ) fun vq7 σ8 =>
          lt (xq5 + vq7) fun vq9 =>
          kq55 vq9 (xq6 + 1) σ8
      else
        some ((-4), σ)
    else
      some ((-12), σ)
def f_X11_wouldBe_l55 (xq1 : Int32) (xq2 : Int32) (xq3 : Int32) : Nat → Int32 → Int32 → Sg → Option (Int32 × Sg) := fuel (fun _ _ _ => none) (fun kq55 => f_X11_wouldBe_b55 kq55 xq1 xq2 xq3)
def f_X11_wouldBe (xq1 : Int32) (xq2 : Int32) (xq3 : Int32) (σ : Sg) : Option (Int32 × Sg) :=
  if (f_X11_isSheet xq1 σ) = true then
    if (f_X11_within xq3 0 20 σ) = true then
      Option.bind (f_X11_refusalAs xq1 0 σ) fun vq1 =>
      if vq1 = 0 then
        lt (f_X10_copy 64 41 σ) fun σ2 =>
        f_X11_wouldBe_l55 xq1 xq2 xq3 400 0 0 σ2
      else
        some (vq1, σ)
    else
      some ((-1), σ)
  else
    some ((-1), σ)
def f_X11_isShelf (xq0 : Int32) (σ : Sg) : Bool :=
  (f_X11_within xq0 0 3 σ)
def f_X11_putOn (xq1 : Int32) (xq2 : Int32) (xq3 : Int32) (xq4 : Int32) (σ : Sg) : Option (Int32 × Sg) :=
  Option.bind (wr σ 11 4 xq1 xq2) fun σ1 =>
  Option.bind (wr σ1 12 4 xq1 xq3) fun σ2 =>
  Option.bind (wr σ2 13 4 xq1 xq4) fun σ3 =>
  some (1, σ3)
def f_X11_putRowOn (xq1 : Int32) (xq2 : Int32) (σ : Sg) : Option (Int32 × Sg) :=
  Option.bind (rd σ 9 4 xq2) fun vq1 =>
  if ¬ vq1 = (-1) then
    Option.bind (rd σ 9 4 xq2) fun vq2 =>
    Option.bind (rd σ 10 4 xq2) fun vq3 =>
    bd2 (f_X11_putOn xq1 1 vq2 vq3 σ) fun vq4 σ5 =>
    some (vq4, σ5)
  else
    bd2 (f_X11_putOn xq1 2 0 0 σ) fun vq6 σ7 =>
    some (vq6, σ7)
def f_X11_shelf (xq1 : Int32) (xq2 : Int32) (xq3 : Int32) (σ : Sg) : Option (Int32 × Sg) :=
  if (f_X11_isShelf xq1 σ) = true then
    if xq2 = 0 then
      if (f_X11_isKite xq3 σ) = true then
        bd2 (f_X11_putOn xq1 0 xq3 0 σ) fun vq1 σ2 =>
        some (vq1, σ2)
      else
        some ((-1), σ)
    else
      if xq2 = 1 then
        if (f_X11_isSheet xq3 σ) = true then
          bd2 (f_X11_putRowOn xq1 xq3 σ) fun vq3 σ4 =>
          some (vq3, σ4)
        else
          some ((-1), σ)
      else
        if xq2 = 2 then
          bd2 (f_X11_putOn xq1 2 0 0 σ) fun vq5 σ6 =>
          some (vq5, σ6)
        else
          some ((-1), σ)
  else
    some ((-1), σ)
def f_X11_holdsKite (xq1 : Int32) (σ : Sg) : Option Bool :=
  Option.bind (rd σ 11 4 xq1) fun vq1 =>
  if ¬ vq1 = 0 then
    some false
  else
    Option.bind (rd σ 12 4 xq1) fun vq2 =>
    if (f_X11_isKite vq2 σ) = true then
      some true
    else
      some false
def f_X11_taken_b31 (xq1 : Int32) (xq2 : Int32) (xq3 : Int32) (σ : Sg) : Option Int32 :=
  Option.bind (f_X11_holdsKite xq1 σ) fun vq1 =>
  if vq1 = true then
    Option.bind (rd σ 12 4 xq1) fun vq5 =>
    if ¬ xq3 = 0 then
      some (-13)
    else
      Option.bind (rd σ 25 6 vq5) fun vq6 =>
      if (f_X11_isOrUnder vq6 xq2 σ) = true then
        some vq5
      else
        some (-13)
  else
    Option.bind (rd σ 11 4 xq1) fun vq2 =>
    if ¬ vq2 = 1 then
      some (-11)
    else
      Option.bind (rd σ 12 4 xq1) fun vq3 =>
      if ¬ vq3 = (xq2 - 10) then
        some (-13)
      else
        Option.bind (rd σ 13 4 xq1) fun vq4 =>
        some vq4
def f_X11_taken (xq1 : Int32) (xq2 : Int32) (σ : Sg) : Option Int32 :=
  if (f_X11_isShelf xq1 σ) = true then
    if (f_X11_within xq2 10 14 σ) = true then
      f_X11_taken_b31 xq1 xq2 (b2i (f_X11_within xq2 10 14 σ)) σ
    else
      if (f_X11_within xq2 0 5 σ) = true then
        f_X11_taken_b31 xq1 xq2 (b2i (f_X11_within xq2 10 14 σ)) σ
      else
        some (-1)
  else
    some (-1)
def f_X11_act_b141 (iq5 : Nat) (xq6 : Int32) (σ : Sg) : Option (Int32 × Sg) :=
  lt (upS σ 0 16 (σ (3 + iq5) 3)) fun σ16 =>
  if (σ16 (3 + iq5) 4) = 0 then
    some (xq6, σ16)
  else
    some ((-15), σ16)
def f_X11_act (xq1 : Int32) (xq2 : Int32) (xq3 : Int32) (σ : Sg) : Option (Int32 × Sg) :=
  lt (upS σ 0 16 0) fun σ1 =>
  if (f_X11_isShelf xq1 σ1) = true then
    if (f_X11_within xq2 0 3 σ1) = true then
      Option.bind (f_X11_holdsKite xq1 σ1) fun vq2 =>
      if vq2 = true then
        Option.bind (rd σ1 12 4 xq1) fun vq3 =>
        Option.bind (rd σ1 25 6 vq3) fun vq4 =>
        if vq4 < 0 ∨ 6 ≤ vq4.toNatClampNeg then none else
        Option.bind (rd σ1 26 6 vq3) fun vq6 =>
        lt (cv_become vq4.toNatClampNeg vq3 vq6 σ1) fun σ7 =>
        if xq2 = 0 then
          bd2 (cv_flies vq4.toNatClampNeg xq3 σ7) fun vq8 σ9 =>
          f_X11_act_b141 vq4.toNatClampNeg vq8 σ9
        else
          if xq2 = 1 then
            bd2 (cv_reads vq4.toNatClampNeg xq3 σ7) fun vq10 σ11 =>
            f_X11_act_b141 vq4.toNatClampNeg vq10 σ11
          else
            if xq2 = 2 then
              bd2 (cv_parts vq4.toNatClampNeg xq3 σ7) fun vq12 σ13 =>
              f_X11_act_b141 vq4.toNatClampNeg vq12 σ13
            else
              bd2 (cv_calls vq4.toNatClampNeg xq3 σ7) fun vq14 σ15 =>
              f_X11_act_b141 vq4.toNatClampNeg vq14 σ15
      else
        some (0, σ1)
    else
      some (0, σ1)
  else
    some (0, σ1)
def f_X11_trace (xq1 : Int32) (σ : Sg) : Option Int32 :=
  if (f_X11_within xq1 0 ((σ 0 16) - 1) σ) = true then
    Option.bind (rd σ 1 30 xq1) fun vq1 =>
    some vq1
  else
    some (-3)
def f_J6_bitCount_0f7a4 (xq0 : Int32) (σ : Sg) : Int32 :=
  lt (xq0 - ((ushr32 xq0 1) &&& 1431655765)) fun vq1 =>
  lt ((vq1 &&& 858993459) + ((ushr32 vq1 2) &&& 858993459)) fun vq2 =>
  lt ((vq2 + (ushr32 vq2 4)) &&& 252645135) fun vq3 =>
  lt (vq3 + (ushr32 vq3 8)) fun vq4 =>
  lt (vq4 + (ushr32 vq4 16)) fun vq5 =>
  (vq5 &&& 63)
def f_X11_many (xq1 : Int32) (σ : Sg) : Int32 :=
  if xq1 = 0 then
    (σ 24 1)
  else
    if xq1 = 1 then
      (σ 34 0)
    else
      if xq1 = 2 then
        (f_J6_bitCount_0f7a4 (σ 41 3) σ)
      else
        if xq1 = 3 then
          (σ 24 4)
        else
          if xq1 = 4 then
            (σ 0 15)
          else
            if xq1 = 5 then
              (σ 67 0)
            else
              if xq1 = 6 then
                (σ 0 16)
              else
                (-1)
def f_X9_copy_p54_p34 (σ : Sg) : Sg :=
  lt (upS σ 54 0 (σ 34 0)) fun σ1 =>
  lt (upS σ1 54 1 (σ1 34 1)) fun σ2 =>
  lt (cpy σ2 35 55 8) fun σ3 =>
  lt (cpy σ3 36 56 8) fun σ4 =>
  lt (cpy σ4 37 57 8) fun σ5 =>
  lt (cpy σ5 38 58 8) fun σ6 =>
  lt (cpy σ6 39 59 200) fun σ7 =>
  σ7
def f_X1_copy_p44_p24 (σ : Sg) : Sg :=
  lt (upS σ 44 1 (σ 24 1)) fun σ1 =>
  lt (upS σ1 44 2 (σ1 24 2)) fun σ2 =>
  lt (upS σ2 44 3 (σ2 24 3)) fun σ3 =>
  lt (upS σ3 44 4 (σ3 24 4)) fun σ4 =>
  lt (cpy σ4 25 45 6) fun σ5 =>
  lt (cpy σ5 26 46 6) fun σ6 =>
  lt (cpy σ6 27 47 16) fun σ7 =>
  lt (cpy σ7 28 48 6) fun σ8 =>
  lt (cpy σ8 29 49 6) fun σ9 =>
  lt (cpy σ9 30 50 6) fun σ10 =>
  lt (cpy σ10 31 51 6) fun σ11 =>
  lt (cpy σ11 32 52 6) fun σ12 =>
  lt (cpy σ12 33 53 6) fun σ13 =>
  lt (f_X9_copy_p54_p34 σ13) fun σ14 =>
  lt (f_X10_copy 61 41 σ14) fun σ15 =>
  σ15
def f_X11_keep (σ : Sg) : Int32 × Sg :=
  lt (f_X1_copy_p44_p24 σ) fun σ1 =>
  lt (upS σ1 0 14 1) fun σ2 =>
  (1, σ2)
def f_X9_copy_p34_p54 (σ : Sg) : Sg :=
  lt (upS σ 34 0 (σ 54 0)) fun σ1 =>
  lt (upS σ1 34 1 (σ1 54 1)) fun σ2 =>
  lt (cpy σ2 55 35 8) fun σ3 =>
  lt (cpy σ3 56 36 8) fun σ4 =>
  lt (cpy σ4 57 37 8) fun σ5 =>
  lt (cpy σ5 58 38 8) fun σ6 =>
  lt (cpy σ6 59 39 200) fun σ7 =>
  σ7
def f_X1_copy_p24_p44 (σ : Sg) : Sg :=
  lt (upS σ 24 1 (σ 44 1)) fun σ1 =>
  lt (upS σ1 24 2 (σ1 44 2)) fun σ2 =>
  lt (upS σ2 24 3 (σ2 44 3)) fun σ3 =>
  lt (upS σ3 24 4 (σ3 44 4)) fun σ4 =>
  lt (cpy σ4 45 25 6) fun σ5 =>
  lt (cpy σ5 46 26 6) fun σ6 =>
  lt (cpy σ6 47 27 16) fun σ7 =>
  lt (cpy σ7 48 28 6) fun σ8 =>
  lt (cpy σ8 49 29 6) fun σ9 =>
  lt (cpy σ9 50 30 6) fun σ10 =>
  lt (cpy σ10 51 31 6) fun σ11 =>
  lt (cpy σ11 52 32 6) fun σ12 =>
  lt (cpy σ12 53 33 6) fun σ13 =>
  lt (f_X9_copy_p34_p54 σ13) fun σ14 =>
  lt (f_X10_copy 41 61 σ14) fun σ15 =>
  σ15
def f_X11_again (σ : Sg) : Int32 × Sg :=
  if ¬ (σ 0 14) = 0 then
    lt (f_X1_copy_p24_p44 σ) fun σ1 =>
    ((σ1 24 1), σ1)
  else
    ((-3), σ)
