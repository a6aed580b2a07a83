def f_Q_gridAt (σ : St) (v1 : Int32) : Option (Except Nat Nat × St) :=
  jn (some (.error 1, σ)) fun j30_1 =>
  if v1 < 0 then
    j30_1
  else
    if v1 < (σ 0 8) then
      if v1 < 12 then
        gld v1 fun g_2 =>
        gld v1 fun g_3 =>
        some (.ok g_3, σ)
      else
        j30_1
    else
      j30_1

def f_Q_needCell (σ : St) (v0 : Nat) (v1 : Int32) (v2 : Int32) : Option (Except Nat Unit × St) :=
  cap (f_Grid_has σ v0 v1 v2) fun r_2 =>
  if r_2 = 0 then
    some (.error 1, σ)
  else
    some (.ok (), σ)

def f_Q_isFrom (σ : St) (v0 : Int32) (v1 : Int32) (v2 : Int32) : Option Int32 :=
  jn (some 0) fun j14_1 =>
  if v0 < v1 then
    j14_1
  else
    if v0 ≤ v2 then
      some 1
    else
      j14_1

def f_Q_needArgument (σ : St) (v0 : Int32) : Option (Except Nat Unit × St) :=
  if v0 = 0 then
    some (.error 2, σ)
  else
    some (.ok (), σ)

def f_Q_needState (σ : St) (v0 : Int32) : Option (Except Nat Unit × St) :=
  if v0 = 0 then
    some (.error 3, σ)
  else
    some (.ok (), σ)

def f_Q_put (σ : St) (v1 : Int32) (v2 : Int32) (v3 : Int32) (v4 : Int32) : Option (Except Nat Int32 × St) :=
  cax (f_Q_gridAt σ v1) fun r_2 σ_3 =>
  cax (f_Q_needCell σ_3 r_2 v2 v3) fun r_5 σ_6 =>
  cap (f_Q_isFrom σ_6 v4 (-1) ((σ_6 r_2 3) - 1)) fun r_8 =>
  cax (f_Q_needArgument σ_6 r_8) fun r_10 σ_11 =>
  cap (f_Grid_signAt σ_11 r_2 v2 v3) fun r_13 =>
  jn (fun (σ_15 : St) => some (.ok r_13, σ_15)) fun j75_14 =>
  if v4 = r_13 then
    j75_14 σ_11
  else
    cap (f_Grid_hasInLines σ_11 r_2 v2 v3 v4) fun r_17 =>
    jn (fun (s_19 : Int32) => cax (f_Q_needState σ_11 s_19) fun r_21 σ_22 =>
    cal (f_Grid_set σ_22 r_2 v2 v3 v4) fun r_24 σ_25 =>
    j75_14 σ_25) fun j63_18 =>
    if r_17 = 0 then
      j63_18 1
    else
      j63_18 0

def f_Q_turn (σ : St) (v1 : Int32) (v2 : Int32) (v3 : Int32) (v4 : Int32) : Option (Except Nat Int32 × St) :=
  cax (f_Q_gridAt σ v1) fun r_2 σ_3 =>
  cax (f_Q_needCell σ_3 r_2 v2 v4) fun r_5 σ_6 =>
  cax (f_Q_needCell σ_6 r_2 v3 v4) fun r_8 σ_9 =>
  jn (fun (s_11 : Int32) => cax (f_Q_needArgument σ_9 s_11) fun r_13 σ_14 =>
  cap (f_Grid_isRowFull σ_14 r_2 v2) fun r_16 =>
  jn (fun (s_18 : Int32) => cax (f_Q_needState σ_14 s_18) fun r_20 σ_21 =>
  cal (f_Grid_turnRows σ_21 r_2 v2 v3 v4) fun r_23 σ_24 =>
  some (.ok r_23, σ_24)) fun j59_17 =>
  jn (j59_17 0) fun j58_25 =>
  if r_16 = 0 then
    j58_25
  else
    cap (f_Grid_isRowFull σ_14 r_2 v3) fun r_27 =>
    if r_27 = 0 then
      j58_25
    else
      j59_17 1) fun j33_10 =>
  if v2 = v3 then
    j33_10 0
  else
    j33_10 1

def f_Q_logic (σ : St) (v1 : Int32) : Option (Except Nat Int32 × St) :=
  cax (f_Q_gridAt σ v1) fun r_2 σ_3 =>
  cal (f_Grid_copy σ_3 2 r_2) fun r_5 σ_6 =>
  cal (f_Filling_fillForced σ_6 2) fun r_8 σ_9 =>
  some (.ok r_8, σ_9)

def f_Q_forced (σ : St) (v1 : Int32) : Option (Except Nat Int32 × St) :=
  cax (f_Q_gridAt σ v1) fun r_2 σ_3 =>
  cap (f_Filling_firstForced σ_3 r_2) fun r_5 =>
  cap (f_Move_told σ_3 r_5 (σ_3 r_2 3)) fun r_7 =>
  some (.ok r_7, σ_3)

def f_Q_can (σ : St) (v1 : Int32) (v2 : Int32) (v3 : Int32) : Option (Except Nat Int32 × St) :=
  cax (f_Q_gridAt σ v1) fun r_2 σ_3 =>
  cax (f_Q_needCell σ_3 r_2 v2 v3) fun r_5 σ_6 =>
  cap (f_Grid_optionsAt σ_6 r_2 v2 v3) fun r_8 =>
  some (.ok r_8, σ_6)

def f_Q_distance_L51 (v3 : Nat) (v4 : Nat) (v6 : Int32) (σ : St) (kx89 : Int32 → Option (Except Nat Int32 × St)) : Nat → Int32 → Int32 → Option (Except Nat Int32 × St)
  | 0, _, _ => none
  | n + 1, v5, v7 =>     if v7 < (σ v3 3) then
      cap (f_Grid_signAt σ v3 v6 v7) fun r_13 =>
      cap (f_Grid_signAt σ v4 v6 v7) fun r_15 =>
      jn (fun (v5_17 : Int32) => f_Q_distance_L51 v3 v4 v6 σ kx89 n v5_17 (v7 + 1)) fun j83_16 =>
      if r_13 = r_15 then
        j83_16 v5
      else
        j83_16 (v5 + 1)
    else
      kx89 v5

def f_Q_distance_L39 (v3 : Nat) (v4 : Nat) (σ : St) (kx95 : Int32 → Option (Except Nat Int32 × St)) : Nat → Int32 → Int32 → Option (Except Nat Int32 × St)
  | 0, _, _ => none
  | n + 1, v5, v6 =>     if v6 < (σ v3 3) then
      f_Q_distance_L51 v3 v4 v6 σ (fun (v5_18 : Int32) => f_Q_distance_L39 v3 v4 σ kx95 n v5_18 (v6 + 1)) FU v5 0
    else
      kx95 v5

def f_Q_distance (σ : St) (v1 : Int32) (v2 : Int32) : Option (Except Nat Int32 × St) :=
  cax (f_Q_gridAt σ v1) fun r_2 σ_3 =>
  cax (f_Q_gridAt σ_3 v2) fun r_5 σ_6 =>
  jn (fun (s_8 : Int32) => cax (f_Q_needArgument σ_6 s_8) fun r_10 σ_11 =>
  f_Q_distance_L39 r_2 r_5 σ_11 (fun (v5_19 : Int32) => some (.ok v5_19, σ_11)) FU 0 0) fun j30_7 =>
  if (σ_6 r_2 3) = (σ_6 r_5 3) then
    j30_7 1
  else
    j30_7 0

def f_Q_of (σ : St) (v1 : Int32) (v2 : Int32) : Option (Except Nat Int32 × St) :=
  cax (f_Q_gridAt σ v1) fun r_2 σ_3 =>
  cap (f_Q_isFrom σ_3 v2 0 2) fun r_5 =>
  cax (f_Q_needArgument σ_3 r_5) fun r_7 σ_8 =>
  if v2 = 0 then
    some (.ok (σ_8 r_2 3), σ_8)
  else
    if v2 = 1 then
      some (.ok (σ_8 r_2 4), σ_8)
    else
      cap (f_Grid_deadCells σ_8 r_2) fun r_10 =>
      some (.ok r_10, σ_8)

def f_Q_cell (σ : St) (v1 : Int32) (v2 : Int32) (v3 : Int32) : Option (Except Nat Int32 × St) :=
  cax (f_Q_gridAt σ v1) fun r_2 σ_3 =>
  cax (f_Q_needCell σ_3 r_2 v2 v3) fun r_5 σ_6 =>
  cap (f_Grid_signAt σ_6 r_2 v2 v3) fun r_8 =>
  some (.ok r_8, σ_6)

def f_Q_newGrid (σ : St) (v1 : Int32) : Option (Except Nat Nat × St) :=
  jn (some (.error 3, σ)) fun j31_1 =>
  if (σ 0 8) < 0 then
    j31_1
  else
    if (σ 0 8) < 12 then
      gld (σ 0 8) fun g_2 =>
      gld (σ 0 8) fun g_3 =>
      sto σ 0 8 ((σ 0 8) + 1) fun σ_4 =>
      cal (f_Grid_clear σ_4 g_3 v1) fun r_6 σ_7 =>
      some (.ok g_3, σ_7)
    else
      j31_1

def f_Q_setConjugate (σ : St) (v0 : Nat) (v1 : Int32) (v2 : Int32) (v3 : Int32) (v4 : Int32) : Option (Unit × St) :=
  if v1 = 0 then
    cal (f_Grid_set σ v0 v2 v3 v4) fun r_2 σ_3 =>
    some ((), σ_3)
  else
    if v1 = 1 then
      cal (f_Grid_set σ v0 v3 v2 v4) fun r_5 σ_6 =>
      some ((), σ_6)
    else
      if v1 = 2 then
        cal (f_Grid_set σ v0 v2 v4 v3) fun r_8 σ_9 =>
        some ((), σ_9)
      else
        if v1 = 3 then
          cal (f_Grid_set σ v0 v4 v3 v2) fun r_11 σ_12 =>
          some ((), σ_12)
        else
          if v1 = 4 then
            cal (f_Grid_set σ v0 v3 v4 v2) fun r_14 σ_15 =>
            some ((), σ_15)
          else
            cal (f_Grid_set σ v0 v4 v2 v3) fun r_17 σ_18 =>
            some ((), σ_18)

def f_Q_conjugate_L40 (v2 : Int32) (v3 : Nat) (v4 : Nat) (v5 : Int32) (kx83 : St → Option (Except Nat Int32 × St)) : Nat → Int32 → St → Option (Except Nat Int32 × St)
  | 0, _, _ => none
  | n + 1, v6, σ =>     if v6 < (σ v3 3) then
      cap (f_Grid_signAt σ v3 v5 v6) fun r_13 =>
      jn (fun (σ_15 : St) => f_Q_conjugate_L40 v2 v3 v4 v5 kx83 n (v6 + 1) σ_15) fun j77_14 =>
      if r_13 = (-1) then
        j77_14 σ
      else
        cal (f_Q_setConjugate σ v4 v2 v5 v6 r_13) fun r_17 σ_18 =>
        j77_14 σ_18
    else
      kx83 σ

def f_Q_conjugate_L28 (v2 : Int32) (v3 : Nat) (v4 : Nat) (kx89 : St → Option (Except Nat Int32 × St)) : Nat → Int32 → St → Option (Except Nat Int32 × St)
  | 0, _, _ => none
  | n + 1, v5, σ =>     if v5 < (σ v3 3) then
      f_Q_conjugate_L40 v2 v3 v4 v5 (fun (σ_19 : St) => f_Q_conjugate_L28 v2 v3 v4 kx89 n (v5 + 1) σ_19) FU 0 σ
    else
      kx89 σ

def f_Q_conjugate (σ : St) (v1 : Int32) (v2 : Int32) : Option (Except Nat Int32 × St) :=
  cax (f_Q_gridAt σ v1) fun r_2 σ_3 =>
  cap (f_Q_isFrom σ_3 v2 0 5) fun r_5 =>
  cax (f_Q_needArgument σ_3 r_5) fun r_7 σ_8 =>
  cax (f_Q_newGrid σ_8 (σ_8 r_2 3)) fun r_10 σ_11 =>
  f_Q_conjugate_L28 v2 r_2 r_10 (fun (σ_20 : St) => some (.ok ((σ_20 0 8) - 1), σ_20)) FU 0 σ_11

def f_Q_remainder (σ : St) (v0 : Int32) (v1 : Int32) : Option Int32 :=
  if v1 ≤ 0 then
    some 0
  else
    rmi v0 v1 fun q_1 =>
    some q_1

def f_Q_reachesAll_L4 (v0 : Int32) (v1 : Int32) (σ : St) (kx27 : Int32 → Option Int32) : Nat → Int32 → Int32 → Option Int32
  | 0, _, _ => none
  | n + 1, v2, v3 =>     if v3 < v1 then
      cap (f_Q_remainder σ (v0 * v3) v1) fun r_2 =>
      lt1 (v2 ||| (1 <<< (r_2 &&& 31))) fun v2_3 =>
      f_Q_reachesAll_L4 v0 v1 σ kx27 n v2_3 (v3 + 1)
    else
      kx27 v2

def f_Q_reachesAll (σ : St) (v0 : Int32) (v1 : Int32) : Option Int32 :=
  f_Q_reachesAll_L4 v0 v1 σ (fun (v2_4 : Int32) => if v2_4 = ((1 <<< (v1 &&& 31)) - 1) then
    some 1
  else
    some 0) FU 0 0

def f_Q_linear_L88 (v1 : Int32) (v2 : Int32) (v3 : Int32) (v4 : Int32) (v5 : Nat) (v6 : Int32) (kx125 : St → Option (Except Nat Int32 × St)) : Nat → Int32 → St → Option (Except Nat Int32 × St)
  | 0, _, _ => none
  | n + 1, v7, σ =>     if v7 < v1 then
      cap (f_Q_remainder σ (((v2 * v6) + (v3 * v7)) + v4) v1) fun r_24 =>
      cal (f_Grid_set σ v5 v6 v7 r_24) fun r_26 σ_27 =>
      f_Q_linear_L88 v1 v2 v3 v4 v5 v6 kx125 n (v7 + 1) σ_27
    else
      kx125 σ

def f_Q_linear_L79 (v1 : Int32) (v2 : Int32) (v3 : Int32) (v4 : Int32) (v5 : Nat) (kx131 : St → Option (Except Nat Int32 × St)) : Nat → Int32 → St → Option (Except Nat Int32 × St)
  | 0, _, _ => none
  | n + 1, v6, σ =>     if v6 < v1 then
      f_Q_linear_L88 v1 v2 v3 v4 v5 v6 (fun (σ_28 : St) => f_Q_linear_L79 v1 v2 v3 v4 v5 kx131 n (v6 + 1) σ_28) FU 0 σ
    else
      kx131 σ

def f_Q_linear (σ : St) (v1 : Int32) (v2 : Int32) (v3 : Int32) (v4 : Int32) : Option (Except Nat Int32 × St) :=
  cap (f_Q_isFrom σ v1 2 5) fun r_2 =>
  cax (f_Q_needArgument σ r_2) fun r_4 σ_5 =>
  cap (f_Q_isFrom σ_5 v2 0 4) fun r_7 =>
  jn (fun (s_9 : Int32) => cax (f_Q_needArgument σ_5 s_9) fun r_11 σ_12 =>
  cap (f_Q_reachesAll σ_12 v2 v1) fun r_14 =>
  jn (fun (s_16 : Int32) => cax (f_Q_needArgument σ_12 s_16) fun r_18 σ_19 =>
  cax (f_Q_newGrid σ_19 v1) fun r_21 σ_22 =>
  f_Q_linear_L79 v1 v2 v3 v4 r_21 (fun (σ_29 : St) => some (.ok ((σ_29 0 8) - 1), σ_29)) FU 0 σ_22) fun j66_15 =>
  jn (j66_15 0) fun j65_30 =>
  if r_14 = 0 then
    j65_30
  else
    cap (f_Q_reachesAll σ_12 v3 v1) fun r_32 =>
    if r_32 = 0 then
      j65_30
    else
      j66_15 1) fun j42_8 =>
  jn (j42_8 0) fun j41_33 =>
  if r_7 = 0 then
    j41_33
  else
    cap (f_Q_isFrom σ_5 v3 0 4) fun r_35 =>
    if r_35 = 0 then
      j41_33
    else
      cap (f_Q_isFrom σ_5 v4 0 4) fun r_37 =>
      if r_37 = 0 then
        j41_33
      else
        j42_8 1

def f_Q_grid (σ : St) (v1 : Int32) : Option (Except Nat Int32 × St) :=
  cap (f_Q_isFrom σ v1 2 5) fun r_2 =>
  cax (f_Q_needArgument σ r_2) fun r_4 σ_5 =>
  cax (f_Q_newGrid σ_5 v1) fun r_7 σ_8 =>
  some (.ok ((σ_8 0 8) - 1), σ_8)

