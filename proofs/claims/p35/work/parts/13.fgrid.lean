def f_Grid_isLine (σ : St) (v0 : Nat) (v1 : Int32) : Option Int32 :=
  jn (some 0) fun j21_1 =>
  if v1 < 0 then
    j21_1
  else
    if v1 < (σ v0 3) then
      if v1 < 5 then
        some 1
      else
        j21_1
    else
      j21_1

def f_Grid_has (σ : St) (v0 : Nat) (v1 : Int32) (v2 : Int32) : Option Int32 :=
  cap (f_Grid_isLine σ v0 v1) fun r_2 =>
  jn (some 0) fun j20_3 =>
  if r_2 = 0 then
    j20_3
  else
    cap (f_Grid_isLine σ v0 v2) fun r_5 =>
    if r_5 = 0 then
      j20_3
    else
      some 1

def f_Grid_signAt (σ : St) (v0 : Nat) (v1 : Int32) (v2 : Int32) : Option Int32 :=
  cap (f_Grid_has σ v0 v1 v2) fun r_2 =>
  if r_2 = 0 then
    some (-1)
  else
    ald σ (v0 + 1) 25 ((5 * v1) + v2) fun r_3 =>
    some r_3

def f_Q_isIn (σ : St) (v0 : Int32) (v1 : Int32) : Option Int32 :=
  jn (some 0) fun j23_1 =>
  if v1 < 0 then
    j23_1
  else
    if v1 < 31 then
      if ((v0 >>> (v1 &&& 31)) &&& 1) = 1 then
        some 1
      else
        j23_1
    else
      j23_1

def f_Grid_hasInLines (σ : St) (v0 : Nat) (v1 : Int32) (v2 : Int32) (v3 : Int32) : Option Int32 :=
  cap (f_Grid_has σ v0 v1 v2) fun r_2 =>
  jn (some 0) fun j33_3 =>
  if r_2 = 0 then
    j33_3
  else
    ald σ (v0 + 2) 5 v1 fun r_4 =>
    ald σ (v0 + 3) 5 v2 fun r_5 =>
    cap (f_Q_isIn σ (r_4 ||| r_5) v3) fun r_7 =>
    if r_7 = 0 then
      j33_3
    else
      some 1

def f_Grid_set (σ : St) (v0 : Nat) (v1 : Int32) (v2 : Int32) (v3 : Int32) : Option (Unit × St) :=
  cap (f_Grid_has σ v0 v1 v2) fun r_2 =>
  if r_2 = 0 then
    some ((), σ)
  else
    if v3 < (-1) then
      some ((), σ)
    else
      if v3 < (σ v0 3) then
        ald σ (v0 + 1) 25 ((5 * v1) + v2) fun r_3 =>
        jn (fun (σ_5 : St) => jn (fun (σ_7 : St) => ast σ_7 (v0 + 1) 25 ((5 * v1) + v2) v3 fun σ_8 =>
        some ((), σ_8)) fun j120_6 =>
        if v3 = (-1) then
          j120_6 σ_5
        else
          ald σ_5 (v0 + 2) 5 v1 fun r_9 =>
          ast σ_5 (v0 + 2) 5 v1 (r_9 ||| (1 <<< (v3 &&& 31))) fun σ_10 =>
          ald σ_10 (v0 + 3) 5 v2 fun r_11 =>
          ast σ_10 (v0 + 3) 5 v2 (r_11 ||| (1 <<< (v3 &&& 31))) fun σ_12 =>
          sto σ_12 v0 4 ((σ_12 v0 4) + 1) fun σ_13 =>
          j120_6 σ_13) fun j81_4 =>
        if r_3 = (-1) then
          j81_4 σ
        else
          ald σ (v0 + 2) 5 v1 fun r_14 =>
          ast σ (v0 + 2) 5 v1 (r_14 &&& ((1 <<< (r_3 &&& 31)) ^^^ (-1))) fun σ_15 =>
          ald σ_15 (v0 + 3) 5 v2 fun r_16 =>
          ast σ_15 (v0 + 3) 5 v2 (r_16 &&& ((1 <<< (r_3 &&& 31)) ^^^ (-1))) fun σ_17 =>
          sto σ_17 v0 4 ((σ_17 v0 4) - 1) fun σ_18 =>
          j81_4 σ_18
      else
        some ((), σ)

def f_Grid_allSigns (σ : St) (v0 : Nat) : Option Int32 :=
  some ((1 <<< ((σ v0 3) &&& 31)) - 1)

def f_Grid_isRowFull (σ : St) (v0 : Nat) (v1 : Int32) : Option Int32 :=
  cap (f_Grid_isLine σ v0 v1) fun r_2 =>
  jn (some 0) fun j25_3 =>
  if r_2 = 0 then
    j25_3
  else
    ald σ (v0 + 2) 5 v1 fun r_4 =>
    cap (f_Grid_allSigns σ v0) fun r_6 =>
    if r_4 = r_6 then
      some 1
    else
      j25_3

def f_Grid_columnOf_L2 (v0 : Nat) (v1 : Int32) (v2 : Int32) (σ : St) (kx20 : Int32 → Option Int32) : Nat → Int32 → Option Int32
  | 0, _ => none
  | n + 1, v3 =>     if v3 < (σ v0 3) then
      cap (f_Grid_signAt σ v0 v1 v3) fun r_2 =>
      if r_2 = v2 then
        kx20 v3
      else
        f_Grid_columnOf_L2 v0 v1 v2 σ kx20 n (v3 + 1)
    else
      some (-1)

def f_Grid_columnOf (σ : St) (v0 : Nat) (v1 : Int32) (v2 : Int32) : Option Int32 :=
  f_Grid_columnOf_L2 v0 v1 v2 σ (fun (v3_3 : Int32) => some v3_3) FU 0

def f_Grid_exchange (σ : St) (v0 : Nat) (v1 : Int32) (v2 : Int32) (v3 : Int32) : Option (Unit × St) :=
  cap (f_Grid_has σ v0 v1 v3) fun r_2 =>
  if r_2 = 0 then
    some ((), σ)
  else
    cap (f_Grid_has σ v0 v2 v3) fun r_4 =>
    if r_4 = 0 then
      some ((), σ)
    else
      ald σ (v0 + 1) 25 ((5 * v1) + v3) fun r_5 =>
      ald σ (v0 + 1) 25 ((5 * v2) + v3) fun r_6 =>
      ast σ (v0 + 1) 25 ((5 * v1) + v3) r_6 fun σ_7 =>
      ast σ_7 (v0 + 1) 25 ((5 * v2) + v3) r_5 fun σ_8 =>
      some ((), σ_8)

def f_Grid_turnRows_L6 (v0 : Nat) (v1 : Int32) (v2 : Int32) (kx53 : Int32 → St → Option (Int32 × St)) : Nat → Int32 → Int32 → St → Option (Int32 × St)
  | 0, _, _, _ => none
  | n + 1, v4, v5, σ =>     if v4 < (σ v0 3) then
      if v5 = (-1) then
        kx53 v4 σ
      else
        cap (f_Grid_signAt σ v0 v2 v5) fun r_2 =>
        cap (f_Grid_columnOf σ v0 v1 r_2) fun r_4 =>
        cal (f_Grid_exchange σ v0 v1 v2 v5) fun r_6 σ_7 =>
        f_Grid_turnRows_L6 v0 v1 v2 kx53 n (v4 + 1) r_4 σ_7
    else
      kx53 v4 σ

def f_Grid_turnRows (σ : St) (v0 : Nat) (v1 : Int32) (v2 : Int32) (v3 : Int32) : Option (Int32 × St) :=
  f_Grid_turnRows_L6 v0 v1 v2 (fun (v4_8 : Int32) (σ_9 : St) => some (v4_8, σ_9)) FU 0 v3 σ

def f_Grid_copy_L18 (v0 : Nat) (v1 : Nat) (kx42 : St → Option (Unit × St)) : Nat → Int32 → St → Option (Unit × St)
  | 0, _, _ => none
  | n + 1, v2, σ =>     if v2 < 25 then
      ald σ (v1 + 1) 25 v2 fun r_3 =>
      ast σ (v0 + 1) 25 v2 r_3 fun σ_4 =>
      f_Grid_copy_L18 v0 v1 kx42 n (v2 + 1) σ_4
    else
      kx42 σ

def f_Grid_copy_L44 (v0 : Nat) (v1 : Nat) : Nat → Int32 → St → Option (Unit × St)
  | 0, _, _ => none
  | n + 1, v2, σ =>     if v2 < 5 then
      ald σ (v1 + 2) 5 v2 fun r_6 =>
      ast σ (v0 + 2) 5 v2 r_6 fun σ_7 =>
      ald σ_7 (v1 + 3) 5 v2 fun r_8 =>
      ast σ_7 (v0 + 3) 5 v2 r_8 fun σ_9 =>
      f_Grid_copy_L44 v0 v1 n (v2 + 1) σ_9
    else
      some ((), σ)

def f_Grid_copy (σ : St) (v0 : Nat) (v1 : Nat) : Option (Unit × St) :=
  sto σ v0 3 (σ v1 3) fun σ_1 =>
  sto σ_1 v0 4 (σ_1 v1 4) fun σ_2 =>
  f_Grid_copy_L18 v0 v1 (fun (σ_5 : St) => f_Grid_copy_L44 v0 v1 FU 0 σ_5) FU 0 σ_2

def f_Grid_optionsAt (σ : St) (v0 : Nat) (v1 : Int32) (v2 : Int32) : Option Int32 :=
  cap (f_Grid_has σ v0 v1 v2) fun r_2 =>
  if r_2 = 0 then
    some 0
  else
    ald σ (v0 + 1) 25 ((5 * v1) + v2) fun r_3 =>
    if r_3 = (-1) then
      cap (f_Grid_allSigns σ v0) fun r_5 =>
      ald σ (v0 + 2) 5 v1 fun r_6 =>
      ald σ (v0 + 3) 5 v2 fun r_7 =>
      some (r_5 &&& ((r_6 ||| r_7) ^^^ (-1)))
    else
      some 0

def f_Grid_deadCells_L14 (v0 : Nat) (v2 : Int32) (σ : St) (kx50 : Int32 → Option Int32) : Nat → Int32 → Int32 → Option Int32
  | 0, _, _ => none
  | n + 1, v1, v3 =>     if v3 < (σ v0 3) then
      cap (f_Grid_signAt σ v0 v2 v3) fun r_2 =>
      jn (fun (v1_4 : Int32) => f_Grid_deadCells_L14 v0 v2 σ kx50 n v1_4 (v3 + 1)) fun j44_3 =>
      if r_2 = (-1) then
        cap (f_Grid_optionsAt σ v0 v2 v3) fun r_6 =>
        if r_6 = 0 then
          j44_3 (v1 + 1)
        else
          j44_3 v1
      else
        j44_3 v1
    else
      kx50 v1

def f_Grid_deadCells_L4 (v0 : Nat) (σ : St) (kx56 : Int32 → Option Int32) : Nat → Int32 → Int32 → Option Int32
  | 0, _, _ => none
  | n + 1, v1, v2 =>     if v2 < (σ v0 3) then
      f_Grid_deadCells_L14 v0 v2 σ (fun (v1_7 : Int32) => f_Grid_deadCells_L4 v0 σ kx56 n v1_7 (v2 + 1)) FU v1 0
    else
      kx56 v1

def f_Grid_deadCells (σ : St) (v0 : Nat) : Option Int32 :=
  f_Grid_deadCells_L4 v0 σ (fun (v1_8 : Int32) => some v1_8) FU 0 0

def f_Grid_clear_L20 (v0 : Nat) (kx39 : St → Option (Unit × St)) : Nat → Int32 → St → Option (Unit × St)
  | 0, _, _ => none
  | n + 1, v2, σ =>     if v2 < 25 then
      ast σ (v0 + 1) 25 v2 (-1) fun σ_3 =>
      f_Grid_clear_L20 v0 kx39 n (v2 + 1) σ_3
    else
      kx39 σ

def f_Grid_clear_L41 (v0 : Nat) : Nat → Int32 → St → Option (Unit × St)
  | 0, _, _ => none
  | n + 1, v2, σ =>     if v2 < 5 then
      ast σ (v0 + 2) 5 v2 0 fun σ_5 =>
      ast σ_5 (v0 + 3) 5 v2 0 fun σ_6 =>
      f_Grid_clear_L41 v0 n (v2 + 1) σ_6
    else
      some ((), σ)

def f_Grid_clear (σ : St) (v0 : Nat) (v1 : Int32) : Option (Unit × St) :=
  sto σ v0 3 (mmax 2 (mmin v1 5)) fun σ_1 =>
  sto σ_1 v0 4 0 fun σ_2 =>
  f_Grid_clear_L20 v0 (fun (σ_4 : St) => f_Grid_clear_L41 v0 FU 0 σ_4) FU 0 σ_2

