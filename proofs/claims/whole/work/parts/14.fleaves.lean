def f_Move_packed (σ : St) (v0 : Int32) (v1 : Int32) (v2 : Int32) : Option Int32 :=
  some ((10 * ((5 * v0) + v1)) + v2)

def f_Move_row (σ : St) (v0 : Int32) : Option Int32 :=
  dvi v0 50 fun q_1 =>
  some q_1

def f_Move_column (σ : St) (v0 : Int32) : Option Int32 :=
  dvi v0 10 fun q_1 =>
  rmi q_1 5 fun q_2 =>
  some q_2

def f_Move_sign (σ : St) (v0 : Int32) : Option Int32 :=
  rmi v0 10 fun q_1 =>
  some q_1

def f_Move_told (σ : St) (v0 : Int32) (v1 : Int32) : Option Int32 :=
  if v0 = (-1) then
    some (-1)
  else
    cap (f_Move_row σ v0) fun r_2 =>
    cap (f_Move_column σ v0) fun r_4 =>
    cap (f_Move_sign σ v0) fun r_6 =>
    some ((10 * ((v1 * r_2) + r_4)) + r_6)

def f_Laws_entry (σ : St) (v0 : Nat) (v1 : Int32) (v2 : Int32) (v3 : Int32) : Option Int32 :=
  if v1 = 0 then
    cap (f_Grid_signAt σ v0 v2 v3) fun r_2 =>
    some r_2
  else
    if v1 = 1 then
      cap (f_Grid_signAt σ v0 v3 v2) fun r_4 =>
      some r_4
    else
      cap (f_Grid_columnOf σ v0 v3 v2) fun r_6 =>
      some r_6

def f_Laws_parityOf_L27 (v0 : Nat) (v1 : Int32) (v3 : Int32) (v4 : Int32) (σ : St) (kx62 : Int32 → Option Int32) : Nat → Int32 → Int32 → Option Int32
  | 0, _, _ => none
  | n + 1, v2, v5 =>     if v5 < v4 then
      cap (f_Laws_entry σ v0 v1 v3 v4) fun r_2 =>
      cap (f_Laws_entry σ v0 v1 v3 v5) fun r_4 =>
      jn (fun (v2_6 : Int32) => f_Laws_parityOf_L27 v0 v1 v3 v4 σ kx62 n v2_6 (v5 + 1)) fun j56_5 =>
      if r_2 < r_4 then
        j56_5 (v2 + 1)
      else
        j56_5 v2
    else
      kx62 v2

def f_Laws_parityOf_L15 (v0 : Nat) (v1 : Int32) (v3 : Int32) (σ : St) (kx68 : Int32 → Option Int32) : Nat → Int32 → Int32 → Option Int32
  | 0, _, _ => none
  | n + 1, v2, v4 =>     if v4 < (σ v0 3) then
      f_Laws_parityOf_L27 v0 v1 v3 v4 σ (fun (v2_7 : Int32) => f_Laws_parityOf_L15 v0 v1 v3 σ kx68 n v2_7 (v4 + 1)) FU v2 0
    else
      kx68 v2

def f_Laws_parityOf_L4 (v0 : Nat) (v1 : Int32) (σ : St) (kx74 : Int32 → Option Int32) : Nat → Int32 → Int32 → Option Int32
  | 0, _, _ => none
  | n + 1, v2, v3 =>     if v3 < (σ v0 3) then
      f_Laws_parityOf_L15 v0 v1 v3 σ (fun (v2_8 : Int32) => f_Laws_parityOf_L4 v0 v1 σ kx74 n v2_8 (v3 + 1)) FU v2 1
    else
      kx74 v2

def f_Laws_parityOf (σ : St) (v0 : Nat) (v1 : Int32) : Option Int32 :=
  f_Laws_parityOf_L4 v0 v1 σ (fun (v2_9 : Int32) => some (v2_9 &&& 1)) FU 0 0

def f_Maps_amount (σ : St) (v1 : Int32) : Option Int32 :=
  jn (some 0) fun j20_1 =>
  if v1 < 0 then
    j20_1
  else
    if v1 < 6 then
      fac v1 fun r_4 =>
      some r_4
    else
      j20_1

def f_Maps_imageOf (σ : St) (v1 : Int32) (v2 : Int32) : Option Int32 :=
  jn (fun (s_2 : Int32) => if s_2 = 0 then
    some (-1)
  else
    ald σ 7 600 ((5 * v1) + v2) fun r_3 =>
    some r_3) fun j24_1 =>
  jn (j24_1 0) fun j23_4 =>
  if v1 < 0 then
    j23_4
  else
    if v1 < 120 then
      if v2 < 0 then
        j23_4
      else
        if v2 < 5 then
          j24_1 1
        else
          j23_4
    else
      j23_4

def f_Maps_pairsOf (σ : St) (v1 : Int32) (v2 : Int32) : Option Int32 :=
  jn (some 0) fun j27_1 =>
  if v1 < 0 then
    j27_1
  else
    if v1 < 120 then
      ald σ 8 120 v1 fun r_2 =>
      some (r_2 &&& ((1 <<< ((5 * v2) &&& 31)) - 1))
    else
      j27_1

def f_Laws_productsOf_L15 (v0 : Nat) (v1 : Int32) (v3 : Int32) (σ : St) (kx59 : Int32 → Option Int32) : Nat → Int32 → Int32 → Option Int32
  | 0, _, _ => none
  | n + 1, v2, v4 =>     if v4 < (σ v0 3) then
      cap (f_Q_isIn σ v1 v3) fun r_2 =>
      jn (fun (v2_4 : Int32) => f_Laws_productsOf_L15 v0 v1 v3 σ kx59 n v2_4 (v4 + 1)) fun j53_3 =>
      if r_2 = 0 then
        j53_3 v2
      else
        cap (f_Q_isIn σ v1 v4) fun r_6 =>
        if r_6 = 0 then
          j53_3 v2
        else
          cap (f_Grid_signAt σ v0 v3 v4) fun r_8 =>
          lt1 (v2 ||| (1 <<< (r_8 &&& 31))) fun v2_9 =>
          j53_3 v2_9
    else
      kx59 v2

def f_Laws_productsOf_L4 (v0 : Nat) (v1 : Int32) (σ : St) (kx65 : Int32 → Option Int32) : Nat → Int32 → Int32 → Option Int32
  | 0, _, _ => none
  | n + 1, v2, v3 =>     if v3 < (σ v0 3) then
      f_Laws_productsOf_L15 v0 v1 v3 σ (fun (v2_10 : Int32) => f_Laws_productsOf_L4 v0 v1 σ kx65 n v2_10 (v3 + 1)) FU v2 0
    else
      kx65 v2

def f_Laws_productsOf (σ : St) (v0 : Nat) (v1 : Int32) : Option Int32 :=
  f_Laws_productsOf_L4 v0 v1 σ (fun (v2_11 : Int32) => some v2_11) FU 0 0

def f_Laws_closedSets_L4 (v0 : Nat) (σ : St) (kx33 : Int32 → Option Int32) : Nat → Int32 → Int32 → Option Int32
  | 0, _, _ => none
  | n + 1, v1, v2 =>     cap (f_Grid_allSigns σ v0) fun r_2 =>
    if v2 ≤ r_2 then
      cap (f_Laws_productsOf σ v0 v2) fun r_4 =>
      jn (fun (v1_6 : Int32) => f_Laws_closedSets_L4 v0 σ kx33 n v1_6 (v2 + 1)) fun j27_5 =>
      if (r_4 &&& (v2 ^^^ (-1))) = 0 then
        j27_5 (v1 + 1)
      else
        j27_5 v1
    else
      kx33 v1

def f_Laws_closedSets (σ : St) (v0 : Nat) : Option Int32 :=
  f_Laws_closedSets_L4 v0 σ (fun (v1_7 : Int32) => some v1_7) FU 0 1

def f_Maps_write (σ : St) (v1 : Int32) (v2 : Int32) : Option (Unit × St) :=
  if v1 < 0 then
    some ((), σ)
  else
    if v1 < 5 then
      ast σ 9 5 v1 v2 fun σ_1 =>
      some ((), σ_1)
    else
      some ((), σ)

def f_Maps_numberOfDraft_L60 (v1 : Int32) (v3 : Int32) (v4 : Int32) (v5 : Int32) (σ : St) (kx103 : Int32 → Option Int32) : Nat → Int32 → Int32 → Option Int32
  | 0, _, _ => none
  | n + 1, v2, v6 =>     if v6 < v1 then
      if v6 < 5 then
        ald σ 9 5 v6 fun r_3 =>
        jn (fun (s_5 : Int32) => f_Maps_numberOfDraft_L60 v1 v3 v4 v5 σ kx103 n (v2 + s_5) (v6 + 1)) fun j95_4 =>
        if r_3 < v5 then
          fac v5 fun r_7 =>
          j95_4 r_7
        else
          j95_4 0
      else
        kx103 v2
    else
      kx103 v2

def f_Maps_numberOfDraft_L7 (v1 : Int32) (σ : St) (kx109 : Int32 → Int32 → Option Int32) : Nat → Int32 → Int32 → Int32 → Option Int32
  | 0, _, _, _ => none
  | n + 1, v2, v3, v4 =>     if v4 < v1 then
      if v4 < 5 then
        ald σ 9 5 v4 fun r_1 =>
        if r_1 < 0 then
          some (-1)
        else
          if r_1 < v1 then
            if r_1 < 5 then
              lt1 (v3 ||| (1 <<< (r_1 &&& 31))) fun v3_2 =>
              f_Maps_numberOfDraft_L60 v1 v3_2 v4 r_1 σ (fun (v2_8 : Int32) => f_Maps_numberOfDraft_L7 v1 σ kx109 n v2_8 v3_2 (v4 + 1)) FU v2 (v4 + 1)
            else
              some (-1)
          else
            some (-1)
      else
        kx109 v2 v3
    else
      kx109 v2 v3

def f_Maps_numberOfDraft (σ : St) (v1 : Int32) : Option Int32 :=
  f_Maps_numberOfDraft_L7 v1 σ (fun (v2_9 : Int32) (v3_10 : Int32) => if v3_10 = ((1 <<< (v1 &&& 31)) - 1) then
    some v2_9
  else
    some (-1)) FU 0 0 0

def f_Maps_oneBehindOther_L3 (v1 : Int32) (v2 : Int32) (v3 : Int32) (kx33 : St → Option (Int32 × St)) : Nat → Int32 → St → Option (Int32 × St)
  | 0, _, _ => none
  | n + 1, v4, σ =>     if v4 < v3 then
      cap (f_Maps_imageOf σ v1 v4) fun r_2 =>
      cap (f_Maps_imageOf σ v2 r_2) fun r_4 =>
      cal (f_Maps_write σ v4 r_4) fun r_6 σ_7 =>
      f_Maps_oneBehindOther_L3 v1 v2 v3 kx33 n (v4 + 1) σ_7
    else
      kx33 σ

def f_Maps_oneBehindOther (σ : St) (v1 : Int32) (v2 : Int32) (v3 : Int32) : Option (Int32 × St) :=
  f_Maps_oneBehindOther_L3 v1 v2 v3 (fun (σ_8 : St) => cap (f_Maps_numberOfDraft σ_8 v3) fun r_10 =>
  some (r_10, σ_8)) FU 0 σ

def f_Laws_closedFrom_L4 (v0 : Nat) (σ : St) (kx26 : Int32 → Option Int32) : Nat → Int32 → Int32 → Option Int32
  | 0, _, _ => none
  | n + 1, v2, v3 =>     if v3 < (σ v0 3) then
      cap (f_Laws_productsOf σ v0 v2) fun r_2 =>
      f_Laws_closedFrom_L4 v0 σ kx26 n (v2 ||| r_2) (v3 + 1)
    else
      kx26 v2

def f_Laws_closedFrom (σ : St) (v0 : Nat) (v1 : Int32) : Option Int32 :=
  f_Laws_closedFrom_L4 v0 σ (fun (v2_3 : Int32) => some v2_3) FU v1 0

def f_Laws_associates (σ : St) (v0 : Nat) (v1 : Int32) (v2 : Int32) (v3 : Int32) : Option Int32 :=
  cap (f_Grid_signAt σ v0 v1 v2) fun r_2 =>
  cap (f_Grid_signAt σ v0 r_2 v3) fun r_4 =>
  cap (f_Grid_signAt σ v0 v2 v3) fun r_6 =>
  cap (f_Grid_signAt σ v0 v1 r_6) fun r_8 =>
  if r_4 = r_8 then
    some 1
  else
    some 0

def f_Laws_associatesAt_L13 (v0 : Nat) (v1 : Int32) (v2 : Int32) (v3 : Int32) (σ : St) (kx97 : Option Int32) : Nat → Int32 → Option Int32
  | 0, _ => none
  | n + 1, v4 =>     if v4 < (σ v0 3) then
      jn (fun (v5_2 : Int32) => if v5_2 = 0 then
        some 0
      else
        f_Laws_associatesAt_L13 v0 v1 v2 v3 σ kx97 n (v4 + 1)) fun j84_1 =>
      if v1 = 0 then
        cap (f_Laws_associates σ v0 v2 v3 v4) fun r_4 =>
        j84_1 r_4
      else
        if v1 = 1 then
          cap (f_Laws_associates σ v0 v3 v2 v4) fun r_6 =>
          j84_1 r_6
        else
          cap (f_Laws_associates σ v0 v3 v4 v2) fun r_8 =>
          j84_1 r_8
    else
      kx97

def f_Laws_associatesAt_L2 (v0 : Nat) (v1 : Int32) (v2 : Int32) (σ : St) : Nat → Int32 → Option Int32
  | 0, _ => none
  | n + 1, v3 =>     if v3 < (σ v0 3) then
      f_Laws_associatesAt_L13 v0 v1 v2 v3 σ (f_Laws_associatesAt_L2 v0 v1 v2 σ n (v3 + 1)) FU 0
    else
      some 1

def f_Laws_associatesAt (σ : St) (v0 : Nat) (v1 : Int32) (v2 : Int32) : Option Int32 :=
  f_Laws_associatesAt_L2 v0 v1 v2 σ FU 0

def f_Laws_commutes_L2 (v0 : Nat) (v1 : Int32) (σ : St) : Nat → Int32 → Option Int32
  | 0, _ => none
  | n + 1, v2 =>     if v2 < (σ v0 3) then
      cap (f_Grid_signAt σ v0 v1 v2) fun r_2 =>
      cap (f_Grid_signAt σ v0 v2 v1) fun r_4 =>
      if r_2 = r_4 then
        f_Laws_commutes_L2 v0 v1 σ n (v2 + 1)
      else
        some 0
    else
      some 1

def f_Laws_commutes (σ : St) (v0 : Nat) (v1 : Int32) : Option Int32 :=
  f_Laws_commutes_L2 v0 v1 σ FU 0

def f_Laws_isInNucleus (σ : St) (v0 : Nat) (v1 : Int32) (v2 : Int32) : Option Int32 :=
  if v1 = 3 then
    cap (f_Laws_associatesAt σ v0 0 v2) fun r_4 =>
    jn (some 0) fun j44_5 =>
    if r_4 = 0 then
      j44_5
    else
      cap (f_Laws_associatesAt σ v0 1 v2) fun r_7 =>
      if r_7 = 0 then
        j44_5
      else
        cap (f_Laws_associatesAt σ v0 2 v2) fun r_9 =>
        if r_9 = 0 then
          j44_5
        else
          cap (f_Laws_commutes σ v0 v2) fun r_11 =>
          if r_11 = 0 then
            j44_5
          else
            some 1
  else
    cap (f_Laws_associatesAt σ v0 v1 v2) fun r_2 =>
    some (zb r_2)

def f_Laws_nucleusOf_L4 (v0 : Nat) (v1 : Int32) (σ : St) (kx33 : Int32 → Option Int32) : Nat → Int32 → Int32 → Option Int32
  | 0, _, _ => none
  | n + 1, v2, v3 =>     if v3 < (σ v0 3) then
      cap (f_Laws_isInNucleus σ v0 v1 v3) fun r_2 =>
      jn (fun (v2_4 : Int32) => f_Laws_nucleusOf_L4 v0 v1 σ kx33 n v2_4 (v3 + 1)) fun j27_3 =>
      if r_2 = 0 then
        j27_3 v2
      else
        lt1 (v2 ||| (1 <<< (v3 &&& 31))) fun v2_5 =>
        j27_3 v2_5
    else
      kx33 v2

def f_Laws_nucleusOf (σ : St) (v0 : Nat) (v1 : Int32) : Option Int32 :=
  f_Laws_nucleusOf_L4 v0 v1 σ (fun (v2_6 : Int32) => some v2_6) FU 0 0

def f_Laws_isUnit_L2 (v0 : Nat) (v1 : Int32) (σ : St) : Nat → Int32 → Option Int32
  | 0, _ => none
  | n + 1, v2 =>     if v2 < (σ v0 3) then
      cap (f_Grid_signAt σ v0 v1 v2) fun r_2 =>
      if r_2 = v2 then
        cap (f_Grid_signAt σ v0 v2 v1) fun r_4 =>
        if r_4 = v2 then
          f_Laws_isUnit_L2 v0 v1 σ n (v2 + 1)
        else
          some 0
      else
        some 0
    else
      some 1

def f_Laws_isUnit (σ : St) (v0 : Nat) (v1 : Int32) : Option Int32 :=
  f_Laws_isUnit_L2 v0 v1 σ FU 0

def f_Laws_unitOf_L2 (v0 : Nat) (σ : St) (kx18 : Int32 → Option Int32) : Nat → Int32 → Option Int32
  | 0, _ => none
  | n + 1, v1 =>     if v1 < (σ v0 3) then
      cap (f_Laws_isUnit σ v0 v1) fun r_2 =>
      if r_2 = 0 then
        f_Laws_unitOf_L2 v0 σ kx18 n (v1 + 1)
      else
        kx18 v1
    else
      some (-1)

def f_Laws_unitOf (σ : St) (v0 : Nat) : Option Int32 :=
  f_Laws_unitOf_L2 v0 σ (fun (v1_3 : Int32) => some v1_3) FU 0

def f_Tape_canFollow (σ : St) (v1 : Int32) (v2 : Int32) (v3 : Int32) : Option Int32 :=
  if v2 < 0 then
    some 0
  else
    if v2 < 40 then
      ald σ 12 41 v2 fun r_1 =>
      if v1 = 41 then
        jn (some 0) fun j62_2 =>
        if v2 ≤ 0 then
          j62_2
        else
          if r_1 = 2 then
            some 1
          else
            j62_2
      else
        if v1 = 61 then
          jn (some 0) fun j82_3 =>
          if v2 = 0 then
            if v3 = 0 then
              if r_1 = 1 then
                some 1
              else
                j82_3
            else
              j82_3
          else
            j82_3
        else
          jn (fun (s_5 : Int32) => if r_1 < s_5 then
            some 1
          else
            some 0) fun j95_4 =>
          if v2 = 0 then
            j95_4 1
          else
            j95_4 2
    else
      some 0

def f_Tape_beginBracket (σ : St) (v1 : Int32) : Option (Unit × St) :=
  if v1 < 0 then
    some ((), σ)
  else
    if v1 < 41 then
      ast σ 12 41 v1 0 fun σ_1 =>
      some ((), σ_1)
    else
      some ((), σ)

def f_Tape_endWord (σ : St) (v1 : Int32) : Option (Unit × St) :=
  if v1 < 0 then
    some ((), σ)
  else
    if v1 < 41 then
      ald σ 12 41 v1 fun r_1 =>
      ast σ 12 41 v1 (r_1 + 1) fun σ_2 =>
      some ((), σ_2)
    else
      some ((), σ)

def f_Tape_firstFault_L13 (kx46 : Int32 → St → Option (Int32 × St)) (kx112 : Int32 → Int32 → St → Option (Int32 × St)) : Nat → Int32 → Int32 → Int32 → St → Option (Int32 × St)
  | 0, _, _, _, _ => none
  | n + 1, v1, v2, v3, σ =>     if v3 < (σ 10 3) then
      if v3 < 40 then
        ald σ 11 40 v3 fun r_2 =>
        cap (f_Tape_canFollow σ r_2 v1 v2) fun r_4 =>
        if r_4 = 0 then
          kx46 v3 σ
        else
          jn (fun (v1_6 : Int32) (v2_7 : Int32) (σ_8 : St) => f_Tape_firstFault_L13 kx46 kx112 n v1_6 v2_7 (v3 + 1) σ_8) fun j106_5 =>
          if r_2 = 61 then
            ast σ 12 41 0 0 fun σ_17 =>
            j106_5 v1 (v2 + 1) σ_17
          else
            if r_2 = 40 then
              cal (f_Tape_beginBracket σ (v1 + 1)) fun r_15 σ_16 =>
              j106_5 (v1 + 1) v2 σ_16
            else
              jn (fun (s_10 : Int32) => cal (f_Tape_endWord σ (v1 - s_10)) fun r_12 σ_13 =>
              j106_5 (v1 - s_10) v2 σ_13) fun j99_9 =>
              if r_2 = 41 then
                j99_9 1
              else
                j99_9 0
      else
        kx112 v1 v2 σ
    else
      kx112 v1 v2 σ

def f_Tape_firstFault (σ : St)  : Option (Int32 × St) :=
  ast σ 12 41 0 0 fun σ_1 =>
  f_Tape_firstFault_L13 (fun (v3_18 : Int32) (σ_19 : St) => some (v3_18, σ_19)) (fun (v1_20 : Int32) (v2_21 : Int32) (σ_22 : St) => jn (some ((σ_22 10 3), σ_22)) fun j135_23 =>
  if v2_21 = 1 then
    if v1_20 = 0 then
      ald σ_22 12 41 0 fun r_24 =>
      if r_24 = 1 then
        some ((-1), σ_22)
      else
        j135_23
    else
      j135_23
  else
    j135_23) FU 0 0 0 σ_1

def f_Tape_hasCharacter_L2 (v1 : Int32) (σ : St) : Nat → Int32 → Option Int32
  | 0, _ => none
  | n + 1, v2 =>     if v2 < (σ 10 3) then
      if v2 < 40 then
        ald σ 11 40 v2 fun r_1 =>
        if r_1 = v1 then
          some 1
        else
          f_Tape_hasCharacter_L2 v1 σ n (v2 + 1)
      else
        some 0
    else
      some 0

def f_Tape_hasCharacter (σ : St) (v1 : Int32) : Option Int32 :=
  f_Tape_hasCharacter_L2 v1 σ FU 0

def f_Tape_isLetter (σ : St) (v0 : Int32) : Option Int32 :=
  jn (some 0) fun j16_1 =>
  if v0 < 120 then
    j16_1
  else
    if v0 ≤ 122 then
      some 1
    else
      j16_1

def f_Tape_holds_L6 (v1 : Nat) (v2 : Int32) (v3 : Int32) (v4 : Int32) (kx154 : St → Option (Int32 × St)) : Nat → Int32 → Int32 → St → Option (Int32 × St)
  | 0, _, _, _ => none
  | n + 1, v5, v6, σ =>     if v6 < (σ 10 3) then
      if v6 < 40 then
        ald σ 11 40 v6 fun r_1 =>
        cap (f_Tape_isLetter σ r_1) fun r_3 =>
        jn (fun (v5_5 : Int32) (σ_6 : St) => f_Tape_holds_L6 v1 v2 v3 v4 kx154 n v5_5 (v6 + 1) σ_6) fun j148_4 =>
        jn (if r_1 = 41 then
          if v5 < 2 then
            j148_4 v5 σ
          else
            if v5 ≤ 40 then
              ald σ 13 40 (v5 - 2) fun r_8 =>
              ald σ 13 40 (v5 - 1) fun r_9 =>
              cap (f_Grid_signAt σ v1 r_8 r_9) fun r_11 =>
              ast σ 13 40 (v5 - 2) r_11 fun σ_12 =>
              j148_4 (v5 + (-1)) σ_12
            else
              j148_4 v5 σ
        else
          j148_4 v5 σ) fun j91_7 =>
        if r_3 = 0 then
          j91_7
        else
          if v5 < 0 then
            j91_7
          else
            if v5 < 40 then
              jn (fun (s_14 : Int32) => ast σ 13 40 v5 s_14 fun σ_15 =>
              j148_4 (v5 + 1) σ_15) fun j84_13 =>
              if r_1 = 120 then
                j84_13 v2
              else
                if r_1 = 121 then
                  j84_13 v3
                else
                  j84_13 v4
            else
              j91_7
      else
        kx154 σ
    else
      kx154 σ

def f_Tape_holds (σ : St) (v1 : Nat) (v2 : Int32) (v3 : Int32) (v4 : Int32) : Option (Int32 × St) :=
  f_Tape_holds_L6 v1 v2 v3 v4 (fun (σ_16 : St) => ald σ_16 13 40 0 fun r_17 =>
  ald σ_16 13 40 1 fun r_18 =>
  if r_17 = r_18 then
    some (1, σ_16)
  else
    some (0, σ_16)) FU 0 0 σ

def f_Tape_firstBreak_L75 (v1 : Nat) (v2 : Int32) (v3 : Int32) (v4 : Int32) (v5 : Int32) (v6 : Int32) (v7 : Int32) (kx95 : Int32 → St → Option (Int32 × St)) (kx116 : St → Option (Int32 × St)) : Nat → Int32 → St → Option (Int32 × St)
  | 0, _, _ => none
  | n + 1, v8, σ =>     if v8 < v3 then
      cal (f_Tape_holds σ v1 v8 v7 v6) fun r_14 σ_15 =>
      if r_14 = 0 then
        kx95 v8 σ_15
      else
        f_Tape_firstBreak_L75 v1 v2 v3 v4 v5 v6 v7 kx95 kx116 n (v8 + 1) σ_15
    else
      kx116 σ

def f_Tape_firstBreak_L65 (v1 : Nat) (v2 : Int32) (v3 : Int32) (v4 : Int32) (v5 : Int32) (v6 : Int32) (kx95 : Int32 → Int32 → St → Option (Int32 × St)) (kx122 : St → Option (Int32 × St)) : Nat → Int32 → St → Option (Int32 × St)
  | 0, _, _ => none
  | n + 1, v7, σ =>     if v7 < v4 then
      f_Tape_firstBreak_L75 v1 v2 v3 v4 v5 v6 v7 (fun (v8_16 : Int32) (σ_17 : St) => kx95 v7 v8_16 σ_17) (fun (σ_18 : St) => f_Tape_firstBreak_L65 v1 v2 v3 v4 v5 v6 kx95 kx122 n (v7 + 1) σ_18) FU 0 σ
    else
      kx122 σ

def f_Tape_firstBreak_L55 (v1 : Nat) (v2 : Int32) (v3 : Int32) (v4 : Int32) (v5 : Int32) (kx95 : Int32 → Int32 → Int32 → St → Option (Int32 × St)) : Nat → Int32 → St → Option (Int32 × St)
  | 0, _, _ => none
  | n + 1, v6, σ =>     if v6 < v5 then
      f_Tape_firstBreak_L65 v1 v2 v3 v4 v5 v6 (fun (v7_19 : Int32) (v8_20 : Int32) (σ_21 : St) => kx95 v6 v7_19 v8_20 σ_21) (fun (σ_22 : St) => f_Tape_firstBreak_L55 v1 v2 v3 v4 v5 kx95 n (v6 + 1) σ_22) FU 0 σ
    else
      some ((-1), σ)

def f_Tape_firstBreak (σ : St) (v1 : Nat) : Option (Int32 × St) :=
  cap (f_Tape_hasCharacter σ 120) fun r_2 =>
  jn (fun (s_4 : Int32) => cap (f_Tape_hasCharacter σ 121) fun r_6 =>
  jn (fun (s_8 : Int32) => cap (f_Tape_hasCharacter σ 122) fun r_10 =>
  jn (fun (s_12 : Int32) => f_Tape_firstBreak_L55 v1 (σ v1 3) s_4 s_8 s_12 (fun (v6_23 : Int32) (v7_24 : Int32) (v8_25 : Int32) (σ_26 : St) => some (((v8_25 + ((σ v1 3) * v7_24)) + (((σ v1 3) * (σ v1 3)) * v6_23)), σ_26)) FU 0 σ) fun j50_11 =>
  if r_10 = 0 then
    j50_11 1
  else
    j50_11 (σ v1 3)) fun j34_7 =>
  if r_6 = 0 then
    j34_7 1
  else
    j34_7 (σ v1 3)) fun j19_3 =>
  if r_2 = 0 then
    j19_3 1
  else
    j19_3 (σ v1 3)

def f_Tape_isCharacter (σ : St) (v0 : Int32) : Option Int32 :=
  cap (f_Tape_isLetter σ v0) fun r_2 =>
  jn (some 1) fun j25_3 =>
  if r_2 = 0 then
    if v0 = 40 then
      j25_3
    else
      if v0 = 41 then
        j25_3
      else
        if v0 = 61 then
          j25_3
        else
          some 0
  else
    j25_3

def f_Tape_append (σ : St) (v1 : Int32) : Option (Unit × St) :=
  if (σ 10 3) < 0 then
    some ((), σ)
  else
    if (σ 10 3) < 40 then
      ast σ 11 40 (σ 10 3) v1 fun σ_1 =>
      sto σ_1 10 3 ((σ_1 10 3) + 1) fun σ_2 =>
      some ((), σ_2)
    else
      some ((), σ)

def f_Maps_numberOfCode_L5 (v2 : Int32) (kx32 : Int32 → St → Option (Int32 × St)) : Nat → Int32 → Int32 → St → Option (Int32 × St)
  | 0, _, _, _ => none
  | n + 1, v3, v4, σ =>     if v4 < v2 then
      rmi v3 10 fun q_1 =>
      cal (f_Maps_write σ v4 q_1) fun r_3 σ_4 =>
      dvi v3 10 fun q_5 =>
      f_Maps_numberOfCode_L5 v2 kx32 n q_5 (v4 + 1) σ_4
    else
      kx32 v3 σ

def f_Maps_numberOfCode (σ : St) (v1 : Int32) (v2 : Int32) : Option (Int32 × St) :=
  f_Maps_numberOfCode_L5 v2 (fun (v3_6 : Int32) (σ_7 : St) => if v3_6 = 0 then
    cap (f_Maps_numberOfDraft σ_7 v2) fun r_9 =>
    some (r_9, σ_7)
  else
    some ((-1), σ_7)) FU v1 0 σ

def f_Maps_arrange_L39 (v2 : Int32) (v3 : Int32) (v4 : Int32) (v6 : Int32) (kx86 : Int32 → St → Option (Unit × St)) : Nat → Int32 → Int32 → St → Option (Unit × St)
  | 0, _, _, _ => none
  | n + 1, v5, v7, σ =>     if v7 < v6 then
      if v5 ≤ 0 then
        kx86 v5 σ
      else
        if v5 < 600 then
          ald σ 7 600 (v5 - 1) fun r_3 =>
          ast σ 7 600 v5 r_3 fun σ_4 =>
          f_Maps_arrange_L39 v2 v3 v4 v6 kx86 n (v5 + (-1)) (v7 + 1) σ_4
        else
          kx86 v5 σ
    else
      kx86 v5 σ

def f_Maps_arrange_L9 (v2 : Int32) : Nat → Int32 → Int32 → St → Option (Unit × St)
  | 0, _, _, _ => none
  | n + 1, v3, v4, σ =>     if v4 < 5 then
      rmi v3 (v4 + 1) fun q_1 =>
      dvi v3 (v4 + 1) fun q_2 =>
      f_Maps_arrange_L39 v2 q_2 v4 q_1 (fun (v5_5 : Int32) (σ_6 : St) => jn (fun (σ_8 : St) => f_Maps_arrange_L9 v2 n q_2 (v4 + 1) σ_8) fun j110_7 =>
      if v5_5 < 0 then
        j110_7 σ_6
      else
        if v5_5 < 600 then
          ast σ_6 7 600 v5_5 v4 fun σ_9 =>
          j110_7 σ_9
        else
          j110_7 σ_6) FU (v2 + v4) 0 σ
    else
      some ((), σ)

def f_Maps_arrange (σ : St) (v1 : Int32) : Option (Unit × St) :=
  f_Maps_arrange_L9 (5 * v1) FU v1 0 σ

