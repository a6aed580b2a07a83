def f_R_between (σ : St) (v1 : Int32) (v2 : Int32) (v3 : Int32) : Option Int32 :=
  jn (some 0) fun j14_1 =>
  if v1 < v2 then
    j14_1
  else
    if v1 ≤ v3 then
      some 1
    else
      j14_1

def f_R_isGrid (σ : St) (v1 : Int32) : Option Int32 :=
  cap (f_R_between σ v1 0 ((σ 82 1) - 1)) fun r_2 =>
  some (zb r_2)

def f_R_filled_L4 (v1 : Int32) (σ : St) (kx50 : Int32 → Option Int32) : Nat → Int32 → Int32 → Option Int32
  | 0, _, _ => none
  | n + 1, v2, v3 =>     ald σ 83 12 v1 fun r_1 =>
    ald σ 83 12 v1 fun r_2 =>
    if v3 < (r_1 * r_2) then
      ald σ 84 300 ((25 * v1) + v3) fun r_3 =>
      jn (fun (s_5 : Int32) => f_R_filled_L4 v1 σ kx50 n (v2 + s_5) (v3 + 1)) fun j42_4 =>
      if r_3 = (-1) then
        j42_4 0
      else
        j42_4 1
    else
      kx50 v2

def f_R_filled (σ : St) (v1 : Int32) : Option Int32 :=
  f_R_filled_L4 v1 σ (fun (v2_6 : Int32) => some v2_6) FU 0 0

def f_R_copyToWork_L12 (v1 : Int32) : Nat → Int32 → St → Option (Unit × St)
  | 0, _, _ => none
  | n + 1, v2, σ =>     if v2 < 25 then
      ald σ 84 300 ((25 * v1) + v2) fun r_3 =>
      ast σ 91 25 v2 r_3 fun σ_4 =>
      f_R_copyToWork_L12 v1 n (v2 + 1) σ_4
    else
      some ((), σ)

def f_R_copyToWork (σ : St) (v1 : Int32) : Option (Unit × St) :=
  ald σ 83 12 v1 fun r_1 =>
  sto σ 82 13 r_1 fun σ_2 =>
  f_R_copyToWork_L12 v1 FU 0 σ_2

def f_R_layEmpties_L7  : Nat → Int32 → St → Option (Unit × St)
  | 0, _, _ => none
  | n + 1, v1, σ =>     if v1 < ((σ 82 13) * (σ 82 13)) then
      ald σ 91 25 v1 fun r_2 =>
      jn (fun (σ_4 : St) => f_R_layEmpties_L7 n (v1 + 1) σ_4) fun j50_3 =>
      if r_2 = (-1) then
        ast σ 92 25 (σ 82 15) v1 fun σ_5 =>
        sto σ_5 82 15 ((σ_5 82 15) + 1) fun σ_6 =>
        j50_3 σ_6
      else
        j50_3 σ
    else
      some ((), σ)

def f_R_layEmpties (σ : St)  : Option (Unit × St) :=
  sto σ 82 15 0 fun σ_1 =>
  f_R_layEmpties_L7 FU 0 σ_1

def f_R_layState_L4  : Nat → Int32 → Int32 → St → Option (Unit × St)
  | 0, _, _, _ => none
  | n + 1, v2, v3, σ =>     if v3 < (σ 82 15) then
      rmi v2 ((σ 82 13) + 1) fun q_1 =>
      ast σ 102 6 v3 q_1 fun σ_2 =>
      dvi v2 ((σ_2 82 13) + 1) fun q_3 =>
      ald σ_2 92 25 v3 fun r_4 =>
      ald σ_2 102 6 v3 fun r_5 =>
      ast σ_2 91 25 r_4 (r_5 - 1) fun σ_6 =>
      f_R_layState_L4 n q_3 (v3 + 1) σ_6
    else
      some ((), σ)

def f_R_layState (σ : St) (v1 : Int32) : Option (Unit × St) :=
  f_R_layState_L4 FU v1 0 σ

def f_R_freeAt_L37 (v3 : Int32) (v4 : Int32) (σ : St) (kx123 : Int32 → Option Int32) : Nat → Int32 → Int32 → Option Int32
  | 0, _, _ => none
  | n + 1, v2, v5 =>     if v5 < (σ 82 13) then
      ald σ 91 25 (((σ 82 13) * v3) + v5) fun r_6 =>
      ald σ 91 25 (((σ 82 13) * v5) + v4) fun r_7 =>
      jn (fun (s_9 : Int32) => jn (fun (s_11 : Int32) => lt1 ((v2 &&& s_9) &&& s_11) fun v2_12 =>
      f_R_freeAt_L37 v3 v4 σ kx123 n v2_12 (v5 + 1)) fun j115_10 =>
      if r_7 = (-1) then
        j115_10 (v2 &&& s_9)
      else
        j115_10 ((1 <<< (r_7 &&& 31)) ^^^ (-1))) fun j96_8 =>
      if r_6 = (-1) then
        j96_8 v2
      else
        j96_8 ((1 <<< (r_6 &&& 31)) ^^^ (-1))
    else
      kx123 v2

def f_R_freeAt (σ : St) (v1 : Int32) : Option Int32 :=
  lt1 ((1 <<< ((σ 82 13) &&& 31)) - 1) fun v2_1 =>
  ald σ 92 25 v1 fun r_2 =>
  dvi r_2 (σ 82 13) fun q_3 =>
  ald σ 92 25 v1 fun r_4 =>
  rmi r_4 (σ 82 13) fun q_5 =>
  f_R_freeAt_L37 q_3 q_5 σ (fun (v2_13 : Int32) => some v2_13) FU v2_1 0

def f_R_winner_L40 (v1 : Int32) (v2 : Int32) (v3 : Int32) (v4 : Int32) (σ : St) (kx76 : Int32 → Option (Int32 × St)) (kx95 : Option (Int32 × St)) : Nat → Int32 → Option (Int32 × St)
  | 0, _ => none
  | n + 1, v5 =>     if v5 < (σ 82 13) then
      jn (f_R_winner_L40 v1 v2 v3 v4 σ kx76 kx95 n (v5 + 1)) fun j89_7 =>
      if ((v4 >>> (v5 &&& 31)) &&& 1) = 1 then
        ald σ 101 46656 (v1 + ((v5 + 1) * v2)) fun r_8 =>
        if r_8 = 0 then
          kx76 v5
        else
          j89_7
      else
        j89_7
    else
      kx95

def f_R_winner_L9 (v1 : Int32) (σ : St) (kx76 : Int32 → Int32 → Option (Int32 × St)) : Nat → Int32 → Int32 → Option (Int32 × St)
  | 0, _, _ => none
  | n + 1, v2, v3 =>     if v3 < (σ 82 15) then
      ald σ 102 6 v3 fun r_4 =>
      jn (fun (s_6 : Int32) => f_R_winner_L40 v1 v2 v3 s_6 σ (fun (v5_9 : Int32) => kx76 v3 v5_9) (lt1 (v2 * ((σ 82 13) + 1)) fun v2_10 =>
      f_R_winner_L9 v1 σ kx76 n v2_10 (v3 + 1)) FU 0) fun j35_5 =>
      if r_4 = 0 then
        cap (f_R_freeAt σ v3) fun r_12 =>
        j35_5 r_12
      else
        j35_5 0
    else
      some ((-1), σ)

def f_R_winner (σ : St) (v1 : Int32) : Option (Int32 × St) :=
  cal (f_R_layState σ v1) fun r_2 σ_3 =>
  f_R_winner_L9 v1 σ_3 (fun (v3_13 : Int32) (v5_14 : Int32) => ald σ_3 92 25 v3_13 fun r_15 =>
  some (((10 * r_15) + v5_14), σ_3)) FU 1 0

def f_R_wins_L79 (σ : St) (kx102 : Int32 → Option (Int32 × St)) : Nat → Int32 → Int32 → Option (Int32 × St)
  | 0, _, _ => none
  | n + 1, v2, v3 =>     if v3 < (σ 82 15) then
      lt1 (v2 * ((σ 82 13) + 1)) fun v2_14 =>
      f_R_wins_L79 σ kx102 n v2_14 (v3 + 1)
    else
      kx102 v2

def f_R_wins_L109 (kx144 : Int32 → St → Option (Int32 × St)) : Nat → Int32 → Int32 → St → Option (Int32 × St)
  | 0, _, _, _ => none
  | n + 1, v3, v4, σ =>     if v4 < 0 then
      kx144 v3 σ
    else
      cal (f_R_winner σ v4) fun r_17 σ_18 =>
      jn (fun (s_20 : Int32) => asz σ_18 101 46656 v4 s_20 fun σ_21 =>
      f_R_wins_L109 kx144 n r_17 (v4 + (-1)) σ_21) fun j137_19 =>
      if r_17 = (-1) then
        j137_19 0
      else
        j137_19 1

def f_R_wins (σ : St) (v1 : Int32) : Option (Int32 × St) :=
  cap (f_R_isGrid σ v1) fun r_2 =>
  jn (fun (s_4 : Int32) => sto σ 82 0 s_4 fun σ_5 =>
  jn (fun (σ_7 : St) => if (σ_7 82 0) ≤ 0 then
    cal (f_R_copyToWork σ_7 v1) fun r_9 σ_10 =>
    cal (f_R_layEmpties σ_10) fun r_12 σ_13 =>
    f_R_wins_L79 σ_13 (fun (v2_15 : Int32) => f_R_wins_L109 (fun (v3_22 : Int32) (σ_23 : St) => some (v3_22, σ_23)) FU (-1) (v2_15 - 1) σ_13) FU 1 0
  else
    some (0, σ_7)) fun j57_6 =>
  if (σ_5 82 0) = 0 then
    ald σ_5 83 12 v1 fun r_24 =>
    ald σ_5 83 12 v1 fun r_25 =>
    cap (f_R_filled σ_5 v1) fun r_27 =>
    jn (fun (s_29 : Int32) => sto σ_5 82 0 s_29 fun σ_30 =>
    j57_6 σ_30) fun j54_28 =>
    if ((r_24 * r_25) - r_27) ≤ 6 then
      j54_28 0
    else
      j54_28 2
  else
    j57_6 σ_5) fun j14_3 =>
  if r_2 = 0 then
    j14_3 1
  else
    j14_3 0

def f_R_isSquare (σ : St) (v1 : Int32) : Option Int32 :=
  cap (f_R_filled σ v1) fun r_2 =>
  ald σ 83 12 v1 fun r_3 =>
  ald σ 83 12 v1 fun r_4 =>
  if r_2 = (r_3 * r_4) then
    some 1
  else
    some 0

def f_R_canAskWith (σ : St) (v1 : Int32) (v2 : Int32) : Option (Int32 × St) :=
  cap (f_R_isGrid σ v1) fun r_2 =>
  jn (fun (s_4 : Int32) => sto σ 82 0 s_4 fun σ_5 =>
  jn (fun (σ_7 : St) => if (σ_7 82 0) = 0 then
    some (1, σ_7)
  else
    some (0, σ_7)) fun j49_6 =>
  if (σ_5 82 0) = 0 then
    cap (f_R_isSquare σ_5 v1) fun r_9 =>
    jn (fun (s_11 : Int32) => sto σ_5 82 0 s_11 fun σ_12 =>
    j49_6 σ_12) fun j46_10 =>
    if r_9 = 0 then
      j46_10 3
    else
      j46_10 0
  else
    j49_6 σ_5) fun j22_3 =>
  if r_2 = 0 then
    j22_3 1
  else
    if v2 = 0 then
      j22_3 2
    else
      j22_3 0

def f_R_at (σ : St) (v1 : Int32) (v2 : Int32) (v3 : Int32) : Option Int32 :=
  ald σ 83 12 v1 fun r_1 =>
  ald σ 84 300 (((25 * v1) + (r_1 * v2)) + v3) fun r_2 =>
  some r_2

def f_R_parity_L36 (v1 : Int32) (v2 : Int32) (v3 : Int32) (v4 : Int32) (kx116 : St → Option (Int32 × St)) : Nat → Int32 → St → Option (Int32 × St)
  | 0, _, _ => none
  | n + 1, v5, σ =>     if v5 < v3 then
      cap (f_R_at σ v1 v4 v5) fun r_8 =>
      jn (fun (s_10 : Int32) => jn (fun (s_12 : Int32) => ast σ 91 25 s_10 s_12 fun σ_13 =>
      f_R_parity_L36 v1 v2 v3 v4 kx116 n (v5 + 1) σ_13) fun j109_11 =>
      if v2 = 2 then
        j109_11 v5
      else
        j109_11 r_8) fun j89_9 =>
      if v2 = 0 then
        j89_9 ((v3 * v4) + v5)
      else
        if v2 = 1 then
          j89_9 ((v3 * v5) + v4)
        else
          j89_9 ((v3 * r_8) + v4)
    else
      kx116 σ

def f_R_parity_L27 (v1 : Int32) (v2 : Int32) (v3 : Int32) (kx122 : St → Option (Int32 × St)) : Nat → Int32 → St → Option (Int32 × St)
  | 0, _, _ => none
  | n + 1, v4, σ =>     if v4 < v3 then
      f_R_parity_L36 v1 v2 v3 v4 (fun (σ_14 : St) => f_R_parity_L27 v1 v2 v3 kx122 n (v4 + 1) σ_14) FU 0 σ
    else
      kx122 σ

def f_R_parity_L146 (v3 : Int32) (v5 : Int32) (v6 : Int32) (σ : St) (kx196 : Int32 → Option (Int32 × St)) : Nat → Int32 → Int32 → Option (Int32 × St)
  | 0, _, _ => none
  | n + 1, v4, v7 =>     if v7 < v6 then
      ald σ 91 25 ((v3 * v5) + v6) fun r_16 =>
      ald σ 91 25 ((v3 * v5) + v7) fun r_17 =>
      jn (fun (s_19 : Int32) => f_R_parity_L146 v3 v5 v6 σ kx196 n (v4 + s_19) (v7 + 1)) fun j187_18 =>
      if r_16 < r_17 then
        j187_18 1
      else
        j187_18 0
    else
      kx196 v4

def f_R_parity_L137 (v3 : Int32) (v5 : Int32) (σ : St) (kx202 : Int32 → Option (Int32 × St)) : Nat → Int32 → Int32 → Option (Int32 × St)
  | 0, _, _ => none
  | n + 1, v4, v6 =>     if v6 < v3 then
      f_R_parity_L146 v3 v5 v6 σ (fun (v4_20 : Int32) => f_R_parity_L137 v3 v5 σ kx202 n v4_20 (v6 + 1)) FU v4 0
    else
      kx202 v4

def f_R_parity_L128 (v3 : Int32) (σ : St) (kx208 : Int32 → Option (Int32 × St)) : Nat → Int32 → Int32 → Option (Int32 × St)
  | 0, _, _ => none
  | n + 1, v4, v5 =>     if v5 < v3 then
      f_R_parity_L137 v3 v5 σ (fun (v4_21 : Int32) => f_R_parity_L128 v3 σ kx208 n v4_21 (v5 + 1)) FU v4 0
    else
      kx208 v4

def f_R_parity (σ : St) (v1 : Int32) (v2 : Int32) : Option (Int32 × St) :=
  cap (f_R_between σ v2 0 2) fun r_2 =>
  cal (f_R_canAskWith σ v1 r_2) fun r_4 σ_5 =>
  if r_4 = 0 then
    some (0, σ_5)
  else
    ald σ_5 83 12 v1 fun r_6 =>
    f_R_parity_L27 v1 v2 r_6 (fun (σ_15 : St) => f_R_parity_L128 r_6 σ_15 (fun (v4_22 : Int32) => rmi v4_22 2 fun q_23 =>
    some (q_23, σ_15)) FU 0 0) FU 0 σ_5

def f_R_areMates_L94 (v1 : Int32) (v2 : Int32) (v3 : Int32) (v4 : Int32) (kx115 : St → Option (Int32 × St)) : Nat → Int32 → St → Option (Int32 × St)
  | 0, _, _ => none
  | n + 1, v5, σ =>     if v5 < 25 then
      asz σ 99 25 v5 0 fun σ_11 =>
      f_R_areMates_L94 v1 v2 v3 v4 kx115 n (v5 + 1) σ_11
    else
      kx115 σ

def f_R_areMates_L118 (v1 : Int32) (v2 : Int32) (v3 : Int32) (kx191 : Int32 → St → Option (Int32 × St)) : Nat → Int32 → Int32 → St → Option (Int32 × St)
  | 0, _, _, _ => none
  | n + 1, v4, v5, σ =>     if v5 < (v3 * v3) then
      ald σ 84 300 ((25 * v1) + v5) fun r_13 =>
      ald σ 84 300 ((25 * v2) + v5) fun r_14 =>
      lt1 ((v3 * r_13) + r_14) fun v6_15 =>
      jn (fun (s_17 : Int32) => asz σ 99 25 v6_15 1 fun σ_18 =>
      f_R_areMates_L118 v1 v2 v3 kx191 n s_17 (v5 + 1) σ_18) fun j175_16 =>
      jn (j175_16 0) fun j174_19 =>
      if v4 = 0 then
        j174_19
      else
        ald σ 99 25 v6_15 fun r_20 =>
        if r_20 = 0 then
          j175_16 1
        else
          j174_19
    else
      kx191 v4 σ

def f_R_areMates (σ : St) (v1 : Int32) (v2 : Int32) : Option (Int32 × St) :=
  cap (f_R_isGrid σ v1) fun r_2 =>
  jn (fun (s_4 : Int32) => sto σ 82 0 s_4 fun σ_5 =>
  jn (fun (σ_7 : St) => if (σ_7 82 0) ≤ 0 then
    ald σ_7 83 12 v1 fun r_8 =>
    ald σ_7 83 12 v2 fun r_9 =>
    if r_8 = r_9 then
      ald σ_7 83 12 v1 fun r_10 =>
      f_R_areMates_L94 v1 v2 r_10 1 (fun (σ_12 : St) => f_R_areMates_L118 v1 v2 r_10 (fun (v4_21 : Int32) (σ_22 : St) => some ((zb v4_21), σ_22)) FU 1 0 σ_12) FU 0 σ_7
    else
      some (0, σ_7)
  else
    some (0, σ_7)) fun j57_6 =>
  if (σ_5 82 0) = 0 then
    cap (f_R_isSquare σ_5 v1) fun r_24 =>
    jn (fun (s_26 : Int32) => sto σ_5 82 0 s_26 fun σ_27 =>
    j57_6 σ_27) fun j54_25 =>
    jn (j54_25 2) fun j49_28 =>
    if r_24 = 0 then
      j49_28
    else
      cap (f_R_isSquare σ_5 v2) fun r_30 =>
      if r_30 = 0 then
        j49_28
      else
        j54_25 0
  else
    j57_6 σ_5) fun j22_3 =>
  jn (j22_3 1) fun j17_31 =>
  if r_2 = 0 then
    j17_31
  else
    cap (f_R_isGrid σ v2) fun r_33 =>
    if r_33 = 0 then
      j17_31
    else
      j22_3 0

def f_R_canAsk (σ : St) (v1 : Int32) : Option (Int32 × St) :=
  cap (f_R_isGrid σ v1) fun r_2 =>
  jn (fun (s_4 : Int32) => sto σ 82 0 s_4 fun σ_5 =>
  jn (fun (σ_7 : St) => if (σ_7 82 0) = 0 then
    some (1, σ_7)
  else
    some (0, σ_7)) fun j41_6 =>
  if (σ_5 82 0) = 0 then
    cap (f_R_isSquare σ_5 v1) fun r_9 =>
    jn (fun (s_11 : Int32) => sto σ_5 82 0 s_11 fun σ_12 =>
    j41_6 σ_12) fun j38_10 =>
    if r_9 = 0 then
      j38_10 2
    else
      j38_10 0
  else
    j41_6 σ_5) fun j14_3 =>
  if r_2 = 0 then
    j14_3 1
  else
    j14_3 0

def f_R_layAll_L21 (v1 : Int32) (kx42 : St → Option (Unit × St)) : Nat → Int32 → St → Option (Unit × St)
  | 0, _, _ => none
  | n + 1, v2, σ =>     if v2 ≤ v1 then
      sto σ 82 10 ((σ 82 10) * v2) fun σ_3 =>
      f_R_layAll_L21 v1 kx42 n (v2 + 1) σ_3
    else
      kx42 σ

def f_R_layAll_L95 (v1 : Int32) (v2 : Int32) (v3 : Int32) (v4 : Int32) (v5 : Int32) (v6 : Int32) (σ : St) (kx138 : Int32 → Option (Unit × St)) : Nat → Int32 → Int32 → Option (Unit × St)
  | 0, _, _ => none
  | n + 1, v7, v8 =>     jn (jn (fun (s_10 : Int32) => f_R_layAll_L95 v1 v2 v3 v4 v5 v6 σ kx138 n (v7 - s_10) (v8 + 1)) fun j129_9 =>
    if ((v5 >>> (v8 &&& 31)) &&& 1) = 1 then
      j129_9 0
    else
      j129_9 1) fun j111_8 =>
    if ((v5 >>> (v8 &&& 31)) &&& 1) = 1 then
      j111_8
    else
      if v7 ≤ 0 then
        kx138 v8
      else
        j111_8

def f_R_layAll_L66 (v1 : Int32) (v2 : Int32) (kx166 : St → Option (Unit × St)) : Nat → Int32 → Int32 → Int32 → Int32 → St → Option (Unit × St)
  | 0, _, _, _, _, _ => none
  | n + 1, v3, v4, v5, v6, σ =>     if v6 < v1 then
      dvi v4 (v1 - v6) fun q_5 =>
      dvi v3 q_5 fun q_6 =>
      rmi v3 q_5 fun q_7 =>
      f_R_layAll_L95 v1 v2 q_7 q_5 v5 v6 σ (fun (v8_11 : Int32) => lt1 (v5 ||| (1 <<< (v8_11 &&& 31))) fun v5_12 =>
      ast σ 89 600 ((5 * v2) + v6) v8_11 fun σ_13 =>
      f_R_layAll_L66 v1 v2 kx166 n q_7 q_5 v5_12 (v6 + 1) σ_13) FU q_6 0
    else
      kx166 σ

def f_R_layAll_L44 (v1 : Int32) : Nat → Int32 → St → Option (Unit × St)
  | 0, _, _ => none
  | n + 1, v2, σ =>     if v2 < (σ 82 10) then
      f_R_layAll_L66 v1 v2 (fun (σ_14 : St) => f_R_layAll_L44 v1 n (v2 + 1) σ_14) FU v2 (σ 82 10) 0 0 σ
    else
      some ((), σ)

def f_R_layAll (σ : St) (v1 : Int32) : Option (Unit × St) :=
  if (σ 82 9) = v1 then
    some ((), σ)
  else
    sto σ 82 9 v1 fun σ_1 =>
    sto σ_1 82 10 1 fun σ_2 =>
    f_R_layAll_L21 v1 (fun (σ_4 : St) => f_R_layAll_L44 v1 FU 0 σ_4) FU 2 σ_2

def f_R_layCrosses_L33 (v1 : Int32) (v2 : Int32) (v3 : Int32) (σ : St) (kx70 : Int32 → Option (Unit × St)) : Nat → Int32 → Int32 → Option (Unit × St)
  | 0, _, _ => none
  | n + 1, v4, v5 =>     if v5 < v2 then
      ald σ 89 600 ((5 * v3) + v5) fun r_6 =>
      cap (f_R_at σ v1 v5 r_6) fun r_8 =>
      lt1 (v4 ||| (1 <<< (r_8 &&& 31))) fun v4_9 =>
      f_R_layCrosses_L33 v1 v2 v3 σ kx70 n v4_9 (v5 + 1)
    else
      kx70 v4

def f_R_layCrosses_L19 (v1 : Int32) (v2 : Int32) : Nat → Int32 → St → Option (Unit × St)
  | 0, _, _ => none
  | n + 1, v3, σ =>     if v3 < (σ 82 10) then
      f_R_layCrosses_L33 v1 v2 v3 σ (fun (v4_10 : Int32) => jn (fun (σ_12 : St) => f_R_layCrosses_L19 v1 v2 n (v3 + 1) σ_12) fun j100_11 =>
      if v4_10 = ((1 <<< (v2 &&& 31)) - 1) then
        ast σ 97 120 (σ 82 22) v3 fun σ_13 =>
        sto σ_13 82 22 ((σ_13 82 22) + 1) fun σ_14 =>
        j100_11 σ_14
      else
        j100_11 σ) FU 0 0
    else
      some ((), σ)

def f_R_layCrosses (σ : St) (v1 : Int32) : Option (Unit × St) :=
  ald σ 83 12 v1 fun r_1 =>
  cal (f_R_layAll σ r_1) fun r_3 σ_4 =>
  sto σ_4 82 22 0 fun σ_5 =>
  f_R_layCrosses_L19 v1 r_1 FU 0 σ_5

def f_R_keepLower_L10 (v1 : Int32) (v2 : Int32) (v3 : Int32) (kx54 : St → Option (Unit × St)) : Nat → Int32 → St → Option (Unit × St)
  | 0, _, _ => none
  | n + 1, v4, σ =>     if v4 < v1 then
      ald σ 98 5 v3 fun r_1 =>
      ald σ 97 120 r_1 fun r_2 =>
      ald σ 89 600 ((5 * r_2) + v4) fun r_3 =>
      ast σ 91 25 ((v1 * v4) + r_3) v3 fun σ_4 =>
      f_R_keepLower_L10 v1 v2 v3 kx54 n (v4 + 1) σ_4
    else
      kx54 σ

def f_R_keepLower_L2 (v1 : Int32) (v2 : Int32) (kx60 : St → Option (Unit × St)) : Nat → Int32 → St → Option (Unit × St)
  | 0, _, _ => none
  | n + 1, v3, σ =>     if v3 < v1 then
      f_R_keepLower_L10 v1 v2 v3 (fun (σ_5 : St) => f_R_keepLower_L2 v1 v2 kx60 n (v3 + 1) σ_5) FU 0 σ
    else
      kx60 σ

def f_R_keepLower_L62 (v1 : Int32) (v2 : Int32) (σ : St) (kx92 : Int32 → Option (Unit × St)) : Nat → Int32 → Option (Unit × St)
  | 0, _ => none
  | n + 1, v3 =>     if v3 < ((v1 * v1) - 1) then
      ald σ 91 25 v3 fun r_7 =>
      ald σ 93 25 v3 fun r_8 =>
      if r_7 = r_8 then
        f_R_keepLower_L62 v1 v2 σ kx92 n (v3 + 1)
      else
        kx92 v3
    else
      kx92 v3

def f_R_keepLower_L121 (v1 : Int32) (v4 : Int32) : Nat → Int32 → St → Option (Unit × St)
  | 0, _, _ => none
  | n + 1, v5, σ =>     if v5 < (v1 * v1) then
      if v4 = 0 then
        some ((), σ)
      else
        ald σ 91 25 v5 fun r_12 =>
        ast σ 93 25 v5 r_12 fun σ_13 =>
        f_R_keepLower_L121 v1 v4 n (v5 + 1) σ_13
    else
      some ((), σ)

def f_R_keepLower (σ : St) (v1 : Int32) (v2 : Int32) : Option (Unit × St) :=
  f_R_keepLower_L2 v1 v2 (fun (σ_6 : St) => f_R_keepLower_L62 v1 v2 σ_6 (fun (v3_9 : Int32) => jn (fun (s_11 : Int32) => f_R_keepLower_L121 v1 s_11 FU 0 σ_6) fun j116_10 =>
  jn (j116_10 1) fun j111_14 =>
  if v2 = 0 then
    ald σ_6 91 25 v3_9 fun r_15 =>
    ald σ_6 93 25 v3_9 fun r_16 =>
    if r_15 < r_16 then
      j111_14
    else
      j116_10 0
  else
    j111_14) FU 0) FU 0 σ

def f_R_canTake_L41 (v1 : Int32) (v2 : Int32) (v3 : Int32) (v5 : Int32) (σ : St) (kx106 : Int32 → Option Int32) : Nat → Int32 → Int32 → Option Int32
  | 0, _, _ => none
  | n + 1, v4, v6 =>     if v6 < v1 then
      jn (fun (s_6 : Int32) => f_R_canTake_L41 v1 v2 v3 v5 σ kx106 n s_6 (v6 + 1)) fun j98_5 =>
      jn (j98_5 0) fun j97_7 =>
      if v4 = 0 then
        j97_7
      else
        ald σ 97 120 v2 fun r_8 =>
        ald σ 89 600 ((5 * r_8) + v6) fun r_9 =>
        ald σ 98 5 v5 fun r_10 =>
        ald σ 97 120 r_10 fun r_11 =>
        ald σ 89 600 ((5 * r_11) + v6) fun r_12 =>
        if r_9 = r_12 then
          j97_7
        else
          j98_5 1
    else
      kx106 v4

def f_R_canTake_L27 (v1 : Int32) (v2 : Int32) (v3 : Int32) (σ : St) (kx112 : Int32 → Option Int32) : Nat → Int32 → Int32 → Option Int32
  | 0, _, _ => none
  | n + 1, v4, v5 =>     if v5 < v3 then
      if v4 = 0 then
        kx112 v4
      else
        f_R_canTake_L41 v1 v2 v3 v5 σ (fun (v4_13 : Int32) => f_R_canTake_L27 v1 v2 v3 σ kx112 n v4_13 (v5 + 1)) FU v4 0
    else
      kx112 v4

def f_R_canTake (σ : St) (v1 : Int32) (v2 : Int32) (v3 : Int32) : Option Int32 :=
  ald σ 97 120 v2 fun r_1 =>
  ald σ 89 600 (5 * r_1) fun r_2 =>
  jn (fun (s_4 : Int32) => f_R_canTake_L27 v1 v2 v3 σ (fun (v4_14 : Int32) => some (zb v4_14)) FU s_4 0) fun j22_3 =>
  if r_2 = v3 then
    j22_3 1
  else
    j22_3 0

def f_R_matesOf_L69 (v2 : Int32) (v3 : Int32) (v4 : Int32) (σ : St) (kx96 : Int32 → Option (Int32 × St)) : Nat → Int32 → Option (Int32 × St)
  | 0, _ => none
  | n + 1, v5 =>     if v5 < (σ 82 22) then
      cap (f_R_canTake σ v2 v5 v4) fun r_8 =>
      if r_8 = 0 then
        f_R_matesOf_L69 v2 v3 v4 σ kx96 n (v5 + 1)
      else
        kx96 v5
    else
      kx96 v5

def f_R_matesOf_L24 (v2 : Int32) (kx140 : Int32 → St → Option (Int32 × St)) : Nat → Int32 → Int32 → St → Option (Int32 × St)
  | 0, _, _, _ => none
  | n + 1, v3, v4, σ =>     if v4 < 0 then
      kx140 v3 σ
    else
      if v4 = v2 then
        jn (fun (s_16 : Int32) => cal (f_R_keepLower σ v2 s_16) fun r_18 σ_19 =>
        f_R_matesOf_L24 v2 kx140 n (v3 + 1) (v4 + (-1)) σ_19) fun j46_15 =>
        if v3 = 0 then
          j46_15 1
        else
          j46_15 0
      else
        ald σ 98 5 v4 fun r_6 =>
        f_R_matesOf_L69 v2 v3 v4 σ (fun (v5_9 : Int32) => ast σ 98 5 v4 v5_9 fun σ_10 =>
        jn (fun (v4_12 : Int32) (σ_13 : St) => f_R_matesOf_L24 v2 kx140 n v3 v4_12 σ_13) fun j137_11 =>
        if v5_9 < (σ_10 82 22) then
          if (v4 + 1) < v2 then
            ast σ_10 98 5 (v4 + 1) (-1) fun σ_14 =>
            j137_11 (v4 + 1) σ_14
          else
            j137_11 (v4 + 1) σ_10
        else
          j137_11 (v4 + (-1)) σ_10) FU (r_6 + 1)

def f_R_matesOf (σ : St) (v1 : Int32) : Option (Int32 × St) :=
  ald σ 83 12 v1 fun r_1 =>
  cal (f_R_layCrosses σ v1) fun r_3 σ_4 =>
  ast σ_4 98 5 0 (-1) fun σ_5 =>
  f_R_matesOf_L24 r_1 (fun (v3_20 : Int32) (σ_21 : St) => some (v3_20, σ_21)) FU 0 0 σ_5

def f_R_make_L12 (kx39 : St → Option (Int32 × St)) : Nat → Int32 → St → Option (Int32 × St)
  | 0, _, _ => none
  | n + 1, v2, σ =>     if v2 < 25 then
      ast σ 84 300 ((25 * (σ 82 1)) + v2) (-1) fun σ_2 =>
      f_R_make_L12 kx39 n (v2 + 1) σ_2
    else
      kx39 σ

def f_R_make (σ : St) (v1 : Int32) : Option (Int32 × St) :=
  ast σ 83 12 (σ 82 1) v1 fun σ_1 =>
  f_R_make_L12 (fun (σ_3 : St) => sto σ_3 82 1 ((σ_3 82 1) + 1) fun σ_4 =>
  some (((σ_4 82 1) - 1), σ_4)) FU 0 σ_1

def f_R_mate_L58 (v1 : Int32) (v2 : Int32) (kx98 : St → Option (Int32 × St)) : Nat → Int32 → St → Option (Int32 × St)
  | 0, _, _ => none
  | n + 1, v3, σ =>     ald σ 83 12 v1 fun r_14 =>
    ald σ 83 12 v1 fun r_15 =>
    if v3 < (r_14 * r_15) then
      ald σ 93 25 v3 fun r_16 =>
      ast σ 84 300 ((25 * v2) + v3) r_16 fun σ_17 =>
      f_R_mate_L58 v1 v2 kx98 n (v3 + 1) σ_17
    else
      kx98 σ

def f_R_mate (σ : St) (v1 : Int32) : Option (Int32 × St) :=
  cal (f_R_canAsk σ v1) fun r_2 σ_3 =>
  if r_2 = 0 then
    some (0, σ_3)
  else
    cal (f_R_matesOf σ_3 v1) fun r_5 σ_6 =>
    jn (fun (s_8 : Int32) => sto σ_6 82 0 s_8 fun σ_9 =>
    if (σ_9 82 0) ≤ 0 then
      ald σ_9 83 12 v1 fun r_10 =>
      cal (f_R_make σ_9 r_10) fun r_12 σ_13 =>
      f_R_mate_L58 v1 r_12 (fun (σ_18 : St) => some (r_12, σ_18)) FU 0 σ_13
    else
      some (0, σ_9)) fun j33_7 =>
    jn (j33_7 2) fun j28_19 =>
    if r_5 = 0 then
      j28_19
    else
      if (σ_6 82 1) = 12 then
        j28_19
      else
        j33_7 0

def f_R_mates (σ : St) (v1 : Int32) : Option (Int32 × St) :=
  cal (f_R_canAsk σ v1) fun r_2 σ_3 =>
  if r_2 = 0 then
    some (0, σ_3)
  else
    cal (f_R_matesOf σ_3 v1) fun r_5 σ_6 =>
    some (r_5, σ_6)

def f_R_transversals (σ : St) (v1 : Int32) : Option (Int32 × St) :=
  cal (f_R_canAsk σ v1) fun r_2 σ_3 =>
  if r_2 = 0 then
    some (0, σ_3)
  else
    cal (f_R_layCrosses σ_3 v1) fun r_5 σ_6 =>
    some ((σ_6 82 22), σ_6)

def f_R_brings_L11 (v1 : Int32) (v2 : Int32) (v3 : Int32) (v4 : Int32) (v5 : Int32) (kx62 : St → Option (Int32 × St)) : Nat → Int32 → St → Option (Int32 × St)
  | 0, _, _ => none
  | n + 1, v6, σ =>     if v6 < v5 then
      cap (f_R_at σ v1 0 v6) fun r_3 =>
      ald σ 89 600 (5 * v3) fun r_4 =>
      ald σ 89 600 ((5 * v4) + v6) fun r_5 =>
      cap (f_R_at σ v2 r_4 r_5) fun r_7 =>
      ast σ 90 5 r_3 r_7 fun σ_8 =>
      f_R_brings_L11 v1 v2 v3 v4 v5 kx62 n (v6 + 1) σ_8
    else
      kx62 σ

def f_R_brings_L83 (v1 : Int32) (v2 : Int32) (v3 : Int32) (v4 : Int32) (v5 : Int32) (v7 : Int32) (σ : St) (kx153 : Int32 → Option (Int32 × St)) : Nat → Int32 → Int32 → Option (Int32 × St)
  | 0, _, _ => none
  | n + 1, v6, v8 =>     if v8 < v5 then
      jn (fun (s_11 : Int32) => f_R_brings_L83 v1 v2 v3 v4 v5 v7 σ kx153 n s_11 (v8 + 1)) fun j145_10 =>
      jn (j145_10 0) fun j144_12 =>
      if v6 = 0 then
        j144_12
      else
        cap (f_R_at σ v1 v7 v8) fun r_14 =>
        ald σ 90 5 r_14 fun r_15 =>
        ald σ 89 600 ((5 * v3) + v7) fun r_16 =>
        ald σ 89 600 ((5 * v4) + v8) fun r_17 =>
        cap (f_R_at σ v2 r_16 r_17) fun r_19 =>
        if r_15 = r_19 then
          j145_10 1
        else
          j144_12
    else
      kx153 v6

def f_R_brings_L68 (v1 : Int32) (v2 : Int32) (v3 : Int32) (v4 : Int32) (v5 : Int32) (σ : St) (kx159 : Int32 → Option (Int32 × St)) : Nat → Int32 → Int32 → Option (Int32 × St)
  | 0, _, _ => none
  | n + 1, v6, v7 =>     if v7 < v5 then
      if v6 = 0 then
        kx159 v6
      else
        f_R_brings_L83 v1 v2 v3 v4 v5 v7 σ (fun (v6_20 : Int32) => f_R_brings_L68 v1 v2 v3 v4 v5 σ kx159 n v6_20 (v7 + 1)) FU v6 0
    else
      kx159 v6

def f_R_brings (σ : St) (v1 : Int32) (v2 : Int32) (v3 : Int32) (v4 : Int32) : Option (Int32 × St) :=
  ald σ 83 12 v1 fun r_1 =>
  f_R_brings_L11 v1 v2 v3 v4 r_1 (fun (σ_9 : St) => f_R_brings_L68 v1 v2 v3 v4 r_1 σ_9 (fun (v6_21 : Int32) => some ((zb v6_21), σ_9)) FU 1 1) FU 0 σ

def f_R_isotopies_L108 (v1 : Int32) (v2 : Int32) (v4 : Int32) (kx144 : Int32 → St → Option (Int32 × St)) : Nat → Int32 → Int32 → St → Option (Int32 × St)
  | 0, _, _, _ => none
  | n + 1, v3, v5, σ =>     if v5 < (σ 82 10) then
      cal (f_R_brings σ v1 v2 v4 v5) fun r_15 σ_16 =>
      jn (fun (s_18 : Int32) => f_R_isotopies_L108 v1 v2 v4 kx144 n (v3 + s_18) (v5 + 1) σ_16) fun j136_17 =>
      if r_15 = 0 then
        j136_17 0
      else
        j136_17 1
    else
      kx144 v3 σ

def f_R_isotopies_L96 (v1 : Int32) (v2 : Int32) (kx150 : Int32 → St → Option (Int32 × St)) : Nat → Int32 → Int32 → St → Option (Int32 × St)
  | 0, _, _, _ => none
  | n + 1, v3, v4, σ =>     if v4 < (σ 82 10) then
      f_R_isotopies_L108 v1 v2 v4 (fun (v3_19 : Int32) (σ_20 : St) => f_R_isotopies_L96 v1 v2 kx150 n v3_19 (v4 + 1) σ_20) FU v3 0 σ
    else
      kx150 v3 σ

def f_R_isotopies (σ : St) (v1 : Int32) (v2 : Int32) : Option (Int32 × St) :=
  cap (f_R_isGrid σ v1) fun r_2 =>
  jn (fun (s_4 : Int32) => sto σ 82 0 s_4 fun σ_5 =>
  jn (fun (σ_7 : St) => if (σ_7 82 0) ≤ 0 then
    ald σ_7 83 12 v1 fun r_8 =>
    ald σ_7 83 12 v2 fun r_9 =>
    if r_8 = r_9 then
      ald σ_7 83 12 v1 fun r_10 =>
      cal (f_R_layAll σ_7 r_10) fun r_12 σ_13 =>
      f_R_isotopies_L96 v1 v2 (fun (v3_21 : Int32) (σ_22 : St) => some (v3_21, σ_22)) FU 0 0 σ_13
    else
      some (0, σ_7)
  else
    some (0, σ_7)) fun j57_6 =>
  if (σ_5 82 0) = 0 then
    cap (f_R_isSquare σ_5 v1) fun r_24 =>
    jn (fun (s_26 : Int32) => sto σ_5 82 0 s_26 fun σ_27 =>
    j57_6 σ_27) fun j54_25 =>
    jn (j54_25 2) fun j49_28 =>
    if r_24 = 0 then
      j49_28
    else
      cap (f_R_isSquare σ_5 v2) fun r_30 =>
      if r_30 = 0 then
        j49_28
      else
        j54_25 0
  else
    j57_6 σ_5) fun j22_3 =>
  jn (j22_3 1) fun j17_31 =>
  if r_2 = 0 then
    j17_31
  else
    cap (f_R_isGrid σ v2) fun r_33 =>
    if r_33 = 0 then
      j17_31
    else
      j22_3 0

def f_R_products_L19 (v1 : Int32) (v2 : Int32) (v4 : Int32) (σ : St) (kx86 : Int32 → Option Int32) : Nat → Int32 → Int32 → Option Int32
  | 0, _, _ => none
  | n + 1, v3, v5 =>     ald σ 83 12 v1 fun r_2 =>
    if v5 < r_2 then
      jn (fun (s_4 : Int32) => jn (fun (s_6 : Int32) => f_R_products_L19 v1 v2 v4 σ kx86 n (v3 ||| s_6) (v5 + 1)) fun j78_5 =>
      if s_4 = 0 then
        j78_5 0
      else
        cap (f_R_at σ v1 v4 v5) fun r_8 =>
        j78_5 (1 <<< (r_8 &&& 31))) fun j55_3 =>
      jn (j55_3 0) fun j54_9 =>
      if ((v2 >>> (v4 &&& 31)) &&& 1) = 1 then
        if ((v2 >>> (v5 &&& 31)) &&& 1) = 1 then
          j55_3 1
        else
          j54_9
      else
        j54_9
    else
      kx86 v3

def f_R_products_L5 (v1 : Int32) (v2 : Int32) (σ : St) (kx92 : Int32 → Option Int32) : Nat → Int32 → Int32 → Option Int32
  | 0, _, _ => none
  | n + 1, v3, v4 =>     ald σ 83 12 v1 fun r_1 =>
    if v4 < r_1 then
      f_R_products_L19 v1 v2 v4 σ (fun (v3_10 : Int32) => f_R_products_L5 v1 v2 σ kx92 n v3_10 (v4 + 1)) FU v3 0
    else
      kx92 v3

def f_R_products (σ : St) (v1 : Int32) (v2 : Int32) : Option Int32 :=
  f_R_products_L5 v1 v2 σ (fun (v3_11 : Int32) => some v3_11) FU v2 0

def f_R_closedSets_L4 (v1 : Int32) (σ : St) (kx40 : Int32 → Option Int32) : Nat → Int32 → Int32 → Option Int32
  | 0, _, _ => none
  | n + 1, v2, v3 =>     ald σ 83 12 v1 fun r_1 =>
    if v3 < (1 <<< (r_1 &&& 31)) then
      cap (f_R_products σ v1 v3) fun r_3 =>
      jn (fun (s_5 : Int32) => f_R_closedSets_L4 v1 σ kx40 n (v2 + s_5) (v3 + 1)) fun j32_4 =>
      if r_3 = v3 then
        j32_4 1
      else
        j32_4 0
    else
      kx40 v2

def f_R_closedSets (σ : St) (v1 : Int32) : Option Int32 :=
  f_R_closedSets_L4 v1 σ (fun (v2_6 : Int32) => some v2_6) FU 0 1

def f_R_automorphisms_L41 (v1 : Int32) (v2 : Int32) (v3 : Int32) (v4 : Int32) (v6 : Int32) (σ : St) (kx116 : Int32 → Option (Int32 × St)) : Nat → Int32 → Int32 → Option (Int32 × St)
  | 0, _, _ => none
  | n + 1, v5, v7 =>     if v7 < v2 then
      jn (fun (s_6 : Int32) => f_R_automorphisms_L41 v1 v2 v3 v4 v6 σ kx116 n s_6 (v7 + 1)) fun j108_5 =>
      jn (j108_5 0) fun j107_7 =>
      if v5 = 0 then
        j107_7
      else
        cap (f_R_at σ v1 v6 v7) fun r_9 =>
        ald σ 89 600 ((5 * v4) + r_9) fun r_10 =>
        ald σ 89 600 ((5 * v4) + v6) fun r_11 =>
        ald σ 89 600 ((5 * v4) + v7) fun r_12 =>
        cap (f_R_at σ v1 r_11 r_12) fun r_14 =>
        if r_10 = r_14 then
          j108_5 1
        else
          j107_7
    else
      kx116 v5

def f_R_automorphisms_L32 (v1 : Int32) (v2 : Int32) (v3 : Int32) (v4 : Int32) (σ : St) (kx122 : Int32 → Option (Int32 × St)) : Nat → Int32 → Int32 → Option (Int32 × St)
  | 0, _, _ => none
  | n + 1, v5, v6 =>     if v6 < v2 then
      f_R_automorphisms_L41 v1 v2 v3 v4 v6 σ (fun (v5_15 : Int32) => f_R_automorphisms_L32 v1 v2 v3 v4 σ kx122 n v5_15 (v6 + 1)) FU v5 0
    else
      kx122 v5

def f_R_automorphisms_L17 (v1 : Int32) (v2 : Int32) (σ : St) (kx141 : Int32 → Option (Int32 × St)) : Nat → Int32 → Int32 → Option (Int32 × St)
  | 0, _, _ => none
  | n + 1, v3, v4 =>     if v4 < (σ 82 10) then
      f_R_automorphisms_L32 v1 v2 v3 v4 σ (fun (v5_16 : Int32) => jn (fun (s_18 : Int32) => f_R_automorphisms_L17 v1 v2 σ kx141 n (v3 + s_18) (v4 + 1)) fun j133_17 =>
      if v5_16 = 0 then
        j133_17 0
      else
        j133_17 1) FU 1 0
    else
      kx141 v3

def f_R_automorphisms (σ : St) (v1 : Int32) : Option (Int32 × St) :=
  ald σ 83 12 v1 fun r_1 =>
  cal (f_R_layAll σ r_1) fun r_3 σ_4 =>
  f_R_automorphisms_L17 v1 r_1 σ_4 (fun (v3_19 : Int32) => some (v3_19, σ_4)) FU 0 0

def f_R_numberOf_L19 (v1 : Int32) (v2 : Int32) (v3 : Int32) (v4 : Int32) (σ : St) (kx50 : Int32 → Option Int32) : Nat → Int32 → Int32 → Option Int32
  | 0, _, _ => none
  | n + 1, v5, v6 =>     ald σ 90 5 v4 fun r_1 =>
    if v6 < r_1 then
      lt1 (v5 + (((v3 >>> (v6 &&& 31)) &&& 1) ^^^ 1)) fun v5_2 =>
      f_R_numberOf_L19 v1 v2 v3 v4 σ kx50 n v5_2 (v6 + 1)
    else
      kx50 v5

def f_R_numberOf_L7 (v1 : Int32) (σ : St) (kx78 : Int32 → Option Int32) : Nat → Int32 → Int32 → Int32 → Option Int32
  | 0, _, _, _ => none
  | n + 1, v2, v3, v4 =>     if v4 < v1 then
      f_R_numberOf_L19 v1 v2 v3 v4 σ (fun (v5_3 : Int32) => lt1 ((v2 * (v1 - v4)) + v5_3) fun v2_4 =>
      ald σ 90 5 v4 fun r_5 =>
      lt1 (v3 ||| (1 <<< (r_5 &&& 31))) fun v3_6 =>
      f_R_numberOf_L7 v1 σ kx78 n v2_4 v3_6 (v4 + 1)) FU 0 0
    else
      kx78 v2

def f_R_numberOf (σ : St) (v1 : Int32) : Option Int32 :=
  f_R_numberOf_L7 v1 σ (fun (v2_7 : Int32) => some v2_7) FU 0 0 0

def f_R_join (σ : St) (v1 : Int32) : Option (Unit × St) :=
  ald σ 95 120 v1 fun r_1 =>
  if r_1 = 0 then
    asz σ 95 120 v1 1 fun σ_2 =>
    ast σ_2 94 120 (σ_2 82 18) v1 fun σ_3 =>
    sto σ_3 82 18 ((σ_3 82 18) + 1) fun σ_4 =>
    some ((), σ_4)
  else
    some ((), σ)

def f_R_groupOf_L25 (v1 : Int32) (v2 : Int32) (v3 : Int32) (v4 : Int32) (v5 : Int32) (kx46 : St → Option (Int32 × St)) : Nat → Int32 → St → Option (Int32 × St)
  | 0, _, _ => none
  | n + 1, v6, σ =>     if v6 < 120 then
      asz σ 95 120 v6 0 fun σ_6 =>
      f_R_groupOf_L25 v1 v2 v3 v4 v5 kx46 n (v6 + 1) σ_6
    else
      kx46 σ

def f_R_groupOf_L75 (v1 : Int32) (v2 : Int32) (v3 : Int32) (v4 : Int32) (v5 : Int32) (v6 : Int32) (v7 : Int32) (kx124 : St → Option (Int32 × St)) : Nat → Int32 → St → Option (Int32 × St)
  | 0, _, _ => none
  | n + 1, v8, σ =>     if v8 < v4 then
      jn (fun (s_11 : Int32) => ast σ 90 5 v8 s_11 fun σ_12 =>
      f_R_groupOf_L75 v1 v2 v3 v4 v5 v6 v7 kx124 n (v8 + 1) σ_12) fun j117_10 =>
      if v7 = 0 then
        cap (f_R_at σ v1 v8 (v6 - v4)) fun r_14 =>
        j117_10 r_14
      else
        cap (f_R_at σ v1 v6 v8) fun r_16 =>
        j117_10 r_16
    else
      kx124 σ

def f_R_groupOf_L49 (v1 : Int32) (v2 : Int32) (v3 : Int32) (v4 : Int32) (kx162 : Int32 → St → Option (Int32 × St)) : Nat → Int32 → Int32 → St → Option (Int32 × St)
  | 0, _, _, _ => none
  | n + 1, v5, v6, σ =>     if v6 < (2 * v4) then
      jn (fun (s_9 : Int32) => f_R_groupOf_L75 v1 v2 v3 v4 v5 v6 s_9 (fun (σ_17 : St) => jn (fun (v5_19 : Int32) (σ_20 : St) => f_R_groupOf_L49 v1 v2 v3 v4 kx162 n v5_19 (v6 + 1) σ_20) fun j156_18 =>
      jn (cap (f_R_numberOf σ_17 v4) fun r_23 =>
      ast σ_17 96 10 v5 r_23 fun σ_24 =>
      j156_18 (v5 + 1) σ_24) fun j140_21 =>
      if s_9 = 0 then
        if v3 = 0 then
          j156_18 v5 σ_17
        else
          j140_21
      else
        if v2 = 0 then
          j156_18 v5 σ_17
        else
          j140_21) FU 0 σ) fun j70_8 =>
      if v6 < v4 then
        j70_8 1
      else
        j70_8 0
    else
      kx162 v5 σ

def f_R_groupOf_L192 (v4 : Int32) (v5 : Int32) (v6 : Int32) (v7 : Int32) (kx244 : St → Option (Int32 × St)) : Nat → Int32 → St → Option (Int32 × St)
  | 0, _, _ => none
  | n + 1, v8, σ =>     if v8 < v4 then
      ald σ 96 10 v7 fun r_30 =>
      ald σ 94 120 v6 fun r_31 =>
      ald σ 89 600 ((5 * r_31) + v8) fun r_32 =>
      ald σ 89 600 ((5 * r_30) + r_32) fun r_33 =>
      ast σ 90 5 v8 r_33 fun σ_34 =>
      f_R_groupOf_L192 v4 v5 v6 v7 kx244 n (v8 + 1) σ_34
    else
      kx244 σ

def f_R_groupOf_L182 (v4 : Int32) (v5 : Int32) (v6 : Int32) (kx260 : St → Option (Int32 × St)) : Nat → Int32 → St → Option (Int32 × St)
  | 0, _, _ => none
  | n + 1, v7, σ =>     if v7 < v5 then
      f_R_groupOf_L192 v4 v5 v6 v7 (fun (σ_35 : St) => cap (f_R_numberOf σ_35 v4) fun r_37 =>
      cal (f_R_join σ_35 r_37) fun r_39 σ_40 =>
      f_R_groupOf_L182 v4 v5 v6 kx260 n (v7 + 1) σ_40) FU 0 σ
    else
      kx260 σ

def f_R_groupOf_L170 (v4 : Int32) (v5 : Int32) (kx266 : St → Option (Int32 × St)) : Nat → Int32 → St → Option (Int32 × St)
  | 0, _, _ => none
  | n + 1, v6, σ =>     if v6 < (σ 82 18) then
      f_R_groupOf_L182 v4 v5 v6 (fun (σ_41 : St) => f_R_groupOf_L170 v4 v5 kx266 n (v6 + 1) σ_41) FU 0 σ
    else
      kx266 σ

def f_R_groupOf (σ : St) (v1 : Int32) (v2 : Int32) (v3 : Int32) : Option (Int32 × St) :=
  ald σ 83 12 v1 fun r_1 =>
  cal (f_R_layAll σ r_1) fun r_3 σ_4 =>
  sto σ_4 82 18 0 fun σ_5 =>
  f_R_groupOf_L25 v1 v2 v3 r_1 0 (fun (σ_7 : St) => f_R_groupOf_L49 v1 v2 v3 r_1 (fun (v5_25 : Int32) (σ_26 : St) => cal (f_R_join σ_26 0) fun r_28 σ_29 =>
  f_R_groupOf_L170 r_1 v5_25 (fun (σ_42 : St) => some ((σ_42 82 18), σ_42)) FU 0 σ_29) FU 0 0 σ_7) FU 0 σ_5

def f_R_count (σ : St) (v1 : Int32) (v2 : Int32) : Option (Int32 × St) :=
  cap (f_R_between σ v2 0 4) fun r_2 =>
  cal (f_R_canAskWith σ v1 r_2) fun r_4 σ_5 =>
  if r_4 = 0 then
    some (0, σ_5)
  else
    if v2 = 0 then
      cap (f_R_closedSets σ_5 v1) fun r_17 =>
      some (r_17, σ_5)
    else
      if v2 = 1 then
        cal (f_R_automorphisms σ_5 v1) fun r_14 σ_15 =>
        some (r_14, σ_15)
      else
        jn (fun (s_7 : Int32) => jn (fun (s_9 : Int32) => cal (f_R_groupOf σ_5 v1 s_7 s_9) fun r_11 σ_12 =>
        some (r_11, σ_12)) fun j64_8 =>
        if v2 = 2 then
          j64_8 0
        else
          j64_8 1) fun j54_6 =>
        if v2 = 3 then
          j54_6 0
        else
          j54_6 1

def f_R_closed_L47 (v1 : Int32) (σ : St) (kx71 : Int32 → Option (Int32 × St)) : Nat → Int32 → Option (Int32 × St)
  | 0, _ => none
  | n + 1, v4 =>     cap (f_R_products σ v1 v4) fun r_9 =>
    if r_9 = v4 then
      kx71 v4
    else
      cap (f_R_products σ v1 v4) fun r_11 =>
      f_R_closed_L47 v1 σ kx71 n r_11

def f_R_closed (σ : St) (v1 : Int32) (v2 : Int32) : Option (Int32 × St) :=
  cap (f_R_isGrid σ v1) fun r_2 =>
  jn (fun (s_4 : Int32) => cal (f_R_canAskWith σ v1 s_4) fun r_6 σ_7 =>
  if r_6 = 0 then
    some (0, σ_7)
  else
    f_R_closed_L47 v1 σ_7 (fun (v4_12 : Int32) => some (v4_12, σ_7)) FU v2) fun j32_3 =>
  jn (j32_3 0) fun j31_13 =>
  if r_2 = 0 then
    j31_13
  else
    ald σ 83 12 v1 fun r_14 =>
    cap (f_R_between σ v2 1 ((1 <<< (r_14 &&& 31)) - 1)) fun r_16 =>
    if r_16 = 0 then
      j31_13
    else
      j32_3 1

def f_R_associates (σ : St) (v1 : Int32) (v2 : Int32) (v3 : Int32) (v4 : Int32) : Option Int32 :=
  cap (f_R_at σ v1 v2 v3) fun r_2 =>
  cap (f_R_at σ v1 r_2 v4) fun r_4 =>
  cap (f_R_at σ v1 v3 v4) fun r_6 =>
  cap (f_R_at σ v1 v2 r_6) fun r_8 =>
  if r_4 = r_8 then
    some 1
  else
    some 0

def f_R_isInNucleus_L20 (v1 : Int32) (v2 : Int32) (v3 : Int32) (v5 : Int32) (σ : St) (kx141 : Int32 → Option Int32) : Nat → Int32 → Int32 → Option Int32
  | 0, _, _ => none
  | n + 1, v4, v6 =>     ald σ 83 12 v1 fun r_2 =>
    if v6 < r_2 then
      jn (fun (s_4 : Int32) => jn (fun (s_6 : Int32) => jn (fun (s_8 : Int32) => f_R_isInNucleus_L20 v1 v2 v3 v5 σ kx141 n s_8 (v6 + 1)) fun j133_7 =>
      jn (j133_7 0) fun j132_9 =>
      if s_6 = 0 then
        j132_9
      else
        jn (j133_7 1) fun j128_10 =>
        jn (cap (f_R_associates σ v1 v5 v6 v2) fun r_13 =>
        if r_13 = 0 then
          j132_9
        else
          j128_10) fun j115_11 =>
        if v3 = 2 then
          j115_11
        else
          if v3 = 3 then
            j115_11
          else
            j128_10) fun j98_5 =>
      jn (j98_5 0) fun j97_14 =>
      if s_4 = 0 then
        j97_14
      else
        jn (j98_5 1) fun j93_15 =>
        jn (cap (f_R_associates σ v1 v5 v2 v6) fun r_18 =>
        if r_18 = 0 then
          j97_14
        else
          j93_15) fun j80_16 =>
        if v3 = 1 then
          j80_16
        else
          if v3 = 3 then
            j80_16
          else
            j93_15) fun j63_3 =>
      jn (j63_3 0) fun j62_19 =>
      if v4 = 0 then
        j62_19
      else
        jn (j63_3 1) fun j58_20 =>
        jn (cap (f_R_associates σ v1 v2 v5 v6) fun r_23 =>
        if r_23 = 0 then
          j62_19
        else
          j58_20) fun j45_21 =>
        if v3 = 0 then
          j45_21
        else
          if v3 = 3 then
            j45_21
          else
            j58_20
    else
      kx141 v4

def f_R_isInNucleus_L6 (v1 : Int32) (v2 : Int32) (v3 : Int32) (σ : St) (kx183 : Int32 → Option Int32) : Nat → Int32 → Int32 → Option Int32
  | 0, _, _ => none
  | n + 1, v4, v5 =>     ald σ 83 12 v1 fun r_1 =>
    if v5 < r_1 then
      f_R_isInNucleus_L20 v1 v2 v3 v5 σ (fun (v4_24 : Int32) => jn (fun (s_26 : Int32) => f_R_isInNucleus_L6 v1 v2 v3 σ kx183 n s_26 (v5 + 1)) fun j175_25 =>
      jn (j175_25 0) fun j174_27 =>
      if v4_24 = 0 then
        j174_27
      else
        jn (j175_25 1) fun j170_28 =>
        if v3 = 3 then
          cap (f_R_at σ v1 v2 v5) fun r_30 =>
          cap (f_R_at σ v1 v5 v2) fun r_32 =>
          if r_30 = r_32 then
            j170_28
          else
            j174_27
        else
          j170_28) FU v4 0
    else
      kx183 v4

def f_R_isInNucleus (σ : St) (v1 : Int32) (v2 : Int32) (v3 : Int32) : Option Int32 :=
  f_R_isInNucleus_L6 v1 v2 v3 σ (fun (v4_33 : Int32) => some (zb v4_33)) FU 1 0

def f_R_nucleus_L22 (v1 : Int32) (v2 : Int32) (σ : St) (kx61 : Int32 → Option (Int32 × St)) : Nat → Int32 → Int32 → Option (Int32 × St)
  | 0, _, _ => none
  | n + 1, v3, v4 =>     ald σ 83 12 v1 fun r_6 =>
    if v4 < r_6 then
      cap (f_R_isInNucleus σ v1 v4 v2) fun r_8 =>
      jn (fun (s_10 : Int32) => f_R_nucleus_L22 v1 v2 σ kx61 n (v3 ||| s_10) (v4 + 1)) fun j53_9 =>
      if r_8 = 0 then
        j53_9 0
      else
        j53_9 (1 <<< (v4 &&& 31))
    else
      kx61 v3

def f_R_nucleus (σ : St) (v1 : Int32) (v2 : Int32) : Option (Int32 × St) :=
  cap (f_R_between σ v2 0 3) fun r_2 =>
  cal (f_R_canAskWith σ v1 r_2) fun r_4 σ_5 =>
  if r_4 = 0 then
    some (0, σ_5)
  else
    f_R_nucleus_L22 v1 v2 σ_5 (fun (v3_11 : Int32) => some (v3_11, σ_5)) FU 0 0

def f_R_unit_L30 (v1 : Int32) (v2 : Int32) (v3 : Int32) (σ : St) (kx85 : Int32 → Option (Int32 × St)) : Nat → Int32 → Int32 → Option (Int32 × St)
  | 0, _, _ => none
  | n + 1, v4, v5 =>     ald σ 83 12 v1 fun r_5 =>
    if v5 < r_5 then
      jn (fun (s_7 : Int32) => f_R_unit_L30 v1 v2 v3 σ kx85 n s_7 (v5 + 1)) fun j77_6 =>
      jn (j77_6 0) fun j76_8 =>
      if v4 = 0 then
        j76_8
      else
        cap (f_R_at σ v1 v3 v5) fun r_10 =>
        if r_10 = v5 then
          cap (f_R_at σ v1 v5 v3) fun r_12 =>
          if r_12 = v5 then
            j77_6 1
          else
            j76_8
        else
          j76_8
    else
      kx85 v4

def f_R_unit_L14 (v1 : Int32) (σ : St) (kx102 : Int32 → Option (Int32 × St)) : Nat → Int32 → Int32 → Option (Int32 × St)
  | 0, _, _ => none
  | n + 1, v2, v3 =>     ald σ 83 12 v1 fun r_4 =>
    if v3 < r_4 then
      f_R_unit_L30 v1 v2 v3 σ (fun (v4_13 : Int32) => jn (fun (s_15 : Int32) => f_R_unit_L14 v1 σ kx102 n s_15 (v3 + 1)) fun j95_14 =>
      if v4_13 = 0 then
        j95_14 v2
      else
        j95_14 v3) FU 1 0
    else
      kx102 v2

def f_R_unit (σ : St) (v1 : Int32) : Option (Int32 × St) :=
  cal (f_R_canAsk σ v1) fun r_2 σ_3 =>
  if r_2 = 0 then
    some (0, σ_3)
  else
    f_R_unit_L14 v1 σ_3 (fun (v2_16 : Int32) => some (v2_16, σ_3)) FU (-1) 0

def f_R_faultOf_L13 (kx54 : Int32 → St → Option (Int32 × St)) (kx89 : Int32 → St → Option (Int32 × St)) (kx141 : Int32 → St → Option (Int32 × St)) (kx159 : Int32 → Int32 → St → Option (Int32 × St)) : Nat → Int32 → Int32 → Int32 → St → Option (Int32 × St)
  | 0, _, _, _, _ => none
  | n + 1, v1, v2, v3, σ =>     if v3 < (σ 82 4) then
      ald σ 85 40 v3 fun r_2 =>
      jn (fun (v1_4 : Int32) (v2_5 : Int32) (σ_6 : St) => f_R_faultOf_L13 kx54 kx89 kx141 kx159 n v1_4 v2_5 (v3 + 1) σ_6) fun j153_3 =>
      jn (jn (if r_2 = 40 then
        ast σ 86 42 (v2 + 1) 0 fun σ_11 =>
        j153_3 v1 (v2 + 1) σ_11
      else
        if r_2 = 41 then
          kx141 v3 σ
        else
          if r_2 = 61 then
            kx141 v3 σ
          else
            ald σ 86 42 v2 fun r_9 =>
            ast σ 86 42 v2 (r_9 + 1) fun σ_10 =>
            j153_3 v1 v2 σ_10) fun j107_8 =>
      if v2 ≤ 0 then
        j107_8
      else
        ald σ 86 42 v2 fun r_12 =>
        if r_12 = 2 then
          if r_2 = 41 then
            ald σ 86 42 (v2 + (-1)) fun r_13 =>
            ast σ 86 42 (v2 + (-1)) (r_13 + 1) fun σ_14 =>
            j153_3 v1 (v2 + (-1)) σ_14
          else
            kx89 v3 σ
        else
          j107_8) fun j68_7 =>
      if v2 = 0 then
        ald σ 86 42 0 fun r_15 =>
        if r_15 = 1 then
          if v1 = 0 then
            if r_2 = 61 then
              ast σ 86 42 0 0 fun σ_16 =>
              j153_3 1 v2 σ_16
            else
              kx54 v3 σ
          else
            kx54 v3 σ
        else
          j68_7
      else
        j68_7
    else
      kx159 v1 v2 σ

def f_R_faultOf (σ : St)  : Option (Int32 × St) :=
  ast σ 86 42 0 0 fun σ_1 =>
  f_R_faultOf_L13 (fun (v3_17 : Int32) (σ_18 : St) => some (v3_17, σ_18)) (fun (v3_19 : Int32) (σ_20 : St) => some (v3_19, σ_20)) (fun (v3_21 : Int32) (σ_22 : St) => some (v3_21, σ_22)) (fun (v1_23 : Int32) (v2_24 : Int32) (σ_25 : St) => jn (some ((σ_25 82 4), σ_25)) fun j181_26 =>
  if v1_23 = 0 then
    j181_26
  else
    if v2_24 = 0 then
      ald σ_25 86 42 0 fun r_27 =>
      if r_27 = 1 then
        some ((-1), σ_25)
      else
        j181_26
    else
      j181_26) FU 0 0 0 σ_1

def f_R_valuesOf_L5 (v1 : Int32) (v2 : Int32) (σ : St) (kx37 : Int32 → Option Int32) : Nat → Int32 → Int32 → Option Int32
  | 0, _, _ => none
  | n + 1, v3, v4 =>     if v4 < (σ 82 4) then
      ald σ 85 40 v4 fun r_1 =>
      jn (fun (s_3 : Int32) => f_R_valuesOf_L5 v1 v2 σ kx37 n s_3 (v4 + 1)) fun j30_2 =>
      if r_1 = v1 then
        j30_2 v2
      else
        j30_2 v3
    else
      kx37 v3

def f_R_valuesOf (σ : St) (v1 : Int32) (v2 : Int32) : Option Int32 :=
  f_R_valuesOf_L5 v1 v2 σ (fun (v3_4 : Int32) => some v3_4) FU 1 0

def f_R_holds_L6 (v1 : Int32) (v2 : Int32) (v3 : Int32) (v4 : Int32) (kx123 : St → Option (Int32 × St)) : Nat → Int32 → Int32 → St → Option (Int32 × St)
  | 0, _, _, _ => none
  | n + 1, v5, v6, σ =>     if v6 < (σ 82 4) then
      ald σ 85 40 v6 fun r_1 =>
      jn (fun (v5_3 : Int32) (σ_4 : St) => f_R_holds_L6 v1 v2 v3 v4 kx123 n v5_3 (v6 + 1) σ_4) fun j117_2 =>
      if r_1 = 41 then
        ald σ 87 42 (v5 - 2) fun r_8 =>
        ald σ 87 42 (v5 - 1) fun r_9 =>
        cap (f_R_at σ v1 r_8 r_9) fun r_11 =>
        ast σ 87 42 (v5 - 2) r_11 fun σ_12 =>
        j117_2 (v5 + (-1)) σ_12
      else
        if r_1 = 40 then
          j117_2 v5 σ
        else
          if r_1 = 61 then
            j117_2 v5 σ
          else
            jn (fun (s_6 : Int32) => ast σ 87 42 v5 s_6 fun σ_7 =>
            j117_2 (v5 + 1) σ_7) fun j113_5 =>
            if r_1 = 120 then
              j113_5 v2
            else
              if r_1 = 121 then
                j113_5 v3
              else
                j113_5 v4
    else
      kx123 σ

def f_R_holds (σ : St) (v1 : Int32) (v2 : Int32) (v3 : Int32) (v4 : Int32) : Option (Int32 × St) :=
  f_R_holds_L6 v1 v2 v3 v4 (fun (σ_13 : St) => ald σ_13 87 42 0 fun r_14 =>
  ald σ_13 87 42 1 fun r_15 =>
  if r_14 = r_15 then
    some (1, σ_13)
  else
    some (0, σ_13)) FU 0 0 σ

def f_R_breaks_L100 (v1 : Int32) (v2 : Int32) (v3 : Int32) (v4 : Int32) (kx125 : Int32 → St → Option (Int32 × St)) (kx145 : St → Option (Int32 × St)) : Nat → Int32 → St → Option (Int32 × St)
  | 0, _, _ => none
  | n + 1, v5, σ =>     cap (f_R_valuesOf σ 120 v2) fun r_15 =>
    if v5 < r_15 then
      cal (f_R_holds σ v1 v5 v4 v3) fun r_17 σ_18 =>
      if r_17 = 0 then
        kx125 v5 σ_18
      else
        f_R_breaks_L100 v1 v2 v3 v4 kx125 kx145 n (v5 + 1) σ_18
    else
      kx145 σ

def f_R_breaks_L85 (v1 : Int32) (v2 : Int32) (v3 : Int32) (kx125 : Int32 → Int32 → St → Option (Int32 × St)) (kx151 : St → Option (Int32 × St)) : Nat → Int32 → St → Option (Int32 × St)
  | 0, _, _ => none
  | n + 1, v4, σ =>     cap (f_R_valuesOf σ 121 v2) fun r_13 =>
    if v4 < r_13 then
      f_R_breaks_L100 v1 v2 v3 v4 (fun (v5_19 : Int32) (σ_20 : St) => kx125 v4 v5_19 σ_20) (fun (σ_21 : St) => f_R_breaks_L85 v1 v2 v3 kx125 kx151 n (v4 + 1) σ_21) FU 0 σ
    else
      kx151 σ

def f_R_breaks_L71 (v1 : Int32) (v2 : Int32) (kx125 : Int32 → Int32 → Int32 → St → Option (Int32 × St)) : Nat → Int32 → St → Option (Int32 × St)
  | 0, _, _ => none
  | n + 1, v3, σ =>     cap (f_R_valuesOf σ 122 v2) fun r_11 =>
    if v3 < r_11 then
      f_R_breaks_L85 v1 v2 v3 (fun (v4_22 : Int32) (v5_23 : Int32) (σ_24 : St) => kx125 v3 v4_22 v5_23 σ_24) (fun (σ_25 : St) => f_R_breaks_L71 v1 v2 kx125 n (v3 + 1) σ_25) FU 0 σ
    else
      some ((-1), σ)

def f_R_breaks (σ : St) (v1 : Int32) : Option (Int32 × St) :=
  cap (f_R_isGrid σ v1) fun r_2 =>
  jn (fun (s_4 : Int32) (σ_5 : St) => sto σ_5 82 0 s_4 fun σ_6 =>
  jn (fun (σ_8 : St) => if (σ_8 82 0) ≤ 0 then
    ald σ_8 83 12 v1 fun r_9 =>
    f_R_breaks_L71 v1 r_9 (fun (v3_26 : Int32) (v4_27 : Int32) (v5_28 : Int32) (σ_29 : St) => some (((v5_28 + (r_9 * v4_27)) + ((r_9 * r_9) * v3_26)), σ_29)) FU 0 σ_8
  else
    some (0, σ_8)) fun j53_7 =>
  if (σ_6 82 0) = 0 then
    cap (f_R_isSquare σ_6 v1) fun r_31 =>
    jn (fun (s_33 : Int32) => sto σ_6 82 0 s_33 fun σ_34 =>
    j53_7 σ_34) fun j50_32 =>
    if r_31 = 0 then
      j50_32 3
    else
      j50_32 0
  else
    j53_7 σ_6) fun j26_3 =>
  if r_2 = 0 then
    j26_3 1 σ
  else
    cal (f_R_faultOf σ) fun r_36 σ_37 =>
    if r_36 = (-1) then
      j26_3 0 σ_37
    else
      j26_3 2 σ_37

def f_R_fault (σ : St)  : Option (Int32 × St) :=
  sto σ 82 0 0 fun σ_1 =>
  cal (f_R_faultOf σ_1) fun r_3 σ_4 =>
  some (r_3, σ_4)

def f_R_wipe (σ : St)  : Option (Int32 × St) :=
  sto σ 82 0 0 fun σ_1 =>
  sto σ_1 82 4 0 fun σ_2 =>
  some ((σ_1 82 4), σ_2)

def f_R_isSign (σ : St) (v1 : Int32) : Option Int32 :=
  jn (some 1) fun j36_1 =>
  if v1 = 120 then
    j36_1
  else
    if v1 = 121 then
      j36_1
    else
      if v1 = 122 then
        j36_1
      else
        if v1 = 40 then
          j36_1
        else
          if v1 = 41 then
            j36_1
          else
            if v1 = 61 then
              j36_1
            else
              some 0

def f_R_type_L23 (v1 : Int64) (v3 : Int32) (kx70 : St → Option (Int32 × St)) : Nat → Int32 → St → Option (Int32 × St)
  | 0, _, _ => none
  | n + 1, v4, σ =>     if (σ 82 0) = 0 then
      if v4 < v3 then
        cap (f_R_isSign σ (((v1 >>> ((8 * v4).toInt64 &&& 63)) &&& (255 : Int64)).toInt32)) fun r_7 =>
        jn (fun (s_9 : Int32) => sto σ 82 0 s_9 fun σ_10 =>
        f_R_type_L23 v1 v3 kx70 n (v4 + 1) σ_10) fun j61_8 =>
        if r_7 = 0 then
          j61_8 1
        else
          j61_8 0
      else
        kx70 σ
    else
      kx70 σ

def f_R_type_L112 (v1 : Int64) (v3 : Int32) (kx148 : St → Option (Int32 × St)) : Nat → Int32 → St → Option (Int32 × St)
  | 0, _, _ => none
  | n + 1, v4, σ =>     if v4 < v3 then
      ast σ 85 40 ((σ 82 4) + v4) (((v1 >>> ((8 * v4).toInt64 &&& 63)) &&& (255 : Int64)).toInt32) fun σ_15 =>
      f_R_type_L112 v1 v3 kx148 n (v4 + 1) σ_15
    else
      kx148 σ

def f_R_type (σ : St) (v1 : Int64) (v3 : Int32) : Option (Int32 × St) :=
  cap (f_R_between σ v3 1 8) fun r_2 =>
  jn (fun (s_4 : Int32) => sto σ 82 0 s_4 fun σ_5 =>
  f_R_type_L23 v1 v3 (fun (σ_11 : St) => jn (fun (s_13 : Int32) => sto σ_11 82 0 s_13 fun σ_14 =>
  if (σ_14 82 0) ≤ 0 then
    f_R_type_L112 v1 v3 (fun (σ_16 : St) => sto σ_16 82 4 ((σ_16 82 4) + v3) fun σ_17 =>
    some ((σ_17 82 4), σ_17)) FU 0 σ_14
  else
    some (0, σ_14)) fun j97_12 =>
  jn (j97_12 (σ_11 82 0)) fun j93_18 =>
  if (σ_11 82 0) = 0 then
    if ((σ_11 82 4) + v3) ≤ 40 then
      j93_18
    else
      j97_12 2
  else
    j93_18) FU 0 σ_5) fun j17_3 =>
  if r_2 = 0 then
    j17_3 1
  else
    j17_3 0

def f_R_bitsOf_L4 (v1 : Int32) (σ : St) (kx24 : Int32 → Option Int32) : Nat → Int32 → Int32 → Option Int32
  | 0, _, _ => none
  | n + 1, v2, v3 =>     if v3 < 16 then
      lt1 (v2 + ((v1 >>> (v3 &&& 31)) &&& 1)) fun v2_1 =>
      f_R_bitsOf_L4 v1 σ kx24 n v2_1 (v3 + 1)
    else
      kx24 v2

def f_R_bitsOf (σ : St) (v1 : Int32) : Option Int32 :=
  f_R_bitsOf_L4 v1 σ (fun (v2_2 : Int32) => some v2_2) FU 0 0

def f_R_fits_L5 (v1 : Int32) (v2 : Int32) (σ : St) (kx96 : Int32 → Option Int32) : Nat → Int32 → Int32 → Option Int32
  | 0, _, _ => none
  | n + 1, v3, v4 =>     if v4 < (σ 82 13) then
      dvi v1 (σ 82 13) fun q_1 =>
      lt1 ((q_1 * (σ 82 13)) + v4) fun v5_2 =>
      rmi v1 (σ 82 13) fun q_3 =>
      lt1 (((σ 82 13) * v4) + q_3) fun v6_4 =>
      jn (fun (s_6 : Int32) => f_R_fits_L5 v1 v2 σ kx96 n s_6 (v4 + 1)) fun j89_5 =>
      jn (j89_5 0) fun j88_7 =>
      if v3 = 0 then
        j88_7
      else
        jn (jn (j89_5 1) fun j84_9 =>
        if v6_4 = v1 then
          j84_9
        else
          ald σ 91 25 v6_4 fun r_10 =>
          if r_10 = v2 then
            j88_7
          else
            j84_9) fun j67_8 =>
        if v5_2 = v1 then
          j67_8
        else
          ald σ 91 25 v5_2 fun r_11 =>
          if r_11 = v2 then
            j88_7
          else
            j67_8
    else
      kx96 v3

def f_R_fits (σ : St) (v1 : Int32) (v2 : Int32) : Option Int32 :=
  f_R_fits_L5 v1 v2 σ (fun (v3_12 : Int32) => some (zb v3_12)) FU 1 0

def f_R_search_L95 (v1 : Int32) (v2 : Int32) (v3 : Int32) (v4 : Int32) (σ : St) (kx121 : Int32 → Option (Int32 × St)) : Nat → Int32 → Option (Int32 × St)
  | 0, _ => none
  | n + 1, v5 =>     if v5 < (σ 82 13) then
      cap (f_R_fits σ v4 v5) fun r_8 =>
      if r_8 = 0 then
        f_R_search_L95 v1 v2 v3 v4 σ kx121 n (v5 + 1)
      else
        kx121 v5
    else
      kx121 v5

def f_R_search_L28 (v1 : Int32) (v2 : Int32) (v3 : Int32) (kx59 : St → Option (Int32 × St)) : Nat → Int32 → St → Option (Int32 × St)
  | 0, _, _ => none
  | n + 1, v4, σ =>     if v4 < 25 then
      if v2 = 0 then
        ald σ 91 25 v4 fun r_15 =>
        ast σ 93 25 v4 r_15 fun σ_16 =>
        f_R_search_L28 v1 v2 v3 kx59 n (v4 + 1) σ_16
      else
        kx59 σ
    else
      kx59 σ

def f_R_search_L8 (v1 : Int32) (kx163 : Int32 → St → Option (Int32 × St)) : Nat → Int32 → Int32 → St → Option (Int32 × St)
  | 0, _, _, _ => none
  | n + 1, v2, v3, σ =>     if v3 < 0 then
      kx163 v2 σ
    else
      if v2 < v1 then
        if v3 = (σ 82 15) then
          f_R_search_L28 v1 v2 v3 (fun (σ_17 : St) => f_R_search_L8 v1 kx163 n (v2 + 1) (v3 + (-1)) σ_17) FU 0 σ
        else
          ald σ 92 25 v3 fun r_4 =>
          ald σ 91 25 r_4 fun r_5 =>
          ast σ 91 25 r_4 (-1) fun σ_6 =>
          f_R_search_L95 v1 v2 v3 r_4 σ_6 (fun (v5_9 : Int32) => jn (fun (s_11 : Int32) => ast σ_6 91 25 r_4 s_11 fun σ_12 =>
          jn (fun (s_14 : Int32) => f_R_search_L8 v1 kx163 n v2 (v3 + s_14) σ_12) fun j158_13 =>
          if v5_9 < (σ_12 82 13) then
            j158_13 1
          else
            j158_13 (-1)) fun j142_10 =>
          if v5_9 < (σ_6 82 13) then
            j142_10 v5_9
          else
            j142_10 (-1)) FU (r_5 + 1)
      else
        kx163 v2 σ

def f_R_search (σ : St) (v1 : Int32) : Option (Int32 × St) :=
  cal (f_R_layEmpties σ) fun r_2 σ_3 =>
  f_R_search_L8 v1 (fun (v2_18 : Int32) (σ_19 : St) => some (v2_18, σ_19)) FU 0 0 σ_3

def f_R_critical_L110 (v1 : Int32) (v2 : Int32) (v3 : Int32) (v4 : Int32) (kx151 : St → Option (Int32 × St)) : Nat → Int32 → St → Option (Int32 × St)
  | 0, _, _ => none
  | n + 1, v5, σ =>     if v5 < v2 then
      jn (fun (s_18 : Int32) => ast σ 91 25 v5 s_18 fun σ_19 =>
      f_R_critical_L110 v1 v2 v3 v4 kx151 n (v5 + 1) σ_19) fun j144_17 =>
      if ((v4 >>> (v5 &&& 31)) &&& 1) = 1 then
        ald σ 91 25 v5 fun r_20 =>
        j144_17 r_20
      else
        j144_17 (-1)
    else
      kx151 σ

def f_R_critical_L84 (v1 : Int32) (v2 : Int32) (v3 : Int32) (kx160 : St → Option (Int32 × St)) (kx168 : St → Option (Int32 × St)) : Nat → Int32 → St → Option (Int32 × St)
  | 0, _, _ => none
  | n + 1, v4, σ =>     if v4 < (1 <<< (v2 &&& 31)) then
      cap (f_R_bitsOf σ v4) fun r_11 =>
      jn (fun (σ_13 : St) => f_R_critical_L84 v1 v2 v3 kx160 kx168 n (v4 + 1) σ_13) fun j162_12 =>
      if r_11 = v3 then
        cal (f_R_copyToWork σ v1) fun r_15 σ_16 =>
        f_R_critical_L110 v1 v2 v3 v4 (fun (σ_21 : St) => cal (f_R_search σ_21 2) fun r_23 σ_24 =>
        if r_23 = 1 then
          kx160 σ_24
        else
          j162_12 σ_24) FU 0 σ_16
      else
        j162_12 σ
    else
      kx168 σ

def f_R_critical_L76 (v1 : Int32) (v2 : Int32) (kx160 : Int32 → St → Option (Int32 × St)) (kx174 : St → Option (Int32 × St)) : Nat → Int32 → St → Option (Int32 × St)
  | 0, _, _ => none
  | n + 1, v3, σ =>     if v3 < v2 then
      f_R_critical_L84 v1 v2 v3 (fun (σ_25 : St) => kx160 v3 σ_25) (fun (σ_26 : St) => f_R_critical_L76 v1 v2 kx160 kx174 n (v3 + 1) σ_26) FU 0 σ
    else
      kx174 σ

def f_R_critical (σ : St) (v1 : Int32) : Option (Int32 × St) :=
  cap (f_R_isGrid σ v1) fun r_2 =>
  jn (fun (s_4 : Int32) => sto σ 82 0 s_4 fun σ_5 =>
  jn (fun (σ_7 : St) => if (σ_7 82 0) ≤ 0 then
    ald σ_7 83 12 v1 fun r_8 =>
    ald σ_7 83 12 v1 fun r_9 =>
    f_R_critical_L76 v1 (r_8 * r_9) (fun (v3_27 : Int32) (σ_28 : St) => some (v3_27, σ_28)) (fun (σ_29 : St) => some ((r_8 * r_9), σ_29)) FU 0 σ_7
  else
    some (0, σ_7)) fun j51_6 =>
  if (σ_5 82 0) = 0 then
    cap (f_R_isSquare σ_5 v1) fun r_31 =>
    jn (fun (s_33 : Int32) => sto σ_5 82 0 s_33 fun σ_34 =>
    j51_6 σ_34) fun j48_32 =>
    jn (j48_32 2) fun j43_35 =>
    if r_31 = 0 then
      j43_35
    else
      ald σ_5 83 12 v1 fun r_36 =>
      if r_36 = 5 then
        j43_35
      else
        j48_32 0
  else
    j51_6 σ_5) fun j14_3 =>
  if r_2 = 0 then
    j14_3 1
  else
    j14_3 0

def f_R_setAt_L4 (v1 : Int32) (σ : St) (kx47 : Int32 → Option Int32) : Nat → Int32 → Int32 → Option Int32
  | 0, _, _ => none
  | n + 1, v2, v3 =>     if v3 < (σ 82 13) then
      ald σ 91 25 v1 fun r_1 =>
      if r_1 = (-1) then
        cap (f_R_fits σ v1 v3) fun r_3 =>
        jn (fun (s_5 : Int32) => f_R_setAt_L4 v1 σ kx47 n (v2 ||| s_5) (v3 + 1)) fun j39_4 =>
        if r_3 = 0 then
          j39_4 0
        else
          j39_4 (1 <<< (v3 &&& 31))
      else
        kx47 v2
    else
      kx47 v2

def f_R_setAt (σ : St) (v1 : Int32) : Option Int32 :=
  f_R_setAt_L4 v1 σ (fun (v2_6 : Int32) => some v2_6) FU 0 0

def f_R_isLast_L8 (v1 : Int32) (v2 : Int32) (σ : St) (kx115 : Int32 → Int32 → Option Int32) : Nat → Int32 → Int32 → Int32 → Option Int32
  | 0, _, _, _ => none
  | n + 1, v3, v4, v5 =>     if v5 < (σ 82 13) then
      dvi v1 (σ 82 13) fun q_1 =>
      lt1 ((q_1 * (σ 82 13)) + v5) fun v6_2 =>
      rmi v1 (σ 82 13) fun q_3 =>
      lt1 (((σ 82 13) * v5) + q_3) fun v7_4 =>
      jn (fun (s_6 : Int32) => jn (fun (s_8 : Int32) => f_R_isLast_L8 v1 v2 σ kx115 n s_6 s_8 (v5 + 1)) fun j107_7 =>
      jn (j107_7 0) fun j106_9 =>
      if v4 = 0 then
        j106_9
      else
        jn (j107_7 1) fun j102_10 =>
        if v7_4 = v1 then
          j102_10
        else
          cap (f_R_setAt σ v7_4) fun r_12 =>
          if ((r_12 >>> (v2 &&& 31)) &&& 1) = 0 then
            j102_10
          else
            j106_9) fun j77_5 =>
      jn (j77_5 0) fun j76_13 =>
      if v3 = 0 then
        j76_13
      else
        jn (j77_5 1) fun j72_14 =>
        if v6_2 = v1 then
          j72_14
        else
          cap (f_R_setAt σ v6_2) fun r_16 =>
          if ((r_16 >>> (v2 &&& 31)) &&& 1) = 0 then
            j72_14
          else
            j76_13
    else
      kx115 v3 v4

def f_R_isLast (σ : St) (v1 : Int32) (v2 : Int32) : Option Int32 :=
  f_R_isLast_L8 v1 v2 σ (fun (v3_17 : Int32) (v4_18 : Int32) => jn (some 1) fun j124_19 =>
  if v3_17 = 0 then
    if v4_18 = 0 then
      some 0
    else
      j124_19
  else
    j124_19) FU 1 1 0

def f_R_forcedAtWork_L23 (v1 : Int32) (v2 : Int32) (σ : St) (kx56 : Int32 → Option Int32) (kx69 : Option Int32) : Nat → Int32 → Option Int32
  | 0, _ => none
  | n + 1, v3 =>     if v3 < (σ 82 13) then
      jn (f_R_forcedAtWork_L23 v1 v2 σ kx56 kx69 n (v3 + 1)) fun j63_3 =>
      if ((v2 >>> (v3 &&& 31)) &&& 1) = 1 then
        if v2 = (1 <<< (v3 &&& 31)) then
          kx56 v3
        else
          cap (f_R_isLast σ v1 v3) fun r_5 =>
          if r_5 = 0 then
            j63_3
          else
            kx56 v3
      else
        j63_3
    else
      kx69

def f_R_forcedAtWork_L2 (σ : St) (kx56 : Int32 → Int32 → Option Int32) : Nat → Int32 → Option Int32
  | 0, _ => none
  | n + 1, v1 =>     if v1 < ((σ 82 13) * (σ 82 13)) then
      cap (f_R_setAt σ v1) fun r_2 =>
      f_R_forcedAtWork_L23 v1 r_2 σ (fun (v3_6 : Int32) => kx56 v1 v3_6) (f_R_forcedAtWork_L2 σ kx56 n (v1 + 1)) FU 0
    else
      some (-1)

def f_R_forcedAtWork (σ : St)  : Option Int32 :=
  f_R_forcedAtWork_L2 σ (fun (v1_7 : Int32) (v3_8 : Int32) => some ((10 * v1_7) + v3_8)) FU 0

def f_R_logic_L38 (kx67 : Int32 → St → Option (Int32 × St)) : Nat → Int32 → Int32 → St → Option (Int32 × St)
  | 0, _, _, _ => none
  | n + 1, v2, v3, σ =>     if v3 = (-1) then
      kx67 v2 σ
    else
      dvi v3 10 fun q_11 =>
      rmi v3 10 fun q_12 =>
      ast σ 91 25 q_11 q_12 fun σ_13 =>
      cap (f_R_forcedAtWork σ_13) fun r_15 =>
      f_R_logic_L38 kx67 n (v2 + 1) r_15 σ_13

def f_R_logic (σ : St) (v1 : Int32) : Option (Int32 × St) :=
  cap (f_R_isGrid σ v1) fun r_2 =>
  jn (fun (s_4 : Int32) => sto σ 82 0 s_4 fun σ_5 =>
  if (σ_5 82 0) ≤ 0 then
    cal (f_R_copyToWork σ_5 v1) fun r_7 σ_8 =>
    cap (f_R_forcedAtWork σ_8) fun r_10 =>
    f_R_logic_L38 (fun (v2_16 : Int32) (σ_17 : St) => some (v2_16, σ_17)) FU 0 r_10 σ_8
  else
    some (0, σ_5)) fun j14_3 =>
  if r_2 = 0 then
    j14_3 1
  else
    j14_3 0

def f_R_forced (σ : St) (v1 : Int32) : Option (Int32 × St) :=
  cap (f_R_isGrid σ v1) fun r_2 =>
  jn (fun (s_4 : Int32) => sto σ 82 0 s_4 fun σ_5 =>
  if (σ_5 82 0) ≤ 0 then
    cal (f_R_copyToWork σ_5 v1) fun r_7 σ_8 =>
    cap (f_R_forcedAtWork σ_8) fun r_10 =>
    some (r_10, σ_8)
  else
    some (0, σ_5)) fun j14_3 =>
  if r_2 = 0 then
    j14_3 1
  else
    j14_3 0

def f_R_fill_L78 (v1 : Int32) (v3 : Int32) (kx117 : St → Option (Int32 × St)) : Nat → Int32 → St → Option (Int32 × St)
  | 0, _, _ => none
  | n + 1, v4, σ =>     if v4 < ((σ 82 13) * (σ 82 13)) then
      ald σ 93 25 v4 fun r_18 =>
      ast σ 84 300 ((25 * v1) + v4) r_18 fun σ_19 =>
      f_R_fill_L78 v1 v3 kx117 n (v4 + 1) σ_19
    else
      kx117 σ

def f_R_fill (σ : St) (v1 : Int32) : Option (Int32 × St) :=
  cap (f_R_isGrid σ v1) fun r_2 =>
  jn (fun (s_4 : Int32) => sto σ 82 0 s_4 fun σ_5 =>
  if (σ_5 82 0) ≤ 0 then
    cal (f_R_copyToWork σ_5 v1) fun r_7 σ_8 =>
    cal (f_R_search σ_8 1) fun r_10 σ_11 =>
    jn (fun (s_13 : Int32) => sto σ_11 82 0 s_13 fun σ_14 =>
    if (σ_14 82 0) ≤ 0 then
      cap (f_R_filled σ_14 v1) fun r_16 =>
      lt1 (((σ_14 82 13) * (σ_14 82 13)) - r_16) fun v3_17 =>
      f_R_fill_L78 v1 v3_17 (fun (σ_20 : St) => some (v3_17, σ_20)) FU 0 σ_14
    else
      some (0, σ_14)) fun j47_12 =>
    if r_10 = 0 then
      j47_12 2
    else
      j47_12 0
  else
    some (0, σ_5)) fun j14_3 =>
  if r_2 = 0 then
    j14_3 1
  else
    j14_3 0

def f_R_fillsOf (σ : St) (v1 : Int32) (v2 : Int32) : Option (Int32 × St) :=
  cap (f_R_isGrid σ v1) fun r_2 =>
  jn (fun (s_4 : Int32) => sto σ 82 0 s_4 fun σ_5 =>
  if (σ_5 82 0) ≤ 0 then
    cal (f_R_copyToWork σ_5 v1) fun r_7 σ_8 =>
    cal (f_R_search σ_8 v2) fun r_10 σ_11 =>
    some (r_10, σ_11)
  else
    some (0, σ_5)) fun j30_3 =>
  if r_2 = 0 then
    j30_3 1
  else
    cap (f_R_between σ v2 1 1000) fun r_13 =>
    if r_13 = 0 then
      j30_3 2
    else
      j30_3 0

def f_R_fillsAnew (σ : St) (v1 : Int32) (v2 : Int32) : Option (Int32 × St) :=
  cal (f_R_fillsOf σ v1 v2) fun r_2 σ_3 =>
  some (r_2, σ_3)

def f_R_fills (σ : St) (v1 : Int32) (v2 : Int32) : Option (Int32 × St) :=
  cal (f_R_fillsOf σ v1 v2) fun r_2 σ_3 =>
  some (r_2, σ_3)

def f_R_isLine (σ : St) (v1 : Int32) (v2 : Int32) : Option Int32 :=
  ald σ 83 12 v1 fun r_1 =>
  cap (f_R_between σ v2 0 (r_1 - 1)) fun r_3 =>
  some (zb r_3)

def f_R_isCell (σ : St) (v1 : Int32) (v2 : Int32) (v3 : Int32) : Option Int32 :=
  cap (f_R_isGrid σ v1) fun r_2 =>
  jn (some 0) fun j30_3 =>
  if r_2 = 0 then
    j30_3
  else
    cap (f_R_isLine σ v1 v2) fun r_5 =>
    if r_5 = 0 then
      j30_3
    else
      cap (f_R_isLine σ v1 v3) fun r_7 =>
      if r_7 = 0 then
        j30_3
      else
        some 1

def f_R_can (σ : St) (v1 : Int32) (v2 : Int32) (v3 : Int32) : Option (Int32 × St) :=
  cap (f_R_isCell σ v1 v2 v3) fun r_2 =>
  jn (fun (s_4 : Int32) => sto σ 82 0 s_4 fun σ_5 =>
  if (σ_5 82 0) ≤ 0 then
    cal (f_R_copyToWork σ_5 v1) fun r_7 σ_8 =>
    cap (f_R_setAt σ_8 (((σ_8 82 13) * v2) + v3)) fun r_10 =>
    some (r_10, σ_8)
  else
    some (0, σ_5)) fun j16_3 =>
  if r_2 = 0 then
    j16_3 1
  else
    j16_3 0

def f_R_turnRows_L11 (v1 : Int32) (v2 : Int32) (v3 : Int32) (v4 : Int32) (v5 : Int32) (kx32 : St → Option (Int32 × St)) : Nat → Int32 → St → Option (Int32 × St)
  | 0, _, _ => none
  | n + 1, v6, σ =>     if v6 < v5 then
      asz σ 100 5 v6 0 fun σ_2 =>
      f_R_turnRows_L11 v1 v2 v3 v4 v5 kx32 n (v6 + 1) σ_2
    else
      kx32 σ

def f_R_turnRows_L67 (v1 : Int32) (v2 : Int32) (v3 : Int32) (v5 : Int32) (v6 : Int32) (v7 : Int32) (σ : St) (kx108 : Int32 → Option (Int32 × St)) : Nat → Int32 → Int32 → Option (Int32 × St)
  | 0, _, _ => none
  | n + 1, v8, v9 =>     if v9 < v5 then
      cap (f_R_at σ v1 v2 v9) fun r_7 =>
      cap (f_R_at σ v1 v3 v6) fun r_9 =>
      jn (fun (s_11 : Int32) => f_R_turnRows_L67 v1 v2 v3 v5 v6 v7 σ kx108 n s_11 (v9 + 1)) fun j100_10 =>
      if r_7 = r_9 then
        j100_10 v9
      else
        j100_10 v8
    else
      kx108 v8

def f_R_turnRows_L39 (v1 : Int32) (v2 : Int32) (v3 : Int32) (v5 : Int32) (kx115 : Int32 → St → Option (Int32 × St)) : Nat → Int32 → Int32 → St → Option (Int32 × St)
  | 0, _, _, _ => none
  | n + 1, v6, v7, σ =>     ald σ 100 5 v6 fun r_4 =>
    if r_4 = 0 then
      asz σ 100 5 v6 1 fun σ_5 =>
      f_R_turnRows_L67 v1 v2 v3 v5 v6 (v7 + 1) σ_5 (fun (v8_12 : Int32) => f_R_turnRows_L39 v1 v2 v3 v5 kx115 n v8_12 (v7 + 1) σ_5) FU v6 0
    else
      kx115 v7 σ

def f_R_turnRows_L118 (v1 : Int32) (v2 : Int32) (v3 : Int32) (v5 : Int32) (v7 : Int32) (kx195 : St → Option (Int32 × St)) : Nat → Int32 → St → Option (Int32 × St)
  | 0, _, _ => none
  | n + 1, v8, σ =>     if v8 < v5 then
      ald σ 100 5 v8 fun r_15 =>
      jn (fun (σ_17 : St) => f_R_turnRows_L118 v1 v2 v3 v5 v7 kx195 n (v8 + 1) σ_17) fun j189_16 =>
      if r_15 = 0 then
        j189_16 σ
      else
        cap (f_R_at σ v1 v2 v8) fun r_19 =>
        cap (f_R_at σ v1 v3 v8) fun r_21 =>
        ast σ 84 300 (((25 * v1) + (v5 * v2)) + v8) r_21 fun σ_22 =>
        ast σ_22 84 300 (((25 * v1) + (v5 * v3)) + v8) r_19 fun σ_23 =>
        j189_16 σ_23
    else
      kx195 σ

def f_R_turnRows (σ : St) (v1 : Int32) (v2 : Int32) (v3 : Int32) (v4 : Int32) : Option (Int32 × St) :=
  ald σ 83 12 v1 fun r_1 =>
  f_R_turnRows_L11 v1 v2 v3 v4 r_1 (fun (σ_3 : St) => f_R_turnRows_L39 v1 v2 v3 r_1 (fun (v7_13 : Int32) (σ_14 : St) => f_R_turnRows_L118 v1 v2 v3 r_1 v7_13 (fun (σ_24 : St) => some (v7_13, σ_24)) FU 0 σ_14) FU v4 0 σ_3) FU 0 σ

def f_R_stir_L84 (v1 : Int32) (v3 : Int32) (v4 : Int32) (kx169 : Int64 → St → Option (Int32 × St)) : Nat → Int64 → Int32 → St → Option (Int32 × St)
  | 0, _, _, _ => none
  | n + 1, v5, v7, σ =>     if v7 < v3 then
      rml (((1103515245 : Int64) * v5) + (12345 : Int64)) (2147483648 : Int64) fun q_10 =>
      dvl q_10 (65536 : Int64) fun q_11 =>
      rmi (q_11.toInt32) v4 fun q_12 =>
      dvi (q_11.toInt32) v4 fun q_13 =>
      rmi q_13 (v4 - 1) fun q_14 =>
      rmi ((q_12 + 1) + q_14) v4 fun q_15 =>
      dvi (q_11.toInt32) (v4 * v4) fun q_16 =>
      rmi q_16 v4 fun q_17 =>
      cal (f_R_turnRows σ v1 q_12 q_15 q_17) fun r_19 σ_20 =>
      f_R_stir_L84 v1 v3 v4 kx169 n q_10 (v7 + 1) σ_20
    else
      kx169 v5 σ

def f_R_stir (σ : St) (v1 : Int32) (v2 : Int32) (v3 : Int32) : Option (Int32 × St) :=
  cap (f_R_isGrid σ v1) fun r_2 =>
  jn (fun (s_4 : Int32) => sto σ 82 0 s_4 fun σ_5 =>
  jn (fun (σ_7 : St) => if (σ_7 82 0) ≤ 0 then
    ald σ_7 83 12 v1 fun r_8 =>
    lt1 (v2.toInt64) fun v5_9 =>
    f_R_stir_L84 v1 v3 r_8 (fun (v5_21 : Int64) (σ_22 : St) => some (v5_21.toInt32, σ_22)) FU v5_9 0 σ_7
  else
    some (0, σ_7)) fun j60_6 =>
  if (σ_5 82 0) = 0 then
    cap (f_R_isSquare σ_5 v1) fun r_24 =>
    jn (fun (s_26 : Int32) => sto σ_5 82 0 s_26 fun σ_27 =>
    j60_6 σ_27) fun j57_25 =>
    if r_24 = 0 then
      j57_25 3
    else
      j57_25 0
  else
    j60_6 σ_5) fun j33_3 =>
  if r_2 = 0 then
    j33_3 1
  else
    jn (j33_3 2) fun j28_28 =>
    if v2 < 0 then
      j28_28
    else
      cap (f_R_between σ v3 1 50) fun r_30 =>
      if r_30 = 0 then
        j28_28
      else
        j33_3 0

def f_R_turn_L44 (v1 : Int32) (v2 : Int32) (v3 : Int32) (v4 : Int32) (σ : St) (kx104 : Int32 → Option (Int32 × St)) : Nat → Int32 → Int32 → Option (Int32 × St)
  | 0, _, _ => none
  | n + 1, v5, v6 =>     if (σ 82 0) = 0 then
      ald σ 83 12 v1 fun r_6 =>
      if v6 < r_6 then
        jn (fun (s_8 : Int32) => f_R_turn_L44 v1 v2 v3 v4 σ kx104 n s_8 (v6 + 1)) fun j96_7 =>
        jn (j96_7 1) fun j91_9 =>
        if v5 = 0 then
          cap (f_R_at σ v1 v2 v6) fun r_11 =>
          if r_11 = (-1) then
            j91_9
          else
            cap (f_R_at σ v1 v3 v6) fun r_13 =>
            if r_13 = (-1) then
              j91_9
            else
              j96_7 0
        else
          j91_9
      else
        kx104 v5
    else
      kx104 v5

def f_R_turn (σ : St) (v1 : Int32) (v2 : Int32) (v3 : Int32) (v4 : Int32) : Option (Int32 × St) :=
  cap (f_R_isCell σ v1 v2 v4) fun r_2 =>
  jn (fun (s_4 : Int32) => sto σ 82 0 s_4 fun σ_5 =>
  f_R_turn_L44 v1 v2 v3 v4 σ_5 (fun (v5_14 : Int32) => jn (fun (s_16 : Int32) => sto σ_5 82 0 s_16 fun σ_17 =>
  if (σ_17 82 0) ≤ 0 then
    cal (f_R_turnRows σ_17 v1 v2 v3 v4) fun r_19 σ_20 =>
    some (r_19, σ_20)
  else
    some (0, σ_17)) fun j118_15 =>
  if v5_14 = 0 then
    j118_15 (σ_5 82 0)
  else
    j118_15 3) FU 0 0) fun j35_3 =>
  jn (j35_3 1) fun j21_21 =>
  if r_2 = 0 then
    j21_21
  else
    cap (f_R_isLine σ v1 v3) fun r_23 =>
    if r_23 = 0 then
      j21_21
    else
      if v2 = v3 then
        j35_3 2
      else
        j35_3 0

def f_R_distance_L61 (v1 : Int32) (v2 : Int32) (σ : St) (kx127 : Int32 → Option (Int32 × St)) : Nat → Int32 → Int32 → Option (Int32 × St)
  | 0, _, _ => none
  | n + 1, v3, v4 =>     if (σ 82 0) = 0 then
      ald σ 83 12 v1 fun r_8 =>
      ald σ 83 12 v1 fun r_9 =>
      if v4 < (r_8 * r_9) then
        ald σ 84 300 ((25 * v1) + v4) fun r_10 =>
        ald σ 84 300 ((25 * v2) + v4) fun r_11 =>
        jn (fun (s_13 : Int32) => f_R_distance_L61 v1 v2 σ kx127 n (v3 + s_13) (v4 + 1)) fun j119_12 =>
        if r_10 = r_11 then
          j119_12 0
        else
          j119_12 1
      else
        kx127 v3
    else
      kx127 v3

def f_R_distance (σ : St) (v1 : Int32) (v2 : Int32) : Option (Int32 × St) :=
  cap (f_R_isGrid σ v1) fun r_2 =>
  jn (fun (s_4 : Int32) => sto σ 82 0 s_4 fun σ_5 =>
  jn (fun (σ_7 : St) => f_R_distance_L61 v1 v2 σ_7 (fun (v3_14 : Int32) => some (v3_14, σ_7)) FU 0 0) fun j56_6 =>
  if (σ_5 82 0) = 0 then
    ald σ_5 83 12 v1 fun r_15 =>
    ald σ_5 83 12 v2 fun r_16 =>
    jn (fun (s_18 : Int32) => sto σ_5 82 0 s_18 fun σ_19 =>
    j56_6 σ_19) fun j53_17 =>
    if r_15 = r_16 then
      j53_17 0
    else
      j53_17 2
  else
    j56_6 σ_5) fun j22_3 =>
  jn (j22_3 1) fun j17_20 =>
  if r_2 = 0 then
    j17_20
  else
    cap (f_R_isGrid σ v2) fun r_22 =>
    if r_22 = 0 then
      j17_20
    else
      j22_3 0

def f_R_of_L74 (σ : St) (kx122 : Int32 → Option (Int32 × St)) : Nat → Int32 → Int32 → Option (Int32 × St)
  | 0, _, _ => none
  | n + 1, v3, v4 =>     if v4 < ((σ 82 13) * (σ 82 13)) then
      ald σ 91 25 v4 fun r_9 =>
      jn (fun (s_11 : Int32) => f_R_of_L74 σ kx122 n (v3 + s_11) (v4 + 1)) fun j114_10 =>
      jn (j114_10 0) fun j113_12 =>
      if r_9 = (-1) then
        cap (f_R_setAt σ v4) fun r_14 =>
        if r_14 = 0 then
          j114_10 1
        else
          j113_12
      else
        j113_12
    else
      kx122 v3

def f_R_of (σ : St) (v1 : Int32) (v2 : Int32) : Option (Int32 × St) :=
  cap (f_R_isGrid σ v1) fun r_2 =>
  jn (fun (s_4 : Int32) => sto σ 82 0 s_4 fun σ_5 =>
  if (σ_5 82 0) ≤ 0 then
    if v2 < 2 then
      if v2 = 0 then
        ald σ_5 83 12 v1 fun r_18 =>
        some (r_18, σ_5)
      else
        cap (f_R_filled σ_5 v1) fun r_17 =>
        some (r_17, σ_5)
    else
      cal (f_R_copyToWork σ_5 v1) fun r_7 σ_8 =>
      f_R_of_L74 σ_8 (fun (v3_15 : Int32) => some (v3_15, σ_8)) FU 0 0
  else
    some (0, σ_5)) fun j28_3 =>
  if r_2 = 0 then
    j28_3 1
  else
    cap (f_R_between σ v2 0 2) fun r_20 =>
    if r_20 = 0 then
      j28_3 2
    else
      j28_3 0

def f_R_cell (σ : St) (v1 : Int32) (v2 : Int32) (v3 : Int32) : Option (Int32 × St) :=
  cap (f_R_isCell σ v1 v2 v3) fun r_2 =>
  jn (fun (s_4 : Int32) => sto σ 82 0 s_4 fun σ_5 =>
  if (σ_5 82 0) ≤ 0 then
    cap (f_R_at σ_5 v1 v2 v3) fun r_7 =>
    some (r_7, σ_5)
  else
    some (0, σ_5)) fun j16_3 =>
  if r_2 = 0 then
    j16_3 1
  else
    j16_3 0

def f_R_conjugate_L79 (v1 : Int32) (v2 : Int32) (v3 : Int32) (v4 : Int32) (v5 : Int32) (kx206 : St → Option (Int32 × St)) : Nat → Int32 → St → Option (Int32 × St)
  | 0, _, _ => none
  | n + 1, v6, σ =>     if v6 < v3 then
      cap (f_R_at σ v1 v5 v6) fun r_11 =>
      jn (fun (σ_13 : St) => f_R_conjugate_L79 v1 v2 v3 v4 v5 kx206 n (v6 + 1) σ_13) fun j200_12 =>
      if r_11 = (-1) then
        j200_12 σ
      else
        jn (fun (s_15 : Int32) => jn (fun (s_17 : Int32) => ast σ 84 300 (((25 * v4) + (v3 * s_15)) + s_17) ((((v5 + v6) + r_11) - s_15) - s_17) fun σ_18 =>
        j200_12 σ_18) fun j166_16 =>
        jn (j166_16 v6) fun j144_19 =>
        if v2 = 0 then
          j144_19
        else
          if v2 = 3 then
            j144_19
          else
            jn (j166_16 v5) fun j159_20 =>
            if v2 = 1 then
              j159_20
            else
              if v2 = 5 then
                j159_20
              else
                j166_16 r_11) fun j133_14 =>
        jn (j133_14 v5) fun j111_21 =>
        if v2 = 0 then
          j111_21
        else
          if v2 = 2 then
            j111_21
          else
            jn (j133_14 v6) fun j126_22 =>
            if v2 = 1 then
              j126_22
            else
              if v2 = 4 then
                j126_22
              else
                j133_14 r_11
    else
      kx206 σ

def f_R_conjugate_L70 (v1 : Int32) (v2 : Int32) (v3 : Int32) (v4 : Int32) (kx212 : St → Option (Int32 × St)) : Nat → Int32 → St → Option (Int32 × St)
  | 0, _, _ => none
  | n + 1, v5, σ =>     if v5 < v3 then
      f_R_conjugate_L79 v1 v2 v3 v4 v5 (fun (σ_23 : St) => f_R_conjugate_L70 v1 v2 v3 v4 kx212 n (v5 + 1) σ_23) FU 0 σ
    else
      kx212 σ

def f_R_conjugate (σ : St) (v1 : Int32) (v2 : Int32) : Option (Int32 × St) :=
  cap (f_R_isGrid σ v1) fun r_2 =>
  jn (fun (s_4 : Int32) => sto σ 82 0 s_4 fun σ_5 =>
  if (σ_5 82 0) ≤ 0 then
    ald σ_5 83 12 v1 fun r_6 =>
    cal (f_R_make σ_5 r_6) fun r_8 σ_9 =>
    f_R_conjugate_L70 v1 v2 r_6 r_8 (fun (σ_24 : St) => some (r_8, σ_24)) FU 0 σ_9
  else
    some (0, σ_5)) fun j41_3 =>
  if r_2 = 0 then
    j41_3 1
  else
    cap (f_R_between σ v2 0 5) fun r_26 =>
    if r_26 = 0 then
      j41_3 2
    else
      if (σ 82 1) = 12 then
        j41_3 3
      else
        j41_3 0

def f_R_isMap_L9 (v1 : Int32) (v2 : Int32) (v3 : Int32) (kx74 : Int32 → Int32 → St → Option (Int32 × St)) : Nat → Int32 → Int32 → Int32 → St → Option (Int32 × St)
  | 0, _, _, _, _ => none
  | n + 1, v4, v5, v6, σ =>     if v6 < v2 then
      rmi v4 10 fun q_1 =>
      dvi v4 10 fun q_2 =>
      ast σ 88 15 ((5 * v3) + v6) q_1 fun σ_3 =>
      cap (f_R_between σ_3 q_1 0 (v2 - 1)) fun r_5 =>
      jn (fun (s_7 : Int32) => f_R_isMap_L9 v1 v2 v3 kx74 n q_2 (v5 ||| s_7) (v6 + 1) σ_3) fun j65_6 =>
      if r_5 = 0 then
        j65_6 0
      else
        j65_6 (1 <<< (q_1 &&& 31))
    else
      kx74 v4 v5 σ

def f_R_isMap (σ : St) (v1 : Int32) (v2 : Int32) (v3 : Int32) : Option (Int32 × St) :=
  f_R_isMap_L9 v1 v2 v3 (fun (v4_8 : Int32) (v5_9 : Int32) (σ_10 : St) => jn (some (0, σ_10)) fun j97_11 =>
  if v1 < 0 then
    j97_11
  else
    if v4_8 = 0 then
      if v5_9 = ((1 <<< (v2 &&& 31)) - 1) then
        some (1, σ_10)
      else
        j97_11
    else
      j97_11) FU v1 0 0 σ

def f_R_isotope_L154 (v1 : Int32) (v5 : Int32) (v6 : Int32) (v7 : Int32) (kx229 : St → Option (Int32 × St)) : Nat → Int32 → St → Option (Int32 × St)
  | 0, _, _ => none
  | n + 1, v8, σ =>     if v8 < v5 then
      cap (f_R_at σ v1 v7 v8) fun r_13 =>
      ald σ 88 15 v7 fun r_14 =>
      ald σ 88 15 (5 + v8) fun r_15 =>
      jn (fun (s_17 : Int32) => ast σ 84 300 (((25 * v6) + (v5 * r_14)) + r_15) s_17 fun σ_18 =>
      f_R_isotope_L154 v1 v5 v6 v7 kx229 n (v8 + 1) σ_18) fun j222_16 =>
      if r_13 = (-1) then
        j222_16 (-1)
      else
        ald σ 88 15 (10 + r_13) fun r_19 =>
        j222_16 r_19
    else
      kx229 σ

def f_R_isotope_L144 (v1 : Int32) (v5 : Int32) (v6 : Int32) (kx235 : St → Option (Int32 × St)) : Nat → Int32 → St → Option (Int32 × St)
  | 0, _, _ => none
  | n + 1, v7, σ =>     if v7 < v5 then
      f_R_isotope_L154 v1 v5 v6 v7 (fun (σ_20 : St) => f_R_isotope_L144 v1 v5 v6 kx235 n (v7 + 1) σ_20) FU 0 σ
    else
      kx235 σ

def f_R_isotope (σ : St) (v1 : Int32) (v2 : Int32) (v3 : Int32) (v4 : Int32) : Option (Int32 × St) :=
  cap (f_R_isGrid σ v1) fun r_2 =>
  jn (fun (s_4 : Int32) => sto σ 82 0 s_4 fun σ_5 =>
  jn (fun (σ_7 : St) => if (σ_7 82 0) ≤ 0 then
    ald σ_7 83 12 v1 fun r_8 =>
    cal (f_R_make σ_7 r_8) fun r_10 σ_11 =>
    f_R_isotope_L144 v1 r_8 r_10 (fun (σ_21 : St) => some (r_10, σ_21)) FU 0 σ_11
  else
    some (0, σ_7)) fun j116_6 =>
  if (σ_5 82 0) = 0 then
    ald σ_5 83 12 v1 fun r_22 =>
    cal (f_R_isMap σ_5 v2 r_22 0) fun r_24 σ_25 =>
    cal (f_R_isMap σ_25 v3 r_22 1) fun r_27 σ_28 =>
    jn (fun (s_30 : Int32) => cal (f_R_isMap σ_28 v4 r_22 2) fun r_32 σ_33 =>
    jn (fun (s_35 : Int32) => jn (fun (s_37 : Int32) => sto σ_33 82 0 s_37 fun σ_38 =>
    j116_6 σ_38) fun j113_36 =>
    if s_35 = 0 then
      j113_36 2
    else
      if (σ_33 82 1) = 12 then
        j113_36 3
      else
        j113_36 0) fun j87_34 =>
    jn (j87_34 0) fun j86_39 =>
    if r_32 = 0 then
      j86_39
    else
      if s_30 = 0 then
        j86_39
      else
        j87_34 1) fun j63_29 =>
    jn (j63_29 0) fun j62_40 =>
    if r_27 = 0 then
      j62_40
    else
      if r_24 = 0 then
        j62_40
      else
        j63_29 1
  else
    j116_6 σ_5) fun j14_3 =>
  if r_2 = 0 then
    j14_3 1
  else
    j14_3 0

def f_R_put_L68 (v1 : Int32) (v2 : Int32) (v3 : Int32) (v4 : Int32) (σ : St) (kx135 : Int32 → Option (Int32 × St)) : Nat → Int32 → Int32 → Option (Int32 × St)
  | 0, _, _ => none
  | n + 1, v5, v6 =>     ald σ 83 12 v1 fun r_8 =>
    if v6 < r_8 then
      jn (fun (s_10 : Int32) => f_R_put_L68 v1 v2 v3 v4 σ kx135 n s_10 (v6 + 1)) fun j127_9 =>
      jn (j127_9 1) fun j122_11 =>
      if v5 = 0 then
        jn (jn (j127_9 0) fun j126_13 =>
        if v6 = v2 then
          j126_13
        else
          cap (f_R_at σ v1 v6 v3) fun r_15 =>
          if r_15 = v4 then
            j122_11
          else
            j126_13) fun j103_12 =>
        if v6 = v3 then
          j103_12
        else
          cap (f_R_at σ v1 v2 v6) fun r_17 =>
          if r_17 = v4 then
            j122_11
          else
            j103_12
      else
        j122_11
    else
      kx135 v5

def f_R_put (σ : St) (v1 : Int32) (v2 : Int32) (v3 : Int32) (v4 : Int32) : Option (Int32 × St) :=
  cap (f_R_isCell σ v1 v2 v3) fun r_2 =>
  jn (fun (s_4 : Int32) => sto σ 82 0 s_4 fun σ_5 =>
  jn (fun (σ_7 : St) => if (σ_7 82 0) ≤ 0 then
    f_R_put_L68 v1 v2 v3 v4 σ_7 (fun (v5_18 : Int32) => jn (fun (s_20 : Int32) => sto σ_7 82 0 s_20 fun σ_21 =>
    if (σ_21 82 0) ≤ 0 then
      ald σ_21 83 12 v1 fun r_22 =>
      lt1 (((25 * v1) + (r_22 * v2)) + v3) fun v6_23 =>
      ald σ_21 84 300 v6_23 fun r_24 =>
      ast σ_21 84 300 v6_23 v4 fun σ_25 =>
      some (r_24, σ_25)
    else
      some (0, σ_21)) fun j152_19 =>
    jn (j152_19 0) fun j151_26 =>
    if v5_18 = 0 then
      j151_26
    else
      if v4 = (-1) then
        j151_26
      else
        j152_19 3) FU 0 0
  else
    some (0, σ_7)) fun j53_6 =>
  if (σ_5 82 0) = 0 then
    ald σ_5 83 12 v1 fun r_27 =>
    cap (f_R_between σ_5 v4 (-1) (r_27 - 1)) fun r_29 =>
    jn (fun (s_31 : Int32) => sto σ_5 82 0 s_31 fun σ_32 =>
    j53_6 σ_32) fun j50_30 =>
    if r_29 = 0 then
      j50_30 2
    else
      j50_30 0
  else
    j53_6 σ_5) fun j16_3 =>
  if r_2 = 0 then
    j16_3 1
  else
    j16_3 0

def f_R_isPrimeTo_L5 (σ : St) (kx26 : Int32 → Option Int32) : Nat → Int32 → Int32 → Option Int32
  | 0, _, _ => none
  | n + 1, v3, v4 =>     if v4 ≤ 0 then
      kx26 v3
    else
      rmi v3 v4 fun q_1 =>
      f_R_isPrimeTo_L5 σ kx26 n v4 q_1

def f_R_isPrimeTo (σ : St) (v1 : Int32) (v2 : Int32) : Option Int32 :=
  f_R_isPrimeTo_L5 σ (fun (v3_2 : Int32) => if v3_2 = 1 then
    some 1
  else
    some 0) FU v1 v2

def f_R_linear_L121 (v1 : Int32) (v2 : Int32) (v3 : Int32) (v4 : Int32) (v6 : Int32) (v7 : Int32) (kx165 : St → Option (Int32 × St)) : Nat → Int32 → St → Option (Int32 × St)
  | 0, _, _ => none
  | n + 1, v8, σ =>     if v8 < v1 then
      rmi (((v2 * v7) + (v3 * v8)) + v4) v1 fun q_11 =>
      ast σ 84 300 (((25 * v6) + (v1 * v7)) + v8) q_11 fun σ_12 =>
      f_R_linear_L121 v1 v2 v3 v4 v6 v7 kx165 n (v8 + 1) σ_12
    else
      kx165 σ

def f_R_linear_L112 (v1 : Int32) (v2 : Int32) (v3 : Int32) (v4 : Int32) (v6 : Int32) (kx171 : St → Option (Int32 × St)) : Nat → Int32 → St → Option (Int32 × St)
  | 0, _, _ => none
  | n + 1, v7, σ =>     if v7 < v1 then
      f_R_linear_L121 v1 v2 v3 v4 v6 v7 (fun (σ_13 : St) => f_R_linear_L112 v1 v2 v3 v4 v6 kx171 n (v7 + 1) σ_13) FU 0 σ
    else
      kx171 σ

def f_R_linear (σ : St) (v1 : Int32) (v2 : Int32) (v3 : Int32) (v4 : Int32) : Option (Int32 × St) :=
  cap (f_R_between σ v1 2 5) fun r_2 =>
  jn (fun (s_4 : Int32) => jn (fun (s_6 : Int32) => sto σ 82 0 s_6 fun σ_7 =>
  if (σ_7 82 0) ≤ 0 then
    cal (f_R_make σ_7 v1) fun r_9 σ_10 =>
    f_R_linear_L112 v1 v2 v3 v4 r_9 (fun (σ_14 : St) => some (r_9, σ_14)) FU 0 σ_10
  else
    some (0, σ_7)) fun j90_5 =>
  jn (j90_5 1) fun j72_15 =>
  if s_4 = 0 then
    j72_15
  else
    cap (f_R_isPrimeTo σ v2 v1) fun r_17 =>
    if r_17 = 0 then
      j72_15
    else
      cap (f_R_isPrimeTo σ v3 v1) fun r_19 =>
      if r_19 = 0 then
        j72_15
      else
        if (σ 82 1) = 12 then
          j90_5 2
        else
          j90_5 0) fun j46_3 =>
  jn (j46_3 0) fun j45_20 =>
  if r_2 = 0 then
    j45_20
  else
    cap (f_R_between σ v2 0 4) fun r_22 =>
    if r_22 = 0 then
      j45_20
    else
      cap (f_R_between σ v3 0 4) fun r_24 =>
      if r_24 = 0 then
        j45_20
      else
        cap (f_R_between σ v4 0 4) fun r_26 =>
        if r_26 = 0 then
          j45_20
        else
          j46_3 1

def f_R_grid (σ : St) (v1 : Int32) : Option (Int32 × St) :=
  cap (f_R_between σ v1 2 5) fun r_2 =>
  jn (fun (s_4 : Int32) => sto σ 82 0 s_4 fun σ_5 =>
  if (σ_5 82 0) ≤ 0 then
    cal (f_R_make σ_5 v1) fun r_7 σ_8 =>
    some (r_7, σ_8)
  else
    some (0, σ_5)) fun j29_3 =>
  if r_2 = 0 then
    j29_3 1
  else
    if (σ 82 1) = 12 then
      j29_3 2
    else
      j29_3 0

def f_R_thrown (σ : St)  : Option Int32 :=
  some (σ 82 0)

