def f_Game_winsBy (rec : St → Nat → Int32 → Option (Int32 × St)) (σ : St) (v0 : Nat) (v1 : Int32) (v2 : Int32) (v3 : Int32) (v4 : Int32) : Option (Int32 × St) :=
  cal (f_Grid_set σ v0 v1 v2 v3) fun r_2 σ_3 =>
  cal (rec σ_3 v0 (v4 + 1)) fun r_5 σ_6 =>
  jn (fun (s_8 : Int32) => cal (f_Grid_set σ_6 v0 v1 v2 (-1)) fun r_10 σ_11 =>
  some ((zb s_8), σ_11)) fun j24_7 =>
  if r_5 = (-1) then
    j24_7 1
  else
    j24_7 0

def f_Game_winningFrom_L39 (rec : St → Nat → Int32 → Option (Int32 × St)) (v0 : Nat) (v1 : Int32) (v2 : Int32) (v3 : Int32) (v4 : Int32) (kx70 : Int32 → St → Option (Int32 × St)) (kx84 : St → Option (Int32 × St)) : Nat → Int32 → St → Option (Int32 × St)
  | 0, _, _ => none
  | n + 1, v5, σ =>     if v5 < (σ v0 3) then
      cap (f_Q_isIn σ v4 v5) fun r_4 =>
      jn (fun (σ_6 : St) => f_Game_winningFrom_L39 rec v0 v1 v2 v3 v4 kx70 kx84 n (v5 + 1) σ_6) fun j78_5 =>
      if r_4 = 0 then
        j78_5 σ
      else
        cal (f_Game_winsBy rec σ v0 v2 v3 v5 v1) fun r_8 σ_9 =>
        if r_8 = 0 then
          j78_5 σ_9
        else
          kx70 v5 σ_9
    else
      kx84 σ

def f_Game_winningFrom_L20 (rec : St → Nat → Int32 → Option (Int32 × St)) (v0 : Nat) (v1 : Int32) (v2 : Int32) (kx70 : Int32 → Int32 → St → Option (Int32 × St)) (kx90 : St → Option (Int32 × St)) : Nat → Int32 → St → Option (Int32 × St)
  | 0, _, _ => none
  | n + 1, v3, σ =>     if v3 < (σ v0 3) then
      cap (f_Grid_optionsAt σ v0 v2 v3) fun r_2 =>
      f_Game_winningFrom_L39 rec v0 v1 v2 v3 r_2 (fun (v5_10 : Int32) (σ_11 : St) => kx70 v3 v5_10 σ_11) (fun (σ_12 : St) => f_Game_winningFrom_L20 rec v0 v1 v2 kx70 kx90 n (v3 + 1) σ_12) FU 0 σ
    else
      kx90 σ

def f_Game_winningFrom_L10 (rec : St → Nat → Int32 → Option (Int32 × St)) (v0 : Nat) (v1 : Int32) (kx70 : Int32 → Int32 → Int32 → St → Option (Int32 × St)) : Nat → Int32 → St → Option (Int32 × St)
  | 0, _, _ => none
  | n + 1, v2, σ =>     if v2 < (σ v0 3) then
      f_Game_winningFrom_L20 rec v0 v1 v2 (fun (v3_13 : Int32) (v5_14 : Int32) (σ_15 : St) => kx70 v2 v3_13 v5_14 σ_15) (fun (σ_16 : St) => f_Game_winningFrom_L10 rec v0 v1 kx70 n (v2 + 1) σ_16) FU 0 σ
    else
      some ((-1), σ)

def fb_Game_winningFrom (rec : St → Nat → Int32 → Option (Int32 × St)) (σ : St) (v0 : Nat) (v1 : Int32) : Option (Int32 × St) :=
  if v1 ≤ 6 then
    f_Game_winningFrom_L10 rec v0 v1 (fun (v2_17 : Int32) (v3_18 : Int32) (v5_19 : Int32) (σ_20 : St) => cap (f_Move_packed σ_20 v2_17 v3_18 v5_19) fun r_22 =>
    some (r_22, σ_20)) FU 0 σ
  else
    some ((-1), σ)
def f_Game_winningFrom : Nat → St → Nat → Int32 → Option (Int32 × St)
  | 0, _, _, _ => none
  | d + 1, σ, v0, v1 => fb_Game_winningFrom (f_Game_winningFrom d) σ v0 v1

def f_Game_winningMove (σ : St) (v0 : Nat) : Option (Int32 × St) :=
  cal (f_Game_winningFrom DP σ v0 0) fun r_2 σ_3 =>
  some (r_2, σ_3)

def f_Mating_haveUnlikePairs_L15 (v0 : Nat) (v1 : Nat) (v3 : Int32) (σ : St) (kx67 : Int32 → Option Int32) : Nat → Int32 → Int32 → Option Int32
  | 0, _, _ => none
  | n + 1, v2, v4 =>     if v4 < (σ v0 3) then
      cap (f_Grid_signAt σ v0 v3 v4) fun r_2 =>
      cap (f_Grid_signAt σ v1 v3 v4) fun r_4 =>
      lt1 ((5 * r_2) + r_4) fun v5_5 =>
      cap (f_Q_isIn σ v2 v5_5) fun r_7 =>
      if r_7 = 0 then
        lt1 (v2 ||| (1 <<< (v5_5 &&& 31))) fun v2_8 =>
        f_Mating_haveUnlikePairs_L15 v0 v1 v3 σ kx67 n v2_8 (v4 + 1)
      else
        some 0
    else
      kx67 v2

def f_Mating_haveUnlikePairs_L4 (v0 : Nat) (v1 : Nat) (σ : St) : Nat → Int32 → Int32 → Option Int32
  | 0, _, _ => none
  | n + 1, v2, v3 =>     if v3 < (σ v0 3) then
      f_Mating_haveUnlikePairs_L15 v0 v1 v3 σ (fun (v2_9 : Int32) => f_Mating_haveUnlikePairs_L4 v0 v1 σ n v2_9 (v3 + 1)) FU v2 0
    else
      some 1

def f_Mating_haveUnlikePairs (σ : St) (v0 : Nat) (v1 : Nat) : Option Int32 :=
  f_Mating_haveUnlikePairs_L4 v0 v1 σ FU 0 0

def f_Mating_hasAllSigns_L5 (v1 : Nat) (v2 : Int32) (σ : St) (kx41 : Int32 → Option Int32) : Nat → Int32 → Int32 → Option Int32
  | 0, _, _ => none
  | n + 1, v3, v4 =>     if v4 < (σ v1 3) then
      cap (f_Maps_imageOf σ v2 v4) fun r_2 =>
      cap (f_Grid_signAt σ v1 v4 r_2) fun r_4 =>
      lt1 (v3 ||| (1 <<< (r_4 &&& 31))) fun v3_5 =>
      f_Mating_hasAllSigns_L5 v1 v2 σ kx41 n v3_5 (v4 + 1)
    else
      kx41 v3

def f_Mating_hasAllSigns (σ : St) (v1 : Nat) (v2 : Int32) : Option Int32 :=
  f_Mating_hasAllSigns_L5 v1 v2 σ (fun (v3_6 : Int32) => cap (f_Grid_allSigns σ v1) fun r_8 =>
  if v3_6 = r_8 then
    some 1
  else
    some 0) FU 0 0

def f_Mating_findTransversals_L7 (v1 : Nat) (kx73 : St → Option (Int32 × St)) : Nat → Int32 → St → Option (Int32 × St)
  | 0, _, _ => none
  | n + 1, v2, σ =>     cap (f_Maps_amount σ (σ v1 3)) fun r_3 =>
    if v2 < r_3 then
      cap (f_Mating_hasAllSigns σ v1 v2) fun r_5 =>
      jn (fun (σ_7 : St) => f_Mating_findTransversals_L7 v1 kx73 n (v2 + 1) σ_7) fun j67_6 =>
      if r_5 = 0 then
        j67_6 σ
      else
        if (σ 23 5) < 0 then
          j67_6 σ
        else
          if (σ 23 5) < 120 then
            ast σ 24 120 (σ 23 5) v2 fun σ_8 =>
            sto σ_8 23 5 ((σ_8 23 5) + 1) fun σ_9 =>
            j67_6 σ_9
          else
            j67_6 σ
    else
      kx73 σ

def f_Mating_findTransversals (σ : St) (v1 : Nat) : Option (Int32 × St) :=
  sto σ 23 5 0 fun σ_1 =>
  f_Mating_findTransversals_L7 v1 (fun (σ_10 : St) => some ((σ_10 23 5), σ_10)) FU 0 σ_1

def f_Mating_keepLower_L22 (v1 : Int32) (v2 : Int32) (kx56 : St → Option (Unit × St)) : Nat → Int32 → St → Option (Unit × St)
  | 0, _, _ => none
  | n + 1, v3, σ =>     if v3 < v1 then
      ald σ 25 5 v2 fun r_4 =>
      cap (f_Maps_imageOf σ r_4 v3) fun r_6 =>
      cal (f_Grid_set σ 26 v3 r_6 v2) fun r_8 σ_9 =>
      f_Mating_keepLower_L22 v1 v2 kx56 n (v3 + 1) σ_9
    else
      kx56 σ

def f_Mating_keepLower_L10 (v1 : Int32) (kx62 : St → Option (Unit × St)) : Nat → Int32 → St → Option (Unit × St)
  | 0, _, _ => none
  | n + 1, v2, σ =>     if v2 < v1 then
      if v2 < 5 then
        f_Mating_keepLower_L22 v1 v2 (fun (σ_10 : St) => f_Mating_keepLower_L10 v1 kx62 n (v2 + 1) σ_10) FU 0 σ
      else
        kx62 σ
    else
      kx62 σ

def f_Mating_keepLower (σ : St) (v1 : Int32) : Option (Unit × St) :=
  cal (f_Grid_clear σ 26 v1) fun r_2 σ_3 =>
  f_Mating_keepLower_L10 v1 (fun (σ_11 : St) => jn (fun (σ_13 : St) => sto σ_13 23 6 ((σ_13 23 6) + 1) fun σ_14 =>
  some ((), σ_14)) fun j94_12 =>
  jn (cal (f_Grid_copy σ_11 30 26) fun r_17 σ_18 =>
  j94_12 σ_18) fun j83_15 =>
  if (σ_11 23 6) = 0 then
    j83_15
  else
    cap (f_Grid_isLowerThan σ_11 26 30) fun r_20 =>
    if r_20 = 0 then
      j94_12 σ_11
    else
      j83_15) FU 0 σ_3

def f_Mating_layFrom_L23 (rec : St → Int32 → Int32 → Int32 → Option (Unit × St)) (v1 : Int32) (v2 : Int32) (v3 : Int32) : Nat → Int32 → St → Option (Unit × St)
  | 0, _, _ => none
  | n + 1, v4, σ =>     if v4 < (σ 23 5) then
      if v4 < 120 then
        ald σ 24 120 v4 fun r_5 =>
        cap (f_Maps_pairsOf σ r_5 v1) fun r_7 =>
        cap (f_Maps_imageOf σ r_5 0) fun r_9 =>
        jn (fun (σ_11 : St) => f_Mating_layFrom_L23 rec v1 v2 v3 n (v4 + 1) σ_11) fun j101_10 =>
        if r_9 = v2 then
          if (r_7 &&& v3) = 0 then
            ast σ 25 5 v2 r_5 fun σ_12 =>
            cal (rec σ_12 v1 (v2 + 1) (v3 ||| r_7)) fun r_14 σ_15 =>
            j101_10 σ_15
          else
            j101_10 σ
        else
          j101_10 σ
      else
        some ((), σ)
    else
      some ((), σ)

def fb_Mating_layFrom (rec : St → Int32 → Int32 → Int32 → Option (Unit × St)) (σ : St) (v1 : Int32) (v2 : Int32) (v3 : Int32) : Option (Unit × St) :=
  jn (cal (f_Mating_keepLower σ v1) fun r_3 σ_4 =>
  some ((), σ_4)) fun j14_1 =>
  if v2 < 0 then
    j14_1
  else
    if v2 < v1 then
      if v2 < 5 then
        f_Mating_layFrom_L23 rec v1 v2 v3 FU 0 σ
      else
        j14_1
    else
      j14_1
def f_Mating_layFrom : Nat → St → Int32 → Int32 → Int32 → Option (Unit × St)
  | 0, _, _, _, _ => none
  | d + 1, σ, v1, v2, v3 => fb_Mating_layFrom (f_Mating_layFrom d) σ v1 v2 v3

def f_Mating_findMates (σ : St) (v1 : Nat) : Option (Int32 × St) :=
  cal (f_Mating_findTransversals σ v1) fun r_2 σ_3 =>
  sto σ_3 23 6 0 fun σ_4 =>
  cal (f_Mating_layFrom DP σ_4 (σ_4 v1 3) 0 0) fun r_6 σ_7 =>
  some ((σ_7 23 6), σ_7)

def f_Symmetry_mapSigns_L3 (v1 : Nat) (v2 : Nat) (v3 : Int32) (v4 : Int32) : Nat → Int32 → St → Option (Unit × St)
  | 0, _, _ => none
  | n + 1, v5, σ =>     if v5 < (σ v1 3) then
      cap (f_Grid_signAt σ v1 v5 0) fun r_2 =>
      jn (fun (σ_4 : St) => f_Symmetry_mapSigns_L3 v1 v2 v3 v4 n (v5 + 1) σ_4) fun j55_3 =>
      if r_2 < 0 then
        j55_3 σ
      else
        if r_2 < 5 then
          cap (f_Maps_imageOf σ v3 v5) fun r_6 =>
          cap (f_Grid_signAt σ v2 r_6 v4) fun r_8 =>
          ast σ 22 5 r_2 r_8 fun σ_9 =>
          j55_3 σ_9
        else
          j55_3 σ
    else
      some ((), σ)

def f_Symmetry_mapSigns (σ : St) (v1 : Nat) (v2 : Nat) (v3 : Int32) (v4 : Int32) : Option (Unit × St) :=
  f_Symmetry_mapSigns_L3 v1 v2 v3 v4 FU 0 σ

def f_Symmetry_mapped (σ : St) (v1 : Int32) : Option Int32 :=
  jn (some (-1)) fun j18_1 =>
  if v1 < 0 then
    j18_1
  else
    if v1 < 5 then
      ald σ 22 5 v1 fun r_2 =>
      some r_2
    else
      j18_1

def f_Symmetry_bringsAllColumns_L41 (v1 : Nat) (v2 : Nat) (v3 : Int32) (v4 : Int32) (v5 : Int32) (σ : St) (kx89 : Option Int32) : Nat → Int32 → Option Int32
  | 0, _ => none
  | n + 1, v6 =>     if v6 < (σ v1 3) then
      cap (f_Maps_imageOf σ v3 v6) fun r_10 =>
      cap (f_Grid_signAt σ v2 r_10 v5) fun r_12 =>
      cap (f_Grid_signAt σ v1 v6 v4) fun r_14 =>
      cap (f_Symmetry_mapped σ r_14) fun r_16 =>
      if r_12 = r_16 then
        f_Symmetry_bringsAllColumns_L41 v1 v2 v3 v4 v5 σ kx89 n (v6 + 1)
      else
        some 0
    else
      kx89

def f_Symmetry_bringsAllColumns_L3 (v1 : Nat) (v2 : Nat) (v3 : Int32) (σ : St) : Nat → Int32 → Option Int32
  | 0, _ => none
  | n + 1, v4 =>     if v4 < (σ v1 3) then
      cap (f_Maps_imageOf σ v3 0) fun r_2 =>
      cap (f_Grid_signAt σ v1 0 v4) fun r_4 =>
      cap (f_Symmetry_mapped σ r_4) fun r_6 =>
      cap (f_Grid_columnOf σ v2 r_2 r_6) fun r_8 =>
      f_Symmetry_bringsAllColumns_L41 v1 v2 v3 v4 r_8 σ (f_Symmetry_bringsAllColumns_L3 v1 v2 v3 σ n (v4 + 1)) FU 1
    else
      some 1

def f_Symmetry_bringsAllColumns (σ : St) (v1 : Nat) (v2 : Nat) (v3 : Int32) : Option Int32 :=
  f_Symmetry_bringsAllColumns_L3 v1 v2 v3 σ FU 1

def f_Symmetry_isotopiesBetween_L24 (v1 : Nat) (v2 : Nat) (v4 : Int32) (kx63 : Int32 → St → Option (Int32 × St)) : Nat → Int32 → Int32 → St → Option (Int32 × St)
  | 0, _, _, _ => none
  | n + 1, v3, v5, σ =>     if v5 < (σ v1 3) then
      cal (f_Symmetry_mapSigns σ v1 v2 v4 v5) fun r_4 σ_5 =>
      cap (f_Symmetry_bringsAllColumns σ_5 v1 v2 v4) fun r_7 =>
      jn (fun (v3_9 : Int32) => f_Symmetry_isotopiesBetween_L24 v1 v2 v4 kx63 n v3_9 (v5 + 1) σ_5) fun j57_8 =>
      if r_7 = 0 then
        j57_8 v3
      else
        j57_8 (v3 + 1)
    else
      kx63 v3 σ

def f_Symmetry_isotopiesBetween_L5 (v1 : Nat) (v2 : Nat) (kx69 : Int32 → St → Option (Int32 × St)) : Nat → Int32 → Int32 → St → Option (Int32 × St)
  | 0, _, _, _ => none
  | n + 1, v3, v4, σ =>     cap (f_Maps_amount σ (σ v1 3)) fun r_2 =>
    if v4 < r_2 then
      f_Symmetry_isotopiesBetween_L24 v1 v2 v4 (fun (v3_10 : Int32) (σ_11 : St) => f_Symmetry_isotopiesBetween_L5 v1 v2 kx69 n v3_10 (v4 + 1) σ_11) FU v3 0 σ
    else
      kx69 v3 σ

def f_Symmetry_isotopiesBetween (σ : St) (v1 : Nat) (v2 : Nat) : Option (Int32 × St) :=
  f_Symmetry_isotopiesBetween_L5 v1 v2 (fun (v3_12 : Int32) (σ_13 : St) => some (v3_12, σ_13)) FU 0 0 σ

def f_Symmetry_keepsProducts_L13 (v1 : Nat) (v2 : Int32) (v3 : Int32) (σ : St) (kx75 : Option Int32) : Nat → Int32 → Option Int32
  | 0, _ => none
  | n + 1, v4 =>     if v4 < (σ v1 3) then
      cap (f_Maps_imageOf σ v2 v3) fun r_2 =>
      cap (f_Maps_imageOf σ v2 v4) fun r_4 =>
      cap (f_Grid_signAt σ v1 r_2 r_4) fun r_6 =>
      cap (f_Grid_signAt σ v1 v3 v4) fun r_8 =>
      cap (f_Maps_imageOf σ v2 r_8) fun r_10 =>
      if r_10 = r_6 then
        f_Symmetry_keepsProducts_L13 v1 v2 v3 σ kx75 n (v4 + 1)
      else
        some 0
    else
      kx75

def f_Symmetry_keepsProducts_L2 (v1 : Nat) (v2 : Int32) (σ : St) : Nat → Int32 → Option Int32
  | 0, _ => none
  | n + 1, v3 =>     if v3 < (σ v1 3) then
      f_Symmetry_keepsProducts_L13 v1 v2 v3 σ (f_Symmetry_keepsProducts_L2 v1 v2 σ n (v3 + 1)) FU 0
    else
      some 1

def f_Symmetry_keepsProducts (σ : St) (v1 : Nat) (v2 : Int32) : Option Int32 :=
  f_Symmetry_keepsProducts_L2 v1 v2 σ FU 0

def f_Symmetry_automorphisms_L4 (v1 : Nat) (σ : St) (kx37 : Int32 → Option Int32) : Nat → Int32 → Int32 → Option Int32
  | 0, _, _ => none
  | n + 1, v2, v3 =>     cap (f_Maps_amount σ (σ v1 3)) fun r_2 =>
    if v3 < r_2 then
      cap (f_Symmetry_keepsProducts σ v1 v3) fun r_4 =>
      jn (fun (v2_6 : Int32) => f_Symmetry_automorphisms_L4 v1 σ kx37 n v2_6 (v3 + 1)) fun j31_5 =>
      if r_4 = 0 then
        j31_5 v2
      else
        j31_5 (v2 + 1)
    else
      kx37 v2

def f_Symmetry_automorphisms (σ : St) (v1 : Nat) : Option Int32 :=
  f_Symmetry_automorphisms_L4 v1 σ (fun (v2_7 : Int32) => some v2_7) FU 0 0

def f_Symmetry_rowMap_L2 (v1 : Nat) (v2 : Int32) (kx30 : St → Option (Int32 × St)) : Nat → Int32 → St → Option (Int32 × St)
  | 0, _, _ => none
  | n + 1, v3, σ =>     if v3 < (σ v1 3) then
      cap (f_Grid_signAt σ v1 v2 v3) fun r_2 =>
      cal (f_Maps_write σ v3 r_2) fun r_4 σ_5 =>
      f_Symmetry_rowMap_L2 v1 v2 kx30 n (v3 + 1) σ_5
    else
      kx30 σ

def f_Symmetry_rowMap (σ : St) (v1 : Nat) (v2 : Int32) : Option (Int32 × St) :=
  f_Symmetry_rowMap_L2 v1 v2 (fun (σ_6 : St) => cap (f_Maps_numberOfDraft σ_6 (σ_6 v1 3)) fun r_8 =>
  some (r_8, σ_6)) FU 0 σ

def f_Symmetry_addMaker (σ : St) (v1 : Int32) : Option (Unit × St) :=
  if (σ 18 5) < 0 then
    some ((), σ)
  else
    if (σ 18 5) < 10 then
      ast σ 19 10 (σ 18 5) v1 fun σ_1 =>
      sto σ_1 18 5 ((σ_1 18 5) + 1) fun σ_2 =>
      some ((), σ_2)
    else
      some ((), σ)

def f_Symmetry_columnMap_L2 (v1 : Nat) (v2 : Int32) (kx30 : St → Option (Int32 × St)) : Nat → Int32 → St → Option (Int32 × St)
  | 0, _, _ => none
  | n + 1, v3, σ =>     if v3 < (σ v1 3) then
      cap (f_Grid_signAt σ v1 v3 v2) fun r_2 =>
      cal (f_Maps_write σ v3 r_2) fun r_4 σ_5 =>
      f_Symmetry_columnMap_L2 v1 v2 kx30 n (v3 + 1) σ_5
    else
      kx30 σ

def f_Symmetry_columnMap (σ : St) (v1 : Nat) (v2 : Int32) : Option (Int32 × St) :=
  f_Symmetry_columnMap_L2 v1 v2 (fun (σ_6 : St) => cap (f_Maps_numberOfDraft σ_6 (σ_6 v1 3)) fun r_8 =>
  some (r_8, σ_6)) FU 0 σ

def f_Symmetry_clearMembers_L7  : Nat → Int32 → St → Option (Unit × St)
  | 0, _, _ => none
  | n + 1, v1, σ =>     if v1 < 120 then
      asz σ 21 120 v1 0 fun σ_2 =>
      f_Symmetry_clearMembers_L7 n (v1 + 1) σ_2
    else
      some ((), σ)

def f_Symmetry_clearMembers (σ : St)  : Option (Unit × St) :=
  sto σ 18 6 0 fun σ_1 =>
  f_Symmetry_clearMembers_L7 FU 0 σ_1

def f_Symmetry_addMember (σ : St) (v1 : Int32) : Option (Unit × St) :=
  if v1 < 0 then
    some ((), σ)
  else
    if v1 < 120 then
      ald σ 21 120 v1 fun r_1 =>
      if r_1 = 0 then
        if (σ 18 6) < 0 then
          some ((), σ)
        else
          if (σ 18 6) < 120 then
            asz σ 21 120 v1 1 fun σ_2 =>
            ast σ_2 20 120 (σ_2 18 6) v1 fun σ_3 =>
            sto σ_3 18 6 ((σ_3 18 6) + 1) fun σ_4 =>
            some ((), σ_4)
          else
            some ((), σ)
      else
        some ((), σ)
    else
      some ((), σ)

def f_Symmetry_groupSize_L8 (v1 : Nat) (v2 : Int32) (v3 : Int32) (kx53 : St → Option (Int32 × St)) : Nat → Int32 → St → Option (Int32 × St)
  | 0, _, _ => none
  | n + 1, v4, σ =>     if v4 < (σ v1 3) then
      jn (fun (σ_3 : St) => jn (fun (σ_5 : St) => f_Symmetry_groupSize_L8 v1 v2 v3 kx53 n (v4 + 1) σ_5) fun j47_4 =>
      if v3 = 0 then
        j47_4 σ_3
      else
        cal (f_Symmetry_columnMap σ_3 v1 v4) fun r_7 σ_8 =>
        cal (f_Symmetry_addMaker σ_8 r_7) fun r_10 σ_11 =>
        j47_4 σ_11) fun j32_2 =>
      if v2 = 0 then
        j32_2 σ
      else
        cal (f_Symmetry_rowMap σ v1 v4) fun r_13 σ_14 =>
        cal (f_Symmetry_addMaker σ_14 r_13) fun r_16 σ_17 =>
        j32_2 σ_17
    else
      kx53 σ

def f_Symmetry_groupSize_L84 (v1 : Nat) (v4 : Int32) (kx138 : St → Option (Int32 × St)) : Nat → Int32 → St → Option (Int32 × St)
  | 0, _, _ => none
  | n + 1, v5, σ =>     if v5 < (σ 18 5) then
      if v5 < 10 then
        ald σ 20 120 v4 fun r_25 =>
        ald σ 19 10 v5 fun r_26 =>
        cal (f_Maps_oneBehindOther σ r_25 r_26 (σ v1 3)) fun r_28 σ_29 =>
        cal (f_Symmetry_addMember σ_29 r_28) fun r_31 σ_32 =>
        f_Symmetry_groupSize_L84 v1 v4 kx138 n (v5 + 1) σ_32
      else
        kx138 σ
    else
      kx138 σ

def f_Symmetry_groupSize_L65 (v1 : Nat) (kx144 : St → Option (Int32 × St)) : Nat → Int32 → St → Option (Int32 × St)
  | 0, _, _ => none
  | n + 1, v4, σ =>     if v4 < (σ 18 6) then
      if v4 < 120 then
        f_Symmetry_groupSize_L84 v1 v4 (fun (σ_33 : St) => f_Symmetry_groupSize_L65 v1 kx144 n (v4 + 1) σ_33) FU 0 σ
      else
        kx144 σ
    else
      kx144 σ

def f_Symmetry_groupSize (σ : St) (v1 : Nat) (v2 : Int32) (v3 : Int32) : Option (Int32 × St) :=
  sto σ 18 5 0 fun σ_1 =>
  f_Symmetry_groupSize_L8 v1 v2 v3 (fun (σ_18 : St) => cal (f_Symmetry_clearMembers σ_18) fun r_20 σ_21 =>
  cal (f_Symmetry_addMember σ_21 0) fun r_23 σ_24 =>
  f_Symmetry_groupSize_L65 v1 (fun (σ_34 : St) => some ((σ_34 18 6), σ_34)) FU 0 σ_24) FU 0 σ_1

def f_Telling_keep_L9 (v1 : Int32) (kx74 : Int32 → St → Option (Unit × St)) : Nat → Int32 → Int32 → St → Option (Unit × St)
  | 0, _, _, _ => none
  | n + 1, v2, v3, σ =>     if v3 < (σ 16 2) then
      if v3 < 576 then
        ald σ 17 576 v3 fun r_1 =>
        if (r_1 &&& v1) = r_1 then
          some ((), σ)
        else
          jn (fun (v2_3 : Int32) (σ_4 : St) => f_Telling_keep_L9 v1 kx74 n v2_3 (v3 + 1) σ_4) fun j68_2 =>
          if (r_1 &&& v1) = v1 then
            j68_2 v2 σ
          else
            if v2 < 576 then
              ast σ 17 576 v2 r_1 fun σ_5 =>
              j68_2 (v2 + 1) σ_5
            else
              j68_2 v2 σ
      else
        kx74 v2 σ
    else
      kx74 v2 σ

def f_Telling_keep (σ : St) (v1 : Int32) : Option (Unit × St) :=
  if v1 = 0 then
    some ((), σ)
  else
    f_Telling_keep_L9 v1 (fun (v2_6 : Int32) (σ_7 : St) => if v2_6 < 576 then
      ast σ_7 17 576 v2_6 v1 fun σ_8 =>
      sto σ_8 16 2 (v2_6 + 1) fun σ_9 =>
      some ((), σ_9)
    else
      some ((), σ_7)) FU 0 0 σ

def f_Telling_unlike_L6 (v1 : Nat) (v2 : Int32) (v3 : Int32) (σ : St) (kx57 : Int32 → Option Int32) : Nat → Int32 → Int32 → Option Int32
  | 0, _, _ => none
  | n + 1, v4, v5 =>     if v5 < (σ v1 3) then
      cap (f_Grid_signAt σ v1 v2 v5) fun r_2 =>
      cap (f_Maps_imageOf σ v3 v5) fun r_4 =>
      jn (fun (v4_6 : Int32) => f_Telling_unlike_L6 v1 v2 v3 σ kx57 n v4_6 (v5 + 1)) fun j51_5 =>
      if r_2 = r_4 then
        j51_5 v4
      else
        lt1 (v4 ||| (1 <<< ((((σ v1 3) * v2) + v5) &&& 31))) fun v4_7 =>
        j51_5 v4_7
    else
      kx57 v4

def f_Telling_unlike (σ : St) (v1 : Nat) (v2 : Int32) (v3 : Int32) : Option Int32 :=
  f_Telling_unlike_L6 v1 v2 v3 σ (fun (v4_8 : Int32) => some v4_8) FU 0 0

def f_Telling_gather_L18 (rec : St → Nat → Int32 → Int32 → Int32 → Option (Unit × St)) (v1 : Nat) (v2 : Int32) (v3 : Int32) (v4 : Int32) : Nat → Int32 → St → Option (Unit × St)
  | 0, _, _ => none
  | n + 1, v5, σ =>     cap (f_Maps_amount σ (σ v1 3)) fun r_2 =>
    if v5 < r_2 then
      cap (f_Maps_pairsOf σ v5 (σ v1 3)) fun r_4 =>
      jn (fun (σ_6 : St) => f_Telling_gather_L18 rec v1 v2 v3 v4 n (v5 + 1) σ_6) fun j79_5 =>
      if (r_4 &&& v3) = 0 then
        cap (f_Telling_unlike σ v1 v2 v5) fun r_8 =>
        cal (rec σ v1 (v2 + 1) (v3 ||| r_4) (v4 ||| r_8)) fun r_10 σ_11 =>
        j79_5 σ_11
      else
        j79_5 σ
    else
      some ((), σ)

def fb_Telling_gather (rec : St → Nat → Int32 → Int32 → Int32 → Option (Unit × St)) (σ : St) (v1 : Nat) (v2 : Int32) (v3 : Int32) (v4 : Int32) : Option (Unit × St) :=
  if v2 < (σ v1 3) then
    f_Telling_gather_L18 rec v1 v2 v3 v4 FU 0 σ
  else
    cal (f_Telling_keep σ v4) fun r_13 σ_14 =>
    some ((), σ_14)
def f_Telling_gather : Nat → St → Nat → Int32 → Int32 → Int32 → Option (Unit × St)
  | 0, _, _, _, _, _ => none
  | d + 1, σ, v1, v2, v3, v4 => fb_Telling_gather (f_Telling_gather d) σ v1 v2 v3 v4

def f_Telling_meetsAll_L2 (v1 : Int32) (σ : St) : Nat → Int32 → Option Int32
  | 0, _ => none
  | n + 1, v2 =>     if v2 < (σ 16 2) then
      if v2 < 576 then
        ald σ 17 576 v2 fun r_1 =>
        if (r_1 &&& v1) = 0 then
          some 0
        else
          f_Telling_meetsAll_L2 v1 σ n (v2 + 1)
      else
        some 1
    else
      some 1

def f_Telling_meetsAll (σ : St) (v1 : Int32) : Option Int32 :=
  f_Telling_meetsAll_L2 v1 σ FU 0

def f_Telling_someMeet_L14 (rec : St → Int32 → Int32 → Int32 → Int32 → Option Int32) (v1 : Int32) (v3 : Int32) (v4 : Int32) (σ : St) : Nat → Int32 → Option Int32
  | 0, _ => none
  | n + 1, v5 =>     if v5 < v1 then
      cap (rec σ v1 (v5 + 1) (v3 ||| (1 <<< (v5 &&& 31))) (v4 - 1)) fun r_2 =>
      if r_2 = 0 then
        f_Telling_someMeet_L14 rec v1 v3 v4 σ n (v5 + 1)
      else
        some 1
    else
      some 0

def fb_Telling_someMeet (rec : St → Int32 → Int32 → Int32 → Int32 → Option Int32) (σ : St) (v1 : Int32) (v2 : Int32) (v3 : Int32) (v4 : Int32) : Option Int32 :=
  if v4 ≤ 0 then
    cap (f_Telling_meetsAll σ v3) fun r_4 =>
    some (zb r_4)
  else
    f_Telling_someMeet_L14 rec v1 v3 v4 σ FU v2
def f_Telling_someMeet : Nat → St → Int32 → Int32 → Int32 → Int32 → Option Int32
  | 0, _, _, _, _, _ => none
  | d + 1, σ, v1, v2, v3, v4 => fb_Telling_someMeet (f_Telling_someMeet d) σ v1 v2 v3 v4

def f_Telling_fewestCells_L25 (v2 : Int32) (σ : St) (kx41 : Int32 → Option (Int32 × St)) (kx49 : Option (Int32 × St)) : Nat → Int32 → Option (Int32 × St)
  | 0, _ => none
  | n + 1, v3 =>     if v3 < v2 then
      cap (f_Telling_someMeet DP σ v2 0 0 v3) fun r_7 =>
      if r_7 = 0 then
        f_Telling_fewestCells_L25 v2 σ kx41 kx49 n (v3 + 1)
      else
        kx41 v3
    else
      kx49

def f_Telling_fewestCells (σ : St) (v1 : Nat) : Option (Int32 × St) :=
  lt1 ((σ v1 3) * (σ v1 3)) fun v2_1 =>
  sto σ 16 2 0 fun σ_2 =>
  cal (f_Telling_gather DP σ_2 v1 0 0 0) fun r_4 σ_5 =>
  f_Telling_fewestCells_L25 v2_1 σ_5 (fun (v3_8 : Int32) => some (v3_8, σ_5)) (some (v2_1, σ_5)) FU 0

def f_Filling_isAloneInRow_L3 (v0 : Nat) (v1 : Int32) (v2 : Int32) (v3 : Int32) (σ : St) : Nat → Int32 → Option Int32
  | 0, _ => none
  | n + 1, v4 =>     if v4 < (σ v0 3) then
      jn (f_Filling_isAloneInRow_L3 v0 v1 v2 v3 σ n (v4 + 1)) fun j34_1 =>
      if v4 = v2 then
        j34_1
      else
        cap (f_Grid_optionsAt σ v0 v1 v4) fun r_3 =>
        cap (f_Q_isIn σ r_3 v3) fun r_5 =>
        if r_5 = 0 then
          j34_1
        else
          some 0
    else
      some 1

def f_Filling_isAloneInRow (σ : St) (v0 : Nat) (v1 : Int32) (v2 : Int32) (v3 : Int32) : Option Int32 :=
  f_Filling_isAloneInRow_L3 v0 v1 v2 v3 σ FU 0

def f_Filling_isAloneInColumn_L3 (v0 : Nat) (v1 : Int32) (v2 : Int32) (v3 : Int32) (σ : St) : Nat → Int32 → Option Int32
  | 0, _ => none
  | n + 1, v4 =>     if v4 < (σ v0 3) then
      jn (f_Filling_isAloneInColumn_L3 v0 v1 v2 v3 σ n (v4 + 1)) fun j34_1 =>
      if v4 = v1 then
        j34_1
      else
        cap (f_Grid_optionsAt σ v0 v4 v2) fun r_3 =>
        cap (f_Q_isIn σ r_3 v3) fun r_5 =>
        if r_5 = 0 then
          j34_1
        else
          some 0
    else
      some 1

def f_Filling_isAloneInColumn (σ : St) (v0 : Nat) (v1 : Int32) (v2 : Int32) (v3 : Int32) : Option Int32 :=
  f_Filling_isAloneInColumn_L3 v0 v1 v2 v3 σ FU 0

def f_Filling_isForced (σ : St) (v0 : Nat) (v1 : Int32) (v2 : Int32) (v3 : Int32) : Option Int32 :=
  cap (f_Grid_optionsAt σ v0 v1 v2) fun r_2 =>
  cap (f_Q_isIn σ r_2 v3) fun r_4 =>
  jn (some 0) fun j49_5 =>
  if r_4 = 0 then
    j49_5
  else
    jn (some 1) fun j45_6 =>
    if r_2 = (1 <<< (v3 &&& 31)) then
      j45_6
    else
      cap (f_Filling_isAloneInRow σ v0 v1 v2 v3) fun r_8 =>
      if r_8 = 0 then
        cap (f_Filling_isAloneInColumn σ v0 v1 v2 v3) fun r_10 =>
        if r_10 = 0 then
          j49_5
        else
          j45_6
      else
        j45_6

def f_Filling_firstForced_L22 (v0 : Nat) (v1 : Int32) (v2 : Int32) (σ : St) (kx40 : Int32 → Option Int32) (kx53 : Option Int32) : Nat → Int32 → Option Int32
  | 0, _ => none
  | n + 1, v3 =>     if v3 < (σ v0 3) then
      cap (f_Filling_isForced σ v0 v1 v2 v3) fun r_2 =>
      if r_2 = 0 then
        f_Filling_firstForced_L22 v0 v1 v2 σ kx40 kx53 n (v3 + 1)
      else
        kx40 v3
    else
      kx53

def f_Filling_firstForced_L12 (v0 : Nat) (v1 : Int32) (σ : St) (kx40 : Int32 → Int32 → Option Int32) (kx59 : Option Int32) : Nat → Int32 → Option Int32
  | 0, _ => none
  | n + 1, v2 =>     if v2 < (σ v0 3) then
      f_Filling_firstForced_L22 v0 v1 v2 σ (fun (v3_3 : Int32) => kx40 v2 v3_3) (f_Filling_firstForced_L12 v0 v1 σ kx40 kx59 n (v2 + 1)) FU 0
    else
      kx59

def f_Filling_firstForced_L2 (v0 : Nat) (σ : St) (kx40 : Int32 → Int32 → Int32 → Option Int32) : Nat → Int32 → Option Int32
  | 0, _ => none
  | n + 1, v1 =>     if v1 < (σ v0 3) then
      f_Filling_firstForced_L12 v0 v1 σ (fun (v2_4 : Int32) (v3_5 : Int32) => kx40 v1 v2_4 v3_5) (f_Filling_firstForced_L2 v0 σ kx40 n (v1 + 1)) FU 0
    else
      some (-1)

def f_Filling_firstForced (σ : St) (v0 : Nat) : Option Int32 :=
  f_Filling_firstForced_L2 v0 σ (fun (v1_6 : Int32) (v2_7 : Int32) (v3_8 : Int32) => cap (f_Move_packed σ v1_6 v2_7 v3_8) fun r_10 =>
  some r_10) FU 0

def f_Filling_fillForced_L7 (v0 : Nat) (kx45 : Int32 → St → Option (Int32 × St)) : Nat → Int32 → Int32 → St → Option (Int32 × St)
  | 0, _, _, _ => none
  | n + 1, v1, v2, σ =>     if v2 = (-1) then
      kx45 v1 σ
    else
      if v1 < 25 then
        cap (f_Move_row σ v2) fun r_4 =>
        cap (f_Move_column σ v2) fun r_6 =>
        cap (f_Move_sign σ v2) fun r_8 =>
        cal (f_Grid_set σ v0 r_4 r_6 r_8) fun r_10 σ_11 =>
        cap (f_Filling_firstForced σ_11 v0) fun r_13 =>
        f_Filling_fillForced_L7 v0 kx45 n (v1 + 1) r_13 σ_11
      else
        kx45 v1 σ

def f_Filling_fillForced (σ : St) (v0 : Nat) : Option (Int32 × St) :=
  cap (f_Filling_firstForced σ v0) fun r_2 =>
  f_Filling_fillForced_L7 v0 (fun (v1_14 : Int32) (σ_15 : St) => some (v1_14, σ_15)) FU 0 r_2 σ

def f_Filling_tightestCell_L18 (v0 : Nat) (v3 : Int32) (σ : St) (kx72 : Int32 → Int32 → Option Int32) : Nat → Int32 → Int32 → Int32 → Option Int32
  | 0, _, _, _ => none
  | n + 1, v1, v2, v4 =>     if v4 < (σ v0 3) then
      cap (f_Grid_optionsAt σ v0 v3 v4) fun r_2 =>
      cap (f_Int_bitCount σ r_2) fun r_4 =>
      jn (fun (v1_6 : Int32) (v2_7 : Int32) => f_Filling_tightestCell_L18 v0 v3 σ kx72 n v1_6 v2_7 (v4 + 1)) fun j66_5 =>
      if r_4 < v2 then
        cap (f_Grid_signAt σ v0 v3 v4) fun r_9 =>
        if r_9 = (-1) then
          lt1 ((5 * v3) + v4) fun v1_10 =>
          j66_5 v1_10 r_4
        else
          j66_5 v1 v2
      else
        j66_5 v1 v2
    else
      kx72 v1 v2

def f_Filling_tightestCell_L7 (v0 : Nat) (σ : St) (kx78 : Int32 → Option Int32) : Nat → Int32 → Int32 → Int32 → Option Int32
  | 0, _, _, _ => none
  | n + 1, v1, v2, v3 =>     if v3 < (σ v0 3) then
      f_Filling_tightestCell_L18 v0 v3 σ (fun (v1_11 : Int32) (v2_12 : Int32) => f_Filling_tightestCell_L7 v0 σ kx78 n v1_11 v2_12 (v3 + 1)) FU v1 v2 0
    else
      kx78 v1

def f_Filling_tightestCell (σ : St) (v0 : Nat) : Option Int32 :=
  f_Filling_tightestCell_L7 v0 σ (fun (v1_13 : Int32) => some v1_13) FU (-1) 6 0

def f_Filling_squaresFrom_L46 (rec : St → Nat → Int32 → Int32 → Option (Int32 × St)) (v0 : Nat) (v1 : Int32) (v2 : Int32) (v4 : Int32) (v5 : Int32) (v6 : Int32) (kx112 : Int32 → St → Option (Int32 × St)) : Nat → Int32 → Int32 → St → Option (Int32 × St)
  | 0, _, _, _ => none
  | n + 1, v7, v8, σ =>     if v8 < (σ v0 3) then
      if v7 < v1 then
        cap (f_Q_isIn σ v6 v8) fun r_8 =>
        jn (fun (v7_10 : Int32) (σ_11 : St) => f_Filling_squaresFrom_L46 rec v0 v1 v2 v4 v5 v6 kx112 n v7_10 (v8 + 1) σ_11) fun j106_9 =>
        if r_8 = 0 then
          j106_9 v7 σ
        else
          cal (f_Grid_set σ v0 v4 v5 v8) fun r_13 σ_14 =>
          cal (rec σ_14 v0 (v1 - v7) (v2 + 1)) fun r_16 σ_17 =>
          cal (f_Grid_set σ_17 v0 v4 v5 (-1)) fun r_19 σ_20 =>
          j106_9 (v7 + r_16) σ_20
      else
        kx112 v7 σ
    else
      kx112 v7 σ

def fb_Filling_squaresFrom (rec : St → Nat → Int32 → Int32 → Option (Int32 × St)) (σ : St) (v0 : Nat) (v1 : Int32) (v2 : Int32) : Option (Int32 × St) :=
  cap (f_Filling_tightestCell σ v0) fun r_2 =>
  if r_2 = (-1) then
    some (1, σ)
  else
    if v2 < 25 then
      dvi r_2 5 fun q_3 =>
      rmi r_2 5 fun q_4 =>
      cap (f_Grid_optionsAt σ v0 q_3 q_4) fun r_6 =>
      f_Filling_squaresFrom_L46 rec v0 v1 v2 q_3 q_4 r_6 (fun (v7_21 : Int32) (σ_22 : St) => some (v7_21, σ_22)) FU 0 0 σ
    else
      some (0, σ)
def f_Filling_squaresFrom : Nat → St → Nat → Int32 → Int32 → Option (Int32 × St)
  | 0, _, _, _, _ => none
  | d + 1, σ, v0, v1, v2 => fb_Filling_squaresFrom (f_Filling_squaresFrom d) σ v0 v1 v2

def f_Filling_squares (σ : St) (v0 : Nat) (v1 : Int32) : Option (Int32 × St) :=
  cal (f_Filling_squaresFrom DP σ v0 v1 0) fun r_2 σ_3 =>
  some (r_2, σ_3)

def f_Filling_setLowest_L10 (v0 : Nat) (v1 : Int32) (v2 : Int32) (v3 : Int32) : Nat → Int32 → St → Option (Unit × St)
  | 0, _, _ => none
  | n + 1, v4, σ =>     if v4 < (σ v0 3) then
      cap (f_Q_isIn σ v3 v4) fun r_4 =>
      jn (fun (σ_6 : St) => f_Filling_setLowest_L10 v0 v1 v2 v3 n (v4 + 1) σ_6) fun j54_5 =>
      if r_4 = 0 then
        j54_5 σ
      else
        cal (f_Grid_set σ v0 v1 v2 v4) fun r_8 σ_9 =>
        cal (f_Filling_squaresFrom DP σ_9 v0 1 0) fun r_11 σ_12 =>
        if r_11 = 1 then
          some ((), σ_12)
        else
          cal (f_Grid_set σ_12 v0 v1 v2 (-1)) fun r_14 σ_15 =>
          j54_5 σ_15
    else
      some ((), σ)

def f_Filling_setLowest (σ : St) (v0 : Nat) (v1 : Int32) (v2 : Int32) : Option (Unit × St) :=
  cap (f_Grid_optionsAt σ v0 v1 v2) fun r_2 =>
  f_Filling_setLowest_L10 v0 v1 v2 r_2 FU 0 σ

def f_Filling_makeLowest_L12 (v0 : Nat) (v1 : Int32) (kx32 : St → Option (Unit × St)) : Nat → Int32 → St → Option (Unit × St)
  | 0, _, _ => none
  | n + 1, v2, σ =>     if v2 < (σ v0 3) then
      cal (f_Filling_setLowest σ v0 v1 v2) fun r_2 σ_3 =>
      f_Filling_makeLowest_L12 v0 v1 kx32 n (v2 + 1) σ_3
    else
      kx32 σ

def f_Filling_makeLowest_L2 (v0 : Nat) : Nat → Int32 → St → Option (Unit × St)
  | 0, _, _ => none
  | n + 1, v1, σ =>     if v1 < (σ v0 3) then
      f_Filling_makeLowest_L12 v0 v1 (fun (σ_4 : St) => f_Filling_makeLowest_L2 v0 n (v1 + 1) σ_4) FU 0 σ
    else
      some ((), σ)

def f_Filling_makeLowest (σ : St) (v0 : Nat) : Option (Unit × St) :=
  f_Filling_makeLowest_L2 v0 FU 0 σ

def f_RowFilling_pairsAllowed_L4 (v0 : Nat) (v1 : Int32) (σ : St) (kx56 : Int32 → Option Int32) : Nat → Int32 → Int32 → Option Int32
  | 0, _, _ => none
  | n + 1, v2, v3 =>     if v3 < (σ v0 3) then
      cap (f_Grid_signAt σ v0 v1 v3) fun r_2 =>
      jn (fun (s_4 : Int32) => lt1 (v2 ||| (s_4 <<< ((5 * v3) &&& 31))) fun v2_5 =>
      f_RowFilling_pairsAllowed_L4 v0 v1 σ kx56 n v2_5 (v3 + 1)) fun j39_3 =>
      if r_2 = (-1) then
        cap (f_Grid_optionsAt σ v0 v1 v3) fun r_7 =>
        j39_3 r_7
      else
        j39_3 (1 <<< (r_2 &&& 31))
    else
      kx56 v2

def f_RowFilling_pairsAllowed (σ : St) (v0 : Nat) (v1 : Int32) : Option Int32 :=
  f_RowFilling_pairsAllowed_L4 v0 v1 σ (fun (v2_8 : Int32) => some v2_8) FU 0 0

def f_RowFilling_fits (σ : St) (v1 : Int32) (v2 : Int32) (v3 : Int32) : Option Int32 :=
  jn (some 0) fun j30_1 =>
  if v1 < 0 then
    j30_1
  else
    if v1 < 5 then
      ald σ 15 5 v1 fun r_2 =>
      if (v2 &&& ((r_2 &&& (v3 ^^^ (-1))) ^^^ (-1))) = 0 then
        some 1
      else
        j30_1
    else
      j30_1

def f_RowFilling_mapsThatFit_L6 (v1 : Int32) (v2 : Int32) (v3 : Int32) (σ : St) (kx47 : Int32 → Option Int32) : Nat → Int32 → Int32 → Option Int32
  | 0, _, _ => none
  | n + 1, v4, v5 =>     cap (f_Maps_amount σ v1) fun r_2 =>
    if v5 < r_2 then
      cap (f_Maps_pairsOf σ v5 v1) fun r_4 =>
      cap (f_RowFilling_fits σ v2 r_4 v3) fun r_6 =>
      jn (fun (v4_8 : Int32) => f_RowFilling_mapsThatFit_L6 v1 v2 v3 σ kx47 n v4_8 (v5 + 1)) fun j41_7 =>
      if r_6 = 0 then
        j41_7 v4
      else
        j41_7 (v4 + 1)
    else
      kx47 v4

def f_RowFilling_mapsThatFit (σ : St) (v1 : Int32) (v2 : Int32) (v3 : Int32) : Option Int32 :=
  f_RowFilling_mapsThatFit_L6 v1 v2 v3 σ (fun (v4_9 : Int32) => some v4_9) FU 0 0

def f_RowFilling_tightestRow_L10 (v1 : Int32) (v2 : Int32) (v3 : Int32) (σ : St) (kx61 : Int32 → Option Int32) : Nat → Int32 → Int32 → Int32 → Option Int32
  | 0, _, _, _ => none
  | n + 1, v4, v5, v6 =>     if v6 < v1 then
      cap (f_Q_isIn σ v2 v6) fun r_2 =>
      jn (fun (s_4 : Int32) => jn (fun (v4_6 : Int32) (v5_7 : Int32) => f_RowFilling_tightestRow_L10 v1 v2 v3 σ kx61 n v4_6 v5_7 (v6 + 1)) fun j55_5 =>
      if s_4 < v5 then
        j55_5 v6 s_4
      else
        j55_5 v4 v5) fun j38_3 =>
      if r_2 = 0 then
        j38_3 v5
      else
        cap (f_RowFilling_mapsThatFit σ v1 v6 v3) fun r_9 =>
        j38_3 r_9
    else
      kx61 v4

def f_RowFilling_tightestRow (σ : St) (v1 : Int32) (v2 : Int32) (v3 : Int32) : Option Int32 :=
  f_RowFilling_tightestRow_L10 v1 v2 v3 σ (fun (v4_10 : Int32) => some v4_10) FU (-1) 121 0

def f_RowFilling_squaresFrom_L35 (rec : St → Int32 → Int32 → Int32 → Int32 → Int32 → Option Int32) (v1 : Int32) (v2 : Int32) (v3 : Int32) (v4 : Int32) (v5 : Int32) (v6 : Int32) (σ : St) (kx120 : Int32 → Option Int32) : Nat → Int32 → Int32 → Option Int32
  | 0, _, _ => none
  | n + 1, v7, v8 =>     cap (f_Maps_amount σ v1) fun r_4 =>
    if v8 < r_4 then
      if v7 < v4 then
        cap (f_Maps_pairsOf σ v8 v1) fun r_6 =>
        cap (f_RowFilling_fits σ v6 r_6 v3) fun r_8 =>
        jn (fun (v7_10 : Int32) => f_RowFilling_squaresFrom_L35 rec v1 v2 v3 v4 v5 v6 σ kx120 n v7_10 (v8 + 1)) fun j114_9 =>
        if r_8 = 0 then
          j114_9 v7
        else
          lt1 (v2 &&& ((1 <<< (v6 &&& 31)) ^^^ (-1))) fun v10_11 =>
          cap (rec σ v1 v10_11 (v3 ||| r_6) (v4 - v7) (v5 + 1)) fun r_13 =>
          j114_9 (v7 + r_13)
      else
        kx120 v7
    else
      kx120 v7

def fb_RowFilling_squaresFrom (rec : St → Int32 → Int32 → Int32 → Int32 → Int32 → Option Int32) (σ : St) (v1 : Int32) (v2 : Int32) (v3 : Int32) (v4 : Int32) (v5 : Int32) : Option Int32 :=
  if v2 = 0 then
    some 1
  else
    cap (f_RowFilling_tightestRow σ v1 v2 v3) fun r_2 =>
    if r_2 = (-1) then
      some 0
    else
      if v5 < 5 then
        f_RowFilling_squaresFrom_L35 rec v1 v2 v3 v4 v5 r_2 σ (fun (v7_14 : Int32) => some v7_14) FU 0 0
      else
        some 0
def f_RowFilling_squaresFrom : Nat → St → Int32 → Int32 → Int32 → Int32 → Int32 → Option Int32
  | 0, _, _, _, _, _, _ => none
  | d + 1, σ, v1, v2, v3, v4, v5 => fb_RowFilling_squaresFrom (f_RowFilling_squaresFrom d) σ v1 v2 v3 v4 v5

def f_RowFilling_squares_L2 (v1 : Nat) (v2 : Int32) (kx32 : St → Option (Int32 × St)) : Nat → Int32 → St → Option (Int32 × St)
  | 0, _, _ => none
  | n + 1, v3, σ =>     if v3 < (σ v1 3) then
      if v3 < 5 then
        cap (f_RowFilling_pairsAllowed σ v1 v3) fun r_2 =>
        ast σ 15 5 v3 r_2 fun σ_3 =>
        f_RowFilling_squares_L2 v1 v2 kx32 n (v3 + 1) σ_3
      else
        kx32 σ
    else
      kx32 σ

def f_RowFilling_squares (σ : St) (v1 : Nat) (v2 : Int32) : Option (Int32 × St) :=
  f_RowFilling_squares_L2 v1 v2 (fun (σ_4 : St) => cap (f_Grid_allSigns σ_4 v1) fun r_6 =>
  cap (f_RowFilling_squaresFrom DP σ_4 (σ_4 v1 3) r_6 0 v2 0) fun r_8 =>
  some (r_8, σ_4)) FU 0 σ

