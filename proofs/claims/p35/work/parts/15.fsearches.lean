def f_Filling_isAloneInRow_L3 (v0 : Nat) (v1 : Int32) (v2 : Int32) (v3 : Int32) (σ : St) : Nat → Int32 → Option Int32
  | 0, _ => none
  | n + 1, v4 =>     if v4 < (σ v0 3) then
      jn (f_Filling_isAloneInRow_L3 v0 v1 v2 v3 σ n (v4 + 1)) fun j34_1 =>
      if v4 = v2 then
        j34_1
      else
        cap (f_Grid_optionsAt σ v0 v1 v4) fun r_3 =>
        cap (f_Q_isIn σ r_3 v3) fun r_5 =>
        if r_5 = 0 then
          j34_1
        else
          some 0
    else
      some 1

def f_Filling_isAloneInRow (σ : St) (v0 : Nat) (v1 : Int32) (v2 : Int32) (v3 : Int32) : Option Int32 :=
  f_Filling_isAloneInRow_L3 v0 v1 v2 v3 σ FU 0

def f_Filling_isAloneInColumn_L3 (v0 : Nat) (v1 : Int32) (v2 : Int32) (v3 : Int32) (σ : St) : Nat → Int32 → Option Int32
  | 0, _ => none
  | n + 1, v4 =>     if v4 < (σ v0 3) then
      jn (f_Filling_isAloneInColumn_L3 v0 v1 v2 v3 σ n (v4 + 1)) fun j34_1 =>
      if v4 = v1 then
        j34_1
      else
        cap (f_Grid_optionsAt σ v0 v4 v2) fun r_3 =>
        cap (f_Q_isIn σ r_3 v3) fun r_5 =>
        if r_5 = 0 then
          j34_1
        else
          some 0
    else
      some 1

def f_Filling_isAloneInColumn (σ : St) (v0 : Nat) (v1 : Int32) (v2 : Int32) (v3 : Int32) : Option Int32 :=
  f_Filling_isAloneInColumn_L3 v0 v1 v2 v3 σ FU 0

def f_Filling_isForced (σ : St) (v0 : Nat) (v1 : Int32) (v2 : Int32) (v3 : Int32) : Option Int32 :=
  cap (f_Grid_optionsAt σ v0 v1 v2) fun r_2 =>
  cap (f_Q_isIn σ r_2 v3) fun r_4 =>
  jn (some 0) fun j49_5 =>
  if r_4 = 0 then
    j49_5
  else
    jn (some 1) fun j45_6 =>
    if r_2 = (1 <<< (v3 &&& 31)) then
      j45_6
    else
      cap (f_Filling_isAloneInRow σ v0 v1 v2 v3) fun r_8 =>
      if r_8 = 0 then
        cap (f_Filling_isAloneInColumn σ v0 v1 v2 v3) fun r_10 =>
        if r_10 = 0 then
          j49_5
        else
          j45_6
      else
        j45_6

def f_Filling_firstForced_L22 (v0 : Nat) (v1 : Int32) (v2 : Int32) (σ : St) (kx40 : Int32 → Option Int32) (kx53 : Option Int32) : Nat → Int32 → Option Int32
  | 0, _ => none
  | n + 1, v3 =>     if v3 < (σ v0 3) then
      cap (f_Filling_isForced σ v0 v1 v2 v3) fun r_2 =>
      if r_2 = 0 then
        f_Filling_firstForced_L22 v0 v1 v2 σ kx40 kx53 n (v3 + 1)
      else
        kx40 v3
    else
      kx53

def f_Filling_firstForced_L12 (v0 : Nat) (v1 : Int32) (σ : St) (kx40 : Int32 → Int32 → Option Int32) (kx59 : Option Int32) : Nat → Int32 → Option Int32
  | 0, _ => none
  | n + 1, v2 =>     if v2 < (σ v0 3) then
      f_Filling_firstForced_L22 v0 v1 v2 σ (fun (v3_3 : Int32) => kx40 v2 v3_3) (f_Filling_firstForced_L12 v0 v1 σ kx40 kx59 n (v2 + 1)) FU 0
    else
      kx59

def f_Filling_firstForced_L2 (v0 : Nat) (σ : St) (kx40 : Int32 → Int32 → Int32 → Option Int32) : Nat → Int32 → Option Int32
  | 0, _ => none
  | n + 1, v1 =>     if v1 < (σ v0 3) then
      f_Filling_firstForced_L12 v0 v1 σ (fun (v2_4 : Int32) (v3_5 : Int32) => kx40 v1 v2_4 v3_5) (f_Filling_firstForced_L2 v0 σ kx40 n (v1 + 1)) FU 0
    else
      some (-1)

def f_Filling_firstForced (σ : St) (v0 : Nat) : Option Int32 :=
  f_Filling_firstForced_L2 v0 σ (fun (v1_6 : Int32) (v2_7 : Int32) (v3_8 : Int32) => cap (f_Move_packed σ v1_6 v2_7 v3_8) fun r_10 =>
  some r_10) FU 0

def f_Filling_fillForced_L7 (v0 : Nat) (kx45 : Int32 → St → Option (Int32 × St)) : Nat → Int32 → Int32 → St → Option (Int32 × St)
  | 0, _, _, _ => none
  | n + 1, v1, v2, σ =>     if v2 = (-1) then
      kx45 v1 σ
    else
      if v1 < 25 then
        cap (f_Move_row σ v2) fun r_4 =>
        cap (f_Move_column σ v2) fun r_6 =>
        cap (f_Move_sign σ v2) fun r_8 =>
        cal (f_Grid_set σ v0 r_4 r_6 r_8) fun r_10 σ_11 =>
        cap (f_Filling_firstForced σ_11 v0) fun r_13 =>
        f_Filling_fillForced_L7 v0 kx45 n (v1 + 1) r_13 σ_11
      else
        kx45 v1 σ

def f_Filling_fillForced (σ : St) (v0 : Nat) : Option (Int32 × St) :=
  cap (f_Filling_firstForced σ v0) fun r_2 =>
  f_Filling_fillForced_L7 v0 (fun (v1_14 : Int32) (σ_15 : St) => some (v1_14, σ_15)) FU 0 r_2 σ

