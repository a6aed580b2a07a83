def f_L_set_L19 (v0 : Nat) (v1 : Int32) (v2 : Int32) (σ : St) (kx91 : Int32 → Option Int32) : Nat → Int32 → Int32 → Option Int32
  | 0, _, _ => none
  | n + 1, v3, v4 =>     if v4 < v1 then
      dvi v2 v1 fun q_4 =>
      ald σ v0 25 ((q_4 * v1) + v4) fun r_5 =>
      rmi v2 v1 fun q_6 =>
      ald σ v0 25 ((v1 * v4) + q_6) fun r_7 =>
      jn (fun (s_9 : Int32) => jn (fun (s_11 : Int32) => lt1 ((v3 &&& s_9) &&& s_11) fun v3_12 =>
      f_L_set_L19 v0 v1 v2 σ kx91 n v3_12 (v4 + 1)) fun j83_10 =>
      if r_7 < 0 then
        j83_10 (v3 &&& s_9)
      else
        j83_10 ((1 <<< (r_7 &&& 31)) ^^^ (-1))) fun j65_8 =>
      if r_5 < 0 then
        j65_8 v3
      else
        j65_8 ((1 <<< (r_5 &&& 31)) ^^^ (-1))
    else
      kx91 v3

def f_L_set (σ : St) (v0 : Nat) (v1 : Int32) (v2 : Int32) : Option Int32 :=
  ald σ v0 25 v2 fun r_1 =>
  jn (fun (s_3 : Int32) => f_L_set_L19 v0 v1 v2 σ (fun (v3_13 : Int32) => some v3_13) FU s_3 0) fun j15_2 =>
  if r_1 < 0 then
    j15_2 ((1 <<< (v1 &&& 31)) - 1)
  else
    j15_2 0

def f_L_forced_L34 (v0 : Nat) (v1 : Int32) (v2 : Int32) (v3 : Int32) (v4 : Int32) (σ : St) (kx92 : Int32 → Int32 → Option Int32) : Nat → Int32 → Int32 → Int32 → Option Int32
  | 0, _, _, _ => none
  | n + 1, v5, v6, v7 =>     if v7 < v1 then
      dvi v2 v1 fun q_3 =>
      cap (f_L_set σ v0 v1 ((q_3 * v1) + v7)) fun r_5 =>
      lt1 (v5 + ((r_5 >>> (v4 &&& 31)) &&& 1)) fun v5_6 =>
      rmi v2 v1 fun q_7 =>
      cap (f_L_set σ v0 v1 ((v1 * v7) + q_7)) fun r_9 =>
      lt1 (v6 + ((r_9 >>> (v4 &&& 31)) &&& 1)) fun v6_10 =>
      f_L_forced_L34 v0 v1 v2 v3 v4 σ kx92 n v5_6 v6_10 (v7 + 1)
    else
      kx92 v5 v6

def f_L_forced_L19 (v0 : Nat) (v1 : Int32) (v2 : Int32) (v3 : Int32) (σ : St) (kx122 : Int32 → Option Int32) (kx136 : Option Int32) : Nat → Int32 → Option Int32
  | 0, _ => none
  | n + 1, v4 =>     if v4 < v1 then
      f_L_forced_L34 v0 v1 v2 v3 v4 σ (fun (v5_11 : Int32) (v6_12 : Int32) => jn (f_L_forced_L19 v0 v1 v2 v3 σ kx122 kx136 n (v4 + 1)) fun j130_13 =>
      if ((v3 >>> (v4 &&& 31)) &&& 1) = 1 then
        if v3 = (1 <<< (v4 &&& 31)) then
          kx122 v4
        else
          if v5_11 = 1 then
            kx122 v4
          else
            if v6_12 = 1 then
              kx122 v4
            else
              j130_13
      else
        j130_13) FU 0 0 0
    else
      kx136

def f_L_forced_L2 (v0 : Nat) (v1 : Int32) (σ : St) (kx122 : Int32 → Int32 → Option Int32) : Nat → Int32 → Option Int32
  | 0, _ => none
  | n + 1, v2 =>     if v2 < (v1 * v1) then
      cap (f_L_set σ v0 v1 v2) fun r_2 =>
      f_L_forced_L19 v0 v1 v2 r_2 σ (fun (v4_14 : Int32) => kx122 v2 v4_14) (f_L_forced_L2 v0 v1 σ kx122 n (v2 + 1)) FU 0
    else
      some (-1)

def f_L_forced (σ : St) (v0 : Nat) (v1 : Int32) : Option Int32 :=
  f_L_forced_L2 v0 v1 σ (fun (v2_15 : Int32) (v4_16 : Int32) => some ((10 * v2_15) + v4_16)) FU 0

def f_L_told (σ : St) (v1 : Int32) (v2 : Int32) (v3 : Int32) (v4 : Int32) (v5 : Int32) : Option (Except Nat Int32 × St) :=
  if v1 = 0 then
    cax (f_Q_put σ v2 v3 v4 v5) fun r_5 σ_6 =>
    some (.ok r_5, σ_6)
  else
    cax (f_Q_turn σ v2 v3 v4 v5) fun r_2 σ_3 =>
    some (.ok r_2, σ_3)

def f_L_up (σ : St) (v0 : Int32) (v1 : Int32) : Option Int32 :=
  rmi ((v0.toUInt32 >>> ((2 : Int32).toUInt32 &&& Int32.toUInt32 31)).toInt32) v1 fun q_1 =>
  some q_1

