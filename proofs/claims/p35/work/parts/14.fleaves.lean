def f_Move_packed (σ : St) (v0 : Int32) (v1 : Int32) (v2 : Int32) : Option Int32 :=
  some ((10 * ((5 * v0) + v1)) + v2)

def f_Move_row (σ : St) (v0 : Int32) : Option Int32 :=
  dvi v0 50 fun q_1 =>
  some q_1

def f_Move_column (σ : St) (v0 : Int32) : Option Int32 :=
  dvi v0 10 fun q_1 =>
  rmi q_1 5 fun q_2 =>
  some q_2

def f_Move_sign (σ : St) (v0 : Int32) : Option Int32 :=
  rmi v0 10 fun q_1 =>
  some q_1

def f_Move_told (σ : St) (v0 : Int32) (v1 : Int32) : Option Int32 :=
  if v0 = (-1) then
    some (-1)
  else
    cap (f_Move_row σ v0) fun r_2 =>
    cap (f_Move_column σ v0) fun r_4 =>
    cap (f_Move_sign σ v0) fun r_6 =>
    some ((10 * ((v1 * r_2) + r_4)) + r_6)

def f_Maps_arrange_L39 (v2 : Int32) (v3 : Int32) (v4 : Int32) (v6 : Int32) (kx86 : Int32 → St → Option (Unit × St)) : Nat → Int32 → Int32 → St → Option (Unit × St)
  | 0, _, _, _ => none
  | n + 1, v5, v7, σ =>     if v7 < v6 then
      if v5 ≤ 0 then
        kx86 v5 σ
      else
        if v5 < 600 then
          ald σ 7 600 (v5 - 1) fun r_3 =>
          ast σ 7 600 v5 r_3 fun σ_4 =>
          f_Maps_arrange_L39 v2 v3 v4 v6 kx86 n (v5 + (-1)) (v7 + 1) σ_4
        else
          kx86 v5 σ
    else
      kx86 v5 σ

def f_Maps_arrange_L9 (v2 : Int32) : Nat → Int32 → Int32 → St → Option (Unit × St)
  | 0, _, _, _ => none
  | n + 1, v3, v4, σ =>     if v4 < 5 then
      rmi v3 (v4 + 1) fun q_1 =>
      dvi v3 (v4 + 1) fun q_2 =>
      f_Maps_arrange_L39 v2 q_2 v4 q_1 (fun (v5_5 : Int32) (σ_6 : St) => jn (fun (σ_8 : St) => f_Maps_arrange_L9 v2 n q_2 (v4 + 1) σ_8) fun j110_7 =>
      if v5_5 < 0 then
        j110_7 σ_6
      else
        if v5_5 < 600 then
          ast σ_6 7 600 v5_5 v4 fun σ_9 =>
          j110_7 σ_9
        else
          j110_7 σ_6) FU (v2 + v4) 0 σ
    else
      some ((), σ)

def f_Maps_arrange (σ : St) (v1 : Int32) : Option (Unit × St) :=
  f_Maps_arrange_L9 (5 * v1) FU v1 0 σ

