def f_Maps_init_L43 (v1 : Int32) (kx79 : St → Option (Unit × St)) : Nat → Int32 → St → Option (Unit × St)
  | 0, _, _ => none
  | n + 1, v2, σ =>     if v2 < 5 then
      ald σ 8 120 v1 fun r_4 =>
      ald σ 7 600 ((5 * v1) + v2) fun r_5 =>
      ast σ 8 120 v1 (r_4 ||| (1 <<< (((5 * v2) + r_5) &&& 31))) fun σ_6 =>
      f_Maps_init_L43 v1 kx79 n (v2 + 1) σ_6
    else
      kx79 σ

def f_Maps_init_L30 (kx85 : St → Option (Unit × St)) : Nat → Int32 → St → Option (Unit × St)
  | 0, _, _ => none
  | n + 1, v1, σ =>     if v1 < 120 then
      cal (f_Maps_arrange σ v1) fun r_2 σ_3 =>
      f_Maps_init_L43 v1 (fun (σ_7 : St) => f_Maps_init_L30 kx85 n (v1 + 1) σ_7) FU 0 σ_3
    else
      kx85 σ

def f_Maps_init (σ : St) : Option (Unit × St) :=
  f_Maps_init_L30 (fun (σ_8 : St) => some ((), σ_8)) FU 0 σ

set_option maxRecDepth 100000 in
set_option maxHeartbeats 4000000 in
theorem sC_Maps_arrange_L39 {SH : List Shp} (hm6 : SH[6]? = some (.inl (1, [some (some 7), some (some 8), some (some 9)]))) (hm7 : SH[7]? = some (.inr (.inl (0, 600)))) (hm8 : SH[8]? = some (.inr (.inl (0, 120)))) (hm9 : SH[9]? = some (.inr (.inl (0, 5)))) {θ : Th} {ad : Nat → Nat}  {rv : Unit} {σe : St} (X : Cx θ [] cX4_arrange 8 "Quasigrove$Maps" 0 0)
    {v2 : Int32} {v3 : Int32} {v4 : Int32} {v6 : Int32} (hq : Rq θ (SH, ad) none none σe) {kx86 : Int32 → St → Option (Unit × St)} (hkx86 : ∀ (v5 : Int32) (σ : St), kx86 v5 σ = some (rv, σe) → G θ (0, 0) (SH, ad) σ 86 [some (.ref (ad 6)), none, some (.int v2), some (.int v3), some (.int v4), some (.int v5), none, none] []) :
    ∀ (n : Nat) (v5 : Int32) (v7 : Int32) (σ : St), f_Maps_arrange_L39 v2 v3 v4 v6 kx86 n v5 v7 σ = some (rv, σe) → G θ (0, 0) (SH, ad) σ 39 [some (.ref (ad 6)), none, some (.int v2), some (.int v3), some (.int v4), some (.int v5), some (.int v6), some (.int v7)] [] := by
  intro n
  induction n with
  | zero => intro v5 v7 σ h; rw [f_Maps_arrange_L39] at h; cases h
  | succ n ih =>
    intro v5 v7 σ h
    rw [f_Maps_arrange_L39] at h
    refine G_iload (pc := 39) X (dg dt_Maps_arrange 29 rfl) rfl ?_
    refine G_iload (pc := 41) X (dg dt_Maps_arrange 30 rfl) rfl ?_
    refine G_icmp_ge (pc := 43) 86 X (dg dt_Maps_arrange 31 rfl) (by decide) h (fun h => ?_) (fun h => ?_)
    · exact G_wk (hkx86 v5 σ h) ⟨rfl, ⟨rfl, ⟨rfl, ⟨rfl, ⟨rfl, trivial⟩⟩⟩⟩⟩
    · refine G_iload (pc := 46) X (dg dt_Maps_arrange 32 rfl) rfl ?_
      refine G_if_le (pc := 48) 86 X (dg dt_Maps_arrange 33 rfl) (by decide) h (fun h => ?_) (fun h => ?_)
      · exact G_wk (hkx86 v5 σ h) ⟨rfl, ⟨rfl, ⟨rfl, ⟨rfl, ⟨rfl, trivial⟩⟩⟩⟩⟩
      · refine G_iload (pc := 51) X (dg dt_Maps_arrange 34 rfl) rfl ?_
        refine G_aload_n (pc := 53) 0 X (dg dt_Maps_arrange 35 rfl) rfl rfl ?_
        refine G_getR (pc := 54) 0 X (dg dt_Maps_arrange 36 rfl) fc_1 w_69 rfl (Nat.le_of_ble_eq_true rfl) hm6 rfl ?_
        refine G_alen (pc := 57) 600 X (dg dt_Maps_arrange 37 rfl) hm7 (by decide) (by decide) ?_
        refine G_icmp_ge (pc := 58) 86 X (dg dt_Maps_arrange 38 rfl) (by decide) h (fun h => ?_) (fun h => ?_)
        · exact G_wk (hkx86 v5 σ h) ⟨rfl, ⟨rfl, ⟨rfl, ⟨rfl, ⟨rfl, trivial⟩⟩⟩⟩⟩
        · refine G_aload_n (pc := 61) 0 X (dg dt_Maps_arrange 39 rfl) rfl rfl ?_
          refine G_getR (pc := 62) 0 X (dg dt_Maps_arrange 40 rfl) fc_1 w_69 rfl (Nat.le_of_ble_eq_true rfl) hm6 rfl ?_
          refine G_iload (pc := 65) X (dg dt_Maps_arrange 41 rfl) rfl ?_
          refine G_aload_n (pc := 67) 0 X (dg dt_Maps_arrange 42 rfl) rfl rfl ?_
          refine G_getR (pc := 68) 0 X (dg dt_Maps_arrange 43 rfl) fc_1 w_69 rfl (Nat.le_of_ble_eq_true rfl) hm6 rfl ?_
          refine G_iload (pc := 71) X (dg dt_Maps_arrange 44 rfl) rfl ?_
          refine G_iconst (pc := 73) 1 X (dg dt_Maps_arrange 45 rfl) (by decide) ?_
          refine G_isub (pc := 74) X (dg dt_Maps_arrange 46 rfl) ?_
          refine G_iald (pc := 75) X (dg dt_Maps_arrange 47 rfl) hm7 h (fun r_3 h => ?_)
          refine G_iast (pc := 76) X (dg dt_Maps_arrange 48 rfl) hm7 h (fun σ_4 h => ?_)
          refine G_iinc (pc := 77) (v5 + (-1)) X (dg dt_Maps_arrange 49 rfl) rfl (Nat.le_of_ble_eq_true rfl) rfl rfl ?_
          refine G_iinc (pc := 80) (v7 + 1) X (dg dt_Maps_arrange 50 rfl) rfl (Nat.le_of_ble_eq_true rfl) rfl rfl ?_
          refine G_goto (pc := 83) 39 X (dg dt_Maps_arrange 51 rfl) (by decide) ?_
          exact G_wk (ih (v5 + (-1)) (v7 + 1) σ_4 h) ⟨rfl, ⟨rfl, ⟨rfl, ⟨rfl, ⟨rfl, ⟨rfl, ⟨rfl, trivial⟩⟩⟩⟩⟩⟩⟩
set_option maxRecDepth 100000 in
set_option maxHeartbeats 4000000 in
theorem sC_Maps_arrange_L9 {SH : List Shp} (hm6 : SH[6]? = some (.inl (1, [some (some 7), some (some 8), some (some 9)]))) (hm7 : SH[7]? = some (.inr (.inl (0, 600)))) (hm8 : SH[8]? = some (.inr (.inl (0, 120)))) (hm9 : SH[9]? = some (.inr (.inl (0, 5)))) {θ : Th} {ad : Nat → Nat}  {rv : Unit} {σe : St} (X : Cx θ [] cX4_arrange 8 "Quasigrove$Maps" 0 0)
    {v2 : Int32} (hq : Rq θ (SH, ad) none none σe)  :
    ∀ (n : Nat) (v3 : Int32) (v4 : Int32) (σ : St), f_Maps_arrange_L9 v2 n v3 v4 σ = some (rv, σe) → G θ (0, 0) (SH, ad) σ 9 [some (.ref (ad 6)), none, some (.int v2), some (.int v3), some (.int v4), none, none, none] [] := by
  intro n
  induction n with
  | zero => intro v3 v4 σ h; rw [f_Maps_arrange_L9] at h; cases h
  | succ n ih =>
    intro v3 v4 σ h
    rw [f_Maps_arrange_L9] at h
    refine G_iload (pc := 9) X (dg dt_Maps_arrange 8 rfl) rfl ?_
    refine G_iconst (pc := 11) 5 X (dg dt_Maps_arrange 9 rfl) (by decide) ?_
    refine G_icmp_ge (pc := 12) 116 X (dg dt_Maps_arrange 10 rfl) (by decide) h (fun h => ?_) (fun h => ?_)
    · exact G_vret (pc := 116) X hq (dg dt_Maps_arrange 66 rfl) h
    · refine G_iload_n (pc := 15) 2 X (dg dt_Maps_arrange 11 rfl) rfl rfl ?_
      refine G_iload (pc := 16) X (dg dt_Maps_arrange 12 rfl) rfl ?_
      refine G_iadd (pc := 18) X (dg dt_Maps_arrange 13 rfl) ?_
      refine G_istore (pc := 19) X (dg dt_Maps_arrange 14 rfl) (Nat.le_of_ble_eq_true rfl) rfl ?_
      refine G_iload_n (pc := 21) 3 X (dg dt_Maps_arrange 15 rfl) rfl rfl ?_
      refine G_iload (pc := 22) X (dg dt_Maps_arrange 16 rfl) rfl ?_
      refine G_iconst (pc := 24) 1 X (dg dt_Maps_arrange 17 rfl) (by decide) ?_
      refine G_iadd (pc := 25) X (dg dt_Maps_arrange 18 rfl) ?_
      refine G_irem (pc := 26) X (dg dt_Maps_arrange 19 rfl) h (fun q_1 h => ?_)
      refine G_istore (pc := 27) X (dg dt_Maps_arrange 20 rfl) (Nat.le_of_ble_eq_true rfl) rfl ?_
      refine G_iload_n (pc := 29) 3 X (dg dt_Maps_arrange 21 rfl) rfl rfl ?_
      refine G_iload (pc := 30) X (dg dt_Maps_arrange 22 rfl) rfl ?_
      refine G_iconst (pc := 32) 1 X (dg dt_Maps_arrange 23 rfl) (by decide) ?_
      refine G_iadd (pc := 33) X (dg dt_Maps_arrange 24 rfl) ?_
      refine G_idiv (pc := 34) X (dg dt_Maps_arrange 25 rfl) h (fun q_2 h => ?_)
      refine G_istore_n (pc := 35) 3 X (dg dt_Maps_arrange 26 rfl) rfl (Nat.le_of_ble_eq_true rfl) rfl ?_
      refine G_iconst (pc := 36) 0 X (dg dt_Maps_arrange 27 rfl) (by decide) ?_
      refine G_istore (pc := 37) X (dg dt_Maps_arrange 28 rfl) (Nat.le_of_ble_eq_true rfl) rfl ?_
      refine G_weak (L' := [some (.ref (ad 6)), none, some (.int v2), some (.int q_2), some (.int v4), some (.int (v2 + v4)), some (.int q_1), some (.int 0)]) ⟨rfl, ⟨rfl, ⟨rfl, ⟨rfl, ⟨rfl, ⟨rfl, ⟨rfl, trivial⟩⟩⟩⟩⟩⟩⟩ ?_
      refine sC_Maps_arrange_L39 hm6 hm7 hm8 hm9 X hq  (fun v5_5 σ_6 h => ?_) _ _ _ _ h
      refine G_iload (pc := 86) X (dg dt_Maps_arrange 52 rfl) rfl ?_
      refine jn_go (fun j110_7 => ∀ (σ_8 : St), j110_7 σ_8 = some (rv, σe) → G θ (0, 0) (SH, ad) σ_8 110 [some (.ref (ad 6)), none, some (.int v2), some (.int q_2), some (.int v4), none, none, none] []) h ?_ (fun j110_7 hj110_7 h => ?_)
      · intro σ_8 h
        refine G_iinc (pc := 110) (v4 + 1) X (dg dt_Maps_arrange 64 rfl) rfl (Nat.le_of_ble_eq_true rfl) rfl rfl ?_
        refine G_goto (pc := 113) 9 X (dg dt_Maps_arrange 65 rfl) (by decide) ?_
        exact G_wk (ih q_2 (v4 + 1) σ_8 h) ⟨rfl, ⟨rfl, ⟨rfl, ⟨rfl, trivial⟩⟩⟩⟩
      refine G_if_lt (pc := 88) 110 X (dg dt_Maps_arrange 53 rfl) (by decide) h (fun h => ?_) (fun h => ?_)
      · exact G_wk (hj110_7 σ_6 h) ⟨rfl, ⟨rfl, ⟨rfl, ⟨rfl, trivial⟩⟩⟩⟩
      · refine G_iload (pc := 91) X (dg dt_Maps_arrange 54 rfl) rfl ?_
        refine G_aload_n (pc := 93) 0 X (dg dt_Maps_arrange 55 rfl) rfl rfl ?_
        refine G_getR (pc := 94) 0 X (dg dt_Maps_arrange 56 rfl) fc_1 w_69 rfl (Nat.le_of_ble_eq_true rfl) hm6 rfl ?_
        refine G_alen (pc := 97) 600 X (dg dt_Maps_arrange 57 rfl) hm7 (by decide) (by decide) ?_
        refine G_icmp_ge (pc := 98) 110 X (dg dt_Maps_arrange 58 rfl) (by decide) h (fun h => ?_) (fun h => ?_)
        · exact G_wk (hj110_7 σ_6 h) ⟨rfl, ⟨rfl, ⟨rfl, ⟨rfl, trivial⟩⟩⟩⟩
        · refine G_aload_n (pc := 101) 0 X (dg dt_Maps_arrange 59 rfl) rfl rfl ?_
          refine G_getR (pc := 102) 0 X (dg dt_Maps_arrange 60 rfl) fc_1 w_69 rfl (Nat.le_of_ble_eq_true rfl) hm6 rfl ?_
          refine G_iload (pc := 105) X (dg dt_Maps_arrange 61 rfl) rfl ?_
          refine G_iload (pc := 107) X (dg dt_Maps_arrange 62 rfl) rfl ?_
          refine G_iast (pc := 109) X (dg dt_Maps_arrange 63 rfl) hm7 h (fun σ_9 h => ?_)
          exact G_wk (hj110_7 σ_9 h) ⟨rfl, ⟨rfl, ⟨rfl, ⟨rfl, trivial⟩⟩⟩⟩
set_option maxRecDepth 100000 in
set_option maxHeartbeats 4000000 in
theorem sC_Maps_arrange {SH : List Shp} (hm6 : SH[6]? = some (.inl (1, [some (some 7), some (some 8), some (some 9)]))) (hm7 : SH[7]? = some (.inr (.inl (0, 600)))) (hm8 : SH[8]? = some (.inr (.inl (0, 120)))) (hm9 : SH[9]? = some (.inr (.inl (0, 5)))) (l : Launch) (ad : Nat → Nat) (σ : St) (v1 : Int32)  {rv : Unit} {σe : St} (h : f_Maps_arrange σ v1 = some (rv, σe)) : Rt l [] yX4_arrange cX4_arrange 8 none 0 0 (SH, ad) [.ref (ad 6), .int v1] σ none σe := by
  refine Rt.intro (L := [some (.ref (ad 6)), some (.int v1), none, none, none, none, none, none]) (by decide +kernel) (Nat.le_of_ble_eq_true rfl) rfl (fun θ hl X hq => ?_)
  subst hl
  unfold f_Maps_arrange at h
  refine G_iconst (pc := 0) 5 X (dg dt_Maps_arrange 0 rfl) (by decide) ?_
  refine G_iload_n (pc := 1) 1 X (dg dt_Maps_arrange 1 rfl) rfl rfl ?_
  refine G_imul (pc := 2) X (dg dt_Maps_arrange 2 rfl) ?_
  refine G_istore_n (pc := 3) 2 X (dg dt_Maps_arrange 3 rfl) rfl (Nat.le_of_ble_eq_true rfl) rfl ?_
  refine G_iload_n (pc := 4) 1 X (dg dt_Maps_arrange 4 rfl) rfl rfl ?_
  refine G_istore_n (pc := 5) 3 X (dg dt_Maps_arrange 5 rfl) rfl (Nat.le_of_ble_eq_true rfl) rfl ?_
  refine G_iconst (pc := 6) 0 X (dg dt_Maps_arrange 6 rfl) (by decide) ?_
  refine G_istore (pc := 7) X (dg dt_Maps_arrange 7 rfl) (Nat.le_of_ble_eq_true rfl) rfl ?_
  refine G_weak (L' := [some (.ref (ad 6)), none, some (.int (5 * v1)), some (.int v1), some (.int 0), none, none, none]) ⟨rfl, ⟨rfl, ⟨rfl, ⟨rfl, trivial⟩⟩⟩⟩ ?_
  refine sC_Maps_arrange_L9 hm6 hm7 hm8 hm9 X hq   _ _ _ _ h
set_option maxRecDepth 100000 in
set_option maxHeartbeats 4000000 in
theorem sC_Maps_init_L43 {θ : Th} {SH : List Shp} {cs : Nat × Nat} (hRc : Rc θ cs) (hm6 : SH[6]? = some (.inl (1, [some (some 7), some (some 8), some (some 9)]))) (hm7 : SH[7]? = some (.inr (.inl (0, 600)))) (hm8 : SH[8]? = some (.inr (.inl (0, 120)))) (hm9 : SH[9]? = some (.inr (.inl (0, 5)))) {ad : Nat → Nat}  {rv : Unit} {σe : St} (X : Cx θ [] cX4_init 3 "Quasigrove$Maps" 1 27)
    {v1 : Int32}  {kx79 : St → Option (Unit × St)} (hkx79 : ∀ (σ : St), kx79 σ = some (rv, σe) → G θ cs (SH, ad) σ 79 [some (.ref (ad 6)), some (.int v1), none] []) :
    ∀ (n : Nat) (v2 : Int32) (σ : St), f_Maps_init_L43 v1 kx79 n v2 σ = some (rv, σe) → G θ cs (SH, ad) σ 43 [some (.ref (ad 6)), some (.int v1), some (.int v2)] [] := by
  intro n
  induction n with
  | zero => intro v2 σ h; rw [f_Maps_init_L43] at h; cases h
  | succ n ih =>
    intro v2 σ h
    rw [f_Maps_init_L43] at h
    refine G_iload_n (pc := 43) 2 X (dg dt_C_Maps 24 rfl) rfl rfl ?_
    refine G_iconst (pc := 44) 5 X (dg dt_C_Maps 25 rfl) (by decide) ?_
    refine G_icmp_ge (pc := 45) 79 X (dg dt_C_Maps 26 rfl) (by decide) h (fun h => ?_) (fun h => ?_)
    · exact G_wk (hkx79 σ h) ⟨rfl, ⟨rfl, trivial⟩⟩
    · refine G_aload_n (pc := 48) 0 X (dg dt_C_Maps 27 rfl) rfl rfl ?_
      refine G_getR (pc := 49) 1 X (dg dt_C_Maps 28 rfl) fc_1 w_70 rfl (Nat.le_of_ble_eq_true rfl) hm6 rfl ?_
      refine G_iload_n (pc := 52) 1 X (dg dt_C_Maps 29 rfl) rfl rfl ?_
      refine G_dup2 (pc := 53) X (dg dt_C_Maps 30 rfl) rfl rfl ?_
      refine G_iald (pc := 54) X (dg dt_C_Maps 31 rfl) hm8 h (fun r_4 h => ?_)
      refine G_iconst (pc := 55) 1 X (dg dt_C_Maps 32 rfl) (by decide) ?_
      refine G_iconst (pc := 56) 5 X (dg dt_C_Maps 33 rfl) (by decide) ?_
      refine G_iload_n (pc := 57) 2 X (dg dt_C_Maps 34 rfl) rfl rfl ?_
      refine G_imul (pc := 58) X (dg dt_C_Maps 35 rfl) ?_
      refine G_aload_n (pc := 59) 0 X (dg dt_C_Maps 36 rfl) rfl rfl ?_
      refine G_getR (pc := 60) 0 X (dg dt_C_Maps 37 rfl) fc_1 w_69 rfl (Nat.le_of_ble_eq_true rfl) hm6 rfl ?_
      refine G_iconst (pc := 63) 5 X (dg dt_C_Maps 38 rfl) (by decide) ?_
      refine G_iload_n (pc := 64) 1 X (dg dt_C_Maps 39 rfl) rfl rfl ?_
      refine G_imul (pc := 65) X (dg dt_C_Maps 40 rfl) ?_
      refine G_iload_n (pc := 66) 2 X (dg dt_C_Maps 41 rfl) rfl rfl ?_
      refine G_iadd (pc := 67) X (dg dt_C_Maps 42 rfl) ?_
      refine G_iald (pc := 68) X (dg dt_C_Maps 43 rfl) hm7 h (fun r_5 h => ?_)
      refine G_iadd (pc := 69) X (dg dt_C_Maps 44 rfl) ?_
      refine G_ishl (pc := 70) X (dg dt_C_Maps 45 rfl) ?_
      refine G_ior (pc := 71) X (dg dt_C_Maps 46 rfl) ?_
      refine G_iast (pc := 72) X (dg dt_C_Maps 47 rfl) hm8 h (fun σ_6 h => ?_)
      refine G_iinc (pc := 73) (v2 + 1) X (dg dt_C_Maps 48 rfl) rfl (Nat.le_of_ble_eq_true rfl) rfl rfl ?_
      refine G_goto (pc := 76) 43 X (dg dt_C_Maps 49 rfl) (by decide) ?_
      exact G_wk (ih (v2 + 1) σ_6 h) ⟨rfl, ⟨rfl, ⟨rfl, trivial⟩⟩⟩
set_option maxRecDepth 100000 in
set_option maxHeartbeats 4000000 in
theorem sC_Maps_init_L30 {θ : Th} {SH : List Shp} {cs : Nat × Nat} (hRc : Rc θ cs) (hm6 : SH[6]? = some (.inl (1, [some (some 7), some (some 8), some (some 9)]))) (hm7 : SH[7]? = some (.inr (.inl (0, 600)))) (hm8 : SH[8]? = some (.inr (.inl (0, 120)))) (hm9 : SH[9]? = some (.inr (.inl (0, 5)))) {ad : Nat → Nat}  {rv : Unit} {σe : St} (X : Cx θ [] cX4_init 3 "Quasigrove$Maps" 1 27)
      {kx85 : St → Option (Unit × St)} (hkx85 : ∀ (σ : St), kx85 σ = some (rv, σe) → G θ cs (SH, ad) σ 85 [none, none, none] []) :
    ∀ (n : Nat) (v1 : Int32) (σ : St), f_Maps_init_L30 kx85 n v1 σ = some (rv, σe) → G θ cs (SH, ad) σ 30 [some (.ref (ad 6)), some (.int v1), none] [] := by
  intro n
  induction n with
  | zero => intro v1 σ h; rw [f_Maps_init_L30] at h; cases h
  | succ n ih =>
    intro v1 σ h
    rw [f_Maps_init_L30] at h
    refine G_iload_n (pc := 30) 1 X (dg dt_C_Maps 16 rfl) rfl rfl ?_
    refine G_bipush (pc := 31) 120 X (dg dt_C_Maps 17 rfl) (by decide) ?_
    refine G_icmp_ge (pc := 33) 85 X (dg dt_C_Maps 18 rfl) (by decide) h (fun h => ?_) (fun h => ?_)
    · exact G_wk (hkx85 σ h) trivial
    · refine G_aload_n (pc := 36) 0 X (dg dt_C_Maps 19 rfl) rfl rfl ?_
      refine G_iload_n (pc := 37) 1 X (dg dt_C_Maps 20 rfl) rfl rfl ?_
      obtain ⟨r_2, σ_3, hc_1, h⟩ := cal_go h
      refine G_callV (pc := 38) (S := []) [.int v1] nosub X  (dg dt_C_Maps 21 rfl) cb_Maps_arrange cv_Maps_arrange w_65 (sC_Maps_arrange hm6 hm7 hm8 hm9 _ ad _ _ hc_1) rfl ⟨Nat.le_of_ble_eq_true rfl, Nat.le_of_ble_eq_true rfl⟩ hm6 rfl (Nat.le_of_ble_eq_true rfl) hRc ?_
      refine G_iconst (pc := 41) 0 X (dg dt_C_Maps 22 rfl) (by decide) ?_
      refine G_istore_n (pc := 42) 2 X (dg dt_C_Maps 23 rfl) rfl (Nat.le_of_ble_eq_true rfl) rfl ?_
      refine G_weak (L' := [some (.ref (ad 6)), some (.int v1), some (.int 0)]) ⟨rfl, ⟨rfl, ⟨rfl, trivial⟩⟩⟩ ?_
      refine sC_Maps_init_L43 hRc hm6 hm7 hm8 hm9 X  (fun σ_7 h => ?_) _ _ _ h
      refine G_iinc (pc := 79) (v1 + 1) X (dg dt_C_Maps 50 rfl) rfl (Nat.le_of_ble_eq_true rfl) rfl rfl ?_
      refine G_goto (pc := 82) 30 X (dg dt_C_Maps 51 rfl) (by decide) ?_
      exact G_wk (ih (v1 + 1) σ_7 h) ⟨rfl, ⟨rfl, trivial⟩⟩
set_option maxRecDepth 100000 in
set_option maxHeartbeats 4000000 in
theorem s_C_MapsLoops {θ : Th} {SH SH0 : List Shp} {cs : Nat × Nat} {ad ad0 : Nat → Nat} {σ σm : St} (X : Cx θ [] cX4_init 3 "Quasigrove$Maps" 1 27) (hRc : Rc θ cs) (hq : Cq θ SH0 ad0 SH σm cs.1 cs.2) (hm6 : SH[6]? = some (.inl (1, [some (some 7), some (some 8), some (some 9)]))) (hm7 : SH[7]? = some (.inr (.inl (0, 600)))) (hm8 : SH[8]? = some (.inr (.inl (0, 120)))) (hm9 : SH[9]? = some (.inr (.inl (0, 5)))) (ha : ∀ i, i < SH0.length → ad i = ad0 i) {q6 : Nat} (hq6 : ad 6 = q6) (h : f_Maps_init σ = some ((), σm)) : G θ cs (SH, ad) σ 30 [some (.ref q6), some (.int 0), none] [] := by
  subst hq6
  unfold f_Maps_init at h
  refine G_weak (L' := [some (.ref (ad 6)), some (.int 0), none]) ⟨rfl, ⟨rfl, trivial⟩⟩ ?_
  refine sC_Maps_init_L30 hRc hm6 hm7 hm8 hm9 X  (fun σ_8 h => ?_) _ _ _ h
  exact (by cases h; exact G_cret (pc := 85) X hq (dg dt_C_Maps 52 rfl) ha)
