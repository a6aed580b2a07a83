set_option maxRecDepth 100000 in
set_option maxHeartbeats 4000000 in
theorem s_Move_packed (l : Launch) (ad : Nat → Nat) (σ : St) (v0 : Int32) (v1 : Int32) (v2 : Int32)  {rv : Int32} (h : f_Move_packed σ v0 v1 v2 = some rv) : Rt l [] yX6_packed cX6_packed 3 (some .int) 0 0 (g_SH, ad) [.int v0, .int v1, .int v2] σ (some (.int rv)) σ := by
  refine Rt.intro (L := [some (.int v0), some (.int v1), some (.int v2)]) (by decide +kernel) (Nat.le_of_ble_eq_true rfl) rfl (fun θ hl X hq => ?_)
  subst hl
  unfold f_Move_packed at h
  refine G_bipush (pc := 0) 10 X (dg dt_Move_packed 0 rfl) (by decide) ?_
  refine G_iconst (pc := 2) 5 X (dg dt_Move_packed 1 rfl) (by decide) ?_
  refine G_iload_n (pc := 3) 0 X (dg dt_Move_packed 2 rfl) rfl rfl ?_
  refine G_imul (pc := 4) X (dg dt_Move_packed 3 rfl) ?_
  refine G_iload_n (pc := 5) 1 X (dg dt_Move_packed 4 rfl) rfl rfl ?_
  refine G_iadd (pc := 6) X (dg dt_Move_packed 5 rfl) ?_
  refine G_imul (pc := 7) X (dg dt_Move_packed 6 rfl) ?_
  refine G_iload_n (pc := 8) 2 X (dg dt_Move_packed 7 rfl) rfl rfl ?_
  refine G_iadd (pc := 9) X (dg dt_Move_packed 8 rfl) ?_
  exact G_iretp (pc := 10) X hq (dg dt_Move_packed 9 rfl) h
set_option maxRecDepth 100000 in
set_option maxHeartbeats 4000000 in
theorem s_Move_row (l : Launch) (ad : Nat → Nat) (σ : St) (v0 : Int32)  {rv : Int32} (h : f_Move_row σ v0 = some rv) : Rt l [] yX6_row cX6_row 1 (some .int) 0 0 (g_SH, ad) [.int v0] σ (some (.int rv)) σ := by
  refine Rt.intro (L := [some (.int v0)]) (by decide +kernel) (Nat.le_of_ble_eq_true rfl) rfl (fun θ hl X hq => ?_)
  subst hl
  unfold f_Move_row at h
  refine G_iload_n (pc := 0) 0 X (dg dt_Move_row 0 rfl) rfl rfl ?_
  refine G_bipush (pc := 1) 50 X (dg dt_Move_row 1 rfl) (by decide) ?_
  refine G_idiv (pc := 3) X (dg dt_Move_row 2 rfl) h (fun q_1 h => ?_)
  exact G_iretp (pc := 4) X hq (dg dt_Move_row 3 rfl) h
set_option maxRecDepth 100000 in
set_option maxHeartbeats 4000000 in
theorem s_Move_column (l : Launch) (ad : Nat → Nat) (σ : St) (v0 : Int32)  {rv : Int32} (h : f_Move_column σ v0 = some rv) : Rt l [] yX6_column cX6_column 1 (some .int) 0 0 (g_SH, ad) [.int v0] σ (some (.int rv)) σ := by
  refine Rt.intro (L := [some (.int v0)]) (by decide +kernel) (Nat.le_of_ble_eq_true rfl) rfl (fun θ hl X hq => ?_)
  subst hl
  unfold f_Move_column at h
  refine G_iload_n (pc := 0) 0 X (dg dt_Move_column 0 rfl) rfl rfl ?_
  refine G_bipush (pc := 1) 10 X (dg dt_Move_column 1 rfl) (by decide) ?_
  refine G_idiv (pc := 3) X (dg dt_Move_column 2 rfl) h (fun q_1 h => ?_)
  refine G_iconst (pc := 4) 5 X (dg dt_Move_column 3 rfl) (by decide) ?_
  refine G_irem (pc := 5) X (dg dt_Move_column 4 rfl) h (fun q_2 h => ?_)
  exact G_iretp (pc := 6) X hq (dg dt_Move_column 5 rfl) h
set_option maxRecDepth 100000 in
set_option maxHeartbeats 4000000 in
theorem s_Move_sign (l : Launch) (ad : Nat → Nat) (σ : St) (v0 : Int32)  {rv : Int32} (h : f_Move_sign σ v0 = some rv) : Rt l [] yX6_sign cX6_sign 1 (some .int) 0 0 (g_SH, ad) [.int v0] σ (some (.int rv)) σ := by
  refine Rt.intro (L := [some (.int v0)]) (by decide +kernel) (Nat.le_of_ble_eq_true rfl) rfl (fun θ hl X hq => ?_)
  subst hl
  unfold f_Move_sign at h
  refine G_iload_n (pc := 0) 0 X (dg dt_Move_sign 0 rfl) rfl rfl ?_
  refine G_bipush (pc := 1) 10 X (dg dt_Move_sign 1 rfl) (by decide) ?_
  refine G_irem (pc := 3) X (dg dt_Move_sign 2 rfl) h (fun q_1 h => ?_)
  exact G_iretp (pc := 4) X hq (dg dt_Move_sign 3 rfl) h
set_option maxRecDepth 100000 in
set_option maxHeartbeats 4000000 in
theorem s_Move_told (l : Launch) (ad : Nat → Nat) (σ : St) (v0 : Int32) (v1 : Int32)  {rv : Int32} (h : f_Move_told σ v0 v1 = some rv) : Rt l [] yX6_told cX6_told 2 (some .int) 1 20 (g_SH, ad) [.int v0, .int v1] σ (some (.int rv)) σ := by
  refine Rt.intro (L := [some (.int v0), some (.int v1)]) (by decide +kernel) (Nat.le_of_ble_eq_true rfl) rfl (fun θ hl X hq => ?_)
  subst hl
  unfold f_Move_told at h
  refine G_iload_n (pc := 0) 0 X (dg dt_Move_told 0 rfl) rfl rfl ?_
  refine G_iconst (pc := 1) (-1) X (dg dt_Move_told 1 rfl) (by decide) ?_
  refine G_icmp_ne (pc := 2) 9 X (dg dt_Move_told 2 rfl) (by decide) h (fun h => ?_) (fun h => ?_)
  · refine G_bipush (pc := 9) 10 X (dg dt_Move_told 5 rfl) (by decide) ?_
    refine G_iload_n (pc := 11) 1 X (dg dt_Move_told 6 rfl) rfl rfl ?_
    refine G_iload_n (pc := 12) 0 X (dg dt_Move_told 7 rfl) rfl rfl ?_
    obtain ⟨r_2, hc_1, h⟩ := cap_go h
    refine G_callS (pc := 13) (S := [.int v1, .int 10]) [.int v0] nosub X  (dg dt_Move_told 8 rfl) cb_Move_row w_437 w_436 (s_Move_row _ ad _ _ hc_1) rfl ⟨Nat.le_of_ble_eq_true rfl, Nat.le_of_ble_eq_true rfl⟩  (Nat.le_of_ble_eq_true rfl) Rc0 ?_
    refine G_imul (pc := 16) X (dg dt_Move_told 9 rfl) ?_
    refine G_iload_n (pc := 17) 0 X (dg dt_Move_told 10 rfl) rfl rfl ?_
    obtain ⟨r_4, hc_3, h⟩ := cap_go h
    refine G_callS (pc := 18) (S := [.int (v1 * r_2), .int 10]) [.int v0] nosub X  (dg dt_Move_told 11 rfl) cb_Move_column w_440 w_439 (s_Move_column _ ad _ _ hc_3) rfl ⟨Nat.le_of_ble_eq_true rfl, Nat.le_of_ble_eq_true rfl⟩  (Nat.le_of_ble_eq_true rfl) Rc0 ?_
    refine G_iadd (pc := 21) X (dg dt_Move_told 12 rfl) ?_
    refine G_imul (pc := 22) X (dg dt_Move_told 13 rfl) ?_
    refine G_iload_n (pc := 23) 0 X (dg dt_Move_told 14 rfl) rfl rfl ?_
    obtain ⟨r_6, hc_5, h⟩ := cap_go h
    refine G_callS (pc := 24) (S := [.int (10 * ((v1 * r_2) + r_4))]) [.int v0] nosub X  (dg dt_Move_told 15 rfl) cb_Move_sign w_443 w_442 (s_Move_sign _ ad _ _ hc_5) rfl ⟨Nat.le_of_ble_eq_true rfl, Nat.le_of_ble_eq_true rfl⟩  (Nat.le_of_ble_eq_true rfl) Rc0 ?_
    refine G_iadd (pc := 27) X (dg dt_Move_told 16 rfl) ?_
    exact G_iretp (pc := 28) X hq (dg dt_Move_told 17 rfl) h
  · refine G_iconst (pc := 5) (-1) X (dg dt_Move_told 3 rfl) (by decide) ?_
    refine G_goto (pc := 6) 28 X (dg dt_Move_told 4 rfl) (by decide) ?_
    exact G_iretp (pc := 28) X hq (dg dt_Move_told 17 rfl) h
set_option maxRecDepth 100000 in
set_option maxHeartbeats 4000000 in
theorem s_Maps_arrange_L39 {θ : Th} {ad : Nat → Nat}  {rv : Unit} {σe : St} (X : Cx θ [] cX4_arrange 8 "Quasigrove$Maps" 0 0)
    {v2 : Int32} {v3 : Int32} {v4 : Int32} {v6 : Int32} (hq : Rq θ (g_SH, ad) none none σe) {kx86 : Int32 → St → Option (Unit × St)} (hkx86 : ∀ (v5 : Int32) (σ : St), kx86 v5 σ = some (rv, σe) → G θ (0, 0) (g_SH, ad) σ 86 [some (.ref (ad 6)), none, some (.int v2), some (.int v3), some (.int v4), some (.int v5), none, none] []) :
    ∀ (n : Nat) (v5 : Int32) (v7 : Int32) (σ : St), f_Maps_arrange_L39 v2 v3 v4 v6 kx86 n v5 v7 σ = some (rv, σe) → G θ (0, 0) (g_SH, ad) σ 39 [some (.ref (ad 6)), none, some (.int v2), some (.int v3), some (.int v4), some (.int v5), some (.int v6), some (.int v7)] [] := by
  intro n
  induction n with
  | zero => intro v5 v7 σ h; rw [f_Maps_arrange_L39] at h; cases h
  | succ n ih =>
    intro v5 v7 σ h
    rw [f_Maps_arrange_L39] at h
    refine G_iload (pc := 39) X (dg dt_Maps_arrange 29 rfl) rfl ?_
    refine G_iload (pc := 41) X (dg dt_Maps_arrange 30 rfl) rfl ?_
    refine G_icmp_ge (pc := 43) 86 X (dg dt_Maps_arrange 31 rfl) (by decide) h (fun h => ?_) (fun h => ?_)
    · exact G_wk (hkx86 v5 σ h) ⟨rfl, ⟨rfl, ⟨rfl, ⟨rfl, ⟨rfl, trivial⟩⟩⟩⟩⟩
    · refine G_iload (pc := 46) X (dg dt_Maps_arrange 32 rfl) rfl ?_
      refine G_if_le (pc := 48) 86 X (dg dt_Maps_arrange 33 rfl) (by decide) h (fun h => ?_) (fun h => ?_)
      · exact G_wk (hkx86 v5 σ h) ⟨rfl, ⟨rfl, ⟨rfl, ⟨rfl, ⟨rfl, trivial⟩⟩⟩⟩⟩
      · refine G_iload (pc := 51) X (dg dt_Maps_arrange 34 rfl) rfl ?_
        refine G_aload_n (pc := 53) 0 X (dg dt_Maps_arrange 35 rfl) rfl rfl ?_
        refine G_getR (pc := 54) 0 X (dg dt_Maps_arrange 36 rfl) fc_1 w_69 rfl (Nat.le_of_ble_eq_true rfl) sh_6 rfl ?_
        refine G_alen (pc := 57) 600 X (dg dt_Maps_arrange 37 rfl) sh_7 (by decide) (by decide) ?_
        refine G_icmp_ge (pc := 58) 86 X (dg dt_Maps_arrange 38 rfl) (by decide) h (fun h => ?_) (fun h => ?_)
        · exact G_wk (hkx86 v5 σ h) ⟨rfl, ⟨rfl, ⟨rfl, ⟨rfl, ⟨rfl, trivial⟩⟩⟩⟩⟩
        · refine G_aload_n (pc := 61) 0 X (dg dt_Maps_arrange 39 rfl) rfl rfl ?_
          refine G_getR (pc := 62) 0 X (dg dt_Maps_arrange 40 rfl) fc_1 w_69 rfl (Nat.le_of_ble_eq_true rfl) sh_6 rfl ?_
          refine G_iload (pc := 65) X (dg dt_Maps_arrange 41 rfl) rfl ?_
          refine G_aload_n (pc := 67) 0 X (dg dt_Maps_arrange 42 rfl) rfl rfl ?_
          refine G_getR (pc := 68) 0 X (dg dt_Maps_arrange 43 rfl) fc_1 w_69 rfl (Nat.le_of_ble_eq_true rfl) sh_6 rfl ?_
          refine G_iload (pc := 71) X (dg dt_Maps_arrange 44 rfl) rfl ?_
          refine G_iconst (pc := 73) 1 X (dg dt_Maps_arrange 45 rfl) (by decide) ?_
          refine G_isub (pc := 74) X (dg dt_Maps_arrange 46 rfl) ?_
          refine G_iald (pc := 75) X (dg dt_Maps_arrange 47 rfl) sh_7 h (fun r_3 h => ?_)
          refine G_iast (pc := 76) X (dg dt_Maps_arrange 48 rfl) sh_7 h (fun σ_4 h => ?_)
          refine G_iinc (pc := 77) (v5 + (-1)) X (dg dt_Maps_arrange 49 rfl) rfl (Nat.le_of_ble_eq_true rfl) rfl rfl ?_
          refine G_iinc (pc := 80) (v7 + 1) X (dg dt_Maps_arrange 50 rfl) rfl (Nat.le_of_ble_eq_true rfl) rfl rfl ?_
          refine G_goto (pc := 83) 39 X (dg dt_Maps_arrange 51 rfl) (by decide) ?_
          exact G_wk (ih (v5 + (-1)) (v7 + 1) σ_4 h) ⟨rfl, ⟨rfl, ⟨rfl, ⟨rfl, ⟨rfl, ⟨rfl, ⟨rfl, trivial⟩⟩⟩⟩⟩⟩⟩
set_option maxRecDepth 100000 in
set_option maxHeartbeats 4000000 in
theorem s_Maps_arrange_L9 {θ : Th} {ad : Nat → Nat}  {rv : Unit} {σe : St} (X : Cx θ [] cX4_arrange 8 "Quasigrove$Maps" 0 0)
    {v2 : Int32} (hq : Rq θ (g_SH, ad) none none σe)  :
    ∀ (n : Nat) (v3 : Int32) (v4 : Int32) (σ : St), f_Maps_arrange_L9 v2 n v3 v4 σ = some (rv, σe) → G θ (0, 0) (g_SH, ad) σ 9 [some (.ref (ad 6)), none, some (.int v2), some (.int v3), some (.int v4), none, none, none] [] := by
  intro n
  induction n with
  | zero => intro v3 v4 σ h; rw [f_Maps_arrange_L9] at h; cases h
  | succ n ih =>
    intro v3 v4 σ h
    rw [f_Maps_arrange_L9] at h
    refine G_iload (pc := 9) X (dg dt_Maps_arrange 8 rfl) rfl ?_
    refine G_iconst (pc := 11) 5 X (dg dt_Maps_arrange 9 rfl) (by decide) ?_
    refine G_icmp_ge (pc := 12) 116 X (dg dt_Maps_arrange 10 rfl) (by decide) h (fun h => ?_) (fun h => ?_)
    · exact G_vret (pc := 116) X hq (dg dt_Maps_arrange 66 rfl) h
    · refine G_iload_n (pc := 15) 2 X (dg dt_Maps_arrange 11 rfl) rfl rfl ?_
      refine G_iload (pc := 16) X (dg dt_Maps_arrange 12 rfl) rfl ?_
      refine G_iadd (pc := 18) X (dg dt_Maps_arrange 13 rfl) ?_
      refine G_istore (pc := 19) X (dg dt_Maps_arrange 14 rfl) (Nat.le_of_ble_eq_true rfl) rfl ?_
      refine G_iload_n (pc := 21) 3 X (dg dt_Maps_arrange 15 rfl) rfl rfl ?_
      refine G_iload (pc := 22) X (dg dt_Maps_arrange 16 rfl) rfl ?_
      refine G_iconst (pc := 24) 1 X (dg dt_Maps_arrange 17 rfl) (by decide) ?_
      refine G_iadd (pc := 25) X (dg dt_Maps_arrange 18 rfl) ?_
      refine G_irem (pc := 26) X (dg dt_Maps_arrange 19 rfl) h (fun q_1 h => ?_)
      refine G_istore (pc := 27) X (dg dt_Maps_arrange 20 rfl) (Nat.le_of_ble_eq_true rfl) rfl ?_
      refine G_iload_n (pc := 29) 3 X (dg dt_Maps_arrange 21 rfl) rfl rfl ?_
      refine G_iload (pc := 30) X (dg dt_Maps_arrange 22 rfl) rfl ?_
      refine G_iconst (pc := 32) 1 X (dg dt_Maps_arrange 23 rfl) (by decide) ?_
      refine G_iadd (pc := 33) X (dg dt_Maps_arrange 24 rfl) ?_
      refine G_idiv (pc := 34) X (dg dt_Maps_arrange 25 rfl) h (fun q_2 h => ?_)
      refine G_istore_n (pc := 35) 3 X (dg dt_Maps_arrange 26 rfl) rfl (Nat.le_of_ble_eq_true rfl) rfl ?_
      refine G_iconst (pc := 36) 0 X (dg dt_Maps_arrange 27 rfl) (by decide) ?_
      refine G_istore (pc := 37) X (dg dt_Maps_arrange 28 rfl) (Nat.le_of_ble_eq_true rfl) rfl ?_
      refine G_weak (L' := [some (.ref (ad 6)), none, some (.int v2), some (.int q_2), some (.int v4), some (.int (v2 + v4)), some (.int q_1), some (.int 0)]) ⟨rfl, ⟨rfl, ⟨rfl, ⟨rfl, ⟨rfl, ⟨rfl, ⟨rfl, trivial⟩⟩⟩⟩⟩⟩⟩ ?_
      refine s_Maps_arrange_L39  X hq  (fun v5_5 σ_6 h => ?_) _ _ _ _ h
      refine G_iload (pc := 86) X (dg dt_Maps_arrange 52 rfl) rfl ?_
      refine jn_go (fun j110_7 => ∀ (σ_8 : St), j110_7 σ_8 = some (rv, σe) → G θ (0, 0) (g_SH, ad) σ_8 110 [some (.ref (ad 6)), none, some (.int v2), some (.int q_2), some (.int v4), none, none, none] []) h ?_ (fun j110_7 hj110_7 h => ?_)
      · intro σ_8 h
        refine G_iinc (pc := 110) (v4 + 1) X (dg dt_Maps_arrange 64 rfl) rfl (Nat.le_of_ble_eq_true rfl) rfl rfl ?_
        refine G_goto (pc := 113) 9 X (dg dt_Maps_arrange 65 rfl) (by decide) ?_
        exact G_wk (ih q_2 (v4 + 1) σ_8 h) ⟨rfl, ⟨rfl, ⟨rfl, ⟨rfl, trivial⟩⟩⟩⟩
      refine G_if_lt (pc := 88) 110 X (dg dt_Maps_arrange 53 rfl) (by decide) h (fun h => ?_) (fun h => ?_)
      · exact G_wk (hj110_7 σ_6 h) ⟨rfl, ⟨rfl, ⟨rfl, ⟨rfl, trivial⟩⟩⟩⟩
      · refine G_iload (pc := 91) X (dg dt_Maps_arrange 54 rfl) rfl ?_
        refine G_aload_n (pc := 93) 0 X (dg dt_Maps_arrange 55 rfl) rfl rfl ?_
        refine G_getR (pc := 94) 0 X (dg dt_Maps_arrange 56 rfl) fc_1 w_69 rfl (Nat.le_of_ble_eq_true rfl) sh_6 rfl ?_
        refine G_alen (pc := 97) 600 X (dg dt_Maps_arrange 57 rfl) sh_7 (by decide) (by decide) ?_
        refine G_icmp_ge (pc := 98) 110 X (dg dt_Maps_arrange 58 rfl) (by decide) h (fun h => ?_) (fun h => ?_)
        · exact G_wk (hj110_7 σ_6 h) ⟨rfl, ⟨rfl, ⟨rfl, ⟨rfl, trivial⟩⟩⟩⟩
        · refine G_aload_n (pc := 101) 0 X (dg dt_Maps_arrange 59 rfl) rfl rfl ?_
          refine G_getR (pc := 102) 0 X (dg dt_Maps_arrange 60 rfl) fc_1 w_69 rfl (Nat.le_of_ble_eq_true rfl) sh_6 rfl ?_
          refine G_iload (pc := 105) X (dg dt_Maps_arrange 61 rfl) rfl ?_
          refine G_iload (pc := 107) X (dg dt_Maps_arrange 62 rfl) rfl ?_
          refine G_iast (pc := 109) X (dg dt_Maps_arrange 63 rfl) sh_7 h (fun σ_9 h => ?_)
          exact G_wk (hj110_7 σ_9 h) ⟨rfl, ⟨rfl, ⟨rfl, ⟨rfl, trivial⟩⟩⟩⟩
set_option maxRecDepth 100000 in
set_option maxHeartbeats 4000000 in
theorem s_Maps_arrange (l : Launch) (ad : Nat → Nat) (σ : St) (v1 : Int32)  {rv : Unit} {σe : St} (h : f_Maps_arrange σ v1 = some (rv, σe)) : Rt l [] yX4_arrange cX4_arrange 8 none 0 0 (g_SH, ad) [.ref (ad 6), .int v1] σ none σe := by
  refine Rt.intro (L := [some (.ref (ad 6)), some (.int v1), none, none, none, none, none, none]) (by decide +kernel) (Nat.le_of_ble_eq_true rfl) rfl (fun θ hl X hq => ?_)
  subst hl
  unfold f_Maps_arrange at h
  refine G_iconst (pc := 0) 5 X (dg dt_Maps_arrange 0 rfl) (by decide) ?_
  refine G_iload_n (pc := 1) 1 X (dg dt_Maps_arrange 1 rfl) rfl rfl ?_
  refine G_imul (pc := 2) X (dg dt_Maps_arrange 2 rfl) ?_
  refine G_istore_n (pc := 3) 2 X (dg dt_Maps_arrange 3 rfl) rfl (Nat.le_of_ble_eq_true rfl) rfl ?_
  refine G_iload_n (pc := 4) 1 X (dg dt_Maps_arrange 4 rfl) rfl rfl ?_
  refine G_istore_n (pc := 5) 3 X (dg dt_Maps_arrange 5 rfl) rfl (Nat.le_of_ble_eq_true rfl) rfl ?_
  refine G_iconst (pc := 6) 0 X (dg dt_Maps_arrange 6 rfl) (by decide) ?_
  refine G_istore (pc := 7) X (dg dt_Maps_arrange 7 rfl) (Nat.le_of_ble_eq_true rfl) rfl ?_
  refine G_weak (L' := [some (.ref (ad 6)), none, some (.int (5 * v1)), some (.int v1), some (.int 0), none, none, none]) ⟨rfl, ⟨rfl, ⟨rfl, ⟨rfl, trivial⟩⟩⟩⟩ ?_
  refine s_Maps_arrange_L9  X hq   _ _ _ _ h
