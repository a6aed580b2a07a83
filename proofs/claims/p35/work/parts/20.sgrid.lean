set_option maxRecDepth 100000 in
set_option maxHeartbeats 4000000 in
theorem s_Grid_isLine (l : Launch) (ad : Nat → Nat) (σ : St) (v0 : Nat) (v1 : Int32) (hg_v0 : gok v0) {rv : Int32} (h : f_Grid_isLine σ v0 v1 = some rv) : Rt l [] yX2_isLine cX2_isLine 2 (some .boolean) 0 0 (g_SH, ad) [.ref (ad v0), .int v1] σ (some (.int rv)) σ := by
  refine Rt.intro (L := [some (.ref (ad v0)), some (.int v1)]) (by decide +kernel) (Nat.le_of_ble_eq_true rfl) rfl (fun θ hl X hq => ?_)
  subst hl
  unfold f_Grid_isLine at h
  refine G_iload_n (pc := 0) 1 X (dg dt_Grid_isLine 0 rfl) rfl rfl ?_
  refine jn_go (fun j21_1 => j21_1 = some rv → G θ (0, 0) (g_SH, ad) σ 21 [none, none] []) h ?_ (fun j21_1 hj21_1 h => ?_)
  · intro  h
    refine G_iconst (pc := 21) 0 X (dg dt_Grid_isLine 11 rfl) (by decide) ?_
    exact G_zretlp (pc := 22) X hq (dg dt_Grid_isLine 12 rfl) rfl h
  refine G_if_lt (pc := 1) 21 X (dg dt_Grid_isLine 1 rfl) (by decide) h (fun h => ?_) (fun h => ?_)
  · exact G_wk (hj21_1  h) trivial
  · refine G_iload_n (pc := 4) 1 X (dg dt_Grid_isLine 2 rfl) rfl rfl ?_
    refine G_aload_n (pc := 5) 0 X (dg dt_Grid_isLine 3 rfl) rfl rfl ?_
    refine G_getI (pc := 6) 3 X (dg dt_Grid_isLine 4 rfl) fc_0 w_42 rfl (Nat.le_of_ble_eq_true rfl) (sh_g hg_v0) rfl ?_
    refine G_icmp_ge (pc := 9) 21 X (dg dt_Grid_isLine 5 rfl) (by decide) h (fun h => ?_) (fun h => ?_)
    · exact G_wk (hj21_1  h) trivial
    · refine G_iload_n (pc := 12) 1 X (dg dt_Grid_isLine 6 rfl) rfl rfl ?_
      refine G_iconst (pc := 13) 5 X (dg dt_Grid_isLine 7 rfl) (by decide) ?_
      refine G_icmp_ge (pc := 14) 21 X (dg dt_Grid_isLine 8 rfl) (by decide) h (fun h => ?_) (fun h => ?_)
      · exact G_wk (hj21_1  h) trivial
      · refine G_iconst (pc := 17) 1 X (dg dt_Grid_isLine 9 rfl) (by decide) ?_
        refine G_goto (pc := 18) 22 X (dg dt_Grid_isLine 10 rfl) (by decide) ?_
        exact G_zretlp (pc := 22) X hq (dg dt_Grid_isLine 12 rfl) rfl h
set_option maxRecDepth 100000 in
set_option maxHeartbeats 4000000 in
theorem s_Grid_has (l : Launch) (ad : Nat → Nat) (σ : St) (v0 : Nat) (v1 : Int32) (v2 : Int32) (hg_v0 : gok v0) {rv : Int32} (h : f_Grid_has σ v0 v1 v2 = some rv) : Rt l [] yX2_has cX2_has 3 (some .boolean) 1 21 (g_SH, ad) [.ref (ad v0), .int v1, .int v2] σ (some (.int rv)) σ := by
  refine Rt.intro (L := [some (.ref (ad v0)), some (.int v1), some (.int v2)]) (by decide +kernel) (Nat.le_of_ble_eq_true rfl) rfl (fun θ hl X hq => ?_)
  subst hl
  unfold f_Grid_has at h
  refine G_aload_n (pc := 0) 0 X (dg dt_Grid_has 0 rfl) rfl rfl ?_
  refine G_iload_n (pc := 1) 1 X (dg dt_Grid_has 1 rfl) rfl rfl ?_
  obtain ⟨r_2, hc_1, h⟩ := cap_go h
  refine G_callV (pc := 2) (S := []) [.int v1] nosub X  (dg dt_Grid_has 2 rfl) cb_Grid_isLine cv_Grid_isLine w_340 (s_Grid_isLine _ ad _ _ _ hg_v0 hc_1) rfl ⟨Nat.le_of_ble_eq_true rfl, Nat.le_of_ble_eq_true rfl⟩ (sh_g hg_v0) rfl (Nat.le_of_ble_eq_true rfl) Rc0 ?_
  refine jn_go (fun j20_3 => j20_3 = some rv → G θ (0, 0) (g_SH, ad) σ 20 [none, none, none] []) h ?_ (fun j20_3 hj20_3 h => ?_)
  · intro  h
    refine G_iconst (pc := 20) 0 X (dg dt_Grid_has 10 rfl) (by decide) ?_
    exact G_zretlp (pc := 21) X hq (dg dt_Grid_has 11 rfl) rfl h
  refine G_if_eq (pc := 5) 20 X (dg dt_Grid_has 3 rfl) (by decide) h (fun h => ?_) (fun h => ?_)
  · exact G_wk (hj20_3  h) trivial
  · refine G_aload_n (pc := 8) 0 X (dg dt_Grid_has 4 rfl) rfl rfl ?_
    refine G_iload_n (pc := 9) 2 X (dg dt_Grid_has 5 rfl) rfl rfl ?_
    obtain ⟨r_5, hc_4, h⟩ := cap_go h
    refine G_callV (pc := 10) (S := []) [.int v2] nosub X  (dg dt_Grid_has 6 rfl) cb_Grid_isLine cv_Grid_isLine w_340 (s_Grid_isLine _ ad _ _ _ hg_v0 hc_4) rfl ⟨Nat.le_of_ble_eq_true rfl, Nat.le_of_ble_eq_true rfl⟩ (sh_g hg_v0) rfl (Nat.le_of_ble_eq_true rfl) Rc0 ?_
    refine G_if_eq (pc := 13) 20 X (dg dt_Grid_has 7 rfl) (by decide) h (fun h => ?_) (fun h => ?_)
    · exact G_wk (hj20_3  h) trivial
    · refine G_iconst (pc := 16) 1 X (dg dt_Grid_has 8 rfl) (by decide) ?_
      refine G_goto (pc := 17) 21 X (dg dt_Grid_has 9 rfl) (by decide) ?_
      exact G_zretlp (pc := 21) X hq (dg dt_Grid_has 11 rfl) rfl h
set_option maxRecDepth 100000 in
set_option maxHeartbeats 4000000 in
theorem s_Grid_signAt (l : Launch) (ad : Nat → Nat) (σ : St) (v0 : Nat) (v1 : Int32) (v2 : Int32) (hg_v0 : gok v0) {rv : Int32} (h : f_Grid_signAt σ v0 v1 v2 = some rv) : Rt l [] yX2_signAt cX2_signAt 3 (some .int) 2 43 (g_SH, ad) [.ref (ad v0), .int v1, .int v2] σ (some (.int rv)) σ := by
  refine Rt.intro (L := [some (.ref (ad v0)), some (.int v1), some (.int v2)]) (by decide +kernel) (Nat.le_of_ble_eq_true rfl) rfl (fun θ hl X hq => ?_)
  subst hl
  unfold f_Grid_signAt at h
  refine G_aload_n (pc := 0) 0 X (dg dt_Grid_signAt 0 rfl) rfl rfl ?_
  refine G_iload_n (pc := 1) 1 X (dg dt_Grid_signAt 1 rfl) rfl rfl ?_
  refine G_iload_n (pc := 2) 2 X (dg dt_Grid_signAt 2 rfl) rfl rfl ?_
  obtain ⟨r_2, hc_1, h⟩ := cap_go h
  refine G_callV (pc := 3) (S := []) [.int v1, .int v2] nosub X  (dg dt_Grid_signAt 3 rfl) cb_Grid_has cv_Grid_has w_336 (s_Grid_has _ ad _ _ _ _ hg_v0 hc_1) rfl ⟨Nat.le_of_ble_eq_true rfl, Nat.le_of_ble_eq_true rfl⟩ (sh_g hg_v0) rfl (Nat.le_of_ble_eq_true rfl) Rc0 ?_
  refine G_if_eq (pc := 6) 22 X (dg dt_Grid_signAt 4 rfl) (by decide) h (fun h => ?_) (fun h => ?_)
  · refine G_iconst (pc := 22) (-1) X (dg dt_Grid_signAt 14 rfl) (by decide) ?_
    exact G_iretp (pc := 23) X hq (dg dt_Grid_signAt 15 rfl) h
  · refine G_aload_n (pc := 9) 0 X (dg dt_Grid_signAt 5 rfl) rfl rfl ?_
    refine G_getR (pc := 10) 0 X (dg dt_Grid_signAt 6 rfl) fc_0 w_39 rfl (Nat.le_of_ble_eq_true rfl) (sh_g hg_v0) rfl ?_
    refine G_iconst (pc := 13) 5 X (dg dt_Grid_signAt 7 rfl) (by decide) ?_
    refine G_iload_n (pc := 14) 1 X (dg dt_Grid_signAt 8 rfl) rfl rfl ?_
    refine G_imul (pc := 15) X (dg dt_Grid_signAt 9 rfl) ?_
    refine G_iload_n (pc := 16) 2 X (dg dt_Grid_signAt 10 rfl) rfl rfl ?_
    refine G_iadd (pc := 17) X (dg dt_Grid_signAt 11 rfl) ?_
    refine G_iald (pc := 18) X (dg dt_Grid_signAt 12 rfl) (sh_g1 hg_v0) h (fun r_3 h => ?_)
    refine G_goto (pc := 19) 23 X (dg dt_Grid_signAt 13 rfl) (by decide) ?_
    exact G_iretp (pc := 23) X hq (dg dt_Grid_signAt 15 rfl) h
set_option maxRecDepth 100000 in
set_option maxHeartbeats 4000000 in
theorem s_Q_isIn (l : Launch) (ad : Nat → Nat) (σ : St) (v0 : Int32) (v1 : Int32)  {rv : Int32} (h : f_Q_isIn σ v0 v1 = some rv) : Rt l [] yX11_isIn cX11_isIn 2 (some .boolean) 0 0 (g_SH, ad) [.int v0, .int v1] σ (some (.int rv)) σ := by
  refine Rt.intro (L := [some (.int v0), some (.int v1)]) (by decide +kernel) (Nat.le_of_ble_eq_true rfl) rfl (fun θ hl X hq => ?_)
  subst hl
  unfold f_Q_isIn at h
  refine G_iload_n (pc := 0) 1 X (dg dt_Q_isIn 0 rfl) rfl rfl ?_
  refine jn_go (fun j23_1 => j23_1 = some rv → G θ (0, 0) (g_SH, ad) σ 23 [none, none] []) h ?_ (fun j23_1 hj23_1 h => ?_)
  · intro  h
    refine G_iconst (pc := 23) 0 X (dg dt_Q_isIn 14 rfl) (by decide) ?_
    exact G_zretlp (pc := 24) X hq (dg dt_Q_isIn 15 rfl) rfl h
  refine G_if_lt (pc := 1) 23 X (dg dt_Q_isIn 1 rfl) (by decide) h (fun h => ?_) (fun h => ?_)
  · exact G_wk (hj23_1  h) trivial
  · refine G_iload_n (pc := 4) 1 X (dg dt_Q_isIn 2 rfl) rfl rfl ?_
    refine G_bipush (pc := 5) 31 X (dg dt_Q_isIn 3 rfl) (by decide) ?_
    refine G_icmp_ge (pc := 7) 23 X (dg dt_Q_isIn 4 rfl) (by decide) h (fun h => ?_) (fun h => ?_)
    · exact G_wk (hj23_1  h) trivial
    · refine G_iload_n (pc := 10) 0 X (dg dt_Q_isIn 5 rfl) rfl rfl ?_
      refine G_iload_n (pc := 11) 1 X (dg dt_Q_isIn 6 rfl) rfl rfl ?_
      refine G_ishr (pc := 12) X (dg dt_Q_isIn 7 rfl) ?_
      refine G_iconst (pc := 13) 1 X (dg dt_Q_isIn 8 rfl) (by decide) ?_
      refine G_iand (pc := 14) X (dg dt_Q_isIn 9 rfl) ?_
      refine G_iconst (pc := 15) 1 X (dg dt_Q_isIn 10 rfl) (by decide) ?_
      refine G_icmp_ne (pc := 16) 23 X (dg dt_Q_isIn 11 rfl) (by decide) h (fun h => ?_) (fun h => ?_)
      · exact G_wk (hj23_1  h) trivial
      · refine G_iconst (pc := 19) 1 X (dg dt_Q_isIn 12 rfl) (by decide) ?_
        refine G_goto (pc := 20) 24 X (dg dt_Q_isIn 13 rfl) (by decide) ?_
        exact G_zretlp (pc := 24) X hq (dg dt_Q_isIn 15 rfl) rfl h
set_option maxRecDepth 100000 in
set_option maxHeartbeats 4000000 in
theorem s_Grid_hasInLines (l : Launch) (ad : Nat → Nat) (σ : St) (v0 : Nat) (v1 : Int32) (v2 : Int32) (v3 : Int32) (hg_v0 : gok v0) {rv : Int32} (h : f_Grid_hasInLines σ v0 v1 v2 v3 = some rv) : Rt l [] yX2_hasInLines cX2_hasInLines 4 (some .boolean) 2 43 (g_SH, ad) [.ref (ad v0), .int v1, .int v2, .int v3] σ (some (.int rv)) σ := by
  refine Rt.intro (L := [some (.ref (ad v0)), some (.int v1), some (.int v2), some (.int v3)]) (by decide +kernel) (Nat.le_of_ble_eq_true rfl) rfl (fun θ hl X hq => ?_)
  subst hl
  unfold f_Grid_hasInLines at h
  refine G_aload_n (pc := 0) 0 X (dg dt_Grid_hasInLines 0 rfl) rfl rfl ?_
  refine G_iload_n (pc := 1) 1 X (dg dt_Grid_hasInLines 1 rfl) rfl rfl ?_
  refine G_iload_n (pc := 2) 2 X (dg dt_Grid_hasInLines 2 rfl) rfl rfl ?_
  obtain ⟨r_2, hc_1, h⟩ := cap_go h
  refine G_callV (pc := 3) (S := []) [.int v1, .int v2] nosub X  (dg dt_Grid_hasInLines 3 rfl) cb_Grid_has cv_Grid_has w_336 (s_Grid_has _ ad _ _ _ _ hg_v0 hc_1) rfl ⟨Nat.le_of_ble_eq_true rfl, Nat.le_of_ble_eq_true rfl⟩ (sh_g hg_v0) rfl (Nat.le_of_ble_eq_true rfl) Rc0 ?_
  refine jn_go (fun j33_3 => j33_3 = some rv → G θ (0, 0) (g_SH, ad) σ 33 [none, none, none, none] []) h ?_ (fun j33_3 hj33_3 h => ?_)
  · intro  h
    refine G_iconst (pc := 33) 0 X (dg dt_Grid_hasInLines 19 rfl) (by decide) ?_
    exact G_zretlp (pc := 34) X hq (dg dt_Grid_hasInLines 20 rfl) rfl h
  refine G_if_eq (pc := 6) 33 X (dg dt_Grid_hasInLines 4 rfl) (by decide) h (fun h => ?_) (fun h => ?_)
  · exact G_wk (hj33_3  h) trivial
  · refine G_aload_n (pc := 9) 0 X (dg dt_Grid_hasInLines 5 rfl) rfl rfl ?_
    refine G_getR (pc := 10) 1 X (dg dt_Grid_hasInLines 6 rfl) fc_0 w_40 rfl (Nat.le_of_ble_eq_true rfl) (sh_g hg_v0) rfl ?_
    refine G_iload_n (pc := 13) 1 X (dg dt_Grid_hasInLines 7 rfl) rfl rfl ?_
    refine G_iald (pc := 14) X (dg dt_Grid_hasInLines 8 rfl) (sh_g2 hg_v0) h (fun r_4 h => ?_)
    refine G_aload_n (pc := 15) 0 X (dg dt_Grid_hasInLines 9 rfl) rfl rfl ?_
    refine G_getR (pc := 16) 2 X (dg dt_Grid_hasInLines 10 rfl) fc_0 w_41 rfl (Nat.le_of_ble_eq_true rfl) (sh_g hg_v0) rfl ?_
    refine G_iload_n (pc := 19) 2 X (dg dt_Grid_hasInLines 11 rfl) rfl rfl ?_
    refine G_iald (pc := 20) X (dg dt_Grid_hasInLines 12 rfl) (sh_g3 hg_v0) h (fun r_5 h => ?_)
    refine G_ior (pc := 21) X (dg dt_Grid_hasInLines 13 rfl) ?_
    refine G_iload_n (pc := 22) 3 X (dg dt_Grid_hasInLines 14 rfl) rfl rfl ?_
    obtain ⟨r_7, hc_6, h⟩ := cap_go h
    refine G_callSN (pc := 23) (S := []) [.int (r_4 ||| r_5), .int v3] nosub X  (dg dt_Grid_hasInLines 15 rfl) cb_Q_isIn w_422 w_483 (s_Q_isIn _ ad _ _ _ hc_6) rfl ⟨Nat.le_of_ble_eq_true rfl, Nat.le_of_ble_eq_true rfl⟩  (Nat.le_of_ble_eq_true rfl) Rc0 ?_
    refine G_if_eq (pc := 26) 33 X (dg dt_Grid_hasInLines 16 rfl) (by decide) h (fun h => ?_) (fun h => ?_)
    · exact G_wk (hj33_3  h) trivial
    · refine G_iconst (pc := 29) 1 X (dg dt_Grid_hasInLines 17 rfl) (by decide) ?_
      refine G_goto (pc := 30) 34 X (dg dt_Grid_hasInLines 18 rfl) (by decide) ?_
      exact G_zretlp (pc := 34) X hq (dg dt_Grid_hasInLines 20 rfl) rfl h
set_option maxRecDepth 100000 in
set_option maxHeartbeats 4000000 in
theorem s_Grid_set (l : Launch) (ad : Nat → Nat) (σ : St) (v0 : Nat) (v1 : Int32) (v2 : Int32) (v3 : Int32) (hg_v0 : gok v0) {rv : Unit} {σe : St} (h : f_Grid_set σ v0 v1 v2 v3 = some (rv, σe)) : Rt l [] yX2_set cX2_set 5 none 2 43 (g_SH, ad) [.ref (ad v0), .int v1, .int v2, .int v3] σ none σe := by
  refine Rt.intro (L := [some (.ref (ad v0)), some (.int v1), some (.int v2), some (.int v3), none]) (by decide +kernel) (Nat.le_of_ble_eq_true rfl) rfl (fun θ hl X hq => ?_)
  subst hl
  unfold f_Grid_set at h
  refine G_aload_n (pc := 0) 0 X (dg dt_Grid_set 0 rfl) rfl rfl ?_
  refine G_iload_n (pc := 1) 1 X (dg dt_Grid_set 1 rfl) rfl rfl ?_
  refine G_iload_n (pc := 2) 2 X (dg dt_Grid_set 2 rfl) rfl rfl ?_
  obtain ⟨r_2, hc_1, h⟩ := cap_go h
  refine G_callV (pc := 3) (S := []) [.int v1, .int v2] nosub X  (dg dt_Grid_set 3 rfl) cb_Grid_has cv_Grid_has w_336 (s_Grid_has _ ad _ _ _ _ hg_v0 hc_1) rfl ⟨Nat.le_of_ble_eq_true rfl, Nat.le_of_ble_eq_true rfl⟩ (sh_g hg_v0) rfl (Nat.le_of_ble_eq_true rfl) Rc0 ?_
  refine G_if_eq (pc := 6) 22 X (dg dt_Grid_set 4 rfl) (by decide) h (fun h => ?_) (fun h => ?_)
  · exact G_vret (pc := 22) X hq (dg dt_Grid_set 12 rfl) h
  · refine G_iload_n (pc := 9) 3 X (dg dt_Grid_set 5 rfl) rfl rfl ?_
    refine G_iconst (pc := 10) (-1) X (dg dt_Grid_set 6 rfl) (by decide) ?_
    refine G_icmp_lt (pc := 11) 22 X (dg dt_Grid_set 7 rfl) (by decide) h (fun h => ?_) (fun h => ?_)
    · exact G_vret (pc := 22) X hq (dg dt_Grid_set 12 rfl) h
    · refine G_iload_n (pc := 14) 3 X (dg dt_Grid_set 8 rfl) rfl rfl ?_
      refine G_aload_n (pc := 15) 0 X (dg dt_Grid_set 9 rfl) rfl rfl ?_
      refine G_getI (pc := 16) 3 X (dg dt_Grid_set 10 rfl) fc_0 w_42 rfl (Nat.le_of_ble_eq_true rfl) (sh_g hg_v0) rfl ?_
      refine G_icmp_lt (pc := 19) 23 X (dg dt_Grid_set 11 rfl) (by decide) h (fun h => ?_) (fun h => ?_)
      · refine G_aload_n (pc := 23) 0 X (dg dt_Grid_set 13 rfl) rfl rfl ?_
        refine G_getR (pc := 24) 0 X (dg dt_Grid_set 14 rfl) fc_0 w_39 rfl (Nat.le_of_ble_eq_true rfl) (sh_g hg_v0) rfl ?_
        refine G_iconst (pc := 27) 5 X (dg dt_Grid_set 15 rfl) (by decide) ?_
        refine G_iload_n (pc := 28) 1 X (dg dt_Grid_set 16 rfl) rfl rfl ?_
        refine G_imul (pc := 29) X (dg dt_Grid_set 17 rfl) ?_
        refine G_iload_n (pc := 30) 2 X (dg dt_Grid_set 18 rfl) rfl rfl ?_
        refine G_iadd (pc := 31) X (dg dt_Grid_set 19 rfl) ?_
        refine G_iald (pc := 32) X (dg dt_Grid_set 20 rfl) (sh_g1 hg_v0) h (fun r_3 h => ?_)
        refine G_istore (pc := 33) X (dg dt_Grid_set 21 rfl) (Nat.le_of_ble_eq_true rfl) rfl ?_
        refine G_iload (pc := 35) X (dg dt_Grid_set 22 rfl) rfl ?_
        refine G_iconst (pc := 37) (-1) X (dg dt_Grid_set 23 rfl) (by decide) ?_
        refine jn_go (fun j81_4 => ∀ (σ_5 : St), j81_4 σ_5 = some (rv, σe) → G θ (0, 0) (g_SH, ad) σ_5 81 [some (.ref (ad v0)), some (.int v1), some (.int v2), some (.int v3), none] []) h ?_ (fun j81_4 hj81_4 h => ?_)
        · intro σ_5 h
          refine G_iload_n (pc := 81) 3 X (dg dt_Grid_set 55 rfl) rfl rfl ?_
          refine G_iconst (pc := 82) (-1) X (dg dt_Grid_set 56 rfl) (by decide) ?_
          refine jn_go (fun j120_6 => ∀ (σ_7 : St), j120_6 σ_7 = some (rv, σe) → G θ (0, 0) (g_SH, ad) σ_7 120 [some (.ref (ad v0)), some (.int v1), some (.int v2), some (.int v3), none] []) h ?_ (fun j120_6 hj120_6 h => ?_)
          · intro σ_7 h
            refine G_aload_n (pc := 120) 0 X (dg dt_Grid_set 84 rfl) rfl rfl ?_
            refine G_getR (pc := 121) 0 X (dg dt_Grid_set 85 rfl) fc_0 w_39 rfl (Nat.le_of_ble_eq_true rfl) (sh_g hg_v0) rfl ?_
            refine G_iconst (pc := 124) 5 X (dg dt_Grid_set 86 rfl) (by decide) ?_
            refine G_iload_n (pc := 125) 1 X (dg dt_Grid_set 87 rfl) rfl rfl ?_
            refine G_imul (pc := 126) X (dg dt_Grid_set 88 rfl) ?_
            refine G_iload_n (pc := 127) 2 X (dg dt_Grid_set 89 rfl) rfl rfl ?_
            refine G_iadd (pc := 128) X (dg dt_Grid_set 90 rfl) ?_
            refine G_iload_n (pc := 129) 3 X (dg dt_Grid_set 91 rfl) rfl rfl ?_
            refine G_iast (pc := 130) X (dg dt_Grid_set 92 rfl) (sh_g1 hg_v0) h (fun σ_8 h => ?_)
            exact G_vret (pc := 131) X hq (dg dt_Grid_set 93 rfl) h
          refine G_icmp_eq (pc := 83) 120 X (dg dt_Grid_set 57 rfl) (by decide) h (fun h => ?_) (fun h => ?_)
          · exact G_wk (hj120_6 σ_5 h) ⟨rfl, ⟨rfl, ⟨rfl, ⟨rfl, trivial⟩⟩⟩⟩
          · refine G_aload_n (pc := 86) 0 X (dg dt_Grid_set 58 rfl) rfl rfl ?_
            refine G_getR (pc := 87) 1 X (dg dt_Grid_set 59 rfl) fc_0 w_40 rfl (Nat.le_of_ble_eq_true rfl) (sh_g hg_v0) rfl ?_
            refine G_iload_n (pc := 90) 1 X (dg dt_Grid_set 60 rfl) rfl rfl ?_
            refine G_dup2 (pc := 91) X (dg dt_Grid_set 61 rfl) rfl rfl ?_
            refine G_iald (pc := 92) X (dg dt_Grid_set 62 rfl) (sh_g2 hg_v0) h (fun r_9 h => ?_)
            refine G_iconst (pc := 93) 1 X (dg dt_Grid_set 63 rfl) (by decide) ?_
            refine G_iload_n (pc := 94) 3 X (dg dt_Grid_set 64 rfl) rfl rfl ?_
            refine G_ishl (pc := 95) X (dg dt_Grid_set 65 rfl) ?_
            refine G_ior (pc := 96) X (dg dt_Grid_set 66 rfl) ?_
            refine G_iast (pc := 97) X (dg dt_Grid_set 67 rfl) (sh_g2 hg_v0) h (fun σ_10 h => ?_)
            refine G_aload_n (pc := 98) 0 X (dg dt_Grid_set 68 rfl) rfl rfl ?_
            refine G_getR (pc := 99) 2 X (dg dt_Grid_set 69 rfl) fc_0 w_41 rfl (Nat.le_of_ble_eq_true rfl) (sh_g hg_v0) rfl ?_
            refine G_iload_n (pc := 102) 2 X (dg dt_Grid_set 70 rfl) rfl rfl ?_
            refine G_dup2 (pc := 103) X (dg dt_Grid_set 71 rfl) rfl rfl ?_
            refine G_iald (pc := 104) X (dg dt_Grid_set 72 rfl) (sh_g3 hg_v0) h (fun r_11 h => ?_)
            refine G_iconst (pc := 105) 1 X (dg dt_Grid_set 73 rfl) (by decide) ?_
            refine G_iload_n (pc := 106) 3 X (dg dt_Grid_set 74 rfl) rfl rfl ?_
            refine G_ishl (pc := 107) X (dg dt_Grid_set 75 rfl) ?_
            refine G_ior (pc := 108) X (dg dt_Grid_set 76 rfl) ?_
            refine G_iast (pc := 109) X (dg dt_Grid_set 77 rfl) (sh_g3 hg_v0) h (fun σ_12 h => ?_)
            refine G_aload_n (pc := 110) 0 X (dg dt_Grid_set 78 rfl) rfl rfl ?_
            refine G_dup (pc := 111) X (dg dt_Grid_set 79 rfl) rfl ?_
            refine G_getI (pc := 112) 4 X (dg dt_Grid_set 80 rfl) fc_0 w_45 rfl (Nat.le_of_ble_eq_true rfl) (sh_g hg_v0) rfl ?_
            refine G_iconst (pc := 115) 1 X (dg dt_Grid_set 81 rfl) (by decide) ?_
            refine G_iadd (pc := 116) X (dg dt_Grid_set 82 rfl) ?_
            refine G_put (pc := 117) 4 X (dg dt_Grid_set 83 rfl) fc_0 w_45 rfl (Nat.le_of_ble_eq_true rfl) rfl rfl (sh_g hg_v0) rfl h (fun σ_13 h => ?_)
            exact G_wk (hj120_6 σ_13 h) ⟨rfl, ⟨rfl, ⟨rfl, ⟨rfl, trivial⟩⟩⟩⟩
        refine G_icmp_eq (pc := 38) 81 X (dg dt_Grid_set 24 rfl) (by decide) h (fun h => ?_) (fun h => ?_)
        · exact G_wk (hj81_4 σ h) ⟨rfl, ⟨rfl, ⟨rfl, ⟨rfl, trivial⟩⟩⟩⟩
        · refine G_aload_n (pc := 41) 0 X (dg dt_Grid_set 25 rfl) rfl rfl ?_
          refine G_getR (pc := 42) 1 X (dg dt_Grid_set 26 rfl) fc_0 w_40 rfl (Nat.le_of_ble_eq_true rfl) (sh_g hg_v0) rfl ?_
          refine G_iload_n (pc := 45) 1 X (dg dt_Grid_set 27 rfl) rfl rfl ?_
          refine G_dup2 (pc := 46) X (dg dt_Grid_set 28 rfl) rfl rfl ?_
          refine G_iald (pc := 47) X (dg dt_Grid_set 29 rfl) (sh_g2 hg_v0) h (fun r_14 h => ?_)
          refine G_iconst (pc := 48) 1 X (dg dt_Grid_set 30 rfl) (by decide) ?_
          refine G_iload (pc := 49) X (dg dt_Grid_set 31 rfl) rfl ?_
          refine G_ishl (pc := 51) X (dg dt_Grid_set 32 rfl) ?_
          refine G_iconst (pc := 52) (-1) X (dg dt_Grid_set 33 rfl) (by decide) ?_
          refine G_ixor (pc := 53) X (dg dt_Grid_set 34 rfl) ?_
          refine G_iand (pc := 54) X (dg dt_Grid_set 35 rfl) ?_
          refine G_iast (pc := 55) X (dg dt_Grid_set 36 rfl) (sh_g2 hg_v0) h (fun σ_15 h => ?_)
          refine G_aload_n (pc := 56) 0 X (dg dt_Grid_set 37 rfl) rfl rfl ?_
          refine G_getR (pc := 57) 2 X (dg dt_Grid_set 38 rfl) fc_0 w_41 rfl (Nat.le_of_ble_eq_true rfl) (sh_g hg_v0) rfl ?_
          refine G_iload_n (pc := 60) 2 X (dg dt_Grid_set 39 rfl) rfl rfl ?_
          refine G_dup2 (pc := 61) X (dg dt_Grid_set 40 rfl) rfl rfl ?_
          refine G_iald (pc := 62) X (dg dt_Grid_set 41 rfl) (sh_g3 hg_v0) h (fun r_16 h => ?_)
          refine G_iconst (pc := 63) 1 X (dg dt_Grid_set 42 rfl) (by decide) ?_
          refine G_iload (pc := 64) X (dg dt_Grid_set 43 rfl) rfl ?_
          refine G_ishl (pc := 66) X (dg dt_Grid_set 44 rfl) ?_
          refine G_iconst (pc := 67) (-1) X (dg dt_Grid_set 45 rfl) (by decide) ?_
          refine G_ixor (pc := 68) X (dg dt_Grid_set 46 rfl) ?_
          refine G_iand (pc := 69) X (dg dt_Grid_set 47 rfl) ?_
          refine G_iast (pc := 70) X (dg dt_Grid_set 48 rfl) (sh_g3 hg_v0) h (fun σ_17 h => ?_)
          refine G_aload_n (pc := 71) 0 X (dg dt_Grid_set 49 rfl) rfl rfl ?_
          refine G_dup (pc := 72) X (dg dt_Grid_set 50 rfl) rfl ?_
          refine G_getI (pc := 73) 4 X (dg dt_Grid_set 51 rfl) fc_0 w_45 rfl (Nat.le_of_ble_eq_true rfl) (sh_g hg_v0) rfl ?_
          refine G_iconst (pc := 76) 1 X (dg dt_Grid_set 52 rfl) (by decide) ?_
          refine G_isub (pc := 77) X (dg dt_Grid_set 53 rfl) ?_
          refine G_put (pc := 78) 4 X (dg dt_Grid_set 54 rfl) fc_0 w_45 rfl (Nat.le_of_ble_eq_true rfl) rfl rfl (sh_g hg_v0) rfl h (fun σ_18 h => ?_)
          exact G_wk (hj81_4 σ_18 h) ⟨rfl, ⟨rfl, ⟨rfl, ⟨rfl, trivial⟩⟩⟩⟩
      · exact G_vret (pc := 22) X hq (dg dt_Grid_set 12 rfl) h
set_option maxRecDepth 100000 in
set_option maxHeartbeats 4000000 in
theorem s_Grid_allSigns (l : Launch) (ad : Nat → Nat) (σ : St) (v0 : Nat) (hg_v0 : gok v0) {rv : Int32} (h : f_Grid_allSigns σ v0 = some rv) : Rt l [] yX2_allSigns cX2_allSigns 1 (some .int) 0 0 (g_SH, ad) [.ref (ad v0)] σ (some (.int rv)) σ := by
  refine Rt.intro (L := [some (.ref (ad v0))]) (by decide +kernel) (Nat.le_of_ble_eq_true rfl) rfl (fun θ hl X hq => ?_)
  subst hl
  unfold f_Grid_allSigns at h
  refine G_iconst (pc := 0) 1 X (dg dt_Grid_allSigns 0 rfl) (by decide) ?_
  refine G_aload_n (pc := 1) 0 X (dg dt_Grid_allSigns 1 rfl) rfl rfl ?_
  refine G_getI (pc := 2) 3 X (dg dt_Grid_allSigns 2 rfl) fc_0 w_42 rfl (Nat.le_of_ble_eq_true rfl) (sh_g hg_v0) rfl ?_
  refine G_ishl (pc := 5) X (dg dt_Grid_allSigns 3 rfl) ?_
  refine G_iconst (pc := 6) 1 X (dg dt_Grid_allSigns 4 rfl) (by decide) ?_
  refine G_isub (pc := 7) X (dg dt_Grid_allSigns 5 rfl) ?_
  exact G_iretp (pc := 8) X hq (dg dt_Grid_allSigns 6 rfl) h
set_option maxRecDepth 100000 in
set_option maxHeartbeats 4000000 in
theorem s_Grid_isRowFull (l : Launch) (ad : Nat → Nat) (σ : St) (v0 : Nat) (v1 : Int32) (hg_v0 : gok v0) {rv : Int32} (h : f_Grid_isRowFull σ v0 v1 = some rv) : Rt l [] yX2_isRowFull cX2_isRowFull 2 (some .boolean) 1 21 (g_SH, ad) [.ref (ad v0), .int v1] σ (some (.int rv)) σ := by
  refine Rt.intro (L := [some (.ref (ad v0)), some (.int v1)]) (by decide +kernel) (Nat.le_of_ble_eq_true rfl) rfl (fun θ hl X hq => ?_)
  subst hl
  unfold f_Grid_isRowFull at h
  refine G_aload_n (pc := 0) 0 X (dg dt_Grid_isRowFull 0 rfl) rfl rfl ?_
  refine G_iload_n (pc := 1) 1 X (dg dt_Grid_isRowFull 1 rfl) rfl rfl ?_
  obtain ⟨r_2, hc_1, h⟩ := cap_go h
  refine G_callV (pc := 2) (S := []) [.int v1] nosub X  (dg dt_Grid_isRowFull 2 rfl) cb_Grid_isLine cv_Grid_isLine w_340 (s_Grid_isLine _ ad _ _ _ hg_v0 hc_1) rfl ⟨Nat.le_of_ble_eq_true rfl, Nat.le_of_ble_eq_true rfl⟩ (sh_g hg_v0) rfl (Nat.le_of_ble_eq_true rfl) Rc0 ?_
  refine jn_go (fun j25_3 => j25_3 = some rv → G θ (0, 0) (g_SH, ad) σ 25 [none, none] []) h ?_ (fun j25_3 hj25_3 h => ?_)
  · intro  h
    refine G_iconst (pc := 25) 0 X (dg dt_Grid_isRowFull 13 rfl) (by decide) ?_
    exact G_zretlp (pc := 26) X hq (dg dt_Grid_isRowFull 14 rfl) rfl h
  refine G_if_eq (pc := 5) 25 X (dg dt_Grid_isRowFull 3 rfl) (by decide) h (fun h => ?_) (fun h => ?_)
  · exact G_wk (hj25_3  h) trivial
  · refine G_aload_n (pc := 8) 0 X (dg dt_Grid_isRowFull 4 rfl) rfl rfl ?_
    refine G_getR (pc := 9) 1 X (dg dt_Grid_isRowFull 5 rfl) fc_0 w_40 rfl (Nat.le_of_ble_eq_true rfl) (sh_g hg_v0) rfl ?_
    refine G_iload_n (pc := 12) 1 X (dg dt_Grid_isRowFull 6 rfl) rfl rfl ?_
    refine G_iald (pc := 13) X (dg dt_Grid_isRowFull 7 rfl) (sh_g2 hg_v0) h (fun r_4 h => ?_)
    refine G_aload_n (pc := 14) 0 X (dg dt_Grid_isRowFull 8 rfl) rfl rfl ?_
    obtain ⟨r_6, hc_5, h⟩ := cap_go h
    refine G_callV (pc := 15) (S := [.int r_4]) [] nosub X  (dg dt_Grid_isRowFull 9 rfl) cb_Grid_allSigns cv_Grid_allSigns w_397 (s_Grid_allSigns _ ad _ _ hg_v0 hc_5) rfl ⟨Nat.le_of_ble_eq_true rfl, Nat.le_of_ble_eq_true rfl⟩ (sh_g hg_v0) rfl (Nat.le_of_ble_eq_true rfl) Rc0 ?_
    refine G_icmp_ne (pc := 18) 25 X (dg dt_Grid_isRowFull 10 rfl) (by decide) h (fun h => ?_) (fun h => ?_)
    · exact G_wk (hj25_3  h) trivial
    · refine G_iconst (pc := 21) 1 X (dg dt_Grid_isRowFull 11 rfl) (by decide) ?_
      refine G_goto (pc := 22) 26 X (dg dt_Grid_isRowFull 12 rfl) (by decide) ?_
      exact G_zretlp (pc := 26) X hq (dg dt_Grid_isRowFull 14 rfl) rfl h
set_option maxRecDepth 100000 in
set_option maxHeartbeats 4000000 in
theorem s_Grid_columnOf_L2 {θ : Th} {ad : Nat → Nat}  {rv : Int32} (X : Cx θ [] cX2_columnOf 4 "Quasigrove$Grid" 3 65)
    {v0 : Nat} {v1 : Int32} {v2 : Int32} {σ : St} (hq : Rq θ (g_SH, ad) (some .int) (some (.int rv)) σ) (hg_v0 : gok v0) {kx20 : Int32 → Option Int32} (hkx20 : ∀ (v3 : Int32), kx20 v3 = some rv → G θ (0, 0) (g_SH, ad) σ 20 [none, none, none, some (.int v3)] []) :
    ∀ (n : Nat) (v3 : Int32), f_Grid_columnOf_L2 v0 v1 v2 σ kx20 n v3 = some rv → G θ (0, 0) (g_SH, ad) σ 2 [some (.ref (ad v0)), some (.int v1), some (.int v2), some (.int v3)] [] := by
  intro n
  induction n with
  | zero => intro v3 h; rw [f_Grid_columnOf_L2] at h; cases h
  | succ n ih =>
    intro v3 h
    rw [f_Grid_columnOf_L2] at h
    refine G_iload_n (pc := 2) 3 X (dg dt_Grid_columnOf 2 rfl) rfl rfl ?_
    refine G_aload_n (pc := 3) 0 X (dg dt_Grid_columnOf 3 rfl) rfl rfl ?_
    refine G_getI (pc := 4) 3 X (dg dt_Grid_columnOf 4 rfl) fc_0 w_42 rfl (Nat.le_of_ble_eq_true rfl) (sh_g hg_v0) rfl ?_
    refine G_icmp_ge (pc := 7) 28 X (dg dt_Grid_columnOf 5 rfl) (by decide) h (fun h => ?_) (fun h => ?_)
    · refine G_iconst (pc := 28) (-1) X (dg dt_Grid_columnOf 16 rfl) (by decide) ?_
      exact G_iretp (pc := 29) X hq (dg dt_Grid_columnOf 17 rfl) h
    · refine G_aload_n (pc := 10) 0 X (dg dt_Grid_columnOf 6 rfl) rfl rfl ?_
      refine G_iload_n (pc := 11) 1 X (dg dt_Grid_columnOf 7 rfl) rfl rfl ?_
      refine G_iload_n (pc := 12) 3 X (dg dt_Grid_columnOf 8 rfl) rfl rfl ?_
      obtain ⟨r_2, hc_1, h⟩ := cap_go h
      refine G_callV (pc := 13) (S := []) [.int v1, .int v3] nosub X  (dg dt_Grid_columnOf 9 rfl) cb_Grid_signAt cv_Grid_signAt w_392 (s_Grid_signAt _ ad _ _ _ _ hg_v0 hc_1) rfl ⟨Nat.le_of_ble_eq_true rfl, Nat.le_of_ble_eq_true rfl⟩ (sh_g hg_v0) rfl (Nat.le_of_ble_eq_true rfl) Rc0 ?_
      refine G_iload_n (pc := 16) 2 X (dg dt_Grid_columnOf 10 rfl) rfl rfl ?_
      refine G_icmp_ne (pc := 17) 22 X (dg dt_Grid_columnOf 11 rfl) (by decide) h (fun h => ?_) (fun h => ?_)
      · refine G_iinc (pc := 22) (v3 + 1) X (dg dt_Grid_columnOf 14 rfl) rfl (Nat.le_of_ble_eq_true rfl) rfl rfl ?_
        refine G_goto (pc := 25) 2 X (dg dt_Grid_columnOf 15 rfl) (by decide) ?_
        exact G_wk (ih (v3 + 1) h) ⟨rfl, ⟨rfl, ⟨rfl, ⟨rfl, trivial⟩⟩⟩⟩
      · exact G_wk (hkx20 v3 h) ⟨rfl, trivial⟩
set_option maxRecDepth 100000 in
set_option maxHeartbeats 4000000 in
theorem s_Grid_columnOf (l : Launch) (ad : Nat → Nat) (σ : St) (v0 : Nat) (v1 : Int32) (v2 : Int32) (hg_v0 : gok v0) {rv : Int32} (h : f_Grid_columnOf σ v0 v1 v2 = some rv) : Rt l [] yX2_columnOf cX2_columnOf 4 (some .int) 3 65 (g_SH, ad) [.ref (ad v0), .int v1, .int v2] σ (some (.int rv)) σ := by
  refine Rt.intro (L := [some (.ref (ad v0)), some (.int v1), some (.int v2), none]) (by decide +kernel) (Nat.le_of_ble_eq_true rfl) rfl (fun θ hl X hq => ?_)
  subst hl
  unfold f_Grid_columnOf at h
  refine G_iconst (pc := 0) 0 X (dg dt_Grid_columnOf 0 rfl) (by decide) ?_
  refine G_istore_n (pc := 1) 3 X (dg dt_Grid_columnOf 1 rfl) rfl (Nat.le_of_ble_eq_true rfl) rfl ?_
  refine G_weak (L' := [some (.ref (ad v0)), some (.int v1), some (.int v2), some (.int 0)]) ⟨rfl, ⟨rfl, ⟨rfl, ⟨rfl, trivial⟩⟩⟩⟩ ?_
  refine s_Grid_columnOf_L2  X hq hg_v0 (fun v3_3 h => ?_) _ _ h
  refine G_iload_n (pc := 20) 3 X (dg dt_Grid_columnOf 12 rfl) rfl rfl ?_
  exact G_iretp (pc := 21) X hq (dg dt_Grid_columnOf 13 rfl) h
set_option maxRecDepth 100000 in
set_option maxHeartbeats 4000000 in
theorem s_Grid_exchange (l : Launch) (ad : Nat → Nat) (σ : St) (v0 : Nat) (v1 : Int32) (v2 : Int32) (v3 : Int32) (hg_v0 : gok v0) {rv : Unit} {σe : St} (h : f_Grid_exchange σ v0 v1 v2 v3 = some (rv, σe)) : Rt l [] yX2_exchange cX2_exchange 5 none 2 43 (g_SH, ad) [.ref (ad v0), .int v1, .int v2, .int v3] σ none σe := by
  refine Rt.intro (L := [some (.ref (ad v0)), some (.int v1), some (.int v2), some (.int v3), none]) (by decide +kernel) (Nat.le_of_ble_eq_true rfl) rfl (fun θ hl X hq => ?_)
  subst hl
  unfold f_Grid_exchange at h
  refine G_aload_n (pc := 0) 0 X (dg dt_Grid_exchange 0 rfl) rfl rfl ?_
  refine G_iload_n (pc := 1) 1 X (dg dt_Grid_exchange 1 rfl) rfl rfl ?_
  refine G_iload_n (pc := 2) 3 X (dg dt_Grid_exchange 2 rfl) rfl rfl ?_
  obtain ⟨r_2, hc_1, h⟩ := cap_go h
  refine G_callV (pc := 3) (S := []) [.int v1, .int v3] nosub X  (dg dt_Grid_exchange 3 rfl) cb_Grid_has cv_Grid_has w_336 (s_Grid_has _ ad _ _ _ _ hg_v0 hc_1) rfl ⟨Nat.le_of_ble_eq_true rfl, Nat.le_of_ble_eq_true rfl⟩ (sh_g hg_v0) rfl (Nat.le_of_ble_eq_true rfl) Rc0 ?_
  refine G_if_eq (pc := 6) 62 X (dg dt_Grid_exchange 4 rfl) (by decide) h (fun h => ?_) (fun h => ?_)
  · exact G_vret (pc := 62) X hq (dg dt_Grid_exchange 44 rfl) h
  · refine G_aload_n (pc := 9) 0 X (dg dt_Grid_exchange 5 rfl) rfl rfl ?_
    refine G_iload_n (pc := 10) 2 X (dg dt_Grid_exchange 6 rfl) rfl rfl ?_
    refine G_iload_n (pc := 11) 3 X (dg dt_Grid_exchange 7 rfl) rfl rfl ?_
    obtain ⟨r_4, hc_3, h⟩ := cap_go h
    refine G_callV (pc := 12) (S := []) [.int v2, .int v3] nosub X  (dg dt_Grid_exchange 8 rfl) cb_Grid_has cv_Grid_has w_336 (s_Grid_has _ ad _ _ _ _ hg_v0 hc_3) rfl ⟨Nat.le_of_ble_eq_true rfl, Nat.le_of_ble_eq_true rfl⟩ (sh_g hg_v0) rfl (Nat.le_of_ble_eq_true rfl) Rc0 ?_
    refine G_if_eq (pc := 15) 62 X (dg dt_Grid_exchange 9 rfl) (by decide) h (fun h => ?_) (fun h => ?_)
    · exact G_vret (pc := 62) X hq (dg dt_Grid_exchange 44 rfl) h
    · refine G_aload_n (pc := 18) 0 X (dg dt_Grid_exchange 10 rfl) rfl rfl ?_
      refine G_getR (pc := 19) 0 X (dg dt_Grid_exchange 11 rfl) fc_0 w_39 rfl (Nat.le_of_ble_eq_true rfl) (sh_g hg_v0) rfl ?_
      refine G_iconst (pc := 22) 5 X (dg dt_Grid_exchange 12 rfl) (by decide) ?_
      refine G_iload_n (pc := 23) 1 X (dg dt_Grid_exchange 13 rfl) rfl rfl ?_
      refine G_imul (pc := 24) X (dg dt_Grid_exchange 14 rfl) ?_
      refine G_iload_n (pc := 25) 3 X (dg dt_Grid_exchange 15 rfl) rfl rfl ?_
      refine G_iadd (pc := 26) X (dg dt_Grid_exchange 16 rfl) ?_
      refine G_iald (pc := 27) X (dg dt_Grid_exchange 17 rfl) (sh_g1 hg_v0) h (fun r_5 h => ?_)
      refine G_istore (pc := 28) X (dg dt_Grid_exchange 18 rfl) (Nat.le_of_ble_eq_true rfl) rfl ?_
      refine G_aload_n (pc := 30) 0 X (dg dt_Grid_exchange 19 rfl) rfl rfl ?_
      refine G_getR (pc := 31) 0 X (dg dt_Grid_exchange 20 rfl) fc_0 w_39 rfl (Nat.le_of_ble_eq_true rfl) (sh_g hg_v0) rfl ?_
      refine G_iconst (pc := 34) 5 X (dg dt_Grid_exchange 21 rfl) (by decide) ?_
      refine G_iload_n (pc := 35) 1 X (dg dt_Grid_exchange 22 rfl) rfl rfl ?_
      refine G_imul (pc := 36) X (dg dt_Grid_exchange 23 rfl) ?_
      refine G_iload_n (pc := 37) 3 X (dg dt_Grid_exchange 24 rfl) rfl rfl ?_
      refine G_iadd (pc := 38) X (dg dt_Grid_exchange 25 rfl) ?_
      refine G_aload_n (pc := 39) 0 X (dg dt_Grid_exchange 26 rfl) rfl rfl ?_
      refine G_getR (pc := 40) 0 X (dg dt_Grid_exchange 27 rfl) fc_0 w_39 rfl (Nat.le_of_ble_eq_true rfl) (sh_g hg_v0) rfl ?_
      refine G_iconst (pc := 43) 5 X (dg dt_Grid_exchange 28 rfl) (by decide) ?_
      refine G_iload_n (pc := 44) 2 X (dg dt_Grid_exchange 29 rfl) rfl rfl ?_
      refine G_imul (pc := 45) X (dg dt_Grid_exchange 30 rfl) ?_
      refine G_iload_n (pc := 46) 3 X (dg dt_Grid_exchange 31 rfl) rfl rfl ?_
      refine G_iadd (pc := 47) X (dg dt_Grid_exchange 32 rfl) ?_
      refine G_iald (pc := 48) X (dg dt_Grid_exchange 33 rfl) (sh_g1 hg_v0) h (fun r_6 h => ?_)
      refine G_iast (pc := 49) X (dg dt_Grid_exchange 34 rfl) (sh_g1 hg_v0) h (fun σ_7 h => ?_)
      refine G_aload_n (pc := 50) 0 X (dg dt_Grid_exchange 35 rfl) rfl rfl ?_
      refine G_getR (pc := 51) 0 X (dg dt_Grid_exchange 36 rfl) fc_0 w_39 rfl (Nat.le_of_ble_eq_true rfl) (sh_g hg_v0) rfl ?_
      refine G_iconst (pc := 54) 5 X (dg dt_Grid_exchange 37 rfl) (by decide) ?_
      refine G_iload_n (pc := 55) 2 X (dg dt_Grid_exchange 38 rfl) rfl rfl ?_
      refine G_imul (pc := 56) X (dg dt_Grid_exchange 39 rfl) ?_
      refine G_iload_n (pc := 57) 3 X (dg dt_Grid_exchange 40 rfl) rfl rfl ?_
      refine G_iadd (pc := 58) X (dg dt_Grid_exchange 41 rfl) ?_
      refine G_iload (pc := 59) X (dg dt_Grid_exchange 42 rfl) rfl ?_
      refine G_iast (pc := 61) X (dg dt_Grid_exchange 43 rfl) (sh_g1 hg_v0) h (fun σ_8 h => ?_)
      exact G_vret (pc := 62) X hq (dg dt_Grid_exchange 44 rfl) h
set_option maxRecDepth 100000 in
set_option maxHeartbeats 4000000 in
theorem s_Grid_turnRows_L6 {θ : Th} {ad : Nat → Nat}  {rv : Int32} {σe : St} (X : Cx θ [] cX2_turnRows 7 "Quasigrove$Grid" 4 88)
    {v0 : Nat} {v1 : Int32} {v2 : Int32} (hq : Rq θ (g_SH, ad) (some .int) (some (.int rv)) σe) (hg_v0 : gok v0) {kx53 : Int32 → St → Option (Int32 × St)} (hkx53 : ∀ (v4 : Int32) (σ : St), kx53 v4 σ = some (rv, σe) → G θ (0, 0) (g_SH, ad) σ 53 [none, none, none, none, some (.int v4), none, none] []) :
    ∀ (n : Nat) (v4 : Int32) (v5 : Int32) (σ : St), f_Grid_turnRows_L6 v0 v1 v2 kx53 n v4 v5 σ = some (rv, σe) → G θ (0, 0) (g_SH, ad) σ 6 [some (.ref (ad v0)), some (.int v1), some (.int v2), none, some (.int v4), some (.int v5), none] [] := by
  intro n
  induction n with
  | zero => intro v4 v5 σ h; rw [f_Grid_turnRows_L6] at h; cases h
  | succ n ih =>
    intro v4 v5 σ h
    rw [f_Grid_turnRows_L6] at h
    refine G_iload (pc := 6) X (dg dt_Grid_turnRows 4 rfl) rfl ?_
    refine G_aload_n (pc := 8) 0 X (dg dt_Grid_turnRows 5 rfl) rfl rfl ?_
    refine G_getI (pc := 9) 3 X (dg dt_Grid_turnRows 6 rfl) fc_0 w_42 rfl (Nat.le_of_ble_eq_true rfl) (sh_g hg_v0) rfl ?_
    refine G_icmp_ge (pc := 12) 53 X (dg dt_Grid_turnRows 7 rfl) (by decide) h (fun h => ?_) (fun h => ?_)
    · exact G_wk (hkx53 v4 σ h) ⟨rfl, trivial⟩
    · refine G_iload (pc := 15) X (dg dt_Grid_turnRows 8 rfl) rfl ?_
      refine G_iconst (pc := 17) (-1) X (dg dt_Grid_turnRows 9 rfl) (by decide) ?_
      refine G_icmp_eq (pc := 18) 53 X (dg dt_Grid_turnRows 10 rfl) (by decide) h (fun h => ?_) (fun h => ?_)
      · exact G_wk (hkx53 v4 σ h) ⟨rfl, trivial⟩
      · refine G_aload_n (pc := 21) 0 X (dg dt_Grid_turnRows 11 rfl) rfl rfl ?_
        refine G_iload_n (pc := 22) 1 X (dg dt_Grid_turnRows 12 rfl) rfl rfl ?_
        refine G_aload_n (pc := 23) 0 X (dg dt_Grid_turnRows 13 rfl) rfl rfl ?_
        refine G_iload_n (pc := 24) 2 X (dg dt_Grid_turnRows 14 rfl) rfl rfl ?_
        refine G_iload (pc := 25) X (dg dt_Grid_turnRows 15 rfl) rfl ?_
        obtain ⟨r_2, hc_1, h⟩ := cap_go h
        refine G_callV (pc := 27) (S := [.int v1, .ref (ad v0)]) [.int v2, .int v5] nosub X  (dg dt_Grid_turnRows 16 rfl) cb_Grid_signAt cv_Grid_signAt w_392 (s_Grid_signAt _ ad _ _ _ _ hg_v0 hc_1) rfl ⟨Nat.le_of_ble_eq_true rfl, Nat.le_of_ble_eq_true rfl⟩ (sh_g hg_v0) rfl (Nat.le_of_ble_eq_true rfl) Rc0 ?_
        obtain ⟨r_4, hc_3, h⟩ := cap_go h
        refine G_callV (pc := 30) (S := []) [.int v1, .int r_2] nosub X  (dg dt_Grid_turnRows 17 rfl) cb_Grid_columnOf cv_Grid_columnOf w_500 (s_Grid_columnOf _ ad _ _ _ _ hg_v0 hc_3) rfl ⟨Nat.le_of_ble_eq_true rfl, Nat.le_of_ble_eq_true rfl⟩ (sh_g hg_v0) rfl (Nat.le_of_ble_eq_true rfl) Rc0 ?_
        refine G_istore (pc := 33) X (dg dt_Grid_turnRows 18 rfl) (Nat.le_of_ble_eq_true rfl) rfl ?_
        refine G_aload_n (pc := 35) 0 X (dg dt_Grid_turnRows 19 rfl) rfl rfl ?_
        refine G_iload_n (pc := 36) 1 X (dg dt_Grid_turnRows 20 rfl) rfl rfl ?_
        refine G_iload_n (pc := 37) 2 X (dg dt_Grid_turnRows 21 rfl) rfl rfl ?_
        refine G_iload (pc := 38) X (dg dt_Grid_turnRows 22 rfl) rfl ?_
        obtain ⟨r_6, σ_7, hc_5, h⟩ := cal_go h
        refine G_callV (pc := 40) (S := []) [.int v1, .int v2, .int v5] nosub X  (dg dt_Grid_turnRows 23 rfl) cb_Grid_exchange cv_Grid_exchange w_504 (s_Grid_exchange _ ad _ _ _ _ _ hg_v0 hc_5) rfl ⟨Nat.le_of_ble_eq_true rfl, Nat.le_of_ble_eq_true rfl⟩ (sh_g hg_v0) rfl (Nat.le_of_ble_eq_true rfl) Rc0 ?_
        refine G_iload (pc := 43) X (dg dt_Grid_turnRows 24 rfl) rfl ?_
        refine G_istore (pc := 45) X (dg dt_Grid_turnRows 25 rfl) (Nat.le_of_ble_eq_true rfl) rfl ?_
        refine G_iinc (pc := 47) (v4 + 1) X (dg dt_Grid_turnRows 26 rfl) rfl (Nat.le_of_ble_eq_true rfl) rfl rfl ?_
        refine G_goto (pc := 50) 6 X (dg dt_Grid_turnRows 27 rfl) (by decide) ?_
        exact G_wk (ih (v4 + 1) r_4 σ_7 h) ⟨rfl, ⟨rfl, ⟨rfl, ⟨rfl, ⟨rfl, trivial⟩⟩⟩⟩⟩
set_option maxRecDepth 100000 in
set_option maxHeartbeats 4000000 in
theorem s_Grid_turnRows (l : Launch) (ad : Nat → Nat) (σ : St) (v0 : Nat) (v1 : Int32) (v2 : Int32) (v3 : Int32) (hg_v0 : gok v0) {rv : Int32} {σe : St} (h : f_Grid_turnRows σ v0 v1 v2 v3 = some (rv, σe)) : Rt l [] yX2_turnRows cX2_turnRows 7 (some .int) 4 88 (g_SH, ad) [.ref (ad v0), .int v1, .int v2, .int v3] σ (some (.int rv)) σe := by
  refine Rt.intro (L := [some (.ref (ad v0)), some (.int v1), some (.int v2), some (.int v3), none, none, none]) (by decide +kernel) (Nat.le_of_ble_eq_true rfl) rfl (fun θ hl X hq => ?_)
  subst hl
  unfold f_Grid_turnRows at h
  refine G_iconst (pc := 0) 0 X (dg dt_Grid_turnRows 0 rfl) (by decide) ?_
  refine G_istore (pc := 1) X (dg dt_Grid_turnRows 1 rfl) (Nat.le_of_ble_eq_true rfl) rfl ?_
  refine G_iload_n (pc := 3) 3 X (dg dt_Grid_turnRows 2 rfl) rfl rfl ?_
  refine G_istore (pc := 4) X (dg dt_Grid_turnRows 3 rfl) (Nat.le_of_ble_eq_true rfl) rfl ?_
  refine G_weak (L' := [some (.ref (ad v0)), some (.int v1), some (.int v2), none, some (.int 0), some (.int v3), none]) ⟨rfl, ⟨rfl, ⟨rfl, ⟨rfl, ⟨rfl, trivial⟩⟩⟩⟩⟩ ?_
  refine s_Grid_turnRows_L6  X hq hg_v0 (fun v4_8 σ_9 h => ?_) _ _ _ _ h
  refine G_iload (pc := 53) X (dg dt_Grid_turnRows 28 rfl) rfl ?_
  exact G_iret (pc := 55) X hq (dg dt_Grid_turnRows 29 rfl) h
set_option maxRecDepth 100000 in
set_option maxHeartbeats 4000000 in
theorem s_Grid_copy_L18 {θ : Th} {ad : Nat → Nat}  {rv : Unit} {σe : St} (X : Cx θ [] cX2_copy 3 "Quasigrove$Grid" 0 0)
    {v0 : Nat} {v1 : Nat} (hq : Rq θ (g_SH, ad) none none σe) (hg_v0 : gok v0) (hg_v1 : gok v1) {kx42 : St → Option (Unit × St)} (hkx42 : ∀ (σ : St), kx42 σ = some (rv, σe) → G θ (0, 0) (g_SH, ad) σ 42 [some (.ref (ad v0)), some (.ref (ad v1)), none] []) :
    ∀ (n : Nat) (v2 : Int32) (σ : St), f_Grid_copy_L18 v0 v1 kx42 n v2 σ = some (rv, σe) → G θ (0, 0) (g_SH, ad) σ 18 [some (.ref (ad v0)), some (.ref (ad v1)), some (.int v2)] [] := by
  intro n
  induction n with
  | zero => intro v2 σ h; rw [f_Grid_copy_L18] at h; cases h
  | succ n ih =>
    intro v2 σ h
    rw [f_Grid_copy_L18] at h
    refine G_iload_n (pc := 18) 2 X (dg dt_Grid_copy 10 rfl) rfl rfl ?_
    refine G_bipush (pc := 19) 25 X (dg dt_Grid_copy 11 rfl) (by decide) ?_
    refine G_icmp_ge (pc := 21) 42 X (dg dt_Grid_copy 12 rfl) (by decide) h (fun h => ?_) (fun h => ?_)
    · exact G_wk (hkx42 σ h) ⟨rfl, ⟨rfl, trivial⟩⟩
    · refine G_aload_n (pc := 24) 0 X (dg dt_Grid_copy 13 rfl) rfl rfl ?_
      refine G_getR (pc := 25) 0 X (dg dt_Grid_copy 14 rfl) fc_0 w_39 rfl (Nat.le_of_ble_eq_true rfl) (sh_g hg_v0) rfl ?_
      refine G_iload_n (pc := 28) 2 X (dg dt_Grid_copy 15 rfl) rfl rfl ?_
      refine G_aload_n (pc := 29) 1 X (dg dt_Grid_copy 16 rfl) rfl rfl ?_
      refine G_getR (pc := 30) 0 X (dg dt_Grid_copy 17 rfl) fc_0 w_39 rfl (Nat.le_of_ble_eq_true rfl) (sh_g hg_v1) rfl ?_
      refine G_iload_n (pc := 33) 2 X (dg dt_Grid_copy 18 rfl) rfl rfl ?_
      refine G_iald (pc := 34) X (dg dt_Grid_copy 19 rfl) (sh_g1 hg_v1) h (fun r_3 h => ?_)
      refine G_iast (pc := 35) X (dg dt_Grid_copy 20 rfl) (sh_g1 hg_v0) h (fun σ_4 h => ?_)
      refine G_iinc (pc := 36) (v2 + 1) X (dg dt_Grid_copy 21 rfl) rfl (Nat.le_of_ble_eq_true rfl) rfl rfl ?_
      refine G_goto (pc := 39) 18 X (dg dt_Grid_copy 22 rfl) (by decide) ?_
      exact G_wk (ih (v2 + 1) σ_4 h) ⟨rfl, ⟨rfl, ⟨rfl, trivial⟩⟩⟩
set_option maxRecDepth 100000 in
set_option maxHeartbeats 4000000 in
theorem s_Grid_copy_L44 {θ : Th} {ad : Nat → Nat}  {rv : Unit} {σe : St} (X : Cx θ [] cX2_copy 3 "Quasigrove$Grid" 0 0)
    {v0 : Nat} {v1 : Nat} (hq : Rq θ (g_SH, ad) none none σe) (hg_v0 : gok v0) (hg_v1 : gok v1) :
    ∀ (n : Nat) (v2 : Int32) (σ : St), f_Grid_copy_L44 v0 v1 n v2 σ = some (rv, σe) → G θ (0, 0) (g_SH, ad) σ 44 [some (.ref (ad v0)), some (.ref (ad v1)), some (.int v2)] [] := by
  intro n
  induction n with
  | zero => intro v2 σ h; rw [f_Grid_copy_L44] at h; cases h
  | succ n ih =>
    intro v2 σ h
    rw [f_Grid_copy_L44] at h
    refine G_iload_n (pc := 44) 2 X (dg dt_Grid_copy 25 rfl) rfl rfl ?_
    refine G_iconst (pc := 45) 5 X (dg dt_Grid_copy 26 rfl) (by decide) ?_
    refine G_icmp_ge (pc := 46) 79 X (dg dt_Grid_copy 27 rfl) (by decide) h (fun h => ?_) (fun h => ?_)
    · exact G_vret (pc := 79) X hq (dg dt_Grid_copy 46 rfl) h
    · refine G_aload_n (pc := 49) 0 X (dg dt_Grid_copy 28 rfl) rfl rfl ?_
      refine G_getR (pc := 50) 1 X (dg dt_Grid_copy 29 rfl) fc_0 w_40 rfl (Nat.le_of_ble_eq_true rfl) (sh_g hg_v0) rfl ?_
      refine G_iload_n (pc := 53) 2 X (dg dt_Grid_copy 30 rfl) rfl rfl ?_
      refine G_aload_n (pc := 54) 1 X (dg dt_Grid_copy 31 rfl) rfl rfl ?_
      refine G_getR (pc := 55) 1 X (dg dt_Grid_copy 32 rfl) fc_0 w_40 rfl (Nat.le_of_ble_eq_true rfl) (sh_g hg_v1) rfl ?_
      refine G_iload_n (pc := 58) 2 X (dg dt_Grid_copy 33 rfl) rfl rfl ?_
      refine G_iald (pc := 59) X (dg dt_Grid_copy 34 rfl) (sh_g2 hg_v1) h (fun r_6 h => ?_)
      refine G_iast (pc := 60) X (dg dt_Grid_copy 35 rfl) (sh_g2 hg_v0) h (fun σ_7 h => ?_)
      refine G_aload_n (pc := 61) 0 X (dg dt_Grid_copy 36 rfl) rfl rfl ?_
      refine G_getR (pc := 62) 2 X (dg dt_Grid_copy 37 rfl) fc_0 w_41 rfl (Nat.le_of_ble_eq_true rfl) (sh_g hg_v0) rfl ?_
      refine G_iload_n (pc := 65) 2 X (dg dt_Grid_copy 38 rfl) rfl rfl ?_
      refine G_aload_n (pc := 66) 1 X (dg dt_Grid_copy 39 rfl) rfl rfl ?_
      refine G_getR (pc := 67) 2 X (dg dt_Grid_copy 40 rfl) fc_0 w_41 rfl (Nat.le_of_ble_eq_true rfl) (sh_g hg_v1) rfl ?_
      refine G_iload_n (pc := 70) 2 X (dg dt_Grid_copy 41 rfl) rfl rfl ?_
      refine G_iald (pc := 71) X (dg dt_Grid_copy 42 rfl) (sh_g3 hg_v1) h (fun r_8 h => ?_)
      refine G_iast (pc := 72) X (dg dt_Grid_copy 43 rfl) (sh_g3 hg_v0) h (fun σ_9 h => ?_)
      refine G_iinc (pc := 73) (v2 + 1) X (dg dt_Grid_copy 44 rfl) rfl (Nat.le_of_ble_eq_true rfl) rfl rfl ?_
      refine G_goto (pc := 76) 44 X (dg dt_Grid_copy 45 rfl) (by decide) ?_
      exact G_wk (ih (v2 + 1) σ_9 h) ⟨rfl, ⟨rfl, ⟨rfl, trivial⟩⟩⟩
set_option maxRecDepth 100000 in
set_option maxHeartbeats 4000000 in
theorem s_Grid_copy (l : Launch) (ad : Nat → Nat) (σ : St) (v0 : Nat) (v1 : Nat) (hg_v0 : gok v0) (hg_v1 : gok v1) {rv : Unit} {σe : St} (h : f_Grid_copy σ v0 v1 = some (rv, σe)) : Rt l [] yX2_copy cX2_copy 3 none 0 0 (g_SH, ad) [.ref (ad v0), .ref (ad v1)] σ none σe := by
  refine Rt.intro (L := [some (.ref (ad v0)), some (.ref (ad v1)), none]) (by decide +kernel) (Nat.le_of_ble_eq_true rfl) rfl (fun θ hl X hq => ?_)
  subst hl
  unfold f_Grid_copy at h
  refine G_aload_n (pc := 0) 0 X (dg dt_Grid_copy 0 rfl) rfl rfl ?_
  refine G_aload_n (pc := 1) 1 X (dg dt_Grid_copy 1 rfl) rfl rfl ?_
  refine G_getI (pc := 2) 3 X (dg dt_Grid_copy 2 rfl) fc_0 w_42 rfl (Nat.le_of_ble_eq_true rfl) (sh_g hg_v1) rfl ?_
  refine G_put (pc := 5) 3 X (dg dt_Grid_copy 3 rfl) fc_0 w_42 rfl (Nat.le_of_ble_eq_true rfl) rfl rfl (sh_g hg_v0) rfl h (fun σ_1 h => ?_)
  refine G_aload_n (pc := 8) 0 X (dg dt_Grid_copy 4 rfl) rfl rfl ?_
  refine G_aload_n (pc := 9) 1 X (dg dt_Grid_copy 5 rfl) rfl rfl ?_
  refine G_getI (pc := 10) 4 X (dg dt_Grid_copy 6 rfl) fc_0 w_45 rfl (Nat.le_of_ble_eq_true rfl) (sh_g hg_v1) rfl ?_
  refine G_put (pc := 13) 4 X (dg dt_Grid_copy 7 rfl) fc_0 w_45 rfl (Nat.le_of_ble_eq_true rfl) rfl rfl (sh_g hg_v0) rfl h (fun σ_2 h => ?_)
  refine G_iconst (pc := 16) 0 X (dg dt_Grid_copy 8 rfl) (by decide) ?_
  refine G_istore_n (pc := 17) 2 X (dg dt_Grid_copy 9 rfl) rfl (Nat.le_of_ble_eq_true rfl) rfl ?_
  refine G_weak (L' := [some (.ref (ad v0)), some (.ref (ad v1)), some (.int 0)]) ⟨rfl, ⟨rfl, ⟨rfl, trivial⟩⟩⟩ ?_
  refine s_Grid_copy_L18  X hq hg_v0 hg_v1 (fun σ_5 h => ?_) _ _ _ h
  refine G_iconst (pc := 42) 0 X (dg dt_Grid_copy 23 rfl) (by decide) ?_
  refine G_istore_n (pc := 43) 2 X (dg dt_Grid_copy 24 rfl) rfl (Nat.le_of_ble_eq_true rfl) rfl ?_
  refine G_weak (L' := [some (.ref (ad v0)), some (.ref (ad v1)), some (.int 0)]) ⟨rfl, ⟨rfl, ⟨rfl, trivial⟩⟩⟩ ?_
  refine s_Grid_copy_L44  X hq hg_v0 hg_v1  _ _ _ h
set_option maxRecDepth 100000 in
set_option maxHeartbeats 4000000 in
theorem s_Grid_optionsAt (l : Launch) (ad : Nat → Nat) (σ : St) (v0 : Nat) (v1 : Int32) (v2 : Int32) (hg_v0 : gok v0) {rv : Int32} (h : f_Grid_optionsAt σ v0 v1 v2 = some rv) : Rt l [] yX2_optionsAt cX2_optionsAt 3 (some .int) 2 43 (g_SH, ad) [.ref (ad v0), .int v1, .int v2] σ (some (.int rv)) σ := by
  refine Rt.intro (L := [some (.ref (ad v0)), some (.int v1), some (.int v2)]) (by decide +kernel) (Nat.le_of_ble_eq_true rfl) rfl (fun θ hl X hq => ?_)
  subst hl
  unfold f_Grid_optionsAt at h
  refine G_aload_n (pc := 0) 0 X (dg dt_Grid_optionsAt 0 rfl) rfl rfl ?_
  refine G_iload_n (pc := 1) 1 X (dg dt_Grid_optionsAt 1 rfl) rfl rfl ?_
  refine G_iload_n (pc := 2) 2 X (dg dt_Grid_optionsAt 2 rfl) rfl rfl ?_
  obtain ⟨r_2, hc_1, h⟩ := cap_go h
  refine G_callV (pc := 3) (S := []) [.int v1, .int v2] nosub X  (dg dt_Grid_optionsAt 3 rfl) cb_Grid_has cv_Grid_has w_336 (s_Grid_has _ ad _ _ _ _ hg_v0 hc_1) rfl ⟨Nat.le_of_ble_eq_true rfl, Nat.le_of_ble_eq_true rfl⟩ (sh_g hg_v0) rfl (Nat.le_of_ble_eq_true rfl) Rc0 ?_
  refine G_if_eq (pc := 6) 23 X (dg dt_Grid_optionsAt 4 rfl) (by decide) h (fun h => ?_) (fun h => ?_)
  · refine G_iconst (pc := 23) 0 X (dg dt_Grid_optionsAt 15 rfl) (by decide) ?_
    exact G_iretp (pc := 24) X hq (dg dt_Grid_optionsAt 16 rfl) h
  · refine G_aload_n (pc := 9) 0 X (dg dt_Grid_optionsAt 5 rfl) rfl rfl ?_
    refine G_getR (pc := 10) 0 X (dg dt_Grid_optionsAt 6 rfl) fc_0 w_39 rfl (Nat.le_of_ble_eq_true rfl) (sh_g hg_v0) rfl ?_
    refine G_iconst (pc := 13) 5 X (dg dt_Grid_optionsAt 7 rfl) (by decide) ?_
    refine G_iload_n (pc := 14) 1 X (dg dt_Grid_optionsAt 8 rfl) rfl rfl ?_
    refine G_imul (pc := 15) X (dg dt_Grid_optionsAt 9 rfl) ?_
    refine G_iload_n (pc := 16) 2 X (dg dt_Grid_optionsAt 10 rfl) rfl rfl ?_
    refine G_iadd (pc := 17) X (dg dt_Grid_optionsAt 11 rfl) ?_
    refine G_iald (pc := 18) X (dg dt_Grid_optionsAt 12 rfl) (sh_g1 hg_v0) h (fun r_3 h => ?_)
    refine G_iconst (pc := 19) (-1) X (dg dt_Grid_optionsAt 13 rfl) (by decide) ?_
    refine G_icmp_eq (pc := 20) 25 X (dg dt_Grid_optionsAt 14 rfl) (by decide) h (fun h => ?_) (fun h => ?_)
    · refine G_aload_n (pc := 25) 0 X (dg dt_Grid_optionsAt 17 rfl) rfl rfl ?_
      obtain ⟨r_5, hc_4, h⟩ := cap_go h
      refine G_callV (pc := 26) (S := []) [] nosub X  (dg dt_Grid_optionsAt 18 rfl) cb_Grid_allSigns cv_Grid_allSigns w_397 (s_Grid_allSigns _ ad _ _ hg_v0 hc_4) rfl ⟨Nat.le_of_ble_eq_true rfl, Nat.le_of_ble_eq_true rfl⟩ (sh_g hg_v0) rfl (Nat.le_of_ble_eq_true rfl) Rc0 ?_
      refine G_aload_n (pc := 29) 0 X (dg dt_Grid_optionsAt 19 rfl) rfl rfl ?_
      refine G_getR (pc := 30) 1 X (dg dt_Grid_optionsAt 20 rfl) fc_0 w_40 rfl (Nat.le_of_ble_eq_true rfl) (sh_g hg_v0) rfl ?_
      refine G_iload_n (pc := 33) 1 X (dg dt_Grid_optionsAt 21 rfl) rfl rfl ?_
      refine G_iald (pc := 34) X (dg dt_Grid_optionsAt 22 rfl) (sh_g2 hg_v0) h (fun r_6 h => ?_)
      refine G_aload_n (pc := 35) 0 X (dg dt_Grid_optionsAt 23 rfl) rfl rfl ?_
      refine G_getR (pc := 36) 2 X (dg dt_Grid_optionsAt 24 rfl) fc_0 w_41 rfl (Nat.le_of_ble_eq_true rfl) (sh_g hg_v0) rfl ?_
      refine G_iload_n (pc := 39) 2 X (dg dt_Grid_optionsAt 25 rfl) rfl rfl ?_
      refine G_iald (pc := 40) X (dg dt_Grid_optionsAt 26 rfl) (sh_g3 hg_v0) h (fun r_7 h => ?_)
      refine G_ior (pc := 41) X (dg dt_Grid_optionsAt 27 rfl) ?_
      refine G_iconst (pc := 42) (-1) X (dg dt_Grid_optionsAt 28 rfl) (by decide) ?_
      refine G_ixor (pc := 43) X (dg dt_Grid_optionsAt 29 rfl) ?_
      refine G_iand (pc := 44) X (dg dt_Grid_optionsAt 30 rfl) ?_
      exact G_iretp (pc := 45) X hq (dg dt_Grid_optionsAt 31 rfl) h
    · refine G_iconst (pc := 23) 0 X (dg dt_Grid_optionsAt 15 rfl) (by decide) ?_
      exact G_iretp (pc := 24) X hq (dg dt_Grid_optionsAt 16 rfl) h
set_option maxRecDepth 100000 in
set_option maxHeartbeats 4000000 in
theorem s_Grid_deadCells_L14 {θ : Th} {ad : Nat → Nat}  {rv : Int32} (X : Cx θ [] cX2_deadCells 4 "Quasigrove$Grid" 3 65)
    {v0 : Nat} {v2 : Int32} {σ : St} (hq : Rq θ (g_SH, ad) (some .int) (some (.int rv)) σ) (hg_v0 : gok v0) {kx50 : Int32 → Option Int32} (hkx50 : ∀ (v1 : Int32), kx50 v1 = some rv → G θ (0, 0) (g_SH, ad) σ 50 [some (.ref (ad v0)), some (.int v1), some (.int v2), none] []) :
    ∀ (n : Nat) (v1 : Int32) (v3 : Int32), f_Grid_deadCells_L14 v0 v2 σ kx50 n v1 v3 = some rv → G θ (0, 0) (g_SH, ad) σ 14 [some (.ref (ad v0)), some (.int v1), some (.int v2), some (.int v3)] [] := by
  intro n
  induction n with
  | zero => intro v1 v3 h; rw [f_Grid_deadCells_L14] at h; cases h
  | succ n ih =>
    intro v1 v3 h
    rw [f_Grid_deadCells_L14] at h
    refine G_iload_n (pc := 14) 3 X (dg dt_Grid_deadCells 10 rfl) rfl rfl ?_
    refine G_aload_n (pc := 15) 0 X (dg dt_Grid_deadCells 11 rfl) rfl rfl ?_
    refine G_getI (pc := 16) 3 X (dg dt_Grid_deadCells 12 rfl) fc_0 w_42 rfl (Nat.le_of_ble_eq_true rfl) (sh_g hg_v0) rfl ?_
    refine G_icmp_ge (pc := 19) 50 X (dg dt_Grid_deadCells 13 rfl) (by decide) h (fun h => ?_) (fun h => ?_)
    · exact G_wk (hkx50 v1 h) ⟨rfl, ⟨rfl, ⟨rfl, trivial⟩⟩⟩
    · refine G_aload_n (pc := 22) 0 X (dg dt_Grid_deadCells 14 rfl) rfl rfl ?_
      refine G_iload_n (pc := 23) 2 X (dg dt_Grid_deadCells 15 rfl) rfl rfl ?_
      refine G_iload_n (pc := 24) 3 X (dg dt_Grid_deadCells 16 rfl) rfl rfl ?_
      obtain ⟨r_2, hc_1, h⟩ := cap_go h
      refine G_callV (pc := 25) (S := []) [.int v2, .int v3] nosub X  (dg dt_Grid_deadCells 17 rfl) cb_Grid_signAt cv_Grid_signAt w_392 (s_Grid_signAt _ ad _ _ _ _ hg_v0 hc_1) rfl ⟨Nat.le_of_ble_eq_true rfl, Nat.le_of_ble_eq_true rfl⟩ (sh_g hg_v0) rfl (Nat.le_of_ble_eq_true rfl) Rc0 ?_
      refine G_iconst (pc := 28) (-1) X (dg dt_Grid_deadCells 18 rfl) (by decide) ?_
      refine jn_go (fun j44_3 => ∀ (v1_4 : Int32), j44_3 v1_4 = some rv → G θ (0, 0) (g_SH, ad) σ 44 [some (.ref (ad v0)), some (.int v1_4), some (.int v2), some (.int v3)] []) h ?_ (fun j44_3 hj44_3 h => ?_)
      · intro v1_4 h
        refine G_iinc (pc := 44) (v3 + 1) X (dg dt_Grid_deadCells 26 rfl) rfl (Nat.le_of_ble_eq_true rfl) rfl rfl ?_
        refine G_goto (pc := 47) 14 X (dg dt_Grid_deadCells 27 rfl) (by decide) ?_
        exact G_wk (ih v1_4 (v3 + 1) h) ⟨rfl, ⟨rfl, ⟨rfl, ⟨rfl, trivial⟩⟩⟩⟩
      refine G_icmp_ne (pc := 29) 44 X (dg dt_Grid_deadCells 19 rfl) (by decide) h (fun h => ?_) (fun h => ?_)
      · exact G_wk (hj44_3 v1 h) ⟨rfl, ⟨rfl, ⟨rfl, ⟨rfl, trivial⟩⟩⟩⟩
      · refine G_aload_n (pc := 32) 0 X (dg dt_Grid_deadCells 20 rfl) rfl rfl ?_
        refine G_iload_n (pc := 33) 2 X (dg dt_Grid_deadCells 21 rfl) rfl rfl ?_
        refine G_iload_n (pc := 34) 3 X (dg dt_Grid_deadCells 22 rfl) rfl rfl ?_
        obtain ⟨r_6, hc_5, h⟩ := cap_go h
        refine G_callV (pc := 35) (S := []) [.int v2, .int v3] nosub X  (dg dt_Grid_deadCells 23 rfl) cb_Grid_optionsAt cv_Grid_optionsAt w_393 (s_Grid_optionsAt _ ad _ _ _ _ hg_v0 hc_5) rfl ⟨Nat.le_of_ble_eq_true rfl, Nat.le_of_ble_eq_true rfl⟩ (sh_g hg_v0) rfl (Nat.le_of_ble_eq_true rfl) Rc0 ?_
        refine G_if_ne (pc := 38) 44 X (dg dt_Grid_deadCells 24 rfl) (by decide) h (fun h => ?_) (fun h => ?_)
        · exact G_wk (hj44_3 v1 h) ⟨rfl, ⟨rfl, ⟨rfl, ⟨rfl, trivial⟩⟩⟩⟩
        · refine G_iinc (pc := 41) (v1 + 1) X (dg dt_Grid_deadCells 25 rfl) rfl (Nat.le_of_ble_eq_true rfl) rfl rfl ?_
          exact G_wk (hj44_3 (v1 + 1) h) ⟨rfl, ⟨rfl, ⟨rfl, ⟨rfl, trivial⟩⟩⟩⟩
set_option maxRecDepth 100000 in
set_option maxHeartbeats 4000000 in
theorem s_Grid_deadCells_L4 {θ : Th} {ad : Nat → Nat}  {rv : Int32} (X : Cx θ [] cX2_deadCells 4 "Quasigrove$Grid" 3 65)
    {v0 : Nat} {σ : St} (hq : Rq θ (g_SH, ad) (some .int) (some (.int rv)) σ) (hg_v0 : gok v0) {kx56 : Int32 → Option Int32} (hkx56 : ∀ (v1 : Int32), kx56 v1 = some rv → G θ (0, 0) (g_SH, ad) σ 56 [none, some (.int v1), none, none] []) :
    ∀ (n : Nat) (v1 : Int32) (v2 : Int32), f_Grid_deadCells_L4 v0 σ kx56 n v1 v2 = some rv → G θ (0, 0) (g_SH, ad) σ 4 [some (.ref (ad v0)), some (.int v1), some (.int v2), none] [] := by
  intro n
  induction n with
  | zero => intro v1 v2 h; rw [f_Grid_deadCells_L4] at h; cases h
  | succ n ih =>
    intro v1 v2 h
    rw [f_Grid_deadCells_L4] at h
    refine G_iload_n (pc := 4) 2 X (dg dt_Grid_deadCells 4 rfl) rfl rfl ?_
    refine G_aload_n (pc := 5) 0 X (dg dt_Grid_deadCells 5 rfl) rfl rfl ?_
    refine G_getI (pc := 6) 3 X (dg dt_Grid_deadCells 6 rfl) fc_0 w_42 rfl (Nat.le_of_ble_eq_true rfl) (sh_g hg_v0) rfl ?_
    refine G_icmp_ge (pc := 9) 56 X (dg dt_Grid_deadCells 7 rfl) (by decide) h (fun h => ?_) (fun h => ?_)
    · exact G_wk (hkx56 v1 h) ⟨rfl, trivial⟩
    · refine G_iconst (pc := 12) 0 X (dg dt_Grid_deadCells 8 rfl) (by decide) ?_
      refine G_istore_n (pc := 13) 3 X (dg dt_Grid_deadCells 9 rfl) rfl (Nat.le_of_ble_eq_true rfl) rfl ?_
      refine G_weak (L' := [some (.ref (ad v0)), some (.int v1), some (.int v2), some (.int 0)]) ⟨rfl, ⟨rfl, ⟨rfl, ⟨rfl, trivial⟩⟩⟩⟩ ?_
      refine s_Grid_deadCells_L14  X hq hg_v0 (fun v1_7 h => ?_) _ _ _ h
      refine G_iinc (pc := 50) (v2 + 1) X (dg dt_Grid_deadCells 28 rfl) rfl (Nat.le_of_ble_eq_true rfl) rfl rfl ?_
      refine G_goto (pc := 53) 4 X (dg dt_Grid_deadCells 29 rfl) (by decide) ?_
      exact G_wk (ih v1_7 (v2 + 1) h) ⟨rfl, ⟨rfl, ⟨rfl, trivial⟩⟩⟩
set_option maxRecDepth 100000 in
set_option maxHeartbeats 4000000 in
theorem s_Grid_deadCells (l : Launch) (ad : Nat → Nat) (σ : St) (v0 : Nat) (hg_v0 : gok v0) {rv : Int32} (h : f_Grid_deadCells σ v0 = some rv) : Rt l [] yX2_deadCells cX2_deadCells 4 (some .int) 3 65 (g_SH, ad) [.ref (ad v0)] σ (some (.int rv)) σ := by
  refine Rt.intro (L := [some (.ref (ad v0)), none, none, none]) (by decide +kernel) (Nat.le_of_ble_eq_true rfl) rfl (fun θ hl X hq => ?_)
  subst hl
  unfold f_Grid_deadCells at h
  refine G_iconst (pc := 0) 0 X (dg dt_Grid_deadCells 0 rfl) (by decide) ?_
  refine G_istore_n (pc := 1) 1 X (dg dt_Grid_deadCells 1 rfl) rfl (Nat.le_of_ble_eq_true rfl) rfl ?_
  refine G_iconst (pc := 2) 0 X (dg dt_Grid_deadCells 2 rfl) (by decide) ?_
  refine G_istore_n (pc := 3) 2 X (dg dt_Grid_deadCells 3 rfl) rfl (Nat.le_of_ble_eq_true rfl) rfl ?_
  refine G_weak (L' := [some (.ref (ad v0)), some (.int 0), some (.int 0), none]) ⟨rfl, ⟨rfl, ⟨rfl, trivial⟩⟩⟩ ?_
  refine s_Grid_deadCells_L4  X hq hg_v0 (fun v1_8 h => ?_) _ _ _ h
  refine G_iload_n (pc := 56) 1 X (dg dt_Grid_deadCells 30 rfl) rfl rfl ?_
  exact G_iretp (pc := 57) X hq (dg dt_Grid_deadCells 31 rfl) h
set_option maxRecDepth 100000 in
set_option maxHeartbeats 4000000 in
theorem s_Grid_clear_L20 {θ : Th} {ad : Nat → Nat}  {rv : Unit} {σe : St} (X : Cx θ [] cX2_clear 3 "Quasigrove$Grid" 1 21)
    {v0 : Nat} (hq : Rq θ (g_SH, ad) none none σe) (hg_v0 : gok v0) {kx39 : St → Option (Unit × St)} (hkx39 : ∀ (σ : St), kx39 σ = some (rv, σe) → G θ (0, 0) (g_SH, ad) σ 39 [some (.ref (ad v0)), none, none] []) :
    ∀ (n : Nat) (v2 : Int32) (σ : St), f_Grid_clear_L20 v0 kx39 n v2 σ = some (rv, σe) → G θ (0, 0) (g_SH, ad) σ 20 [some (.ref (ad v0)), none, some (.int v2)] [] := by
  intro n
  induction n with
  | zero => intro v2 σ h; rw [f_Grid_clear_L20] at h; cases h
  | succ n ih =>
    intro v2 σ h
    rw [f_Grid_clear_L20] at h
    refine G_iload_n (pc := 20) 2 X (dg dt_Grid_clear 12 rfl) rfl rfl ?_
    refine G_bipush (pc := 21) 25 X (dg dt_Grid_clear 13 rfl) (by decide) ?_
    refine G_icmp_ge (pc := 23) 39 X (dg dt_Grid_clear 14 rfl) (by decide) h (fun h => ?_) (fun h => ?_)
    · exact G_wk (hkx39 σ h) ⟨rfl, trivial⟩
    · refine G_aload_n (pc := 26) 0 X (dg dt_Grid_clear 15 rfl) rfl rfl ?_
      refine G_getR (pc := 27) 0 X (dg dt_Grid_clear 16 rfl) fc_0 w_39 rfl (Nat.le_of_ble_eq_true rfl) (sh_g hg_v0) rfl ?_
      refine G_iload_n (pc := 30) 2 X (dg dt_Grid_clear 17 rfl) rfl rfl ?_
      refine G_iconst (pc := 31) (-1) X (dg dt_Grid_clear 18 rfl) (by decide) ?_
      refine G_iast (pc := 32) X (dg dt_Grid_clear 19 rfl) (sh_g1 hg_v0) h (fun σ_3 h => ?_)
      refine G_iinc (pc := 33) (v2 + 1) X (dg dt_Grid_clear 20 rfl) rfl (Nat.le_of_ble_eq_true rfl) rfl rfl ?_
      refine G_goto (pc := 36) 20 X (dg dt_Grid_clear 21 rfl) (by decide) ?_
      exact G_wk (ih (v2 + 1) σ_3 h) ⟨rfl, ⟨rfl, trivial⟩⟩
set_option maxRecDepth 100000 in
set_option maxHeartbeats 4000000 in
theorem s_Grid_clear_L41 {θ : Th} {ad : Nat → Nat}  {rv : Unit} {σe : St} (X : Cx θ [] cX2_clear 3 "Quasigrove$Grid" 1 21)
    {v0 : Nat} (hq : Rq θ (g_SH, ad) none none σe) (hg_v0 : gok v0) :
    ∀ (n : Nat) (v2 : Int32) (σ : St), f_Grid_clear_L41 v0 n v2 σ = some (rv, σe) → G θ (0, 0) (g_SH, ad) σ 41 [some (.ref (ad v0)), none, some (.int v2)] [] := by
  intro n
  induction n with
  | zero => intro v2 σ h; rw [f_Grid_clear_L41] at h; cases h
  | succ n ih =>
    intro v2 σ h
    rw [f_Grid_clear_L41] at h
    refine G_iload_n (pc := 41) 2 X (dg dt_Grid_clear 24 rfl) rfl rfl ?_
    refine G_iconst (pc := 42) 5 X (dg dt_Grid_clear 25 rfl) (by decide) ?_
    refine G_icmp_ge (pc := 43) 66 X (dg dt_Grid_clear 26 rfl) (by decide) h (fun h => ?_) (fun h => ?_)
    · exact G_vret (pc := 66) X hq (dg dt_Grid_clear 39 rfl) h
    · refine G_aload_n (pc := 46) 0 X (dg dt_Grid_clear 27 rfl) rfl rfl ?_
      refine G_getR (pc := 47) 1 X (dg dt_Grid_clear 28 rfl) fc_0 w_40 rfl (Nat.le_of_ble_eq_true rfl) (sh_g hg_v0) rfl ?_
      refine G_iload_n (pc := 50) 2 X (dg dt_Grid_clear 29 rfl) rfl rfl ?_
      refine G_iconst (pc := 51) 0 X (dg dt_Grid_clear 30 rfl) (by decide) ?_
      refine G_iast (pc := 52) X (dg dt_Grid_clear 31 rfl) (sh_g2 hg_v0) h (fun σ_5 h => ?_)
      refine G_aload_n (pc := 53) 0 X (dg dt_Grid_clear 32 rfl) rfl rfl ?_
      refine G_getR (pc := 54) 2 X (dg dt_Grid_clear 33 rfl) fc_0 w_41 rfl (Nat.le_of_ble_eq_true rfl) (sh_g hg_v0) rfl ?_
      refine G_iload_n (pc := 57) 2 X (dg dt_Grid_clear 34 rfl) rfl rfl ?_
      refine G_iconst (pc := 58) 0 X (dg dt_Grid_clear 35 rfl) (by decide) ?_
      refine G_iast (pc := 59) X (dg dt_Grid_clear 36 rfl) (sh_g3 hg_v0) h (fun σ_6 h => ?_)
      refine G_iinc (pc := 60) (v2 + 1) X (dg dt_Grid_clear 37 rfl) rfl (Nat.le_of_ble_eq_true rfl) rfl rfl ?_
      refine G_goto (pc := 63) 41 X (dg dt_Grid_clear 38 rfl) (by decide) ?_
      exact G_wk (ih (v2 + 1) σ_6 h) ⟨rfl, ⟨rfl, trivial⟩⟩
set_option maxRecDepth 100000 in
set_option maxHeartbeats 4000000 in
theorem s_Grid_clear (l : Launch) (ad : Nat → Nat) (σ : St) (v0 : Nat) (v1 : Int32) (hg_v0 : gok v0) {rv : Unit} {σe : St} (h : f_Grid_clear σ v0 v1 = some (rv, σe)) : Rt l [] yX2_clear cX2_clear 3 none 1 21 (g_SH, ad) [.ref (ad v0), .int v1] σ none σe := by
  refine Rt.intro (L := [some (.ref (ad v0)), some (.int v1), none]) (by decide +kernel) (Nat.le_of_ble_eq_true rfl) rfl (fun θ hl X hq => ?_)
  subst hl
  unfold f_Grid_clear at h
  refine G_aload_n (pc := 0) 0 X (dg dt_Grid_clear 0 rfl) rfl rfl ?_
  refine G_iconst (pc := 1) 2 X (dg dt_Grid_clear 1 rfl) (by decide) ?_
  refine G_iload_n (pc := 2) 1 X (dg dt_Grid_clear 2 rfl) rfl rfl ?_
  refine G_iconst (pc := 3) 5 X (dg dt_Grid_clear 3 rfl) (by decide) ?_
  refine G_mmin (pc := 4) X (dg dt_Grid_clear 4 rfl) w_316 w_317 w_20 w_318 (Nat.le_of_ble_eq_true rfl) (Nat.le_of_ble_eq_true rfl) Rc0 ?_
  refine G_mmax (pc := 7) X (dg dt_Grid_clear 5 rfl) w_319 w_320 w_20 w_321 (Nat.le_of_ble_eq_true rfl) (Nat.le_of_ble_eq_true rfl) Rc0 ?_
  refine G_put (pc := 10) 3 X (dg dt_Grid_clear 6 rfl) fc_0 w_42 rfl (Nat.le_of_ble_eq_true rfl) rfl rfl (sh_g hg_v0) rfl h (fun σ_1 h => ?_)
  refine G_aload_n (pc := 13) 0 X (dg dt_Grid_clear 7 rfl) rfl rfl ?_
  refine G_iconst (pc := 14) 0 X (dg dt_Grid_clear 8 rfl) (by decide) ?_
  refine G_put (pc := 15) 4 X (dg dt_Grid_clear 9 rfl) fc_0 w_45 rfl (Nat.le_of_ble_eq_true rfl) rfl rfl (sh_g hg_v0) rfl h (fun σ_2 h => ?_)
  refine G_iconst (pc := 18) 0 X (dg dt_Grid_clear 10 rfl) (by decide) ?_
  refine G_istore_n (pc := 19) 2 X (dg dt_Grid_clear 11 rfl) rfl (Nat.le_of_ble_eq_true rfl) rfl ?_
  refine G_weak (L' := [some (.ref (ad v0)), none, some (.int 0)]) ⟨rfl, ⟨rfl, trivial⟩⟩ ?_
  refine s_Grid_clear_L20  X hq hg_v0 (fun σ_4 h => ?_) _ _ _ h
  refine G_iconst (pc := 39) 0 X (dg dt_Grid_clear 22 rfl) (by decide) ?_
  refine G_istore_n (pc := 40) 2 X (dg dt_Grid_clear 23 rfl) rfl (Nat.le_of_ble_eq_true rfl) rfl ?_
  refine G_weak (L' := [some (.ref (ad v0)), none, some (.int 0)]) ⟨rfl, ⟨rfl, trivial⟩⟩ ?_
  refine s_Grid_clear_L41  X hq hg_v0  _ _ _ h
