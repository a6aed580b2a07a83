set_option maxRecDepth 100000 in
set_option maxHeartbeats 4000000 in
theorem s_Q_gridAt {l : Launch} (htr : l.stackTraces = false) (_ : Unit) (ad : Nat → Nat) (σ : St) (v1 : Int32)  {rv : Except Nat Nat} {σe : St} (h : f_Q_gridAt σ v1 = some (rv, σe)) : RX l g_strs yX11_gridAt cX11_gridAt 2 (some (.object "Quasigrove$Grid")) 6 100 (g_SH, ad) [.ref (ad 0), .int v1] σ (xr ad rv) σe := by
  refine RX.intro htr (L := [some (.ref (ad 0)), some (.int v1)]) (by decide +kernel) (Nat.le_of_ble_eq_true rfl) rfl (fun θ hl X hq => ?_)
  subst hl
  unfold f_Q_gridAt at h
  refine G_iload_n (pc := 0) 1 X (dg dt_Q_gridAt 0 rfl) rfl rfl ?_
  refine jn_go (fun j30_1 => j30_1 = some (rv, σe) → G θ (0, 0) (g_SH, ad) σ 30 [none, none] []) h ?_ (fun j30_1 hj30_1 h => ?_)
  · intro  h
    exact G_xthrow (pc := 30) (e := 1) (text := "there is no such grid") X hq tw_254_258 (by decide) (dg dt_Q_gridAt 16 rfl) (dg dt_Q_gridAt 17 rfl) (dg dt_Q_gridAt 18 rfl) (dg dt_Q_gridAt 19 rfl) (dg dt_Q_gridAt 20 rfl) h (Nat.le_of_ble_eq_true rfl) (Nat.le_of_ble_eq_true rfl)
  refine G_if_lt (pc := 1) 30 X (dg dt_Q_gridAt 1 rfl) (by decide) h (fun h => ?_) (fun h => ?_)
  · exact G_wk (hj30_1  h) trivial
  · refine G_iload_n (pc := 4) 1 X (dg dt_Q_gridAt 2 rfl) rfl rfl ?_
    refine G_aload_n (pc := 5) 0 X (dg dt_Q_gridAt 3 rfl) rfl rfl ?_
    refine G_getI (pc := 6) 8 X (dg dt_Q_gridAt 4 rfl) fc_7 w_272 rfl (Nat.le_of_ble_eq_true rfl) sh_0 rfl ?_
    refine G_icmp_ge (pc := 9) 30 X (dg dt_Q_gridAt 5 rfl) (by decide) h (fun h => ?_) (fun h => ?_)
    · exact G_wk (hj30_1  h) trivial
    · refine G_iload_n (pc := 12) 1 X (dg dt_Q_gridAt 6 rfl) rfl rfl ?_
      refine G_aload_n (pc := 13) 0 X (dg dt_Q_gridAt 7 rfl) rfl rfl ?_
      refine G_getR (pc := 14) 0 X (dg dt_Q_gridAt 8 rfl) fc_7 w_264 rfl (Nat.le_of_ble_eq_true rfl) sh_0 rfl ?_
      refine G_alenQ (pc := 17) 12 X (dg dt_Q_gridAt 9 rfl) sh_1 (by decide) ?_
      refine G_icmp_ge (pc := 18) 30 X (dg dt_Q_gridAt 10 rfl) (by decide) h (fun h => ?_) (fun h => ?_)
      · exact G_wk (hj30_1  h) trivial
      · refine G_aload_n (pc := 21) 0 X (dg dt_Q_gridAt 11 rfl) rfl rfl ?_
        refine G_getR (pc := 22) 0 X (dg dt_Q_gridAt 12 rfl) fc_7 w_264 rfl (Nat.le_of_ble_eq_true rfl) sh_0 rfl ?_
        refine G_iload_n (pc := 25) 1 X (dg dt_Q_gridAt 13 rfl) rfl rfl ?_
        refine G_gld (pc := 26) X (dg dt_Q_gridAt 14 rfl) h (fun g_2 hg_g_2 h => ?_)
        refine G_ifnonnull (pc := 27) 41 X (dg dt_Q_gridAt 15 rfl) (by decide) ?_
        refine G_aload_n (pc := 41) 0 X (dg dt_Q_gridAt 21 rfl) rfl rfl ?_
        refine G_getR (pc := 42) 0 X (dg dt_Q_gridAt 22 rfl) fc_7 w_264 rfl (Nat.le_of_ble_eq_true rfl) sh_0 rfl ?_
        refine G_iload_n (pc := 45) 1 X (dg dt_Q_gridAt 23 rfl) rfl rfl ?_
        refine G_gld (pc := 46) X (dg dt_Q_gridAt 24 rfl) h (fun g_3 hg_g_3 h => ?_)
        exact G_xaret (pc := 47) X hq (dg dt_Q_gridAt 25 rfl) h
set_option maxRecDepth 100000 in
set_option maxHeartbeats 4000000 in
theorem s_Q_needState {l : Launch} (htr : l.stackTraces = false) (_ : Unit) (ad : Nat → Nat) (σ : St) (v0 : Int32)  {rv : Except Nat Unit} {σe : St} (h : f_Q_needState σ v0 = some (rv, σe)) : RX l g_strs yX11_needState cX11_needState 1 none 6 100 (g_SH, ad) [.int v0] σ (xv rv) σe := by
  refine RX.intro htr (L := [some (.int v0)]) (by decide +kernel) (Nat.le_of_ble_eq_true rfl) rfl (fun θ hl X hq => ?_)
  subst hl
  unfold f_Q_needState at h
  refine G_iload_n (pc := 0) 0 X (dg dt_Q_needState 0 rfl) rfl rfl ?_
  refine G_if_ne (pc := 1) 15 X (dg dt_Q_needState 1 rfl) (by decide) h (fun h => ?_) (fun h => ?_)
  · exact G_xvret (pc := 15) X hq (dg dt_Q_needState 7 rfl) h
  · exact G_xthrow (pc := 4) (e := 3) (text := "the grove does not allow it") X hq tw_261_265 (by decide) (dg dt_Q_needState 2 rfl) (dg dt_Q_needState 3 rfl) (dg dt_Q_needState 4 rfl) (dg dt_Q_needState 5 rfl) (dg dt_Q_needState 6 rfl) h (Nat.le_of_ble_eq_true rfl) (Nat.le_of_ble_eq_true rfl)
set_option maxRecDepth 100000 in
set_option maxHeartbeats 4000000 in
theorem s_Q_wins {l : Launch} (htr : l.stackTraces = false) (_ : Unit) (ad : Nat → Nat) (σ : St) (v1 : Int32)  {rv : Except Nat Int32} {σe : St} (h : f_Q_wins σ v1 = some (rv, σe)) : RX l g_strs yX11_wins cX11_wins 3 (some .int) 85 2112 (g_SH, ad) [.ref (ad 0), .int v1] σ (xi rv) σe := by
  refine RX.intro htr (L := [some (.ref (ad 0)), some (.int v1), none]) (by decide +kernel) (Nat.le_of_ble_eq_true rfl) rfl (fun θ hl X hq => ?_)
  subst hl
  unfold f_Q_wins at h
  refine G_aload_n (pc := 0) 0 X (dg dt_Q_wins 0 rfl) rfl rfl ?_
  refine G_iload_n (pc := 1) 1 X (dg dt_Q_wins 1 rfl) rfl rfl ?_
  refine cax_go h (fun ex hc_1 hex => by subst hex; exact G_callVX (pc := 2) (S := []) [.int v1] (fun _ h => h) X hq (dg dt_Q_wins 2 rfl) cb_Q_gridAt cv_Q_gridAt w_462 (s_Q_gridAt htr () ad _ _ hc_1) rfl ⟨Nat.le_of_ble_eq_true rfl, Nat.le_of_ble_eq_true rfl⟩ sh_0 rfl (Nat.le_of_ble_eq_true rfl)) (fun r_2 σ_3 hc_1 h => ?_)
  have hg_r_2 := gk_of_Q_gridAt hc_1
  refine G_callV (pc := 2) (S := []) [.int v1] (fun _ h => h) X  (dg dt_Q_wins 2 rfl) cb_Q_gridAt cv_Q_gridAt w_462 (s_Q_gridAt htr () ad _ _ hc_1) rfl ⟨Nat.le_of_ble_eq_true rfl, Nat.le_of_ble_eq_true rfl⟩ sh_0 rfl (Nat.le_of_ble_eq_true rfl) Rc0 ?_
  refine G_astore_n (pc := 5) 2 X (dg dt_Q_wins 3 rfl) rfl (Nat.le_of_ble_eq_true rfl) rfl ?_
  refine G_aload_n (pc := 6) 2 X (dg dt_Q_wins 4 rfl) rfl rfl ?_
  obtain ⟨r_5, hc_4, h⟩ := cap_go h
  refine G_callV (pc := 7) (S := []) [] nosub X  (dg dt_Q_wins 5 rfl) cb_Grid_emptyCells cv_Grid_emptyCells w_701 (s_Grid_emptyCells _ ad _ _ hg_r_2 hc_4) rfl ⟨Nat.le_of_ble_eq_true rfl, Nat.le_of_ble_eq_true rfl⟩ (sh_g hg_r_2) rfl (Nat.le_of_ble_eq_true rfl) Rc0 ?_
  refine G_bipush (pc := 10) 6 X (dg dt_Q_wins 6 rfl) (by decide) ?_
  refine jn_go (fun j20_6 => ∀ (s_7 : Int32), j20_6 s_7 = some (rv, σe) → G θ (0, 0) (g_SH, ad) σ_3 20 [some (.ref (ad 0)), none, some (.ref (ad r_2))] [.int s_7]) h ?_ (fun j20_6 hj20_6 h => ?_)
  · intro s_7 h
    refine cax_go h (fun ex hc_8 hex => by subst hex; exact G_callSX (pc := 20) (S := []) [.int s_7] (fun _ h => h) X hq (dg dt_Q_wins 11 rfl) cb_Q_needState w_499 w_498 (s_Q_needState htr () ad _ _ hc_8) rfl ⟨Nat.le_of_ble_eq_true rfl, Nat.le_of_ble_eq_true rfl⟩  (Nat.le_of_ble_eq_true rfl)) (fun r_9 σ_10 hc_8 h => ?_)
    refine G_callS (pc := 20) (S := []) [.int s_7] (fun _ h => h) X  (dg dt_Q_wins 11 rfl) cb_Q_needState w_499 w_498 (s_Q_needState htr () ad _ _ hc_8) rfl ⟨Nat.le_of_ble_eq_true rfl, Nat.le_of_ble_eq_true rfl⟩  (Nat.le_of_ble_eq_true rfl) Rc0 ?_
    refine G_aload_n (pc := 23) 0 X (dg dt_Q_wins 12 rfl) rfl rfl ?_
    refine G_getR (pc := 24) 1 X (dg dt_Q_wins 13 rfl) fc_7 w_265 rfl (Nat.le_of_ble_eq_true rfl) sh_0 rfl ?_
    refine G_aload_n (pc := 27) 2 X (dg dt_Q_wins 14 rfl) rfl rfl ?_
    obtain ⟨r_12, σ_13, hc_11, h⟩ := cal_go h
    refine G_callV (pc := 28) (S := []) [.ref (ad r_2)] nosub X  (dg dt_Q_wins 15 rfl) cb_Grid_copy cv_Grid_copy w_630 (s_Grid_copy _ ad _ _ _ gk_2 hg_r_2 hc_11) rfl ⟨Nat.le_of_ble_eq_true rfl, Nat.le_of_ble_eq_true rfl⟩ (sh_g gk_2) rfl (Nat.le_of_ble_eq_true rfl) Rc0 ?_
    refine G_aload_n (pc := 31) 0 X (dg dt_Q_wins 16 rfl) rfl rfl ?_
    refine G_getR (pc := 32) 1 X (dg dt_Q_wins 17 rfl) fc_7 w_265 rfl (Nat.le_of_ble_eq_true rfl) sh_0 rfl ?_
    obtain ⟨r_15, σ_16, hc_14, h⟩ := cal_go h
    refine G_callS (pc := 35) (S := []) [.ref (ad 2)] nosub X  (dg dt_Q_wins 18 rfl) cb_Game_winningMove w_1044 w_1043 (s_Game_winningMove _ ad _ _ gk_2 hc_14) rfl ⟨Nat.le_of_ble_eq_true rfl, Nat.le_of_ble_eq_true rfl⟩  (Nat.le_of_ble_eq_true rfl) Rc0 ?_
    refine G_aload_n (pc := 38) 2 X (dg dt_Q_wins 19 rfl) rfl rfl ?_
    refine G_getIN (pc := 39) 3 X (dg dt_Q_wins 20 rfl) fc_0 w_119 rfl (Nat.le_of_ble_eq_true rfl) (sh_g hg_r_2) rfl ?_
    obtain ⟨r_18, hc_17, h⟩ := cap_go h
    refine G_callS (pc := 42) (S := []) [.int r_15, .int (σ_16 r_2 3)] nosub X  (dg dt_Q_wins 21 rfl) cb_Move_told w_731 w_730 (s_Move_told _ ad _ _ _ hc_17) rfl ⟨Nat.le_of_ble_eq_true rfl, Nat.le_of_ble_eq_true rfl⟩  (Nat.le_of_ble_eq_true rfl) Rc0 ?_
    exact G_xiret (pc := 45) X hq (dg dt_Q_wins 22 rfl) h
  refine G_icmp_gt (pc := 12) 19 X (dg dt_Q_wins 7 rfl) (by decide) h (fun h => ?_) (fun h => ?_)
  · refine G_iconst (pc := 19) 0 X (dg dt_Q_wins 10 rfl) (by decide) ?_
    exact G_wk (hj20_6 0 h) ⟨rfl, ⟨rfl, trivial⟩⟩
  · refine G_iconst (pc := 15) 1 X (dg dt_Q_wins 8 rfl) (by decide) ?_
    refine G_goto (pc := 16) 20 X (dg dt_Q_wins 9 rfl) (by decide) ?_
    exact G_wk (hj20_6 1 h) ⟨rfl, ⟨rfl, trivial⟩⟩
set_option maxRecDepth 100000 in
set_option maxHeartbeats 4000000 in
theorem s_Q_isFrom (l : Launch) (ad : Nat → Nat) (σ : St) (v0 : Int32) (v1 : Int32) (v2 : Int32)  {rv : Int32} (h : f_Q_isFrom σ v0 v1 v2 = some rv) : Rt l [] yX11_isFrom cX11_isFrom 3 (some .boolean) 0 0 (g_SH, ad) [.int v0, .int v1, .int v2] σ (some (.int rv)) σ := by
  refine Rt.intro (L := [some (.int v0), some (.int v1), some (.int v2)]) (by decide +kernel) (Nat.le_of_ble_eq_true rfl) rfl (fun θ hl X hq => ?_)
  subst hl
  unfold f_Q_isFrom at h
  refine G_iload_n (pc := 0) 0 X (dg dt_Q_isFrom 0 rfl) rfl rfl ?_
  refine G_iload_n (pc := 1) 1 X (dg dt_Q_isFrom 1 rfl) rfl rfl ?_
  refine jn_go (fun j14_1 => j14_1 = some rv → G θ (0, 0) (g_SH, ad) σ 14 [none, none, none] []) h ?_ (fun j14_1 hj14_1 h => ?_)
  · intro  h
    refine G_iconst (pc := 14) 0 X (dg dt_Q_isFrom 8 rfl) (by decide) ?_
    exact G_zretlp (pc := 15) X hq (dg dt_Q_isFrom 9 rfl) rfl h
  refine G_icmp_lt (pc := 2) 14 X (dg dt_Q_isFrom 2 rfl) (by decide) h (fun h => ?_) (fun h => ?_)
  · exact G_wk (hj14_1  h) trivial
  · refine G_iload_n (pc := 5) 0 X (dg dt_Q_isFrom 3 rfl) rfl rfl ?_
    refine G_iload_n (pc := 6) 2 X (dg dt_Q_isFrom 4 rfl) rfl rfl ?_
    refine G_icmp_gt (pc := 7) 14 X (dg dt_Q_isFrom 5 rfl) (by decide) h (fun h => ?_) (fun h => ?_)
    · exact G_wk (hj14_1  h) trivial
    · refine G_iconst (pc := 10) 1 X (dg dt_Q_isFrom 6 rfl) (by decide) ?_
      refine G_goto (pc := 11) 15 X (dg dt_Q_isFrom 7 rfl) (by decide) ?_
      exact G_zretlp (pc := 15) X hq (dg dt_Q_isFrom 9 rfl) rfl h
set_option maxRecDepth 100000 in
set_option maxHeartbeats 4000000 in
theorem s_Q_needArgument {l : Launch} (htr : l.stackTraces = false) (_ : Unit) (ad : Nat → Nat) (σ : St) (v0 : Int32)  {rv : Except Nat Unit} {σe : St} (h : f_Q_needArgument σ v0 = some (rv, σe)) : RX l g_strs yX11_needArgument cX11_needArgument 1 none 6 100 (g_SH, ad) [.int v0] σ (xv rv) σe := by
  refine RX.intro htr (L := [some (.int v0)]) (by decide +kernel) (Nat.le_of_ble_eq_true rfl) rfl (fun θ hl X hq => ?_)
  subst hl
  unfold f_Q_needArgument at h
  refine G_iload_n (pc := 0) 0 X (dg dt_Q_needArgument 0 rfl) rfl rfl ?_
  refine G_if_ne (pc := 1) 15 X (dg dt_Q_needArgument 1 rfl) (by decide) h (fun h => ?_) (fun h => ?_)
  · exact G_xvret (pc := 15) X hq (dg dt_Q_needArgument 7 rfl) h
  · exact G_xthrow (pc := 4) (e := 2) (text := "an argument does not fit") X hq tw_274_278 (by decide) (dg dt_Q_needArgument 2 rfl) (dg dt_Q_needArgument 3 rfl) (dg dt_Q_needArgument 4 rfl) (dg dt_Q_needArgument 5 rfl) (dg dt_Q_needArgument 6 rfl) h (Nat.le_of_ble_eq_true rfl) (Nat.le_of_ble_eq_true rfl)
set_option maxRecDepth 100000 in
set_option maxHeartbeats 4000000 in
theorem s_Q_parity {l : Launch} (htr : l.stackTraces = false) (_ : Unit) (ad : Nat → Nat) (σ : St) (v1 : Int32) (v2 : Int32)  {rv : Except Nat Int32} {σe : St} (h : f_Q_parity σ v1 v2 = some (rv, σe)) : RX l g_strs yX11_parity cX11_parity 4 (some .int) 7 136 (g_SH, ad) [.ref (ad 0), .int v1, .int v2] σ (xi rv) σe := by
  refine RX.intro htr (L := [some (.ref (ad 0)), some (.int v1), some (.int v2), none]) (by decide +kernel) (Nat.le_of_ble_eq_true rfl) rfl (fun θ hl X hq => ?_)
  subst hl
  unfold f_Q_parity at h
  refine G_aload_n (pc := 0) 0 X (dg dt_Q_parity 0 rfl) rfl rfl ?_
  refine G_iload_n (pc := 1) 1 X (dg dt_Q_parity 1 rfl) rfl rfl ?_
  refine cax_go h (fun ex hc_1 hex => by subst hex; exact G_callVX (pc := 2) (S := []) [.int v1] (fun _ h => h) X hq (dg dt_Q_parity 2 rfl) cb_Q_gridAt cv_Q_gridAt w_462 (s_Q_gridAt htr () ad _ _ hc_1) rfl ⟨Nat.le_of_ble_eq_true rfl, Nat.le_of_ble_eq_true rfl⟩ sh_0 rfl (Nat.le_of_ble_eq_true rfl)) (fun r_2 σ_3 hc_1 h => ?_)
  have hg_r_2 := gk_of_Q_gridAt hc_1
  refine G_callV (pc := 2) (S := []) [.int v1] (fun _ h => h) X  (dg dt_Q_parity 2 rfl) cb_Q_gridAt cv_Q_gridAt w_462 (s_Q_gridAt htr () ad _ _ hc_1) rfl ⟨Nat.le_of_ble_eq_true rfl, Nat.le_of_ble_eq_true rfl⟩ sh_0 rfl (Nat.le_of_ble_eq_true rfl) Rc0 ?_
  refine G_astore_n (pc := 5) 3 X (dg dt_Q_parity 3 rfl) rfl (Nat.le_of_ble_eq_true rfl) rfl ?_
  refine G_iload_n (pc := 6) 2 X (dg dt_Q_parity 4 rfl) rfl rfl ?_
  refine G_iconst (pc := 7) 0 X (dg dt_Q_parity 5 rfl) (by decide) ?_
  refine G_iconst (pc := 8) 2 X (dg dt_Q_parity 6 rfl) (by decide) ?_
  obtain ⟨r_5, hc_4, h⟩ := cap_go h
  refine G_callS (pc := 9) (S := []) [.int v2, .int 0, .int 2] nosub X  (dg dt_Q_parity 7 rfl) cb_Q_isFrom w_326 w_325 (s_Q_isFrom _ ad _ _ _ _ hc_4) rfl ⟨Nat.le_of_ble_eq_true rfl, Nat.le_of_ble_eq_true rfl⟩  (Nat.le_of_ble_eq_true rfl) Rc0 ?_
  refine cax_go h (fun ex hc_6 hex => by subst hex; exact G_callSX (pc := 12) (S := []) [.int r_5] (fun _ h => h) X hq (dg dt_Q_parity 8 rfl) cb_Q_needArgument w_329 w_328 (s_Q_needArgument htr () ad _ _ hc_6) rfl ⟨Nat.le_of_ble_eq_true rfl, Nat.le_of_ble_eq_true rfl⟩  (Nat.le_of_ble_eq_true rfl)) (fun r_7 σ_8 hc_6 h => ?_)
  refine G_callS (pc := 12) (S := []) [.int r_5] (fun _ h => h) X  (dg dt_Q_parity 8 rfl) cb_Q_needArgument w_329 w_328 (s_Q_needArgument htr () ad _ _ hc_6) rfl ⟨Nat.le_of_ble_eq_true rfl, Nat.le_of_ble_eq_true rfl⟩  (Nat.le_of_ble_eq_true rfl) Rc0 ?_
  refine G_aload_n (pc := 15) 3 X (dg dt_Q_parity 9 rfl) rfl rfl ?_
  obtain ⟨r_10, hc_9, h⟩ := cap_go h
  refine G_callV (pc := 16) (S := []) [] nosub X  (dg dt_Q_parity 10 rfl) cb_Grid_isSquare cv_Grid_isSquare w_601 (s_Grid_isSquare _ ad _ _ hg_r_2 hc_9) rfl ⟨Nat.le_of_ble_eq_true rfl, Nat.le_of_ble_eq_true rfl⟩ (sh_g hg_r_2) rfl (Nat.le_of_ble_eq_true rfl) Rc0 ?_
  refine cax_go h (fun ex hc_11 hex => by subst hex; exact G_callSX (pc := 19) (S := []) [.int r_10] (fun _ h => h) X hq (dg dt_Q_parity 11 rfl) cb_Q_needState w_499 w_498 (s_Q_needState htr () ad _ _ hc_11) rfl ⟨Nat.le_of_ble_eq_true rfl, Nat.le_of_ble_eq_true rfl⟩  (Nat.le_of_ble_eq_true rfl)) (fun r_12 σ_13 hc_11 h => ?_)
  refine G_callS (pc := 19) (S := []) [.int r_10] (fun _ h => h) X  (dg dt_Q_parity 11 rfl) cb_Q_needState w_499 w_498 (s_Q_needState htr () ad _ _ hc_11) rfl ⟨Nat.le_of_ble_eq_true rfl, Nat.le_of_ble_eq_true rfl⟩  (Nat.le_of_ble_eq_true rfl) Rc0 ?_
  refine G_aload_n (pc := 22) 3 X (dg dt_Q_parity 12 rfl) rfl rfl ?_
  refine G_iload_n (pc := 23) 2 X (dg dt_Q_parity 13 rfl) rfl rfl ?_
  obtain ⟨r_15, hc_14, h⟩ := cap_go h
  refine G_callS (pc := 24) (S := []) [.ref (ad r_2), .int v2] nosub X  (dg dt_Q_parity 14 rfl) cb_Laws_parityOf w_1030 w_1029 (s_Laws_parityOf _ ad _ _ _ hg_r_2 hc_14) rfl ⟨Nat.le_of_ble_eq_true rfl, Nat.le_of_ble_eq_true rfl⟩  (Nat.le_of_ble_eq_true rfl) Rc0 ?_
  exact G_xiret (pc := 27) X hq (dg dt_Q_parity 15 rfl) h
set_option maxRecDepth 100000 in
set_option maxHeartbeats 4000000 in
theorem s_Q_areMates {l : Launch} (htr : l.stackTraces = false) (_ : Unit) (ad : Nat → Nat) (σ : St) (v1 : Int32) (v2 : Int32)  {rv : Except Nat Int32} {σe : St} (h : f_Q_areMates σ v1 v2 = some (rv, σe)) : RX l g_strs yX11_areMates cX11_areMates 5 (some .boolean) 7 121 (g_SH, ad) [.ref (ad 0), .int v1, .int v2] σ (xi rv) σe := by
  refine RX.intro htr (L := [some (.ref (ad 0)), some (.int v1), some (.int v2), none, none]) (by decide +kernel) (Nat.le_of_ble_eq_true rfl) rfl (fun θ hl X hq => ?_)
  subst hl
  unfold f_Q_areMates at h
  refine G_aload_n (pc := 0) 0 X (dg dt_Q_areMates 0 rfl) rfl rfl ?_
  refine G_iload_n (pc := 1) 1 X (dg dt_Q_areMates 1 rfl) rfl rfl ?_
  refine cax_go h (fun ex hc_1 hex => by subst hex; exact G_callVX (pc := 2) (S := []) [.int v1] (fun _ h => h) X hq (dg dt_Q_areMates 2 rfl) cb_Q_gridAt cv_Q_gridAt w_462 (s_Q_gridAt htr () ad _ _ hc_1) rfl ⟨Nat.le_of_ble_eq_true rfl, Nat.le_of_ble_eq_true rfl⟩ sh_0 rfl (Nat.le_of_ble_eq_true rfl)) (fun r_2 σ_3 hc_1 h => ?_)
  have hg_r_2 := gk_of_Q_gridAt hc_1
  refine G_callV (pc := 2) (S := []) [.int v1] (fun _ h => h) X  (dg dt_Q_areMates 2 rfl) cb_Q_gridAt cv_Q_gridAt w_462 (s_Q_gridAt htr () ad _ _ hc_1) rfl ⟨Nat.le_of_ble_eq_true rfl, Nat.le_of_ble_eq_true rfl⟩ sh_0 rfl (Nat.le_of_ble_eq_true rfl) Rc0 ?_
  refine G_astore_n (pc := 5) 3 X (dg dt_Q_areMates 3 rfl) rfl (Nat.le_of_ble_eq_true rfl) rfl ?_
  refine G_aload_n (pc := 6) 0 X (dg dt_Q_areMates 4 rfl) rfl rfl ?_
  refine G_iload_n (pc := 7) 2 X (dg dt_Q_areMates 5 rfl) rfl rfl ?_
  refine cax_go h (fun ex hc_4 hex => by subst hex; exact G_callVX (pc := 8) (S := []) [.int v2] (fun _ h => h) X hq (dg dt_Q_areMates 6 rfl) cb_Q_gridAt cv_Q_gridAt w_462 (s_Q_gridAt htr () ad _ _ hc_4) rfl ⟨Nat.le_of_ble_eq_true rfl, Nat.le_of_ble_eq_true rfl⟩ sh_0 rfl (Nat.le_of_ble_eq_true rfl)) (fun r_5 σ_6 hc_4 h => ?_)
  have hg_r_5 := gk_of_Q_gridAt hc_4
  refine G_callV (pc := 8) (S := []) [.int v2] (fun _ h => h) X  (dg dt_Q_areMates 6 rfl) cb_Q_gridAt cv_Q_gridAt w_462 (s_Q_gridAt htr () ad _ _ hc_4) rfl ⟨Nat.le_of_ble_eq_true rfl, Nat.le_of_ble_eq_true rfl⟩ sh_0 rfl (Nat.le_of_ble_eq_true rfl) Rc0 ?_
  refine G_astore (pc := 11) X (dg dt_Q_areMates 7 rfl) (Nat.le_of_ble_eq_true rfl) rfl ?_
  refine G_aload_n (pc := 13) 3 X (dg dt_Q_areMates 8 rfl) rfl rfl ?_
  obtain ⟨r_8, hc_7, h⟩ := cap_go h
  refine G_callV (pc := 14) (S := []) [] nosub X  (dg dt_Q_areMates 9 rfl) cb_Grid_isSquare cv_Grid_isSquare w_601 (s_Grid_isSquare _ ad _ _ hg_r_2 hc_7) rfl ⟨Nat.le_of_ble_eq_true rfl, Nat.le_of_ble_eq_true rfl⟩ (sh_g hg_r_2) rfl (Nat.le_of_ble_eq_true rfl) Rc0 ?_
  refine jn_go (fun j33_9 => ∀ (s_10 : Int32), j33_9 s_10 = some (rv, σe) → G θ (0, 0) (g_SH, ad) σ_6 33 [none, none, none, some (.ref (ad r_2)), some (.ref (ad r_5))] [.int s_10]) h ?_ (fun j33_9 hj33_9 h => ?_)
  · intro s_10 h
    refine cax_go h (fun ex hc_11 hex => by subst hex; exact G_callSX (pc := 33) (S := []) [.int s_10] (fun _ h => h) X hq (dg dt_Q_areMates 17 rfl) cb_Q_needState w_499 w_498 (s_Q_needState htr () ad _ _ hc_11) rfl ⟨Nat.le_of_ble_eq_true rfl, Nat.le_of_ble_eq_true rfl⟩  (Nat.le_of_ble_eq_true rfl)) (fun r_12 σ_13 hc_11 h => ?_)
    refine G_callS (pc := 33) (S := []) [.int s_10] (fun _ h => h) X  (dg dt_Q_areMates 17 rfl) cb_Q_needState w_499 w_498 (s_Q_needState htr () ad _ _ hc_11) rfl ⟨Nat.le_of_ble_eq_true rfl, Nat.le_of_ble_eq_true rfl⟩  (Nat.le_of_ble_eq_true rfl) Rc0 ?_
    refine G_aload_n (pc := 36) 3 X (dg dt_Q_areMates 18 rfl) rfl rfl ?_
    refine G_getIN (pc := 37) 3 X (dg dt_Q_areMates 19 rfl) fc_0 w_119 rfl (Nat.le_of_ble_eq_true rfl) (sh_g hg_r_2) rfl ?_
    refine G_aload (pc := 40) X (dg dt_Q_areMates 20 rfl) rfl ?_
    refine G_getIN (pc := 42) 3 X (dg dt_Q_areMates 21 rfl) fc_0 w_119 rfl (Nat.le_of_ble_eq_true rfl) (sh_g hg_r_5) rfl ?_
    refine jn_go (fun j61_14 => j61_14 = some (rv, σe) → G θ (0, 0) (g_SH, ad) σ_13 61 [none, none, none, none, none] []) h ?_ (fun j61_14 hj61_14 h => ?_)
    · intro  h
      refine G_iconst (pc := 61) 0 X (dg dt_Q_areMates 29 rfl) (by decide) ?_
      exact G_xzretl (pc := 62) X hq (dg dt_Q_areMates 30 rfl) rfl h
    refine G_icmp_ne (pc := 45) 61 X (dg dt_Q_areMates 22 rfl) (by decide) h (fun h => ?_) (fun h => ?_)
    · exact G_wk (hj61_14  h) trivial
    · refine G_aload_n (pc := 48) 3 X (dg dt_Q_areMates 23 rfl) rfl rfl ?_
      refine G_aload (pc := 49) X (dg dt_Q_areMates 24 rfl) rfl ?_
      obtain ⟨r_16, hc_15, h⟩ := cap_go h
      refine G_callS (pc := 51) (S := []) [.ref (ad r_2), .ref (ad r_5)] nosub X  (dg dt_Q_areMates 25 rfl) cb_Mating_haveUnlikePairs w_1019 w_1018 (s_Mating_haveUnlikePairs _ ad _ _ _ hg_r_2 hg_r_5 hc_15) rfl ⟨Nat.le_of_ble_eq_true rfl, Nat.le_of_ble_eq_true rfl⟩  (Nat.le_of_ble_eq_true rfl) Rc0 ?_
      refine G_if_eq (pc := 54) 61 X (dg dt_Q_areMates 26 rfl) (by decide) h (fun h => ?_) (fun h => ?_)
      · exact G_wk (hj61_14  h) trivial
      · refine G_iconst (pc := 57) 1 X (dg dt_Q_areMates 27 rfl) (by decide) ?_
        refine G_goto (pc := 58) 62 X (dg dt_Q_areMates 28 rfl) (by decide) ?_
        exact G_xzretl (pc := 62) X hq (dg dt_Q_areMates 30 rfl) rfl h
  refine jn_go (fun j32_17 => j32_17 = some (rv, σe) → G θ (0, 0) (g_SH, ad) σ_6 32 [none, none, none, some (.ref (ad r_2)), some (.ref (ad r_5))] []) h ?_ (fun j32_17 hj32_17 h => ?_)
  · intro  h
    refine G_iconst (pc := 32) 0 X (dg dt_Q_areMates 16 rfl) (by decide) ?_
    exact G_wk (hj33_9 0 h) ⟨rfl, ⟨rfl, trivial⟩⟩
  refine G_if_eq (pc := 17) 32 X (dg dt_Q_areMates 10 rfl) (by decide) h (fun h => ?_) (fun h => ?_)
  · exact G_wk (hj32_17  h) ⟨rfl, ⟨rfl, trivial⟩⟩
  · refine G_aload (pc := 20) X (dg dt_Q_areMates 11 rfl) rfl ?_
    obtain ⟨r_19, hc_18, h⟩ := cap_go h
    refine G_callV (pc := 22) (S := []) [] nosub X  (dg dt_Q_areMates 12 rfl) cb_Grid_isSquare cv_Grid_isSquare w_601 (s_Grid_isSquare _ ad _ _ hg_r_5 hc_18) rfl ⟨Nat.le_of_ble_eq_true rfl, Nat.le_of_ble_eq_true rfl⟩ (sh_g hg_r_5) rfl (Nat.le_of_ble_eq_true rfl) Rc0 ?_
    refine G_if_eq (pc := 25) 32 X (dg dt_Q_areMates 13 rfl) (by decide) h (fun h => ?_) (fun h => ?_)
    · exact G_wk (hj32_17  h) ⟨rfl, ⟨rfl, trivial⟩⟩
    · refine G_iconst (pc := 28) 1 X (dg dt_Q_areMates 14 rfl) (by decide) ?_
      refine G_goto (pc := 29) 33 X (dg dt_Q_areMates 15 rfl) (by decide) ?_
      exact G_wk (hj33_9 1 h) ⟨rfl, ⟨rfl, trivial⟩⟩
set_option maxRecDepth 100000 in
set_option maxHeartbeats 4000000 in
theorem s_Q_newGrid {l : Launch} (htr : l.stackTraces = false) (_ : Unit) (ad : Nat → Nat) (σ : St) (v1 : Int32)  {rv : Except Nat Nat} {σe : St} (h : f_Q_newGrid σ v1 = some (rv, σe)) : RX l g_strs yX11_newGrid cX11_newGrid 3 (some (.object "Quasigrove$Grid")) 6 100 (g_SH, ad) [.ref (ad 0), .int v1] σ (xr ad rv) σe := by
  refine RX.intro htr (L := [some (.ref (ad 0)), some (.int v1), none]) (by decide +kernel) (Nat.le_of_ble_eq_true rfl) rfl (fun θ hl X hq => ?_)
  subst hl
  unfold f_Q_newGrid at h
  refine G_aload_n (pc := 0) 0 X (dg dt_Q_newGrid 0 rfl) rfl rfl ?_
  refine G_getI (pc := 1) 8 X (dg dt_Q_newGrid 1 rfl) fc_7 w_272 rfl (Nat.le_of_ble_eq_true rfl) sh_0 rfl ?_
  refine jn_go (fun j31_1 => j31_1 = some (rv, σe) → G θ (0, 0) (g_SH, ad) σ 31 [none, none, none] []) h ?_ (fun j31_1 hj31_1 h => ?_)
  · intro  h
    exact G_xthrow (pc := 31) (e := 3) (text := "there are 12 grids") X hq tw_261_265 (by decide) (dg dt_Q_newGrid 15 rfl) (dg dt_Q_newGrid 16 rfl) (dg dt_Q_newGrid 17 rfl) (dg dt_Q_newGrid 18 rfl) (dg dt_Q_newGrid 19 rfl) h (Nat.le_of_ble_eq_true rfl) (Nat.le_of_ble_eq_true rfl)
  refine G_if_lt (pc := 4) 31 X (dg dt_Q_newGrid 2 rfl) (by decide) h (fun h => ?_) (fun h => ?_)
  · exact G_wk (hj31_1  h) trivial
  · refine G_aload_n (pc := 7) 0 X (dg dt_Q_newGrid 3 rfl) rfl rfl ?_
    refine G_getI (pc := 8) 8 X (dg dt_Q_newGrid 4 rfl) fc_7 w_272 rfl (Nat.le_of_ble_eq_true rfl) sh_0 rfl ?_
    refine G_aload_n (pc := 11) 0 X (dg dt_Q_newGrid 5 rfl) rfl rfl ?_
    refine G_getR (pc := 12) 0 X (dg dt_Q_newGrid 6 rfl) fc_7 w_264 rfl (Nat.le_of_ble_eq_true rfl) sh_0 rfl ?_
    refine G_alenQ (pc := 15) 12 X (dg dt_Q_newGrid 7 rfl) sh_1 (by decide) ?_
    refine G_icmp_ge (pc := 16) 31 X (dg dt_Q_newGrid 8 rfl) (by decide) h (fun h => ?_) (fun h => ?_)
    · exact G_wk (hj31_1  h) trivial
    · refine G_aload_n (pc := 19) 0 X (dg dt_Q_newGrid 9 rfl) rfl rfl ?_
      refine G_getR (pc := 20) 0 X (dg dt_Q_newGrid 10 rfl) fc_7 w_264 rfl (Nat.le_of_ble_eq_true rfl) sh_0 rfl ?_
      refine G_aload_n (pc := 23) 0 X (dg dt_Q_newGrid 11 rfl) rfl rfl ?_
      refine G_getI (pc := 24) 8 X (dg dt_Q_newGrid 12 rfl) fc_7 w_272 rfl (Nat.le_of_ble_eq_true rfl) sh_0 rfl ?_
      refine G_gld (pc := 27) X (dg dt_Q_newGrid 13 rfl) h (fun g_2 hg_g_2 h => ?_)
      refine G_ifnonnull (pc := 28) 42 X (dg dt_Q_newGrid 14 rfl) (by decide) ?_
      refine G_aload_n (pc := 42) 0 X (dg dt_Q_newGrid 20 rfl) rfl rfl ?_
      refine G_getR (pc := 43) 0 X (dg dt_Q_newGrid 21 rfl) fc_7 w_264 rfl (Nat.le_of_ble_eq_true rfl) sh_0 rfl ?_
      refine G_aload_n (pc := 46) 0 X (dg dt_Q_newGrid 22 rfl) rfl rfl ?_
      refine G_getI (pc := 47) 8 X (dg dt_Q_newGrid 23 rfl) fc_7 w_272 rfl (Nat.le_of_ble_eq_true rfl) sh_0 rfl ?_
      refine G_gld (pc := 50) X (dg dt_Q_newGrid 24 rfl) h (fun g_3 hg_g_3 h => ?_)
      refine G_astore_n (pc := 51) 2 X (dg dt_Q_newGrid 25 rfl) rfl (Nat.le_of_ble_eq_true rfl) rfl ?_
      refine G_aload_n (pc := 52) 0 X (dg dt_Q_newGrid 26 rfl) rfl rfl ?_
      refine G_dup (pc := 53) X (dg dt_Q_newGrid 27 rfl) rfl ?_
      refine G_getI (pc := 54) 8 X (dg dt_Q_newGrid 28 rfl) fc_7 w_272 rfl (Nat.le_of_ble_eq_true rfl) sh_0 rfl ?_
      refine G_iconst (pc := 57) 1 X (dg dt_Q_newGrid 29 rfl) (by decide) ?_
      refine G_iadd (pc := 58) X (dg dt_Q_newGrid 30 rfl) ?_
      refine G_put (pc := 59) 8 X (dg dt_Q_newGrid 31 rfl) fc_7 w_272 rfl (Nat.le_of_ble_eq_true rfl) rfl rfl sh_0 rfl h (fun σ_4 h => ?_)
      refine G_aload_n (pc := 62) 2 X (dg dt_Q_newGrid 32 rfl) rfl rfl ?_
      refine G_iload_n (pc := 63) 1 X (dg dt_Q_newGrid 33 rfl) rfl rfl ?_
      obtain ⟨r_6, σ_7, hc_5, h⟩ := cal_go h
      refine G_callV (pc := 64) (S := []) [.int v1] nosub X  (dg dt_Q_newGrid 34 rfl) cb_Grid_clear cv_Grid_clear w_419 (s_Grid_clear _ ad _ _ _ hg_g_3 hc_5) rfl ⟨Nat.le_of_ble_eq_true rfl, Nat.le_of_ble_eq_true rfl⟩ (sh_g hg_g_3) rfl (Nat.le_of_ble_eq_true rfl) Rc0 ?_
      refine G_aload_n (pc := 67) 2 X (dg dt_Q_newGrid 35 rfl) rfl rfl ?_
      exact G_xaret (pc := 68) X hq (dg dt_Q_newGrid 36 rfl) h
set_option maxRecDepth 100000 in
set_option maxHeartbeats 4000000 in
theorem s_Q_mate {l : Launch} (htr : l.stackTraces = false) (_ : Unit) (ad : Nat → Nat) (σ : St) (v1 : Int32)  {rv : Except Nat Int32} {σe : St} (h : f_Q_mate σ v1 = some (rv, σe)) : RX l g_strs yX11_mate cX11_mate 3 (some .int) 46 1177 (g_SH, ad) [.ref (ad 0), .int v1] σ (xi rv) σe := by
  refine RX.intro htr (L := [some (.ref (ad 0)), some (.int v1), none]) (by decide +kernel) (Nat.le_of_ble_eq_true rfl) rfl (fun θ hl X hq => ?_)
  subst hl
  unfold f_Q_mate at h
  refine G_aload_n (pc := 0) 0 X (dg dt_Q_mate 0 rfl) rfl rfl ?_
  refine G_iload_n (pc := 1) 1 X (dg dt_Q_mate 1 rfl) rfl rfl ?_
  refine cax_go h (fun ex hc_1 hex => by subst hex; exact G_callVX (pc := 2) (S := []) [.int v1] (fun _ h => h) X hq (dg dt_Q_mate 2 rfl) cb_Q_gridAt cv_Q_gridAt w_462 (s_Q_gridAt htr () ad _ _ hc_1) rfl ⟨Nat.le_of_ble_eq_true rfl, Nat.le_of_ble_eq_true rfl⟩ sh_0 rfl (Nat.le_of_ble_eq_true rfl)) (fun r_2 σ_3 hc_1 h => ?_)
  have hg_r_2 := gk_of_Q_gridAt hc_1
  refine G_callV (pc := 2) (S := []) [.int v1] (fun _ h => h) X  (dg dt_Q_mate 2 rfl) cb_Q_gridAt cv_Q_gridAt w_462 (s_Q_gridAt htr () ad _ _ hc_1) rfl ⟨Nat.le_of_ble_eq_true rfl, Nat.le_of_ble_eq_true rfl⟩ sh_0 rfl (Nat.le_of_ble_eq_true rfl) Rc0 ?_
  refine G_astore_n (pc := 5) 2 X (dg dt_Q_mate 3 rfl) rfl (Nat.le_of_ble_eq_true rfl) rfl ?_
  refine G_aload_n (pc := 6) 2 X (dg dt_Q_mate 4 rfl) rfl rfl ?_
  obtain ⟨r_5, hc_4, h⟩ := cap_go h
  refine G_callV (pc := 7) (S := []) [] nosub X  (dg dt_Q_mate 5 rfl) cb_Grid_isSquare cv_Grid_isSquare w_601 (s_Grid_isSquare _ ad _ _ hg_r_2 hc_4) rfl ⟨Nat.le_of_ble_eq_true rfl, Nat.le_of_ble_eq_true rfl⟩ (sh_g hg_r_2) rfl (Nat.le_of_ble_eq_true rfl) Rc0 ?_
  refine cax_go h (fun ex hc_6 hex => by subst hex; exact G_callSX (pc := 10) (S := []) [.int r_5] (fun _ h => h) X hq (dg dt_Q_mate 6 rfl) cb_Q_needState w_499 w_498 (s_Q_needState htr () ad _ _ hc_6) rfl ⟨Nat.le_of_ble_eq_true rfl, Nat.le_of_ble_eq_true rfl⟩  (Nat.le_of_ble_eq_true rfl)) (fun r_7 σ_8 hc_6 h => ?_)
  refine G_callS (pc := 10) (S := []) [.int r_5] (fun _ h => h) X  (dg dt_Q_mate 6 rfl) cb_Q_needState w_499 w_498 (s_Q_needState htr () ad _ _ hc_6) rfl ⟨Nat.le_of_ble_eq_true rfl, Nat.le_of_ble_eq_true rfl⟩  (Nat.le_of_ble_eq_true rfl) Rc0 ?_
  refine G_aload_n (pc := 13) 0 X (dg dt_Q_mate 7 rfl) rfl rfl ?_
  refine G_getR (pc := 14) 7 X (dg dt_Q_mate 8 rfl) fc_7 w_271 rfl (Nat.le_of_ble_eq_true rfl) sh_0 rfl ?_
  refine G_aload_n (pc := 17) 2 X (dg dt_Q_mate 9 rfl) rfl rfl ?_
  obtain ⟨r_10, σ_11, hc_9, h⟩ := cal_go h
  refine G_callV (pc := 18) (S := []) [.ref (ad r_2)] nosub X  (dg dt_Q_mate 10 rfl) cb_Mating_findMates cv_Mating_findMates w_984 (s_Mating_findMates _ ad _ _ hg_r_2 hc_9) rfl ⟨Nat.le_of_ble_eq_true rfl, Nat.le_of_ble_eq_true rfl⟩ sh_23 rfl (Nat.le_of_ble_eq_true rfl) Rc0 ?_
  refine jn_go (fun j29_12 => ∀ (s_13 : Int32), j29_12 s_13 = some (rv, σe) → G θ (0, 0) (g_SH, ad) σ_11 29 [some (.ref (ad 0)), none, some (.ref (ad r_2))] [.int s_13]) h ?_ (fun j29_12 hj29_12 h => ?_)
  · intro s_13 h
    refine cax_go h (fun ex hc_14 hex => by subst hex; exact G_callSX (pc := 29) (S := []) [.int s_13] (fun _ h => h) X hq (dg dt_Q_mate 15 rfl) cb_Q_needState w_499 w_498 (s_Q_needState htr () ad _ _ hc_14) rfl ⟨Nat.le_of_ble_eq_true rfl, Nat.le_of_ble_eq_true rfl⟩  (Nat.le_of_ble_eq_true rfl)) (fun r_15 σ_16 hc_14 h => ?_)
    refine G_callS (pc := 29) (S := []) [.int s_13] (fun _ h => h) X  (dg dt_Q_mate 15 rfl) cb_Q_needState w_499 w_498 (s_Q_needState htr () ad _ _ hc_14) rfl ⟨Nat.le_of_ble_eq_true rfl, Nat.le_of_ble_eq_true rfl⟩  (Nat.le_of_ble_eq_true rfl) Rc0 ?_
    refine G_aload_n (pc := 32) 0 X (dg dt_Q_mate 16 rfl) rfl rfl ?_
    refine G_aload_n (pc := 33) 2 X (dg dt_Q_mate 17 rfl) rfl rfl ?_
    refine G_getIN (pc := 34) 3 X (dg dt_Q_mate 18 rfl) fc_0 w_119 rfl (Nat.le_of_ble_eq_true rfl) (sh_g hg_r_2) rfl ?_
    refine cax_go h (fun ex hc_17 hex => by subst hex; exact G_callVX (pc := 37) (S := []) [.int (σ_16 r_2 3)] (fun _ h => h) X hq (dg dt_Q_mate 19 rfl) cb_Q_newGrid cv_Q_newGrid w_399 (s_Q_newGrid htr () ad _ _ hc_17) rfl ⟨Nat.le_of_ble_eq_true rfl, Nat.le_of_ble_eq_true rfl⟩ sh_0 rfl (Nat.le_of_ble_eq_true rfl)) (fun r_18 σ_19 hc_17 h => ?_)
    have hg_r_18 := gk_of_Q_newGrid hc_17
    refine G_callV (pc := 37) (S := []) [.int (σ_16 r_2 3)] (fun _ h => h) X  (dg dt_Q_mate 19 rfl) cb_Q_newGrid cv_Q_newGrid w_399 (s_Q_newGrid htr () ad _ _ hc_17) rfl ⟨Nat.le_of_ble_eq_true rfl, Nat.le_of_ble_eq_true rfl⟩ sh_0 rfl (Nat.le_of_ble_eq_true rfl) Rc0 ?_
    refine G_aload_n (pc := 40) 0 X (dg dt_Q_mate 20 rfl) rfl rfl ?_
    refine G_getR (pc := 41) 7 X (dg dt_Q_mate 21 rfl) fc_7 w_271 rfl (Nat.le_of_ble_eq_true rfl) sh_0 rfl ?_
    refine G_getRN (pc := 44) 4 X (dg dt_Q_mate 22 rfl) fc_2 w_246 rfl (Nat.le_of_ble_eq_true rfl) sh_23 rfl ?_
    obtain ⟨r_21, σ_22, hc_20, h⟩ := cal_go h
    refine G_callV (pc := 47) (S := []) [.ref (ad 30)] nosub X  (dg dt_Q_mate 23 rfl) cb_Grid_copy cv_Grid_copy w_630 (s_Grid_copy _ ad _ _ _ hg_r_18 gk_30 hc_20) rfl ⟨Nat.le_of_ble_eq_true rfl, Nat.le_of_ble_eq_true rfl⟩ (sh_g hg_r_18) rfl (Nat.le_of_ble_eq_true rfl) Rc0 ?_
    refine G_aload_n (pc := 50) 0 X (dg dt_Q_mate 24 rfl) rfl rfl ?_
    refine G_getI (pc := 51) 8 X (dg dt_Q_mate 25 rfl) fc_7 w_272 rfl (Nat.le_of_ble_eq_true rfl) sh_0 rfl ?_
    refine G_iconst (pc := 54) 1 X (dg dt_Q_mate 26 rfl) (by decide) ?_
    refine G_isub (pc := 55) X (dg dt_Q_mate 27 rfl) ?_
    exact G_xiret (pc := 56) X hq (dg dt_Q_mate 28 rfl) h
  refine G_if_le (pc := 21) 28 X (dg dt_Q_mate 11 rfl) (by decide) h (fun h => ?_) (fun h => ?_)
  · refine G_iconst (pc := 28) 0 X (dg dt_Q_mate 14 rfl) (by decide) ?_
    exact G_wk (hj29_12 0 h) ⟨rfl, ⟨rfl, trivial⟩⟩
  · refine G_iconst (pc := 24) 1 X (dg dt_Q_mate 12 rfl) (by decide) ?_
    refine G_goto (pc := 25) 29 X (dg dt_Q_mate 13 rfl) (by decide) ?_
    exact G_wk (hj29_12 1 h) ⟨rfl, ⟨rfl, trivial⟩⟩
set_option maxRecDepth 100000 in
set_option maxHeartbeats 4000000 in
theorem s_Q_mates {l : Launch} (htr : l.stackTraces = false) (_ : Unit) (ad : Nat → Nat) (σ : St) (v1 : Int32)  {rv : Except Nat Int32} {σe : St} (h : f_Q_mates σ v1 = some (rv, σe)) : RX l g_strs yX11_mates cX11_mates 3 (some .int) 46 1177 (g_SH, ad) [.ref (ad 0), .int v1] σ (xi rv) σe := by
  refine RX.intro htr (L := [some (.ref (ad 0)), some (.int v1), none]) (by decide +kernel) (Nat.le_of_ble_eq_true rfl) rfl (fun θ hl X hq => ?_)
  subst hl
  unfold f_Q_mates at h
  refine G_aload_n (pc := 0) 0 X (dg dt_Q_mates 0 rfl) rfl rfl ?_
  refine G_iload_n (pc := 1) 1 X (dg dt_Q_mates 1 rfl) rfl rfl ?_
  refine cax_go h (fun ex hc_1 hex => by subst hex; exact G_callVX (pc := 2) (S := []) [.int v1] (fun _ h => h) X hq (dg dt_Q_mates 2 rfl) cb_Q_gridAt cv_Q_gridAt w_462 (s_Q_gridAt htr () ad _ _ hc_1) rfl ⟨Nat.le_of_ble_eq_true rfl, Nat.le_of_ble_eq_true rfl⟩ sh_0 rfl (Nat.le_of_ble_eq_true rfl)) (fun r_2 σ_3 hc_1 h => ?_)
  have hg_r_2 := gk_of_Q_gridAt hc_1
  refine G_callV (pc := 2) (S := []) [.int v1] (fun _ h => h) X  (dg dt_Q_mates 2 rfl) cb_Q_gridAt cv_Q_gridAt w_462 (s_Q_gridAt htr () ad _ _ hc_1) rfl ⟨Nat.le_of_ble_eq_true rfl, Nat.le_of_ble_eq_true rfl⟩ sh_0 rfl (Nat.le_of_ble_eq_true rfl) Rc0 ?_
  refine G_astore_n (pc := 5) 2 X (dg dt_Q_mates 3 rfl) rfl (Nat.le_of_ble_eq_true rfl) rfl ?_
  refine G_aload_n (pc := 6) 2 X (dg dt_Q_mates 4 rfl) rfl rfl ?_
  obtain ⟨r_5, hc_4, h⟩ := cap_go h
  refine G_callV (pc := 7) (S := []) [] nosub X  (dg dt_Q_mates 5 rfl) cb_Grid_isSquare cv_Grid_isSquare w_601 (s_Grid_isSquare _ ad _ _ hg_r_2 hc_4) rfl ⟨Nat.le_of_ble_eq_true rfl, Nat.le_of_ble_eq_true rfl⟩ (sh_g hg_r_2) rfl (Nat.le_of_ble_eq_true rfl) Rc0 ?_
  refine cax_go h (fun ex hc_6 hex => by subst hex; exact G_callSX (pc := 10) (S := []) [.int r_5] (fun _ h => h) X hq (dg dt_Q_mates 6 rfl) cb_Q_needState w_499 w_498 (s_Q_needState htr () ad _ _ hc_6) rfl ⟨Nat.le_of_ble_eq_true rfl, Nat.le_of_ble_eq_true rfl⟩  (Nat.le_of_ble_eq_true rfl)) (fun r_7 σ_8 hc_6 h => ?_)
  refine G_callS (pc := 10) (S := []) [.int r_5] (fun _ h => h) X  (dg dt_Q_mates 6 rfl) cb_Q_needState w_499 w_498 (s_Q_needState htr () ad _ _ hc_6) rfl ⟨Nat.le_of_ble_eq_true rfl, Nat.le_of_ble_eq_true rfl⟩  (Nat.le_of_ble_eq_true rfl) Rc0 ?_
  refine G_aload_n (pc := 13) 0 X (dg dt_Q_mates 7 rfl) rfl rfl ?_
  refine G_getR (pc := 14) 7 X (dg dt_Q_mates 8 rfl) fc_7 w_271 rfl (Nat.le_of_ble_eq_true rfl) sh_0 rfl ?_
  refine G_aload_n (pc := 17) 2 X (dg dt_Q_mates 9 rfl) rfl rfl ?_
  obtain ⟨r_10, σ_11, hc_9, h⟩ := cal_go h
  refine G_callV (pc := 18) (S := []) [.ref (ad r_2)] nosub X  (dg dt_Q_mates 10 rfl) cb_Mating_findMates cv_Mating_findMates w_984 (s_Mating_findMates _ ad _ _ hg_r_2 hc_9) rfl ⟨Nat.le_of_ble_eq_true rfl, Nat.le_of_ble_eq_true rfl⟩ sh_23 rfl (Nat.le_of_ble_eq_true rfl) Rc0 ?_
  exact G_xiret (pc := 21) X hq (dg dt_Q_mates 11 rfl) h
set_option maxRecDepth 100000 in
set_option maxHeartbeats 4000000 in
theorem s_Q_transversals {l : Launch} (htr : l.stackTraces = false) (_ : Unit) (ad : Nat → Nat) (σ : St) (v1 : Int32)  {rv : Except Nat Int32} {σe : St} (h : f_Q_transversals σ v1 = some (rv, σe)) : RX l g_strs yX11_transversals cX11_transversals 3 (some .int) 7 121 (g_SH, ad) [.ref (ad 0), .int v1] σ (xi rv) σe := by
  refine RX.intro htr (L := [some (.ref (ad 0)), some (.int v1), none]) (by decide +kernel) (Nat.le_of_ble_eq_true rfl) rfl (fun θ hl X hq => ?_)
  subst hl
  unfold f_Q_transversals at h
  refine G_aload_n (pc := 0) 0 X (dg dt_Q_transversals 0 rfl) rfl rfl ?_
  refine G_iload_n (pc := 1) 1 X (dg dt_Q_transversals 1 rfl) rfl rfl ?_
  refine cax_go h (fun ex hc_1 hex => by subst hex; exact G_callVX (pc := 2) (S := []) [.int v1] (fun _ h => h) X hq (dg dt_Q_transversals 2 rfl) cb_Q_gridAt cv_Q_gridAt w_462 (s_Q_gridAt htr () ad _ _ hc_1) rfl ⟨Nat.le_of_ble_eq_true rfl, Nat.le_of_ble_eq_true rfl⟩ sh_0 rfl (Nat.le_of_ble_eq_true rfl)) (fun r_2 σ_3 hc_1 h => ?_)
  have hg_r_2 := gk_of_Q_gridAt hc_1
  refine G_callV (pc := 2) (S := []) [.int v1] (fun _ h => h) X  (dg dt_Q_transversals 2 rfl) cb_Q_gridAt cv_Q_gridAt w_462 (s_Q_gridAt htr () ad _ _ hc_1) rfl ⟨Nat.le_of_ble_eq_true rfl, Nat.le_of_ble_eq_true rfl⟩ sh_0 rfl (Nat.le_of_ble_eq_true rfl) Rc0 ?_
  refine G_astore_n (pc := 5) 2 X (dg dt_Q_transversals 3 rfl) rfl (Nat.le_of_ble_eq_true rfl) rfl ?_
  refine G_aload_n (pc := 6) 2 X (dg dt_Q_transversals 4 rfl) rfl rfl ?_
  obtain ⟨r_5, hc_4, h⟩ := cap_go h
  refine G_callV (pc := 7) (S := []) [] nosub X  (dg dt_Q_transversals 5 rfl) cb_Grid_isSquare cv_Grid_isSquare w_601 (s_Grid_isSquare _ ad _ _ hg_r_2 hc_4) rfl ⟨Nat.le_of_ble_eq_true rfl, Nat.le_of_ble_eq_true rfl⟩ (sh_g hg_r_2) rfl (Nat.le_of_ble_eq_true rfl) Rc0 ?_
  refine cax_go h (fun ex hc_6 hex => by subst hex; exact G_callSX (pc := 10) (S := []) [.int r_5] (fun _ h => h) X hq (dg dt_Q_transversals 6 rfl) cb_Q_needState w_499 w_498 (s_Q_needState htr () ad _ _ hc_6) rfl ⟨Nat.le_of_ble_eq_true rfl, Nat.le_of_ble_eq_true rfl⟩  (Nat.le_of_ble_eq_true rfl)) (fun r_7 σ_8 hc_6 h => ?_)
  refine G_callS (pc := 10) (S := []) [.int r_5] (fun _ h => h) X  (dg dt_Q_transversals 6 rfl) cb_Q_needState w_499 w_498 (s_Q_needState htr () ad _ _ hc_6) rfl ⟨Nat.le_of_ble_eq_true rfl, Nat.le_of_ble_eq_true rfl⟩  (Nat.le_of_ble_eq_true rfl) Rc0 ?_
  refine G_aload_n (pc := 13) 0 X (dg dt_Q_transversals 7 rfl) rfl rfl ?_
  refine G_getR (pc := 14) 7 X (dg dt_Q_transversals 8 rfl) fc_7 w_271 rfl (Nat.le_of_ble_eq_true rfl) sh_0 rfl ?_
  refine G_aload_n (pc := 17) 2 X (dg dt_Q_transversals 9 rfl) rfl rfl ?_
  obtain ⟨r_10, σ_11, hc_9, h⟩ := cal_go h
  refine G_callV (pc := 18) (S := []) [.ref (ad r_2)] nosub X  (dg dt_Q_transversals 10 rfl) cb_Mating_findTransversals cv_Mating_findTransversals w_965 (s_Mating_findTransversals _ ad _ _ hg_r_2 hc_9) rfl ⟨Nat.le_of_ble_eq_true rfl, Nat.le_of_ble_eq_true rfl⟩ sh_23 rfl (Nat.le_of_ble_eq_true rfl) Rc0 ?_
  exact G_xiret (pc := 21) X hq (dg dt_Q_transversals 11 rfl) h
set_option maxRecDepth 100000 in
set_option maxHeartbeats 4000000 in
theorem s_Q_isotopies {l : Launch} (htr : l.stackTraces = false) (_ : Unit) (ad : Nat → Nat) (σ : St) (v1 : Int32) (v2 : Int32)  {rv : Except Nat Int32} {σe : St} (h : f_Q_isotopies σ v1 v2 = some (rv, σe)) : RX l g_strs yX11_isotopies cX11_isotopies 5 (some .int) 7 139 (g_SH, ad) [.ref (ad 0), .int v1, .int v2] σ (xi rv) σe := by
  refine RX.intro htr (L := [some (.ref (ad 0)), some (.int v1), some (.int v2), none, none]) (by decide +kernel) (Nat.le_of_ble_eq_true rfl) rfl (fun θ hl X hq => ?_)
  subst hl
  unfold f_Q_isotopies at h
  refine G_aload_n (pc := 0) 0 X (dg dt_Q_isotopies 0 rfl) rfl rfl ?_
  refine G_iload_n (pc := 1) 1 X (dg dt_Q_isotopies 1 rfl) rfl rfl ?_
  refine cax_go h (fun ex hc_1 hex => by subst hex; exact G_callVX (pc := 2) (S := []) [.int v1] (fun _ h => h) X hq (dg dt_Q_isotopies 2 rfl) cb_Q_gridAt cv_Q_gridAt w_462 (s_Q_gridAt htr () ad _ _ hc_1) rfl ⟨Nat.le_of_ble_eq_true rfl, Nat.le_of_ble_eq_true rfl⟩ sh_0 rfl (Nat.le_of_ble_eq_true rfl)) (fun r_2 σ_3 hc_1 h => ?_)
  have hg_r_2 := gk_of_Q_gridAt hc_1
  refine G_callV (pc := 2) (S := []) [.int v1] (fun _ h => h) X  (dg dt_Q_isotopies 2 rfl) cb_Q_gridAt cv_Q_gridAt w_462 (s_Q_gridAt htr () ad _ _ hc_1) rfl ⟨Nat.le_of_ble_eq_true rfl, Nat.le_of_ble_eq_true rfl⟩ sh_0 rfl (Nat.le_of_ble_eq_true rfl) Rc0 ?_
  refine G_astore_n (pc := 5) 3 X (dg dt_Q_isotopies 3 rfl) rfl (Nat.le_of_ble_eq_true rfl) rfl ?_
  refine G_aload_n (pc := 6) 0 X (dg dt_Q_isotopies 4 rfl) rfl rfl ?_
  refine G_iload_n (pc := 7) 2 X (dg dt_Q_isotopies 5 rfl) rfl rfl ?_
  refine cax_go h (fun ex hc_4 hex => by subst hex; exact G_callVX (pc := 8) (S := []) [.int v2] (fun _ h => h) X hq (dg dt_Q_isotopies 6 rfl) cb_Q_gridAt cv_Q_gridAt w_462 (s_Q_gridAt htr () ad _ _ hc_4) rfl ⟨Nat.le_of_ble_eq_true rfl, Nat.le_of_ble_eq_true rfl⟩ sh_0 rfl (Nat.le_of_ble_eq_true rfl)) (fun r_5 σ_6 hc_4 h => ?_)
  have hg_r_5 := gk_of_Q_gridAt hc_4
  refine G_callV (pc := 8) (S := []) [.int v2] (fun _ h => h) X  (dg dt_Q_isotopies 6 rfl) cb_Q_gridAt cv_Q_gridAt w_462 (s_Q_gridAt htr () ad _ _ hc_4) rfl ⟨Nat.le_of_ble_eq_true rfl, Nat.le_of_ble_eq_true rfl⟩ sh_0 rfl (Nat.le_of_ble_eq_true rfl) Rc0 ?_
  refine G_astore (pc := 11) X (dg dt_Q_isotopies 7 rfl) (Nat.le_of_ble_eq_true rfl) rfl ?_
  refine G_aload_n (pc := 13) 3 X (dg dt_Q_isotopies 8 rfl) rfl rfl ?_
  obtain ⟨r_8, hc_7, h⟩ := cap_go h
  refine G_callV (pc := 14) (S := []) [] nosub X  (dg dt_Q_isotopies 9 rfl) cb_Grid_isSquare cv_Grid_isSquare w_601 (s_Grid_isSquare _ ad _ _ hg_r_2 hc_7) rfl ⟨Nat.le_of_ble_eq_true rfl, Nat.le_of_ble_eq_true rfl⟩ (sh_g hg_r_2) rfl (Nat.le_of_ble_eq_true rfl) Rc0 ?_
  refine jn_go (fun j33_9 => ∀ (s_10 : Int32), j33_9 s_10 = some (rv, σe) → G θ (0, 0) (g_SH, ad) σ_6 33 [some (.ref (ad 0)), none, none, some (.ref (ad r_2)), some (.ref (ad r_5))] [.int s_10]) h ?_ (fun j33_9 hj33_9 h => ?_)
  · intro s_10 h
    refine cax_go h (fun ex hc_11 hex => by subst hex; exact G_callSX (pc := 33) (S := []) [.int s_10] (fun _ h => h) X hq (dg dt_Q_isotopies 17 rfl) cb_Q_needState w_499 w_498 (s_Q_needState htr () ad _ _ hc_11) rfl ⟨Nat.le_of_ble_eq_true rfl, Nat.le_of_ble_eq_true rfl⟩  (Nat.le_of_ble_eq_true rfl)) (fun r_12 σ_13 hc_11 h => ?_)
    refine G_callS (pc := 33) (S := []) [.int s_10] (fun _ h => h) X  (dg dt_Q_isotopies 17 rfl) cb_Q_needState w_499 w_498 (s_Q_needState htr () ad _ _ hc_11) rfl ⟨Nat.le_of_ble_eq_true rfl, Nat.le_of_ble_eq_true rfl⟩  (Nat.le_of_ble_eq_true rfl) Rc0 ?_
    refine G_aload_n (pc := 36) 3 X (dg dt_Q_isotopies 18 rfl) rfl rfl ?_
    refine G_getIN (pc := 37) 3 X (dg dt_Q_isotopies 19 rfl) fc_0 w_119 rfl (Nat.le_of_ble_eq_true rfl) (sh_g hg_r_2) rfl ?_
    refine G_aload (pc := 40) X (dg dt_Q_isotopies 20 rfl) rfl ?_
    refine G_getIN (pc := 42) 3 X (dg dt_Q_isotopies 21 rfl) fc_0 w_119 rfl (Nat.le_of_ble_eq_true rfl) (sh_g hg_r_5) rfl ?_
    refine G_icmp_ne (pc := 45) 61 X (dg dt_Q_isotopies 22 rfl) (by decide) h (fun h => ?_) (fun h => ?_)
    · refine G_iconst (pc := 61) 0 X (dg dt_Q_isotopies 29 rfl) (by decide) ?_
      exact G_xiret (pc := 62) X hq (dg dt_Q_isotopies 30 rfl) h
    · refine G_aload_n (pc := 48) 0 X (dg dt_Q_isotopies 23 rfl) rfl rfl ?_
      refine G_getR (pc := 49) 6 X (dg dt_Q_isotopies 24 rfl) fc_7 w_270 rfl (Nat.le_of_ble_eq_true rfl) sh_0 rfl ?_
      refine G_aload_n (pc := 52) 3 X (dg dt_Q_isotopies 25 rfl) rfl rfl ?_
      refine G_aload (pc := 53) X (dg dt_Q_isotopies 26 rfl) rfl ?_
      obtain ⟨r_15, σ_16, hc_14, h⟩ := cal_go h
      refine G_callV (pc := 55) (S := []) [.ref (ad r_2), .ref (ad r_5)] nosub X  (dg dt_Q_isotopies 27 rfl) cb_Symmetry_isotopiesBetween cv_Symmetry_isotopiesBetween w_941 (s_Symmetry_isotopiesBetween _ ad _ _ _ hg_r_2 hg_r_5 hc_14) rfl ⟨Nat.le_of_ble_eq_true rfl, Nat.le_of_ble_eq_true rfl⟩ sh_18 rfl (Nat.le_of_ble_eq_true rfl) Rc0 ?_
      refine G_goto (pc := 58) 62 X (dg dt_Q_isotopies 28 rfl) (by decide) ?_
      exact G_xiret (pc := 62) X hq (dg dt_Q_isotopies 30 rfl) h
  refine jn_go (fun j32_17 => j32_17 = some (rv, σe) → G θ (0, 0) (g_SH, ad) σ_6 32 [some (.ref (ad 0)), none, none, some (.ref (ad r_2)), some (.ref (ad r_5))] []) h ?_ (fun j32_17 hj32_17 h => ?_)
  · intro  h
    refine G_iconst (pc := 32) 0 X (dg dt_Q_isotopies 16 rfl) (by decide) ?_
    exact G_wk (hj33_9 0 h) ⟨rfl, ⟨rfl, ⟨rfl, trivial⟩⟩⟩
  refine G_if_eq (pc := 17) 32 X (dg dt_Q_isotopies 10 rfl) (by decide) h (fun h => ?_) (fun h => ?_)
  · exact G_wk (hj32_17  h) ⟨rfl, ⟨rfl, ⟨rfl, trivial⟩⟩⟩
  · refine G_aload (pc := 20) X (dg dt_Q_isotopies 11 rfl) rfl ?_
    obtain ⟨r_19, hc_18, h⟩ := cap_go h
    refine G_callV (pc := 22) (S := []) [] nosub X  (dg dt_Q_isotopies 12 rfl) cb_Grid_isSquare cv_Grid_isSquare w_601 (s_Grid_isSquare _ ad _ _ hg_r_5 hc_18) rfl ⟨Nat.le_of_ble_eq_true rfl, Nat.le_of_ble_eq_true rfl⟩ (sh_g hg_r_5) rfl (Nat.le_of_ble_eq_true rfl) Rc0 ?_
    refine G_if_eq (pc := 25) 32 X (dg dt_Q_isotopies 13 rfl) (by decide) h (fun h => ?_) (fun h => ?_)
    · exact G_wk (hj32_17  h) ⟨rfl, ⟨rfl, ⟨rfl, trivial⟩⟩⟩
    · refine G_iconst (pc := 28) 1 X (dg dt_Q_isotopies 14 rfl) (by decide) ?_
      refine G_goto (pc := 29) 33 X (dg dt_Q_isotopies 15 rfl) (by decide) ?_
      exact G_wk (hj33_9 1 h) ⟨rfl, ⟨rfl, ⟨rfl, trivial⟩⟩⟩
set_option maxRecDepth 100000 in
set_option maxHeartbeats 4000000 in
theorem s_Q_count {l : Launch} (htr : l.stackTraces = false) (_ : Unit) (ad : Nat → Nat) (σ : St) (v1 : Int32) (v2 : Int32)  {rv : Except Nat Int32} {σe : St} (h : f_Q_count σ v1 v2 = some (rv, σe)) : RX l g_strs yX11_count cX11_count 4 (some .int) 7 121 (g_SH, ad) [.ref (ad 0), .int v1, .int v2] σ (xi rv) σe := by
  refine RX.intro htr (L := [some (.ref (ad 0)), some (.int v1), some (.int v2), none]) (by decide +kernel) (Nat.le_of_ble_eq_true rfl) rfl (fun θ hl X hq => ?_)
  subst hl
  unfold f_Q_count at h
  refine G_aload_n (pc := 0) 0 X (dg dt_Q_count 0 rfl) rfl rfl ?_
  refine G_iload_n (pc := 1) 1 X (dg dt_Q_count 1 rfl) rfl rfl ?_
  refine cax_go h (fun ex hc_1 hex => by subst hex; exact G_callVX (pc := 2) (S := []) [.int v1] (fun _ h => h) X hq (dg dt_Q_count 2 rfl) cb_Q_gridAt cv_Q_gridAt w_462 (s_Q_gridAt htr () ad _ _ hc_1) rfl ⟨Nat.le_of_ble_eq_true rfl, Nat.le_of_ble_eq_true rfl⟩ sh_0 rfl (Nat.le_of_ble_eq_true rfl)) (fun r_2 σ_3 hc_1 h => ?_)
  have hg_r_2 := gk_of_Q_gridAt hc_1
  refine G_callV (pc := 2) (S := []) [.int v1] (fun _ h => h) X  (dg dt_Q_count 2 rfl) cb_Q_gridAt cv_Q_gridAt w_462 (s_Q_gridAt htr () ad _ _ hc_1) rfl ⟨Nat.le_of_ble_eq_true rfl, Nat.le_of_ble_eq_true rfl⟩ sh_0 rfl (Nat.le_of_ble_eq_true rfl) Rc0 ?_
  refine G_astore_n (pc := 5) 3 X (dg dt_Q_count 3 rfl) rfl (Nat.le_of_ble_eq_true rfl) rfl ?_
  refine G_iload_n (pc := 6) 2 X (dg dt_Q_count 4 rfl) rfl rfl ?_
  refine G_iconst (pc := 7) 0 X (dg dt_Q_count 5 rfl) (by decide) ?_
  refine G_iconst (pc := 8) 4 X (dg dt_Q_count 6 rfl) (by decide) ?_
  obtain ⟨r_5, hc_4, h⟩ := cap_go h
  refine G_callS (pc := 9) (S := []) [.int v2, .int 0, .int 4] nosub X  (dg dt_Q_count 7 rfl) cb_Q_isFrom w_326 w_325 (s_Q_isFrom _ ad _ _ _ _ hc_4) rfl ⟨Nat.le_of_ble_eq_true rfl, Nat.le_of_ble_eq_true rfl⟩  (Nat.le_of_ble_eq_true rfl) Rc0 ?_
  refine cax_go h (fun ex hc_6 hex => by subst hex; exact G_callSX (pc := 12) (S := []) [.int r_5] (fun _ h => h) X hq (dg dt_Q_count 8 rfl) cb_Q_needArgument w_329 w_328 (s_Q_needArgument htr () ad _ _ hc_6) rfl ⟨Nat.le_of_ble_eq_true rfl, Nat.le_of_ble_eq_true rfl⟩  (Nat.le_of_ble_eq_true rfl)) (fun r_7 σ_8 hc_6 h => ?_)
  refine G_callS (pc := 12) (S := []) [.int r_5] (fun _ h => h) X  (dg dt_Q_count 8 rfl) cb_Q_needArgument w_329 w_328 (s_Q_needArgument htr () ad _ _ hc_6) rfl ⟨Nat.le_of_ble_eq_true rfl, Nat.le_of_ble_eq_true rfl⟩  (Nat.le_of_ble_eq_true rfl) Rc0 ?_
  refine G_aload_n (pc := 15) 3 X (dg dt_Q_count 9 rfl) rfl rfl ?_
  obtain ⟨r_10, hc_9, h⟩ := cap_go h
  refine G_callV (pc := 16) (S := []) [] nosub X  (dg dt_Q_count 10 rfl) cb_Grid_isSquare cv_Grid_isSquare w_601 (s_Grid_isSquare _ ad _ _ hg_r_2 hc_9) rfl ⟨Nat.le_of_ble_eq_true rfl, Nat.le_of_ble_eq_true rfl⟩ (sh_g hg_r_2) rfl (Nat.le_of_ble_eq_true rfl) Rc0 ?_
  refine cax_go h (fun ex hc_11 hex => by subst hex; exact G_callSX (pc := 19) (S := []) [.int r_10] (fun _ h => h) X hq (dg dt_Q_count 11 rfl) cb_Q_needState w_499 w_498 (s_Q_needState htr () ad _ _ hc_11) rfl ⟨Nat.le_of_ble_eq_true rfl, Nat.le_of_ble_eq_true rfl⟩  (Nat.le_of_ble_eq_true rfl)) (fun r_12 σ_13 hc_11 h => ?_)
  refine G_callS (pc := 19) (S := []) [.int r_10] (fun _ h => h) X  (dg dt_Q_count 11 rfl) cb_Q_needState w_499 w_498 (s_Q_needState htr () ad _ _ hc_11) rfl ⟨Nat.le_of_ble_eq_true rfl, Nat.le_of_ble_eq_true rfl⟩  (Nat.le_of_ble_eq_true rfl) Rc0 ?_
  refine G_iload_n (pc := 22) 2 X (dg dt_Q_count 12 rfl) rfl rfl ?_
  refine G_table4 (pc := 23) 52 57 66 77 88 X (dg dt_Q_count 13 rfl) (by decide) (by decide) (by decide) (by decide) (by decide) (by decide) h (fun h => ?_) (fun h => ?_) (fun h => ?_) (fun h => ?_) (fun h => ?_)
  · refine G_aload_n (pc := 52) 3 X (dg dt_Q_count 14 rfl) rfl rfl ?_
    obtain ⟨r_15, hc_14, h⟩ := cap_go h
    refine G_callS (pc := 53) (S := []) [.ref (ad r_2)] nosub X  (dg dt_Q_count 15 rfl) cb_Laws_closedSets w_889 w_888 (s_Laws_closedSets _ ad _ _ hg_r_2 hc_14) rfl ⟨Nat.le_of_ble_eq_true rfl, Nat.le_of_ble_eq_true rfl⟩  (Nat.le_of_ble_eq_true rfl) Rc0 ?_
    exact G_xiret (pc := 56) X hq (dg dt_Q_count 16 rfl) h
  · refine G_aload_n (pc := 57) 0 X (dg dt_Q_count 17 rfl) rfl rfl ?_
    refine G_getR (pc := 58) 6 X (dg dt_Q_count 18 rfl) fc_7 w_270 rfl (Nat.le_of_ble_eq_true rfl) sh_0 rfl ?_
    refine G_aload_n (pc := 61) 3 X (dg dt_Q_count 19 rfl) rfl rfl ?_
    obtain ⟨r_17, hc_16, h⟩ := cap_go h
    refine G_callV (pc := 62) (S := []) [.ref (ad r_2)] nosub X  (dg dt_Q_count 20 rfl) cb_Symmetry_automorphisms cv_Symmetry_automorphisms w_892 (s_Symmetry_automorphisms _ ad _ _ hg_r_2 hc_16) rfl ⟨Nat.le_of_ble_eq_true rfl, Nat.le_of_ble_eq_true rfl⟩ sh_18 rfl (Nat.le_of_ble_eq_true rfl) Rc0 ?_
    exact G_xiret (pc := 65) X hq (dg dt_Q_count 21 rfl) h
  · refine G_aload_n (pc := 66) 0 X (dg dt_Q_count 22 rfl) rfl rfl ?_
    refine G_getR (pc := 67) 6 X (dg dt_Q_count 23 rfl) fc_7 w_270 rfl (Nat.le_of_ble_eq_true rfl) sh_0 rfl ?_
    refine G_aload_n (pc := 70) 3 X (dg dt_Q_count 24 rfl) rfl rfl ?_
    refine G_iconst (pc := 71) 1 X (dg dt_Q_count 25 rfl) (by decide) ?_
    refine G_iconst (pc := 72) 0 X (dg dt_Q_count 26 rfl) (by decide) ?_
    obtain ⟨r_19, σ_20, hc_18, h⟩ := cal_go h
    refine G_callV (pc := 73) (S := []) [.ref (ad r_2), .int 1, .int 0] nosub X  (dg dt_Q_count 27 rfl) cb_Symmetry_groupSize cv_Symmetry_groupSize w_903 (s_Symmetry_groupSize _ ad _ _ _ _ hg_r_2 hc_18) rfl ⟨Nat.le_of_ble_eq_true rfl, Nat.le_of_ble_eq_true rfl⟩ sh_18 rfl (Nat.le_of_ble_eq_true rfl) Rc0 ?_
    exact G_xiret (pc := 76) X hq (dg dt_Q_count 28 rfl) h
  · refine G_aload_n (pc := 77) 0 X (dg dt_Q_count 29 rfl) rfl rfl ?_
    refine G_getR (pc := 78) 6 X (dg dt_Q_count 30 rfl) fc_7 w_270 rfl (Nat.le_of_ble_eq_true rfl) sh_0 rfl ?_
    refine G_aload_n (pc := 81) 3 X (dg dt_Q_count 31 rfl) rfl rfl ?_
    refine G_iconst (pc := 82) 0 X (dg dt_Q_count 32 rfl) (by decide) ?_
    refine G_iconst (pc := 83) 1 X (dg dt_Q_count 33 rfl) (by decide) ?_
    obtain ⟨r_22, σ_23, hc_21, h⟩ := cal_go h
    refine G_callV (pc := 84) (S := []) [.ref (ad r_2), .int 0, .int 1] nosub X  (dg dt_Q_count 34 rfl) cb_Symmetry_groupSize cv_Symmetry_groupSize w_903 (s_Symmetry_groupSize _ ad _ _ _ _ hg_r_2 hc_21) rfl ⟨Nat.le_of_ble_eq_true rfl, Nat.le_of_ble_eq_true rfl⟩ sh_18 rfl (Nat.le_of_ble_eq_true rfl) Rc0 ?_
    exact G_xiret (pc := 87) X hq (dg dt_Q_count 35 rfl) h
  · refine G_aload_n (pc := 88) 0 X (dg dt_Q_count 36 rfl) rfl rfl ?_
    refine G_getR (pc := 89) 6 X (dg dt_Q_count 37 rfl) fc_7 w_270 rfl (Nat.le_of_ble_eq_true rfl) sh_0 rfl ?_
    refine G_aload_n (pc := 92) 3 X (dg dt_Q_count 38 rfl) rfl rfl ?_
    refine G_iconst (pc := 93) 1 X (dg dt_Q_count 39 rfl) (by decide) ?_
    refine G_iconst (pc := 94) 1 X (dg dt_Q_count 40 rfl) (by decide) ?_
    obtain ⟨r_25, σ_26, hc_24, h⟩ := cal_go h
    refine G_callV (pc := 95) (S := []) [.ref (ad r_2), .int 1, .int 1] nosub X  (dg dt_Q_count 41 rfl) cb_Symmetry_groupSize cv_Symmetry_groupSize w_903 (s_Symmetry_groupSize _ ad _ _ _ _ hg_r_2 hc_24) rfl ⟨Nat.le_of_ble_eq_true rfl, Nat.le_of_ble_eq_true rfl⟩ sh_18 rfl (Nat.le_of_ble_eq_true rfl) Rc0 ?_
    exact G_xiret (pc := 98) X hq (dg dt_Q_count 42 rfl) h
set_option maxRecDepth 100000 in
set_option maxHeartbeats 4000000 in
theorem s_Q_closed {l : Launch} (htr : l.stackTraces = false) (_ : Unit) (ad : Nat → Nat) (σ : St) (v1 : Int32) (v2 : Int32)  {rv : Except Nat Int32} {σe : St} (h : f_Q_closed σ v1 v2 = some (rv, σe)) : RX l g_strs yX11_closed cX11_closed 4 (some .int) 7 121 (g_SH, ad) [.ref (ad 0), .int v1, .int v2] σ (xi rv) σe := by
  refine RX.intro htr (L := [some (.ref (ad 0)), some (.int v1), some (.int v2), none]) (by decide +kernel) (Nat.le_of_ble_eq_true rfl) rfl (fun θ hl X hq => ?_)
  subst hl
  unfold f_Q_closed at h
  refine G_aload_n (pc := 0) 0 X (dg dt_Q_closed 0 rfl) rfl rfl ?_
  refine G_iload_n (pc := 1) 1 X (dg dt_Q_closed 1 rfl) rfl rfl ?_
  refine cax_go h (fun ex hc_1 hex => by subst hex; exact G_callVX (pc := 2) (S := []) [.int v1] (fun _ h => h) X hq (dg dt_Q_closed 2 rfl) cb_Q_gridAt cv_Q_gridAt w_462 (s_Q_gridAt htr () ad _ _ hc_1) rfl ⟨Nat.le_of_ble_eq_true rfl, Nat.le_of_ble_eq_true rfl⟩ sh_0 rfl (Nat.le_of_ble_eq_true rfl)) (fun r_2 σ_3 hc_1 h => ?_)
  have hg_r_2 := gk_of_Q_gridAt hc_1
  refine G_callV (pc := 2) (S := []) [.int v1] (fun _ h => h) X  (dg dt_Q_closed 2 rfl) cb_Q_gridAt cv_Q_gridAt w_462 (s_Q_gridAt htr () ad _ _ hc_1) rfl ⟨Nat.le_of_ble_eq_true rfl, Nat.le_of_ble_eq_true rfl⟩ sh_0 rfl (Nat.le_of_ble_eq_true rfl) Rc0 ?_
  refine G_astore_n (pc := 5) 3 X (dg dt_Q_closed 3 rfl) rfl (Nat.le_of_ble_eq_true rfl) rfl ?_
  refine G_iload_n (pc := 6) 2 X (dg dt_Q_closed 4 rfl) rfl rfl ?_
  refine G_iconst (pc := 7) 1 X (dg dt_Q_closed 5 rfl) (by decide) ?_
  refine G_aload_n (pc := 8) 3 X (dg dt_Q_closed 6 rfl) rfl rfl ?_
  obtain ⟨r_5, hc_4, h⟩ := cap_go h
  refine G_callV (pc := 9) (S := [.int 1, .int v2]) [] nosub X  (dg dt_Q_closed 7 rfl) cb_Grid_allSigns cv_Grid_allSigns w_873 (s_Grid_allSigns _ ad _ _ hg_r_2 hc_4) rfl ⟨Nat.le_of_ble_eq_true rfl, Nat.le_of_ble_eq_true rfl⟩ (sh_g hg_r_2) rfl (Nat.le_of_ble_eq_true rfl) Rc0 ?_
  obtain ⟨r_7, hc_6, h⟩ := cap_go h
  refine G_callS (pc := 12) (S := []) [.int v2, .int 1, .int r_5] nosub X  (dg dt_Q_closed 8 rfl) cb_Q_isFrom w_326 w_325 (s_Q_isFrom _ ad _ _ _ _ hc_6) rfl ⟨Nat.le_of_ble_eq_true rfl, Nat.le_of_ble_eq_true rfl⟩  (Nat.le_of_ble_eq_true rfl) Rc0 ?_
  refine cax_go h (fun ex hc_8 hex => by subst hex; exact G_callSX (pc := 15) (S := []) [.int r_7] (fun _ h => h) X hq (dg dt_Q_closed 9 rfl) cb_Q_needArgument w_329 w_328 (s_Q_needArgument htr () ad _ _ hc_8) rfl ⟨Nat.le_of_ble_eq_true rfl, Nat.le_of_ble_eq_true rfl⟩  (Nat.le_of_ble_eq_true rfl)) (fun r_9 σ_10 hc_8 h => ?_)
  refine G_callS (pc := 15) (S := []) [.int r_7] (fun _ h => h) X  (dg dt_Q_closed 9 rfl) cb_Q_needArgument w_329 w_328 (s_Q_needArgument htr () ad _ _ hc_8) rfl ⟨Nat.le_of_ble_eq_true rfl, Nat.le_of_ble_eq_true rfl⟩  (Nat.le_of_ble_eq_true rfl) Rc0 ?_
  refine G_aload_n (pc := 18) 3 X (dg dt_Q_closed 10 rfl) rfl rfl ?_
  obtain ⟨r_12, hc_11, h⟩ := cap_go h
  refine G_callV (pc := 19) (S := []) [] nosub X  (dg dt_Q_closed 11 rfl) cb_Grid_isSquare cv_Grid_isSquare w_601 (s_Grid_isSquare _ ad _ _ hg_r_2 hc_11) rfl ⟨Nat.le_of_ble_eq_true rfl, Nat.le_of_ble_eq_true rfl⟩ (sh_g hg_r_2) rfl (Nat.le_of_ble_eq_true rfl) Rc0 ?_
  refine cax_go h (fun ex hc_13 hex => by subst hex; exact G_callSX (pc := 22) (S := []) [.int r_12] (fun _ h => h) X hq (dg dt_Q_closed 12 rfl) cb_Q_needState w_499 w_498 (s_Q_needState htr () ad _ _ hc_13) rfl ⟨Nat.le_of_ble_eq_true rfl, Nat.le_of_ble_eq_true rfl⟩  (Nat.le_of_ble_eq_true rfl)) (fun r_14 σ_15 hc_13 h => ?_)
  refine G_callS (pc := 22) (S := []) [.int r_12] (fun _ h => h) X  (dg dt_Q_closed 12 rfl) cb_Q_needState w_499 w_498 (s_Q_needState htr () ad _ _ hc_13) rfl ⟨Nat.le_of_ble_eq_true rfl, Nat.le_of_ble_eq_true rfl⟩  (Nat.le_of_ble_eq_true rfl) Rc0 ?_
  refine G_aload_n (pc := 25) 3 X (dg dt_Q_closed 13 rfl) rfl rfl ?_
  refine G_iload_n (pc := 26) 2 X (dg dt_Q_closed 14 rfl) rfl rfl ?_
  obtain ⟨r_17, hc_16, h⟩ := cap_go h
  refine G_callS (pc := 27) (S := []) [.ref (ad r_2), .int v2] nosub X  (dg dt_Q_closed 15 rfl) cb_Laws_closedFrom w_875 w_874 (s_Laws_closedFrom _ ad _ _ _ hg_r_2 hc_16) rfl ⟨Nat.le_of_ble_eq_true rfl, Nat.le_of_ble_eq_true rfl⟩  (Nat.le_of_ble_eq_true rfl) Rc0 ?_
  exact G_xiret (pc := 30) X hq (dg dt_Q_closed 16 rfl) h
set_option maxRecDepth 100000 in
set_option maxHeartbeats 4000000 in
theorem s_Q_nucleus {l : Launch} (htr : l.stackTraces = false) (_ : Unit) (ad : Nat → Nat) (σ : St) (v1 : Int32) (v2 : Int32)  {rv : Except Nat Int32} {σe : St} (h : f_Q_nucleus σ v1 v2 = some (rv, σe)) : RX l g_strs yX11_nucleus cX11_nucleus 4 (some .int) 7 158 (g_SH, ad) [.ref (ad 0), .int v1, .int v2] σ (xi rv) σe := by
  refine RX.intro htr (L := [some (.ref (ad 0)), some (.int v1), some (.int v2), none]) (by decide +kernel) (Nat.le_of_ble_eq_true rfl) rfl (fun θ hl X hq => ?_)
  subst hl
  unfold f_Q_nucleus at h
  refine G_aload_n (pc := 0) 0 X (dg dt_Q_nucleus 0 rfl) rfl rfl ?_
  refine G_iload_n (pc := 1) 1 X (dg dt_Q_nucleus 1 rfl) rfl rfl ?_
  refine cax_go h (fun ex hc_1 hex => by subst hex; exact G_callVX (pc := 2) (S := []) [.int v1] (fun _ h => h) X hq (dg dt_Q_nucleus 2 rfl) cb_Q_gridAt cv_Q_gridAt w_462 (s_Q_gridAt htr () ad _ _ hc_1) rfl ⟨Nat.le_of_ble_eq_true rfl, Nat.le_of_ble_eq_true rfl⟩ sh_0 rfl (Nat.le_of_ble_eq_true rfl)) (fun r_2 σ_3 hc_1 h => ?_)
  have hg_r_2 := gk_of_Q_gridAt hc_1
  refine G_callV (pc := 2) (S := []) [.int v1] (fun _ h => h) X  (dg dt_Q_nucleus 2 rfl) cb_Q_gridAt cv_Q_gridAt w_462 (s_Q_gridAt htr () ad _ _ hc_1) rfl ⟨Nat.le_of_ble_eq_true rfl, Nat.le_of_ble_eq_true rfl⟩ sh_0 rfl (Nat.le_of_ble_eq_true rfl) Rc0 ?_
  refine G_astore_n (pc := 5) 3 X (dg dt_Q_nucleus 3 rfl) rfl (Nat.le_of_ble_eq_true rfl) rfl ?_
  refine G_iload_n (pc := 6) 2 X (dg dt_Q_nucleus 4 rfl) rfl rfl ?_
  refine G_iconst (pc := 7) 0 X (dg dt_Q_nucleus 5 rfl) (by decide) ?_
  refine G_iconst (pc := 8) 3 X (dg dt_Q_nucleus 6 rfl) (by decide) ?_
  obtain ⟨r_5, hc_4, h⟩ := cap_go h
  refine G_callS (pc := 9) (S := []) [.int v2, .int 0, .int 3] nosub X  (dg dt_Q_nucleus 7 rfl) cb_Q_isFrom w_326 w_325 (s_Q_isFrom _ ad _ _ _ _ hc_4) rfl ⟨Nat.le_of_ble_eq_true rfl, Nat.le_of_ble_eq_true rfl⟩  (Nat.le_of_ble_eq_true rfl) Rc0 ?_
  refine cax_go h (fun ex hc_6 hex => by subst hex; exact G_callSX (pc := 12) (S := []) [.int r_5] (fun _ h => h) X hq (dg dt_Q_nucleus 8 rfl) cb_Q_needArgument w_329 w_328 (s_Q_needArgument htr () ad _ _ hc_6) rfl ⟨Nat.le_of_ble_eq_true rfl, Nat.le_of_ble_eq_true rfl⟩  (Nat.le_of_ble_eq_true rfl)) (fun r_7 σ_8 hc_6 h => ?_)
  refine G_callS (pc := 12) (S := []) [.int r_5] (fun _ h => h) X  (dg dt_Q_nucleus 8 rfl) cb_Q_needArgument w_329 w_328 (s_Q_needArgument htr () ad _ _ hc_6) rfl ⟨Nat.le_of_ble_eq_true rfl, Nat.le_of_ble_eq_true rfl⟩  (Nat.le_of_ble_eq_true rfl) Rc0 ?_
  refine G_aload_n (pc := 15) 3 X (dg dt_Q_nucleus 9 rfl) rfl rfl ?_
  obtain ⟨r_10, hc_9, h⟩ := cap_go h
  refine G_callV (pc := 16) (S := []) [] nosub X  (dg dt_Q_nucleus 10 rfl) cb_Grid_isSquare cv_Grid_isSquare w_601 (s_Grid_isSquare _ ad _ _ hg_r_2 hc_9) rfl ⟨Nat.le_of_ble_eq_true rfl, Nat.le_of_ble_eq_true rfl⟩ (sh_g hg_r_2) rfl (Nat.le_of_ble_eq_true rfl) Rc0 ?_
  refine cax_go h (fun ex hc_11 hex => by subst hex; exact G_callSX (pc := 19) (S := []) [.int r_10] (fun _ h => h) X hq (dg dt_Q_nucleus 11 rfl) cb_Q_needState w_499 w_498 (s_Q_needState htr () ad _ _ hc_11) rfl ⟨Nat.le_of_ble_eq_true rfl, Nat.le_of_ble_eq_true rfl⟩  (Nat.le_of_ble_eq_true rfl)) (fun r_12 σ_13 hc_11 h => ?_)
  refine G_callS (pc := 19) (S := []) [.int r_10] (fun _ h => h) X  (dg dt_Q_nucleus 11 rfl) cb_Q_needState w_499 w_498 (s_Q_needState htr () ad _ _ hc_11) rfl ⟨Nat.le_of_ble_eq_true rfl, Nat.le_of_ble_eq_true rfl⟩  (Nat.le_of_ble_eq_true rfl) Rc0 ?_
  refine G_aload_n (pc := 22) 3 X (dg dt_Q_nucleus 12 rfl) rfl rfl ?_
  refine G_iload_n (pc := 23) 2 X (dg dt_Q_nucleus 13 rfl) rfl rfl ?_
  obtain ⟨r_15, hc_14, h⟩ := cap_go h
  refine G_callS (pc := 24) (S := []) [.ref (ad r_2), .int v2] nosub X  (dg dt_Q_nucleus 14 rfl) cb_Laws_nucleusOf w_852 w_851 (s_Laws_nucleusOf _ ad _ _ _ hg_r_2 hc_14) rfl ⟨Nat.le_of_ble_eq_true rfl, Nat.le_of_ble_eq_true rfl⟩  (Nat.le_of_ble_eq_true rfl) Rc0 ?_
  exact G_xiret (pc := 27) X hq (dg dt_Q_nucleus 15 rfl) h
set_option maxRecDepth 100000 in
set_option maxHeartbeats 4000000 in
theorem s_Q_unit {l : Launch} (htr : l.stackTraces = false) (_ : Unit) (ad : Nat → Nat) (σ : St) (v1 : Int32)  {rv : Except Nat Int32} {σe : St} (h : f_Q_unit σ v1 = some (rv, σe)) : RX l g_strs yX11_unit cX11_unit 3 (some .int) 7 121 (g_SH, ad) [.ref (ad 0), .int v1] σ (xi rv) σe := by
  refine RX.intro htr (L := [some (.ref (ad 0)), some (.int v1), none]) (by decide +kernel) (Nat.le_of_ble_eq_true rfl) rfl (fun θ hl X hq => ?_)
  subst hl
  unfold f_Q_unit at h
  refine G_aload_n (pc := 0) 0 X (dg dt_Q_unit 0 rfl) rfl rfl ?_
  refine G_iload_n (pc := 1) 1 X (dg dt_Q_unit 1 rfl) rfl rfl ?_
  refine cax_go h (fun ex hc_1 hex => by subst hex; exact G_callVX (pc := 2) (S := []) [.int v1] (fun _ h => h) X hq (dg dt_Q_unit 2 rfl) cb_Q_gridAt cv_Q_gridAt w_462 (s_Q_gridAt htr () ad _ _ hc_1) rfl ⟨Nat.le_of_ble_eq_true rfl, Nat.le_of_ble_eq_true rfl⟩ sh_0 rfl (Nat.le_of_ble_eq_true rfl)) (fun r_2 σ_3 hc_1 h => ?_)
  have hg_r_2 := gk_of_Q_gridAt hc_1
  refine G_callV (pc := 2) (S := []) [.int v1] (fun _ h => h) X  (dg dt_Q_unit 2 rfl) cb_Q_gridAt cv_Q_gridAt w_462 (s_Q_gridAt htr () ad _ _ hc_1) rfl ⟨Nat.le_of_ble_eq_true rfl, Nat.le_of_ble_eq_true rfl⟩ sh_0 rfl (Nat.le_of_ble_eq_true rfl) Rc0 ?_
  refine G_astore_n (pc := 5) 2 X (dg dt_Q_unit 3 rfl) rfl (Nat.le_of_ble_eq_true rfl) rfl ?_
  refine G_aload_n (pc := 6) 2 X (dg dt_Q_unit 4 rfl) rfl rfl ?_
  obtain ⟨r_5, hc_4, h⟩ := cap_go h
  refine G_callV (pc := 7) (S := []) [] nosub X  (dg dt_Q_unit 5 rfl) cb_Grid_isSquare cv_Grid_isSquare w_601 (s_Grid_isSquare _ ad _ _ hg_r_2 hc_4) rfl ⟨Nat.le_of_ble_eq_true rfl, Nat.le_of_ble_eq_true rfl⟩ (sh_g hg_r_2) rfl (Nat.le_of_ble_eq_true rfl) Rc0 ?_
  refine cax_go h (fun ex hc_6 hex => by subst hex; exact G_callSX (pc := 10) (S := []) [.int r_5] (fun _ h => h) X hq (dg dt_Q_unit 6 rfl) cb_Q_needState w_499 w_498 (s_Q_needState htr () ad _ _ hc_6) rfl ⟨Nat.le_of_ble_eq_true rfl, Nat.le_of_ble_eq_true rfl⟩  (Nat.le_of_ble_eq_true rfl)) (fun r_7 σ_8 hc_6 h => ?_)
  refine G_callS (pc := 10) (S := []) [.int r_5] (fun _ h => h) X  (dg dt_Q_unit 6 rfl) cb_Q_needState w_499 w_498 (s_Q_needState htr () ad _ _ hc_6) rfl ⟨Nat.le_of_ble_eq_true rfl, Nat.le_of_ble_eq_true rfl⟩  (Nat.le_of_ble_eq_true rfl) Rc0 ?_
  refine G_aload_n (pc := 13) 2 X (dg dt_Q_unit 7 rfl) rfl rfl ?_
  obtain ⟨r_10, hc_9, h⟩ := cap_go h
  refine G_callS (pc := 14) (S := []) [.ref (ad r_2)] nosub X  (dg dt_Q_unit 8 rfl) cb_Laws_unitOf w_838 w_837 (s_Laws_unitOf _ ad _ _ hg_r_2 hc_9) rfl ⟨Nat.le_of_ble_eq_true rfl, Nat.le_of_ble_eq_true rfl⟩  (Nat.le_of_ble_eq_true rfl) Rc0 ?_
  exact G_xiret (pc := 17) X hq (dg dt_Q_unit 9 rfl) h
set_option maxRecDepth 100000 in
set_option maxHeartbeats 4000000 in
theorem s_Q_breaks {l : Launch} (htr : l.stackTraces = false) (_ : Unit) (ad : Nat → Nat) (σ : St) (v1 : Int32)  {rv : Except Nat Int32} {σe : St} (h : f_Q_breaks σ v1 = some (rv, σe)) : RX l g_strs yX11_breaks cX11_breaks 3 (some .int) 7 121 (g_SH, ad) [.ref (ad 0), .int v1] σ (xi rv) σe := by
  refine RX.intro htr (L := [some (.ref (ad 0)), some (.int v1), none]) (by decide +kernel) (Nat.le_of_ble_eq_true rfl) rfl (fun θ hl X hq => ?_)
  subst hl
  unfold f_Q_breaks at h
  refine G_aload_n (pc := 0) 0 X (dg dt_Q_breaks 0 rfl) rfl rfl ?_
  refine G_iload_n (pc := 1) 1 X (dg dt_Q_breaks 1 rfl) rfl rfl ?_
  refine cax_go h (fun ex hc_1 hex => by subst hex; exact G_callVX (pc := 2) (S := []) [.int v1] (fun _ h => h) X hq (dg dt_Q_breaks 2 rfl) cb_Q_gridAt cv_Q_gridAt w_462 (s_Q_gridAt htr () ad _ _ hc_1) rfl ⟨Nat.le_of_ble_eq_true rfl, Nat.le_of_ble_eq_true rfl⟩ sh_0 rfl (Nat.le_of_ble_eq_true rfl)) (fun r_2 σ_3 hc_1 h => ?_)
  have hg_r_2 := gk_of_Q_gridAt hc_1
  refine G_callV (pc := 2) (S := []) [.int v1] (fun _ h => h) X  (dg dt_Q_breaks 2 rfl) cb_Q_gridAt cv_Q_gridAt w_462 (s_Q_gridAt htr () ad _ _ hc_1) rfl ⟨Nat.le_of_ble_eq_true rfl, Nat.le_of_ble_eq_true rfl⟩ sh_0 rfl (Nat.le_of_ble_eq_true rfl) Rc0 ?_
  refine G_astore_n (pc := 5) 2 X (dg dt_Q_breaks 3 rfl) rfl (Nat.le_of_ble_eq_true rfl) rfl ?_
  refine G_aload_n (pc := 6) 0 X (dg dt_Q_breaks 4 rfl) rfl rfl ?_
  refine G_getR (pc := 7) 3 X (dg dt_Q_breaks 5 rfl) fc_7 w_267 rfl (Nat.le_of_ble_eq_true rfl) sh_0 rfl ?_
  obtain ⟨r_5, σ_6, hc_4, h⟩ := cal_go h
  refine G_callV (pc := 10) (S := []) [] nosub X  (dg dt_Q_breaks 6 rfl) cb_Tape_firstFault cv_Tape_firstFault w_300 (s_Tape_firstFault _ ad _ hc_4) rfl ⟨Nat.le_of_ble_eq_true rfl, Nat.le_of_ble_eq_true rfl⟩ sh_10 rfl (Nat.le_of_ble_eq_true rfl) Rc0 ?_
  refine G_iconst (pc := 13) (-1) X (dg dt_Q_breaks 7 rfl) (by decide) ?_
  refine jn_go (fun j22_7 => ∀ (s_8 : Int32), j22_7 s_8 = some (rv, σe) → G θ (0, 0) (g_SH, ad) σ_6 22 [some (.ref (ad 0)), none, some (.ref (ad r_2))] [.int s_8]) h ?_ (fun j22_7 hj22_7 h => ?_)
  · intro s_8 h
    refine cax_go h (fun ex hc_9 hex => by subst hex; exact G_callSX (pc := 22) (S := []) [.int s_8] (fun _ h => h) X hq (dg dt_Q_breaks 12 rfl) cb_Q_needArgument w_329 w_328 (s_Q_needArgument htr () ad _ _ hc_9) rfl ⟨Nat.le_of_ble_eq_true rfl, Nat.le_of_ble_eq_true rfl⟩  (Nat.le_of_ble_eq_true rfl)) (fun r_10 σ_11 hc_9 h => ?_)
    refine G_callS (pc := 22) (S := []) [.int s_8] (fun _ h => h) X  (dg dt_Q_breaks 12 rfl) cb_Q_needArgument w_329 w_328 (s_Q_needArgument htr () ad _ _ hc_9) rfl ⟨Nat.le_of_ble_eq_true rfl, Nat.le_of_ble_eq_true rfl⟩  (Nat.le_of_ble_eq_true rfl) Rc0 ?_
    refine G_aload_n (pc := 25) 2 X (dg dt_Q_breaks 13 rfl) rfl rfl ?_
    obtain ⟨r_13, hc_12, h⟩ := cap_go h
    refine G_callV (pc := 26) (S := []) [] nosub X  (dg dt_Q_breaks 14 rfl) cb_Grid_isSquare cv_Grid_isSquare w_601 (s_Grid_isSquare _ ad _ _ hg_r_2 hc_12) rfl ⟨Nat.le_of_ble_eq_true rfl, Nat.le_of_ble_eq_true rfl⟩ (sh_g hg_r_2) rfl (Nat.le_of_ble_eq_true rfl) Rc0 ?_
    refine cax_go h (fun ex hc_14 hex => by subst hex; exact G_callSX (pc := 29) (S := []) [.int r_13] (fun _ h => h) X hq (dg dt_Q_breaks 15 rfl) cb_Q_needState w_499 w_498 (s_Q_needState htr () ad _ _ hc_14) rfl ⟨Nat.le_of_ble_eq_true rfl, Nat.le_of_ble_eq_true rfl⟩  (Nat.le_of_ble_eq_true rfl)) (fun r_15 σ_16 hc_14 h => ?_)
    refine G_callS (pc := 29) (S := []) [.int r_13] (fun _ h => h) X  (dg dt_Q_breaks 15 rfl) cb_Q_needState w_499 w_498 (s_Q_needState htr () ad _ _ hc_14) rfl ⟨Nat.le_of_ble_eq_true rfl, Nat.le_of_ble_eq_true rfl⟩  (Nat.le_of_ble_eq_true rfl) Rc0 ?_
    refine G_aload_n (pc := 32) 0 X (dg dt_Q_breaks 16 rfl) rfl rfl ?_
    refine G_getR (pc := 33) 3 X (dg dt_Q_breaks 17 rfl) fc_7 w_267 rfl (Nat.le_of_ble_eq_true rfl) sh_0 rfl ?_
    refine G_aload_n (pc := 36) 2 X (dg dt_Q_breaks 18 rfl) rfl rfl ?_
    obtain ⟨r_18, σ_19, hc_17, h⟩ := cal_go h
    refine G_callV (pc := 37) (S := []) [.ref (ad r_2)] nosub X  (dg dt_Q_breaks 19 rfl) cb_Tape_firstBreak cv_Tape_firstBreak w_817 (s_Tape_firstBreak _ ad _ _ hg_r_2 hc_17) rfl ⟨Nat.le_of_ble_eq_true rfl, Nat.le_of_ble_eq_true rfl⟩ sh_10 rfl (Nat.le_of_ble_eq_true rfl) Rc0 ?_
    exact G_xiret (pc := 40) X hq (dg dt_Q_breaks 20 rfl) h
  refine G_icmp_ne (pc := 14) 21 X (dg dt_Q_breaks 8 rfl) (by decide) h (fun h => ?_) (fun h => ?_)
  · refine G_iconst (pc := 21) 0 X (dg dt_Q_breaks 11 rfl) (by decide) ?_
    exact G_wk (hj22_7 0 h) ⟨rfl, ⟨rfl, trivial⟩⟩
  · refine G_iconst (pc := 17) 1 X (dg dt_Q_breaks 9 rfl) (by decide) ?_
    refine G_goto (pc := 18) 22 X (dg dt_Q_breaks 10 rfl) (by decide) ?_
    exact G_wk (hj22_7 1 h) ⟨rfl, ⟨rfl, trivial⟩⟩
set_option maxRecDepth 100000 in
set_option maxHeartbeats 4000000 in
theorem s_Q_fault (l : Launch) (ad : Nat → Nat) (σ : St)   {rv : Int32} {σe : St} (h : f_Q_fault σ = some (rv, σe)) : Rt l [] yX11_fault cX11_fault 1 (some .int) 2 48 (g_SH, ad) [.ref (ad 0)] σ (some (.int rv)) σe := by
  refine Rt.intro (L := [some (.ref (ad 0))]) (by decide +kernel) (Nat.le_of_ble_eq_true rfl) rfl (fun θ hl X hq => ?_)
  subst hl
  unfold f_Q_fault at h
  refine G_aload_n (pc := 0) 0 X (dg dt_Q_fault 0 rfl) rfl rfl ?_
  refine G_getR (pc := 1) 3 X (dg dt_Q_fault 1 rfl) fc_7 w_267 rfl (Nat.le_of_ble_eq_true rfl) sh_0 rfl ?_
  obtain ⟨r_2, σ_3, hc_1, h⟩ := cal_go h
  refine G_callV (pc := 4) (S := []) [] nosub X  (dg dt_Q_fault 2 rfl) cb_Tape_firstFault cv_Tape_firstFault w_300 (s_Tape_firstFault _ ad _ hc_1) rfl ⟨Nat.le_of_ble_eq_true rfl, Nat.le_of_ble_eq_true rfl⟩ sh_10 rfl (Nat.le_of_ble_eq_true rfl) Rc0 ?_
  exact G_iret (pc := 7) X hq (dg dt_Q_fault 3 rfl) h
set_option maxRecDepth 100000 in
set_option maxHeartbeats 4000000 in
theorem s_Q_wipe (l : Launch) (ad : Nat → Nat) (σ : St)   {rv : Int32} {σe : St} (h : f_Q_wipe σ = some (rv, σe)) : Rt l [] yX11_wipe cX11_wipe 2 (some .int) 0 0 (g_SH, ad) [.ref (ad 0)] σ (some (.int rv)) σe := by
  refine Rt.intro (L := [some (.ref (ad 0)), none]) (by decide +kernel) (Nat.le_of_ble_eq_true rfl) rfl (fun θ hl X hq => ?_)
  subst hl
  unfold f_Q_wipe at h
  refine G_aload_n (pc := 0) 0 X (dg dt_Q_wipe 0 rfl) rfl rfl ?_
  refine G_getR (pc := 1) 3 X (dg dt_Q_wipe 1 rfl) fc_7 w_267 rfl (Nat.le_of_ble_eq_true rfl) sh_0 rfl ?_
  refine G_getIN (pc := 4) 3 X (dg dt_Q_wipe 2 rfl) fc_5 w_165 rfl (Nat.le_of_ble_eq_true rfl) sh_10 rfl ?_
  refine G_istore_n (pc := 7) 1 X (dg dt_Q_wipe 3 rfl) rfl (Nat.le_of_ble_eq_true rfl) rfl ?_
  refine G_aload_n (pc := 8) 0 X (dg dt_Q_wipe 4 rfl) rfl rfl ?_
  refine G_getR (pc := 9) 3 X (dg dt_Q_wipe 5 rfl) fc_7 w_267 rfl (Nat.le_of_ble_eq_true rfl) sh_0 rfl ?_
  refine G_iconst (pc := 12) 0 X (dg dt_Q_wipe 6 rfl) (by decide) ?_
  refine G_putN (pc := 13) 3 X (dg dt_Q_wipe 7 rfl) fc_5 w_165 rfl (Nat.le_of_ble_eq_true rfl) rfl rfl sh_10 rfl h (fun σ_1 h => ?_)
  refine G_iload_n (pc := 16) 1 X (dg dt_Q_wipe 8 rfl) rfl rfl ?_
  exact G_iret (pc := 17) X hq (dg dt_Q_wipe 9 rfl) h
set_option maxRecDepth 100000 in
set_option maxHeartbeats 4000000 in
theorem s_Q_typed (l : Launch) (ad : Nat → Nat) (σ : St) (v0 : Int64) (v2 : Int32)  {rv : Int32} (h : f_Q_typed σ v0 v2 = some rv) : Rt l [] yX11_typed cX11_typed 3 (some .int) 0 0 (g_SH, ad) [.long v0, .int v2] σ (some (.int rv)) σ := by
  refine Rt.intro (L := [some (.long v0), none, some (.int v2)]) (by decide +kernel) (Nat.le_of_ble_eq_true rfl) rfl (fun θ hl X hq => ?_)
  subst hl
  unfold f_Q_typed at h
  refine G_lload_n (pc := 0) 0 X (dg dt_Q_typed 0 rfl) rfl rfl ?_
  refine G_bipush (pc := 1) 8 X (dg dt_Q_typed 1 rfl) (by decide) ?_
  refine G_iload_n (pc := 3) 2 X (dg dt_Q_typed 2 rfl) rfl rfl ?_
  refine G_imul (pc := 4) X (dg dt_Q_typed 3 rfl) ?_
  refine G_lushr (pc := 5) X (dg dt_Q_typed 4 rfl) ?_
  refine G_ldc2 (pc := 6) X (dg dt_Q_typed 5 rfl) w_799 ?_
  refine G_land (pc := 9) X (dg dt_Q_typed 6 rfl) ?_
  refine G_l2i (pc := 10) X (dg dt_Q_typed 7 rfl) ?_
  exact G_iretp (pc := 11) X hq (dg dt_Q_typed 8 rfl) h
set_option maxRecDepth 100000 in
set_option maxHeartbeats 4000000 in
theorem s_Q_type_L13 {θ : Th} {ad : Nat → Nat} (htr : θ.2.1.stackTraces = false) {rv : Except Nat Int32} {σe : St} (X : Cx θ g_strs cX11_type 5 "Quasigrove" 7 120)
    {v1 : Int64} {v3 : Int32} (hq : Xq θ (g_SH, ad) (some .int) (xi rv) σe) {kx37 : St → Option (Except Nat Int32 × St)} (hkx37 : ∀ (σ : St), kx37 σ = some (rv, σe) → G θ (0, 0) (g_SH, ad) σ 37 [some (.ref (ad 0)), some (.long v1), none, some (.int v3), none] []) :
    ∀ (n : Nat) (v4 : Int32) (σ : St), f_Q_type_L13 v1 v3 kx37 n v4 σ = some (rv, σe) → G θ (0, 0) (g_SH, ad) σ 13 [some (.ref (ad 0)), some (.long v1), none, some (.int v3), some (.int v4)] [] := by
  intro n
  induction n with
  | zero => intro v4 σ h; rw [f_Q_type_L13] at h; cases h
  | succ n ih =>
    intro v4 σ h
    rw [f_Q_type_L13] at h
    refine G_iload (pc := 13) X (dg dt_Q_type 7 rfl) rfl ?_
    refine G_iload_n (pc := 15) 3 X (dg dt_Q_type 8 rfl) rfl rfl ?_
    refine G_icmp_ge (pc := 16) 37 X (dg dt_Q_type 9 rfl) (by decide) h (fun h => ?_) (fun h => ?_)
    · exact G_wk (hkx37 σ h) ⟨rfl, ⟨rfl, ⟨rfl, trivial⟩⟩⟩
    · refine G_lload_n (pc := 19) 1 X (dg dt_Q_type 10 rfl) rfl rfl ?_
      refine G_iload (pc := 20) X (dg dt_Q_type 11 rfl) rfl ?_
      obtain ⟨r_7, hc_6, h⟩ := cap_go h
      refine G_callS (pc := 22) (S := []) [.long v1, .int v4] nosub X  (dg dt_Q_type 12 rfl) cb_Q_typed w_797 w_796 (s_Q_typed _ ad _ _ _ hc_6) rfl ⟨Nat.le_of_ble_eq_true rfl, Nat.le_of_ble_eq_true rfl⟩  (Nat.le_of_ble_eq_true rfl) Rc0 ?_
      obtain ⟨r_9, hc_8, h⟩ := cap_go h
      refine G_callS (pc := 25) (S := []) [.int r_7] nosub X  (dg dt_Q_type 13 rfl) cb_Tape_isCharacter w_801 w_800 (s_Tape_isCharacter _ ad _ _ hc_8) rfl ⟨Nat.le_of_ble_eq_true rfl, Nat.le_of_ble_eq_true rfl⟩  (Nat.le_of_ble_eq_true rfl) Rc0 ?_
      refine cax_go h (fun ex hc_10 hex => by subst hex; exact G_callSX (pc := 28) (S := []) [.int r_9] (fun _ h => h) X hq (dg dt_Q_type 14 rfl) cb_Q_needArgument w_329 w_328 (s_Q_needArgument htr () ad _ _ hc_10) rfl ⟨Nat.le_of_ble_eq_true rfl, Nat.le_of_ble_eq_true rfl⟩  (Nat.le_of_ble_eq_true rfl)) (fun r_11 σ_12 hc_10 h => ?_)
      refine G_callS (pc := 28) (S := []) [.int r_9] (fun _ h => h) X  (dg dt_Q_type 14 rfl) cb_Q_needArgument w_329 w_328 (s_Q_needArgument htr () ad _ _ hc_10) rfl ⟨Nat.le_of_ble_eq_true rfl, Nat.le_of_ble_eq_true rfl⟩  (Nat.le_of_ble_eq_true rfl) Rc0 ?_
      refine G_iinc (pc := 31) (v4 + 1) X (dg dt_Q_type 15 rfl) rfl (Nat.le_of_ble_eq_true rfl) rfl rfl ?_
      refine G_goto (pc := 34) 13 X (dg dt_Q_type 16 rfl) (by decide) ?_
      exact G_wk (ih (v4 + 1) σ_12 h) ⟨rfl, ⟨rfl, ⟨rfl, ⟨rfl, trivial⟩⟩⟩⟩
set_option maxRecDepth 100000 in
set_option maxHeartbeats 4000000 in
theorem s_Q_type_L62 {θ : Th} {ad : Nat → Nat} (htr : θ.2.1.stackTraces = false) {rv : Except Nat Int32} {σe : St} (X : Cx θ g_strs cX11_type 5 "Quasigrove" 7 120)
    {v1 : Int64} {v3 : Int32} (hq : Xq θ (g_SH, ad) (some .int) (xi rv) σe) {kx87 : St → Option (Except Nat Int32 × St)} (hkx87 : ∀ (σ : St), kx87 σ = some (rv, σe) → G θ (0, 0) (g_SH, ad) σ 87 [some (.ref (ad 0)), none, none, none, none] []) :
    ∀ (n : Nat) (v4 : Int32) (σ : St), f_Q_type_L62 v1 v3 kx87 n v4 σ = some (rv, σe) → G θ (0, 0) (g_SH, ad) σ 62 [some (.ref (ad 0)), some (.long v1), none, some (.int v3), some (.int v4)] [] := by
  intro n
  induction n with
  | zero => intro v4 σ h; rw [f_Q_type_L62] at h; cases h
  | succ n ih =>
    intro v4 σ h
    rw [f_Q_type_L62] at h
    refine G_iload (pc := 62) X (dg dt_Q_type 30 rfl) rfl ?_
    refine G_iload_n (pc := 64) 3 X (dg dt_Q_type 31 rfl) rfl rfl ?_
    refine G_icmp_ge (pc := 65) 87 X (dg dt_Q_type 32 rfl) (by decide) h (fun h => ?_) (fun h => ?_)
    · exact G_wk (hkx87 σ h) ⟨rfl, trivial⟩
    · refine G_aload_n (pc := 68) 0 X (dg dt_Q_type 33 rfl) rfl rfl ?_
      refine G_getR (pc := 69) 3 X (dg dt_Q_type 34 rfl) fc_7 w_267 rfl (Nat.le_of_ble_eq_true rfl) sh_0 rfl ?_
      refine G_lload_n (pc := 72) 1 X (dg dt_Q_type 35 rfl) rfl rfl ?_
      refine G_iload (pc := 73) X (dg dt_Q_type 36 rfl) rfl ?_
      obtain ⟨r_20, hc_19, h⟩ := cap_go h
      refine G_callS (pc := 75) (S := [.ref (ad 10)]) [.long v1, .int v4] nosub X  (dg dt_Q_type 37 rfl) cb_Q_typed w_797 w_796 (s_Q_typed _ ad _ _ _ hc_19) rfl ⟨Nat.le_of_ble_eq_true rfl, Nat.le_of_ble_eq_true rfl⟩  (Nat.le_of_ble_eq_true rfl) Rc0 ?_
      obtain ⟨r_22, σ_23, hc_21, h⟩ := cal_go h
      refine G_callV (pc := 78) (S := []) [.int r_20] nosub X  (dg dt_Q_type 38 rfl) cb_Tape_append cv_Tape_append w_806 (s_Tape_append _ ad _ _ hc_21) rfl ⟨Nat.le_of_ble_eq_true rfl, Nat.le_of_ble_eq_true rfl⟩ sh_10 rfl (Nat.le_of_ble_eq_true rfl) Rc0 ?_
      refine G_iinc (pc := 81) (v4 + 1) X (dg dt_Q_type 39 rfl) rfl (Nat.le_of_ble_eq_true rfl) rfl rfl ?_
      refine G_goto (pc := 84) 62 X (dg dt_Q_type 40 rfl) (by decide) ?_
      exact G_wk (ih (v4 + 1) σ_23 h) ⟨rfl, ⟨rfl, ⟨rfl, ⟨rfl, trivial⟩⟩⟩⟩
set_option maxRecDepth 100000 in
set_option maxHeartbeats 4000000 in
theorem s_Q_type {l : Launch} (htr : l.stackTraces = false) (_ : Unit) (ad : Nat → Nat) (σ : St) (v1 : Int64) (v3 : Int32)  {rv : Except Nat Int32} {σe : St} (h : f_Q_type σ v1 v3 = some (rv, σe)) : RX l g_strs yX11_type cX11_type 5 (some .int) 7 120 (g_SH, ad) [.ref (ad 0), .long v1, .int v3] σ (xi rv) σe := by
  refine RX.intro htr (L := [some (.ref (ad 0)), some (.long v1), none, some (.int v3), none]) (by decide +kernel) (Nat.le_of_ble_eq_true rfl) rfl (fun θ hl X hq => ?_)
  subst hl
  unfold f_Q_type at h
  refine G_iload_n (pc := 0) 3 X (dg dt_Q_type 0 rfl) rfl rfl ?_
  refine G_iconst (pc := 1) 1 X (dg dt_Q_type 1 rfl) (by decide) ?_
  refine G_bipush (pc := 2) 8 X (dg dt_Q_type 2 rfl) (by decide) ?_
  obtain ⟨r_2, hc_1, h⟩ := cap_go h
  refine G_callS (pc := 4) (S := []) [.int v3, .int 1, .int 8] nosub X  (dg dt_Q_type 3 rfl) cb_Q_isFrom w_326 w_325 (s_Q_isFrom _ ad _ _ _ _ hc_1) rfl ⟨Nat.le_of_ble_eq_true rfl, Nat.le_of_ble_eq_true rfl⟩  (Nat.le_of_ble_eq_true rfl) Rc0 ?_
  refine cax_go h (fun ex hc_3 hex => by subst hex; exact G_callSX (pc := 7) (S := []) [.int r_2] (fun _ h => h) X hq (dg dt_Q_type 4 rfl) cb_Q_needArgument w_329 w_328 (s_Q_needArgument htr () ad _ _ hc_3) rfl ⟨Nat.le_of_ble_eq_true rfl, Nat.le_of_ble_eq_true rfl⟩  (Nat.le_of_ble_eq_true rfl)) (fun r_4 σ_5 hc_3 h => ?_)
  refine G_callS (pc := 7) (S := []) [.int r_2] (fun _ h => h) X  (dg dt_Q_type 4 rfl) cb_Q_needArgument w_329 w_328 (s_Q_needArgument htr () ad _ _ hc_3) rfl ⟨Nat.le_of_ble_eq_true rfl, Nat.le_of_ble_eq_true rfl⟩  (Nat.le_of_ble_eq_true rfl) Rc0 ?_
  refine G_iconst (pc := 10) 0 X (dg dt_Q_type 5 rfl) (by decide) ?_
  refine G_istore (pc := 11) X (dg dt_Q_type 6 rfl) (Nat.le_of_ble_eq_true rfl) rfl ?_
  refine G_weak (L' := [some (.ref (ad 0)), some (.long v1), none, some (.int v3), some (.int 0)]) ⟨rfl, ⟨rfl, ⟨rfl, ⟨rfl, trivial⟩⟩⟩⟩ ?_
  refine s_Q_type_L13 htr X hq  (fun σ_13 h => ?_) _ _ _ h
  refine G_aload_n (pc := 37) 0 X (dg dt_Q_type 17 rfl) rfl rfl ?_
  refine G_getR (pc := 38) 3 X (dg dt_Q_type 18 rfl) fc_7 w_267 rfl (Nat.le_of_ble_eq_true rfl) sh_0 rfl ?_
  refine G_getIN (pc := 41) 3 X (dg dt_Q_type 19 rfl) fc_5 w_165 rfl (Nat.le_of_ble_eq_true rfl) sh_10 rfl ?_
  refine G_iload_n (pc := 44) 3 X (dg dt_Q_type 20 rfl) rfl rfl ?_
  refine G_iadd (pc := 45) X (dg dt_Q_type 21 rfl) ?_
  refine G_bipush (pc := 46) 40 X (dg dt_Q_type 22 rfl) (by decide) ?_
  refine jn_go (fun j56_14 => ∀ (s_15 : Int32), j56_14 s_15 = some (rv, σe) → G θ (0, 0) (g_SH, ad) σ_13 56 [some (.ref (ad 0)), some (.long v1), none, some (.int v3), none] [.int s_15]) h ?_ (fun j56_14 hj56_14 h => ?_)
  · intro s_15 h
    refine cax_go h (fun ex hc_16 hex => by subst hex; exact G_callSX (pc := 56) (S := []) [.int s_15] (fun _ h => h) X hq (dg dt_Q_type 27 rfl) cb_Q_needState w_499 w_498 (s_Q_needState htr () ad _ _ hc_16) rfl ⟨Nat.le_of_ble_eq_true rfl, Nat.le_of_ble_eq_true rfl⟩  (Nat.le_of_ble_eq_true rfl)) (fun r_17 σ_18 hc_16 h => ?_)
    refine G_callS (pc := 56) (S := []) [.int s_15] (fun _ h => h) X  (dg dt_Q_type 27 rfl) cb_Q_needState w_499 w_498 (s_Q_needState htr () ad _ _ hc_16) rfl ⟨Nat.le_of_ble_eq_true rfl, Nat.le_of_ble_eq_true rfl⟩  (Nat.le_of_ble_eq_true rfl) Rc0 ?_
    refine G_iconst (pc := 59) 0 X (dg dt_Q_type 28 rfl) (by decide) ?_
    refine G_istore (pc := 60) X (dg dt_Q_type 29 rfl) (Nat.le_of_ble_eq_true rfl) rfl ?_
    refine G_weak (L' := [some (.ref (ad 0)), some (.long v1), none, some (.int v3), some (.int 0)]) ⟨rfl, ⟨rfl, ⟨rfl, ⟨rfl, trivial⟩⟩⟩⟩ ?_
    refine s_Q_type_L62 htr X hq  (fun σ_24 h => ?_) _ _ _ h
    refine G_aload_n (pc := 87) 0 X (dg dt_Q_type 41 rfl) rfl rfl ?_
    refine G_getR (pc := 88) 3 X (dg dt_Q_type 42 rfl) fc_7 w_267 rfl (Nat.le_of_ble_eq_true rfl) sh_0 rfl ?_
    refine G_getIN (pc := 91) 3 X (dg dt_Q_type 43 rfl) fc_5 w_165 rfl (Nat.le_of_ble_eq_true rfl) sh_10 rfl ?_
    exact G_xiret (pc := 94) X hq (dg dt_Q_type 44 rfl) h
  refine G_icmp_gt (pc := 48) 55 X (dg dt_Q_type 23 rfl) (by decide) h (fun h => ?_) (fun h => ?_)
  · refine G_iconst (pc := 55) 0 X (dg dt_Q_type 26 rfl) (by decide) ?_
    exact G_wk (hj56_14 0 h) ⟨rfl, ⟨rfl, ⟨rfl, trivial⟩⟩⟩
  · refine G_iconst (pc := 51) 1 X (dg dt_Q_type 24 rfl) (by decide) ?_
    refine G_goto (pc := 52) 56 X (dg dt_Q_type 25 rfl) (by decide) ?_
    exact G_wk (hj56_14 1 h) ⟨rfl, ⟨rfl, ⟨rfl, trivial⟩⟩⟩
set_option maxRecDepth 100000 in
set_option maxHeartbeats 4000000 in
theorem s_Q_critical {l : Launch} (htr : l.stackTraces = false) (_ : Unit) (ad : Nat → Nat) (σ : St) (v1 : Int32)  {rv : Except Nat Int32} {σe : St} (h : f_Q_critical σ v1 = some (rv, σe)) : RX l g_strs yX11_critical cX11_critical 3 (some .int) 46 1179 (g_SH, ad) [.ref (ad 0), .int v1] σ (xi rv) σe := by
  refine RX.intro htr (L := [some (.ref (ad 0)), some (.int v1), none]) (by decide +kernel) (Nat.le_of_ble_eq_true rfl) rfl (fun θ hl X hq => ?_)
  subst hl
  unfold f_Q_critical at h
  refine G_aload_n (pc := 0) 0 X (dg dt_Q_critical 0 rfl) rfl rfl ?_
  refine G_iload_n (pc := 1) 1 X (dg dt_Q_critical 1 rfl) rfl rfl ?_
  refine cax_go h (fun ex hc_1 hex => by subst hex; exact G_callVX (pc := 2) (S := []) [.int v1] (fun _ h => h) X hq (dg dt_Q_critical 2 rfl) cb_Q_gridAt cv_Q_gridAt w_462 (s_Q_gridAt htr () ad _ _ hc_1) rfl ⟨Nat.le_of_ble_eq_true rfl, Nat.le_of_ble_eq_true rfl⟩ sh_0 rfl (Nat.le_of_ble_eq_true rfl)) (fun r_2 σ_3 hc_1 h => ?_)
  have hg_r_2 := gk_of_Q_gridAt hc_1
  refine G_callV (pc := 2) (S := []) [.int v1] (fun _ h => h) X  (dg dt_Q_critical 2 rfl) cb_Q_gridAt cv_Q_gridAt w_462 (s_Q_gridAt htr () ad _ _ hc_1) rfl ⟨Nat.le_of_ble_eq_true rfl, Nat.le_of_ble_eq_true rfl⟩ sh_0 rfl (Nat.le_of_ble_eq_true rfl) Rc0 ?_
  refine G_astore_n (pc := 5) 2 X (dg dt_Q_critical 3 rfl) rfl (Nat.le_of_ble_eq_true rfl) rfl ?_
  refine G_aload_n (pc := 6) 2 X (dg dt_Q_critical 4 rfl) rfl rfl ?_
  obtain ⟨r_5, hc_4, h⟩ := cap_go h
  refine G_callV (pc := 7) (S := []) [] nosub X  (dg dt_Q_critical 5 rfl) cb_Grid_isSquare cv_Grid_isSquare w_601 (s_Grid_isSquare _ ad _ _ hg_r_2 hc_4) rfl ⟨Nat.le_of_ble_eq_true rfl, Nat.le_of_ble_eq_true rfl⟩ (sh_g hg_r_2) rfl (Nat.le_of_ble_eq_true rfl) Rc0 ?_
  refine jn_go (fun j26_6 => ∀ (s_7 : Int32), j26_6 s_7 = some (rv, σe) → G θ (0, 0) (g_SH, ad) σ_3 26 [some (.ref (ad 0)), none, some (.ref (ad r_2))] [.int s_7]) h ?_ (fun j26_6 hj26_6 h => ?_)
  · intro s_7 h
    refine cax_go h (fun ex hc_8 hex => by subst hex; exact G_callSX (pc := 26) (S := []) [.int s_7] (fun _ h => h) X hq (dg dt_Q_critical 14 rfl) cb_Q_needState w_499 w_498 (s_Q_needState htr () ad _ _ hc_8) rfl ⟨Nat.le_of_ble_eq_true rfl, Nat.le_of_ble_eq_true rfl⟩  (Nat.le_of_ble_eq_true rfl)) (fun r_9 σ_10 hc_8 h => ?_)
    refine G_callS (pc := 26) (S := []) [.int s_7] (fun _ h => h) X  (dg dt_Q_critical 14 rfl) cb_Q_needState w_499 w_498 (s_Q_needState htr () ad _ _ hc_8) rfl ⟨Nat.le_of_ble_eq_true rfl, Nat.le_of_ble_eq_true rfl⟩  (Nat.le_of_ble_eq_true rfl) Rc0 ?_
    refine G_aload_n (pc := 29) 0 X (dg dt_Q_critical 15 rfl) rfl rfl ?_
    refine G_getR (pc := 30) 5 X (dg dt_Q_critical 16 rfl) fc_7 w_269 rfl (Nat.le_of_ble_eq_true rfl) sh_0 rfl ?_
    refine G_aload_n (pc := 33) 2 X (dg dt_Q_critical 17 rfl) rfl rfl ?_
    obtain ⟨r_12, σ_13, hc_11, h⟩ := cal_go h
    refine G_callV (pc := 34) (S := []) [.ref (ad r_2)] nosub X  (dg dt_Q_critical 18 rfl) cb_Telling_fewestCells cv_Telling_fewestCells w_763 (s_Telling_fewestCells _ ad _ _ hg_r_2 hc_11) rfl ⟨Nat.le_of_ble_eq_true rfl, Nat.le_of_ble_eq_true rfl⟩ sh_16 rfl (Nat.le_of_ble_eq_true rfl) Rc0 ?_
    exact G_xiret (pc := 37) X hq (dg dt_Q_critical 19 rfl) h
  refine jn_go (fun j25_14 => j25_14 = some (rv, σe) → G θ (0, 0) (g_SH, ad) σ_3 25 [some (.ref (ad 0)), none, some (.ref (ad r_2))] []) h ?_ (fun j25_14 hj25_14 h => ?_)
  · intro  h
    refine G_iconst (pc := 25) 0 X (dg dt_Q_critical 13 rfl) (by decide) ?_
    exact G_wk (hj26_6 0 h) ⟨rfl, ⟨rfl, trivial⟩⟩
  refine G_if_eq (pc := 10) 25 X (dg dt_Q_critical 6 rfl) (by decide) h (fun h => ?_) (fun h => ?_)
  · exact G_wk (hj25_14  h) ⟨rfl, ⟨rfl, trivial⟩⟩
  · refine G_aload_n (pc := 13) 2 X (dg dt_Q_critical 7 rfl) rfl rfl ?_
    refine G_getIN (pc := 14) 3 X (dg dt_Q_critical 8 rfl) fc_0 w_119 rfl (Nat.le_of_ble_eq_true rfl) (sh_g hg_r_2) rfl ?_
    refine G_iconst (pc := 17) 5 X (dg dt_Q_critical 9 rfl) (by decide) ?_
    refine G_icmp_ge (pc := 18) 25 X (dg dt_Q_critical 10 rfl) (by decide) h (fun h => ?_) (fun h => ?_)
    · exact G_wk (hj25_14  h) ⟨rfl, ⟨rfl, trivial⟩⟩
    · refine G_iconst (pc := 21) 1 X (dg dt_Q_critical 11 rfl) (by decide) ?_
      refine G_goto (pc := 22) 26 X (dg dt_Q_critical 12 rfl) (by decide) ?_
      exact G_wk (hj26_6 1 h) ⟨rfl, ⟨rfl, trivial⟩⟩
set_option maxRecDepth 100000 in
set_option maxHeartbeats 4000000 in
theorem s_Q_logic {l : Launch} (htr : l.stackTraces = false) (_ : Unit) (ad : Nat → Nat) (σ : St) (v1 : Int32)  {rv : Except Nat Int32} {σe : St} (h : f_Q_logic σ v1 = some (rv, σe)) : RX l g_strs yX11_logic cX11_logic 2 (some .int) 7 158 (g_SH, ad) [.ref (ad 0), .int v1] σ (xi rv) σe := by
  refine RX.intro htr (L := [some (.ref (ad 0)), some (.int v1)]) (by decide +kernel) (Nat.le_of_ble_eq_true rfl) rfl (fun θ hl X hq => ?_)
  subst hl
  unfold f_Q_logic at h
  refine G_aload_n (pc := 0) 0 X (dg dt_Q_logic 0 rfl) rfl rfl ?_
  refine G_getR (pc := 1) 1 X (dg dt_Q_logic 1 rfl) fc_7 w_265 rfl (Nat.le_of_ble_eq_true rfl) sh_0 rfl ?_
  refine G_aload_n (pc := 4) 0 X (dg dt_Q_logic 2 rfl) rfl rfl ?_
  refine G_iload_n (pc := 5) 1 X (dg dt_Q_logic 3 rfl) rfl rfl ?_
  refine cax_go h (fun ex hc_1 hex => by subst hex; exact G_callVX (pc := 6) (S := [.ref (ad 2)]) [.int v1] (fun _ h => h) X hq (dg dt_Q_logic 4 rfl) cb_Q_gridAt cv_Q_gridAt w_462 (s_Q_gridAt htr () ad _ _ hc_1) rfl ⟨Nat.le_of_ble_eq_true rfl, Nat.le_of_ble_eq_true rfl⟩ sh_0 rfl (Nat.le_of_ble_eq_true rfl)) (fun r_2 σ_3 hc_1 h => ?_)
  have hg_r_2 := gk_of_Q_gridAt hc_1
  refine G_callV (pc := 6) (S := [.ref (ad 2)]) [.int v1] (fun _ h => h) X  (dg dt_Q_logic 4 rfl) cb_Q_gridAt cv_Q_gridAt w_462 (s_Q_gridAt htr () ad _ _ hc_1) rfl ⟨Nat.le_of_ble_eq_true rfl, Nat.le_of_ble_eq_true rfl⟩ sh_0 rfl (Nat.le_of_ble_eq_true rfl) Rc0 ?_
  obtain ⟨r_5, σ_6, hc_4, h⟩ := cal_go h
  refine G_callV (pc := 9) (S := []) [.ref (ad r_2)] nosub X  (dg dt_Q_logic 5 rfl) cb_Grid_copy cv_Grid_copy w_630 (s_Grid_copy _ ad _ _ _ gk_2 hg_r_2 hc_4) rfl ⟨Nat.le_of_ble_eq_true rfl, Nat.le_of_ble_eq_true rfl⟩ (sh_g gk_2) rfl (Nat.le_of_ble_eq_true rfl) Rc0 ?_
  refine G_aload_n (pc := 12) 0 X (dg dt_Q_logic 6 rfl) rfl rfl ?_
  refine G_getR (pc := 13) 1 X (dg dt_Q_logic 7 rfl) fc_7 w_265 rfl (Nat.le_of_ble_eq_true rfl) sh_0 rfl ?_
  obtain ⟨r_8, σ_9, hc_7, h⟩ := cal_go h
  refine G_callS (pc := 16) (S := []) [.ref (ad 2)] nosub X  (dg dt_Q_logic 8 rfl) cb_Filling_fillForced w_750 w_749 (s_Filling_fillForced _ ad _ _ gk_2 hc_7) rfl ⟨Nat.le_of_ble_eq_true rfl, Nat.le_of_ble_eq_true rfl⟩  (Nat.le_of_ble_eq_true rfl) Rc0 ?_
  exact G_xiret (pc := 19) X hq (dg dt_Q_logic 9 rfl) h
set_option maxRecDepth 100000 in
set_option maxHeartbeats 4000000 in
theorem s_Q_forced {l : Launch} (htr : l.stackTraces = false) (_ : Unit) (ad : Nat → Nat) (σ : St) (v1 : Int32)  {rv : Except Nat Int32} {σe : St} (h : f_Q_forced σ v1 = some (rv, σe)) : RX l g_strs yX11_forced cX11_forced 3 (some .int) 7 136 (g_SH, ad) [.ref (ad 0), .int v1] σ (xi rv) σe := by
  refine RX.intro htr (L := [some (.ref (ad 0)), some (.int v1), none]) (by decide +kernel) (Nat.le_of_ble_eq_true rfl) rfl (fun θ hl X hq => ?_)
  subst hl
  unfold f_Q_forced at h
  refine G_aload_n (pc := 0) 0 X (dg dt_Q_forced 0 rfl) rfl rfl ?_
  refine G_iload_n (pc := 1) 1 X (dg dt_Q_forced 1 rfl) rfl rfl ?_
  refine cax_go h (fun ex hc_1 hex => by subst hex; exact G_callVX (pc := 2) (S := []) [.int v1] (fun _ h => h) X hq (dg dt_Q_forced 2 rfl) cb_Q_gridAt cv_Q_gridAt w_462 (s_Q_gridAt htr () ad _ _ hc_1) rfl ⟨Nat.le_of_ble_eq_true rfl, Nat.le_of_ble_eq_true rfl⟩ sh_0 rfl (Nat.le_of_ble_eq_true rfl)) (fun r_2 σ_3 hc_1 h => ?_)
  have hg_r_2 := gk_of_Q_gridAt hc_1
  refine G_callV (pc := 2) (S := []) [.int v1] (fun _ h => h) X  (dg dt_Q_forced 2 rfl) cb_Q_gridAt cv_Q_gridAt w_462 (s_Q_gridAt htr () ad _ _ hc_1) rfl ⟨Nat.le_of_ble_eq_true rfl, Nat.le_of_ble_eq_true rfl⟩ sh_0 rfl (Nat.le_of_ble_eq_true rfl) Rc0 ?_
  refine G_astore_n (pc := 5) 2 X (dg dt_Q_forced 3 rfl) rfl (Nat.le_of_ble_eq_true rfl) rfl ?_
  refine G_aload_n (pc := 6) 2 X (dg dt_Q_forced 4 rfl) rfl rfl ?_
  obtain ⟨r_5, hc_4, h⟩ := cap_go h
  refine G_callS (pc := 7) (S := []) [.ref (ad r_2)] nosub X  (dg dt_Q_forced 5 rfl) cb_Filling_firstForced w_716 w_715 (s_Filling_firstForced _ ad _ _ hg_r_2 hc_4) rfl ⟨Nat.le_of_ble_eq_true rfl, Nat.le_of_ble_eq_true rfl⟩  (Nat.le_of_ble_eq_true rfl) Rc0 ?_
  refine G_aload_n (pc := 10) 2 X (dg dt_Q_forced 6 rfl) rfl rfl ?_
  refine G_getIN (pc := 11) 3 X (dg dt_Q_forced 7 rfl) fc_0 w_119 rfl (Nat.le_of_ble_eq_true rfl) (sh_g hg_r_2) rfl ?_
  obtain ⟨r_7, hc_6, h⟩ := cap_go h
  refine G_callS (pc := 14) (S := []) [.int r_5, .int (σ_3 r_2 3)] nosub X  (dg dt_Q_forced 8 rfl) cb_Move_told w_731 w_730 (s_Move_told _ ad _ _ _ hc_6) rfl ⟨Nat.le_of_ble_eq_true rfl, Nat.le_of_ble_eq_true rfl⟩  (Nat.le_of_ble_eq_true rfl) Rc0 ?_
  exact G_xiret (pc := 17) X hq (dg dt_Q_forced 9 rfl) h
set_option maxRecDepth 100000 in
set_option maxHeartbeats 4000000 in
theorem s_Q_fill {l : Launch} (htr : l.stackTraces = false) (_ : Unit) (ad : Nat → Nat) (σ : St) (v1 : Int32)  {rv : Except Nat Int32} {σe : St} (h : f_Q_fill σ v1 = some (rv, σe)) : RX l g_strs yX11_fill cX11_fill 4 (some .int) 47 1284 (g_SH, ad) [.ref (ad 0), .int v1] σ (xi rv) σe := by
  refine RX.intro htr (L := [some (.ref (ad 0)), some (.int v1), none, none]) (by decide +kernel) (Nat.le_of_ble_eq_true rfl) rfl (fun θ hl X hq => ?_)
  subst hl
  unfold f_Q_fill at h
  refine G_aload_n (pc := 0) 0 X (dg dt_Q_fill 0 rfl) rfl rfl ?_
  refine G_iload_n (pc := 1) 1 X (dg dt_Q_fill 1 rfl) rfl rfl ?_
  refine cax_go h (fun ex hc_1 hex => by subst hex; exact G_callVX (pc := 2) (S := []) [.int v1] (fun _ h => h) X hq (dg dt_Q_fill 2 rfl) cb_Q_gridAt cv_Q_gridAt w_462 (s_Q_gridAt htr () ad _ _ hc_1) rfl ⟨Nat.le_of_ble_eq_true rfl, Nat.le_of_ble_eq_true rfl⟩ sh_0 rfl (Nat.le_of_ble_eq_true rfl)) (fun r_2 σ_3 hc_1 h => ?_)
  have hg_r_2 := gk_of_Q_gridAt hc_1
  refine G_callV (pc := 2) (S := []) [.int v1] (fun _ h => h) X  (dg dt_Q_fill 2 rfl) cb_Q_gridAt cv_Q_gridAt w_462 (s_Q_gridAt htr () ad _ _ hc_1) rfl ⟨Nat.le_of_ble_eq_true rfl, Nat.le_of_ble_eq_true rfl⟩ sh_0 rfl (Nat.le_of_ble_eq_true rfl) Rc0 ?_
  refine G_astore_n (pc := 5) 2 X (dg dt_Q_fill 3 rfl) rfl (Nat.le_of_ble_eq_true rfl) rfl ?_
  refine G_aload_n (pc := 6) 0 X (dg dt_Q_fill 4 rfl) rfl rfl ?_
  refine G_getR (pc := 7) 1 X (dg dt_Q_fill 5 rfl) fc_7 w_265 rfl (Nat.le_of_ble_eq_true rfl) sh_0 rfl ?_
  refine G_aload_n (pc := 10) 2 X (dg dt_Q_fill 6 rfl) rfl rfl ?_
  obtain ⟨r_5, σ_6, hc_4, h⟩ := cal_go h
  refine G_callV (pc := 11) (S := []) [.ref (ad r_2)] nosub X  (dg dt_Q_fill 7 rfl) cb_Grid_copy cv_Grid_copy w_630 (s_Grid_copy _ ad _ _ _ gk_2 hg_r_2 hc_4) rfl ⟨Nat.le_of_ble_eq_true rfl, Nat.le_of_ble_eq_true rfl⟩ (sh_g gk_2) rfl (Nat.le_of_ble_eq_true rfl) Rc0 ?_
  refine G_aload_n (pc := 14) 0 X (dg dt_Q_fill 8 rfl) rfl rfl ?_
  refine G_getR (pc := 15) 1 X (dg dt_Q_fill 9 rfl) fc_7 w_265 rfl (Nat.le_of_ble_eq_true rfl) sh_0 rfl ?_
  refine G_iconst (pc := 18) 1 X (dg dt_Q_fill 10 rfl) (by decide) ?_
  obtain ⟨r_8, σ_9, hc_7, h⟩ := cal_go h
  refine G_callS (pc := 19) (S := []) [.ref (ad 2), .int 1] nosub X  (dg dt_Q_fill 11 rfl) cb_Filling_squares w_635 w_634 (s_Filling_squares _ ad _ _ _ gk_2 hc_7) rfl ⟨Nat.le_of_ble_eq_true rfl, Nat.le_of_ble_eq_true rfl⟩  (Nat.le_of_ble_eq_true rfl) Rc0 ?_
  refine G_iconst (pc := 22) 1 X (dg dt_Q_fill 12 rfl) (by decide) ?_
  refine jn_go (fun j31_10 => ∀ (s_11 : Int32), j31_10 s_11 = some (rv, σe) → G θ (0, 0) (g_SH, ad) σ_9 31 [some (.ref (ad 0)), none, some (.ref (ad r_2)), none] [.int s_11]) h ?_ (fun j31_10 hj31_10 h => ?_)
  · intro s_11 h
    refine cax_go h (fun ex hc_12 hex => by subst hex; exact G_callSX (pc := 31) (S := []) [.int s_11] (fun _ h => h) X hq (dg dt_Q_fill 17 rfl) cb_Q_needState w_499 w_498 (s_Q_needState htr () ad _ _ hc_12) rfl ⟨Nat.le_of_ble_eq_true rfl, Nat.le_of_ble_eq_true rfl⟩  (Nat.le_of_ble_eq_true rfl)) (fun r_13 σ_14 hc_12 h => ?_)
    refine G_callS (pc := 31) (S := []) [.int s_11] (fun _ h => h) X  (dg dt_Q_fill 17 rfl) cb_Q_needState w_499 w_498 (s_Q_needState htr () ad _ _ hc_12) rfl ⟨Nat.le_of_ble_eq_true rfl, Nat.le_of_ble_eq_true rfl⟩  (Nat.le_of_ble_eq_true rfl) Rc0 ?_
    refine G_aload_n (pc := 34) 2 X (dg dt_Q_fill 18 rfl) rfl rfl ?_
    obtain ⟨r_16, hc_15, h⟩ := cap_go h
    refine G_callV (pc := 35) (S := []) [] nosub X  (dg dt_Q_fill 19 rfl) cb_Grid_emptyCells cv_Grid_emptyCells w_701 (s_Grid_emptyCells _ ad _ _ hg_r_2 hc_15) rfl ⟨Nat.le_of_ble_eq_true rfl, Nat.le_of_ble_eq_true rfl⟩ (sh_g hg_r_2) rfl (Nat.le_of_ble_eq_true rfl) Rc0 ?_
    refine G_istore_n (pc := 38) 3 X (dg dt_Q_fill 20 rfl) rfl (Nat.le_of_ble_eq_true rfl) rfl ?_
    refine G_aload_n (pc := 39) 0 X (dg dt_Q_fill 21 rfl) rfl rfl ?_
    refine G_getR (pc := 40) 1 X (dg dt_Q_fill 22 rfl) fc_7 w_265 rfl (Nat.le_of_ble_eq_true rfl) sh_0 rfl ?_
    obtain ⟨r_18, σ_19, hc_17, h⟩ := cal_go h
    refine G_callS (pc := 43) (S := []) [.ref (ad 2)] nosub X  (dg dt_Q_fill 23 rfl) cb_Filling_makeLowest w_703 w_702 (s_Filling_makeLowest _ ad _ _ gk_2 hc_17) rfl ⟨Nat.le_of_ble_eq_true rfl, Nat.le_of_ble_eq_true rfl⟩  (Nat.le_of_ble_eq_true rfl) Rc0 ?_
    refine G_aload_n (pc := 46) 2 X (dg dt_Q_fill 24 rfl) rfl rfl ?_
    refine G_aload_n (pc := 47) 0 X (dg dt_Q_fill 25 rfl) rfl rfl ?_
    refine G_getR (pc := 48) 1 X (dg dt_Q_fill 26 rfl) fc_7 w_265 rfl (Nat.le_of_ble_eq_true rfl) sh_0 rfl ?_
    obtain ⟨r_21, σ_22, hc_20, h⟩ := cal_go h
    refine G_callV (pc := 51) (S := []) [.ref (ad 2)] nosub X  (dg dt_Q_fill 27 rfl) cb_Grid_copy cv_Grid_copy w_630 (s_Grid_copy _ ad _ _ _ hg_r_2 gk_2 hc_20) rfl ⟨Nat.le_of_ble_eq_true rfl, Nat.le_of_ble_eq_true rfl⟩ (sh_g hg_r_2) rfl (Nat.le_of_ble_eq_true rfl) Rc0 ?_
    refine G_iload_n (pc := 54) 3 X (dg dt_Q_fill 28 rfl) rfl rfl ?_
    exact G_xiret (pc := 55) X hq (dg dt_Q_fill 29 rfl) h
  refine G_icmp_ne (pc := 23) 30 X (dg dt_Q_fill 13 rfl) (by decide) h (fun h => ?_) (fun h => ?_)
  · refine G_iconst (pc := 30) 0 X (dg dt_Q_fill 16 rfl) (by decide) ?_
    exact G_wk (hj31_10 0 h) ⟨rfl, ⟨rfl, trivial⟩⟩
  · refine G_iconst (pc := 26) 1 X (dg dt_Q_fill 14 rfl) (by decide) ?_
    refine G_goto (pc := 27) 31 X (dg dt_Q_fill 15 rfl) (by decide) ?_
    exact G_wk (hj31_10 1 h) ⟨rfl, ⟨rfl, trivial⟩⟩
set_option maxRecDepth 100000 in
set_option maxHeartbeats 4000000 in
theorem s_Q_fillsAnew {l : Launch} (htr : l.stackTraces = false) (_ : Unit) (ad : Nat → Nat) (σ : St) (v1 : Int32) (v2 : Int32)  {rv : Except Nat Int32} {σe : St} (h : f_Q_fillsAnew σ v1 v2 = some (rv, σe)) : RX l g_strs yX11_fillsAnew cX11_fillsAnew 4 (some .int) 45 1328 (g_SH, ad) [.ref (ad 0), .int v1, .int v2] σ (xi rv) σe := by
  refine RX.intro htr (L := [some (.ref (ad 0)), some (.int v1), some (.int v2), none]) (by decide +kernel) (Nat.le_of_ble_eq_true rfl) rfl (fun θ hl X hq => ?_)
  subst hl
  unfold f_Q_fillsAnew at h
  refine G_aload_n (pc := 0) 0 X (dg dt_Q_fillsAnew 0 rfl) rfl rfl ?_
  refine G_iload_n (pc := 1) 1 X (dg dt_Q_fillsAnew 1 rfl) rfl rfl ?_
  refine cax_go h (fun ex hc_1 hex => by subst hex; exact G_callVX (pc := 2) (S := []) [.int v1] (fun _ h => h) X hq (dg dt_Q_fillsAnew 2 rfl) cb_Q_gridAt cv_Q_gridAt w_462 (s_Q_gridAt htr () ad _ _ hc_1) rfl ⟨Nat.le_of_ble_eq_true rfl, Nat.le_of_ble_eq_true rfl⟩ sh_0 rfl (Nat.le_of_ble_eq_true rfl)) (fun r_2 σ_3 hc_1 h => ?_)
  have hg_r_2 := gk_of_Q_gridAt hc_1
  refine G_callV (pc := 2) (S := []) [.int v1] (fun _ h => h) X  (dg dt_Q_fillsAnew 2 rfl) cb_Q_gridAt cv_Q_gridAt w_462 (s_Q_gridAt htr () ad _ _ hc_1) rfl ⟨Nat.le_of_ble_eq_true rfl, Nat.le_of_ble_eq_true rfl⟩ sh_0 rfl (Nat.le_of_ble_eq_true rfl) Rc0 ?_
  refine G_astore_n (pc := 5) 3 X (dg dt_Q_fillsAnew 3 rfl) rfl (Nat.le_of_ble_eq_true rfl) rfl ?_
  refine G_iload_n (pc := 6) 2 X (dg dt_Q_fillsAnew 4 rfl) rfl rfl ?_
  refine G_iconst (pc := 7) 1 X (dg dt_Q_fillsAnew 5 rfl) (by decide) ?_
  refine G_sipush (pc := 8) 1000 X (dg dt_Q_fillsAnew 6 rfl) (by decide) ?_
  obtain ⟨r_5, hc_4, h⟩ := cap_go h
  refine G_callS (pc := 11) (S := []) [.int v2, .int 1, .int 1000] nosub X  (dg dt_Q_fillsAnew 7 rfl) cb_Q_isFrom w_326 w_325 (s_Q_isFrom _ ad _ _ _ _ hc_4) rfl ⟨Nat.le_of_ble_eq_true rfl, Nat.le_of_ble_eq_true rfl⟩  (Nat.le_of_ble_eq_true rfl) Rc0 ?_
  refine cax_go h (fun ex hc_6 hex => by subst hex; exact G_callSX (pc := 14) (S := []) [.int r_5] (fun _ h => h) X hq (dg dt_Q_fillsAnew 8 rfl) cb_Q_needArgument w_329 w_328 (s_Q_needArgument htr () ad _ _ hc_6) rfl ⟨Nat.le_of_ble_eq_true rfl, Nat.le_of_ble_eq_true rfl⟩  (Nat.le_of_ble_eq_true rfl)) (fun r_7 σ_8 hc_6 h => ?_)
  refine G_callS (pc := 14) (S := []) [.int r_5] (fun _ h => h) X  (dg dt_Q_fillsAnew 8 rfl) cb_Q_needArgument w_329 w_328 (s_Q_needArgument htr () ad _ _ hc_6) rfl ⟨Nat.le_of_ble_eq_true rfl, Nat.le_of_ble_eq_true rfl⟩  (Nat.le_of_ble_eq_true rfl) Rc0 ?_
  refine G_aload_n (pc := 17) 0 X (dg dt_Q_fillsAnew 9 rfl) rfl rfl ?_
  refine G_getR (pc := 18) 4 X (dg dt_Q_fillsAnew 10 rfl) fc_7 w_268 rfl (Nat.le_of_ble_eq_true rfl) sh_0 rfl ?_
  refine G_aload_n (pc := 21) 3 X (dg dt_Q_fillsAnew 11 rfl) rfl rfl ?_
  refine G_iload_n (pc := 22) 2 X (dg dt_Q_fillsAnew 12 rfl) rfl rfl ?_
  obtain ⟨r_10, σ_11, hc_9, h⟩ := cal_go h
  refine G_callV (pc := 23) (S := []) [.ref (ad r_2), .int v2] nosub X  (dg dt_Q_fillsAnew 13 rfl) cb_RowFilling_squares cv_RowFilling_squares w_660 (s_RowFilling_squares _ ad _ _ _ hg_r_2 hc_9) rfl ⟨Nat.le_of_ble_eq_true rfl, Nat.le_of_ble_eq_true rfl⟩ sh_14 rfl (Nat.le_of_ble_eq_true rfl) Rc0 ?_
  exact G_xiret (pc := 26) X hq (dg dt_Q_fillsAnew 14 rfl) h
set_option maxRecDepth 100000 in
set_option maxHeartbeats 4000000 in
theorem s_Q_fills {l : Launch} (htr : l.stackTraces = false) (_ : Unit) (ad : Nat → Nat) (σ : St) (v1 : Int32) (v2 : Int32)  {rv : Except Nat Int32} {σe : St} (h : f_Q_fills σ v1 v2 = some (rv, σe)) : RX l g_strs yX11_fills cX11_fills 4 (some .int) 46 1259 (g_SH, ad) [.ref (ad 0), .int v1, .int v2] σ (xi rv) σe := by
  refine RX.intro htr (L := [some (.ref (ad 0)), some (.int v1), some (.int v2), none]) (by decide +kernel) (Nat.le_of_ble_eq_true rfl) rfl (fun θ hl X hq => ?_)
  subst hl
  unfold f_Q_fills at h
  refine G_aload_n (pc := 0) 0 X (dg dt_Q_fills 0 rfl) rfl rfl ?_
  refine G_iload_n (pc := 1) 1 X (dg dt_Q_fills 1 rfl) rfl rfl ?_
  refine cax_go h (fun ex hc_1 hex => by subst hex; exact G_callVX (pc := 2) (S := []) [.int v1] (fun _ h => h) X hq (dg dt_Q_fills 2 rfl) cb_Q_gridAt cv_Q_gridAt w_462 (s_Q_gridAt htr () ad _ _ hc_1) rfl ⟨Nat.le_of_ble_eq_true rfl, Nat.le_of_ble_eq_true rfl⟩ sh_0 rfl (Nat.le_of_ble_eq_true rfl)) (fun r_2 σ_3 hc_1 h => ?_)
  have hg_r_2 := gk_of_Q_gridAt hc_1
  refine G_callV (pc := 2) (S := []) [.int v1] (fun _ h => h) X  (dg dt_Q_fills 2 rfl) cb_Q_gridAt cv_Q_gridAt w_462 (s_Q_gridAt htr () ad _ _ hc_1) rfl ⟨Nat.le_of_ble_eq_true rfl, Nat.le_of_ble_eq_true rfl⟩ sh_0 rfl (Nat.le_of_ble_eq_true rfl) Rc0 ?_
  refine G_astore_n (pc := 5) 3 X (dg dt_Q_fills 3 rfl) rfl (Nat.le_of_ble_eq_true rfl) rfl ?_
  refine G_iload_n (pc := 6) 2 X (dg dt_Q_fills 4 rfl) rfl rfl ?_
  refine G_iconst (pc := 7) 1 X (dg dt_Q_fills 5 rfl) (by decide) ?_
  refine G_sipush (pc := 8) 1000 X (dg dt_Q_fills 6 rfl) (by decide) ?_
  obtain ⟨r_5, hc_4, h⟩ := cap_go h
  refine G_callS (pc := 11) (S := []) [.int v2, .int 1, .int 1000] nosub X  (dg dt_Q_fills 7 rfl) cb_Q_isFrom w_326 w_325 (s_Q_isFrom _ ad _ _ _ _ hc_4) rfl ⟨Nat.le_of_ble_eq_true rfl, Nat.le_of_ble_eq_true rfl⟩  (Nat.le_of_ble_eq_true rfl) Rc0 ?_
  refine cax_go h (fun ex hc_6 hex => by subst hex; exact G_callSX (pc := 14) (S := []) [.int r_5] (fun _ h => h) X hq (dg dt_Q_fills 8 rfl) cb_Q_needArgument w_329 w_328 (s_Q_needArgument htr () ad _ _ hc_6) rfl ⟨Nat.le_of_ble_eq_true rfl, Nat.le_of_ble_eq_true rfl⟩  (Nat.le_of_ble_eq_true rfl)) (fun r_7 σ_8 hc_6 h => ?_)
  refine G_callS (pc := 14) (S := []) [.int r_5] (fun _ h => h) X  (dg dt_Q_fills 8 rfl) cb_Q_needArgument w_329 w_328 (s_Q_needArgument htr () ad _ _ hc_6) rfl ⟨Nat.le_of_ble_eq_true rfl, Nat.le_of_ble_eq_true rfl⟩  (Nat.le_of_ble_eq_true rfl) Rc0 ?_
  refine G_aload_n (pc := 17) 0 X (dg dt_Q_fills 9 rfl) rfl rfl ?_
  refine G_getR (pc := 18) 1 X (dg dt_Q_fills 10 rfl) fc_7 w_265 rfl (Nat.le_of_ble_eq_true rfl) sh_0 rfl ?_
  refine G_aload_n (pc := 21) 3 X (dg dt_Q_fills 11 rfl) rfl rfl ?_
  obtain ⟨r_10, σ_11, hc_9, h⟩ := cal_go h
  refine G_callV (pc := 22) (S := []) [.ref (ad r_2)] nosub X  (dg dt_Q_fills 12 rfl) cb_Grid_copy cv_Grid_copy w_630 (s_Grid_copy _ ad _ _ _ gk_2 hg_r_2 hc_9) rfl ⟨Nat.le_of_ble_eq_true rfl, Nat.le_of_ble_eq_true rfl⟩ (sh_g gk_2) rfl (Nat.le_of_ble_eq_true rfl) Rc0 ?_
  refine G_aload_n (pc := 25) 0 X (dg dt_Q_fills 13 rfl) rfl rfl ?_
  refine G_getR (pc := 26) 1 X (dg dt_Q_fills 14 rfl) fc_7 w_265 rfl (Nat.le_of_ble_eq_true rfl) sh_0 rfl ?_
  refine G_iload_n (pc := 29) 2 X (dg dt_Q_fills 15 rfl) rfl rfl ?_
  obtain ⟨r_13, σ_14, hc_12, h⟩ := cal_go h
  refine G_callS (pc := 30) (S := []) [.ref (ad 2), .int v2] nosub X  (dg dt_Q_fills 16 rfl) cb_Filling_squares w_635 w_634 (s_Filling_squares _ ad _ _ _ gk_2 hc_12) rfl ⟨Nat.le_of_ble_eq_true rfl, Nat.le_of_ble_eq_true rfl⟩  (Nat.le_of_ble_eq_true rfl) Rc0 ?_
  exact G_xiret (pc := 33) X hq (dg dt_Q_fills 17 rfl) h
set_option maxRecDepth 100000 in
set_option maxHeartbeats 4000000 in
theorem s_Q_needCell {l : Launch} (htr : l.stackTraces = false) (_ : Unit) (ad : Nat → Nat) (σ : St) (v0 : Nat) (v1 : Int32) (v2 : Int32) (hg_v0 : gok v0) {rv : Except Nat Unit} {σe : St} (h : f_Q_needCell σ v0 v1 v2 = some (rv, σe)) : RX l g_strs yX11_needCell cX11_needCell 3 none 6 100 (g_SH, ad) [.ref (ad v0), .int v1, .int v2] σ (xv rv) σe := by
  refine RX.intro htr (L := [some (.ref (ad v0)), some (.int v1), some (.int v2)]) (by decide +kernel) (Nat.le_of_ble_eq_true rfl) rfl (fun θ hl X hq => ?_)
  subst hl
  unfold f_Q_needCell at h
  refine G_aload_n (pc := 0) 0 X (dg dt_Q_needCell 0 rfl) rfl rfl ?_
  refine G_iload_n (pc := 1) 1 X (dg dt_Q_needCell 1 rfl) rfl rfl ?_
  refine G_iload_n (pc := 2) 2 X (dg dt_Q_needCell 2 rfl) rfl rfl ?_
  obtain ⟨r_2, hc_1, h⟩ := cap_go h
  refine G_callV (pc := 3) (S := []) [.int v1, .int v2] nosub X  (dg dt_Q_needCell 3 rfl) cb_Grid_has cv_Grid_has w_485 (s_Grid_has _ ad _ _ _ _ hg_v0 hc_1) rfl ⟨Nat.le_of_ble_eq_true rfl, Nat.le_of_ble_eq_true rfl⟩ (sh_g hg_v0) rfl (Nat.le_of_ble_eq_true rfl) Rc0 ?_
  refine G_if_ne (pc := 6) 20 X (dg dt_Q_needCell 4 rfl) (by decide) h (fun h => ?_) (fun h => ?_)
  · exact G_xvret (pc := 20) X hq (dg dt_Q_needCell 10 rfl) h
  · exact G_xthrow (pc := 9) (e := 1) (text := "there is no such row or column") X hq tw_254_258 (by decide) (dg dt_Q_needCell 5 rfl) (dg dt_Q_needCell 6 rfl) (dg dt_Q_needCell 7 rfl) (dg dt_Q_needCell 8 rfl) (dg dt_Q_needCell 9 rfl) h (Nat.le_of_ble_eq_true rfl) (Nat.le_of_ble_eq_true rfl)
set_option maxRecDepth 100000 in
set_option maxHeartbeats 4000000 in
theorem s_Q_can {l : Launch} (htr : l.stackTraces = false) (_ : Unit) (ad : Nat → Nat) (σ : St) (v1 : Int32) (v2 : Int32) (v3 : Int32)  {rv : Except Nat Int32} {σe : St} (h : f_Q_can σ v1 v2 v3 = some (rv, σe)) : RX l g_strs yX11_can cX11_can 5 (some .int) 7 122 (g_SH, ad) [.ref (ad 0), .int v1, .int v2, .int v3] σ (xi rv) σe := by
  refine RX.intro htr (L := [some (.ref (ad 0)), some (.int v1), some (.int v2), some (.int v3), none]) (by decide +kernel) (Nat.le_of_ble_eq_true rfl) rfl (fun θ hl X hq => ?_)
  subst hl
  unfold f_Q_can at h
  refine G_aload_n (pc := 0) 0 X (dg dt_Q_can 0 rfl) rfl rfl ?_
  refine G_iload_n (pc := 1) 1 X (dg dt_Q_can 1 rfl) rfl rfl ?_
  refine cax_go h (fun ex hc_1 hex => by subst hex; exact G_callVX (pc := 2) (S := []) [.int v1] (fun _ h => h) X hq (dg dt_Q_can 2 rfl) cb_Q_gridAt cv_Q_gridAt w_462 (s_Q_gridAt htr () ad _ _ hc_1) rfl ⟨Nat.le_of_ble_eq_true rfl, Nat.le_of_ble_eq_true rfl⟩ sh_0 rfl (Nat.le_of_ble_eq_true rfl)) (fun r_2 σ_3 hc_1 h => ?_)
  have hg_r_2 := gk_of_Q_gridAt hc_1
  refine G_callV (pc := 2) (S := []) [.int v1] (fun _ h => h) X  (dg dt_Q_can 2 rfl) cb_Q_gridAt cv_Q_gridAt w_462 (s_Q_gridAt htr () ad _ _ hc_1) rfl ⟨Nat.le_of_ble_eq_true rfl, Nat.le_of_ble_eq_true rfl⟩ sh_0 rfl (Nat.le_of_ble_eq_true rfl) Rc0 ?_
  refine G_astore (pc := 5) X (dg dt_Q_can 3 rfl) (Nat.le_of_ble_eq_true rfl) rfl ?_
  refine G_aload (pc := 7) X (dg dt_Q_can 4 rfl) rfl ?_
  refine G_iload_n (pc := 9) 2 X (dg dt_Q_can 5 rfl) rfl rfl ?_
  refine G_iload_n (pc := 10) 3 X (dg dt_Q_can 6 rfl) rfl rfl ?_
  refine cax_go h (fun ex hc_4 hex => by subst hex; exact G_callSX (pc := 11) (S := []) [.ref (ad r_2), .int v2, .int v3] (fun _ h => h) X hq (dg dt_Q_can 7 rfl) cb_Q_needCell w_483 w_482 (s_Q_needCell htr () ad _ _ _ _ hg_r_2 hc_4) rfl ⟨Nat.le_of_ble_eq_true rfl, Nat.le_of_ble_eq_true rfl⟩  (Nat.le_of_ble_eq_true rfl)) (fun r_5 σ_6 hc_4 h => ?_)
  refine G_callS (pc := 11) (S := []) [.ref (ad r_2), .int v2, .int v3] (fun _ h => h) X  (dg dt_Q_can 7 rfl) cb_Q_needCell w_483 w_482 (s_Q_needCell htr () ad _ _ _ _ hg_r_2 hc_4) rfl ⟨Nat.le_of_ble_eq_true rfl, Nat.le_of_ble_eq_true rfl⟩  (Nat.le_of_ble_eq_true rfl) Rc0 ?_
  refine G_aload (pc := 14) X (dg dt_Q_can 8 rfl) rfl ?_
  refine G_iload_n (pc := 16) 2 X (dg dt_Q_can 9 rfl) rfl rfl ?_
  refine G_iload_n (pc := 17) 3 X (dg dt_Q_can 10 rfl) rfl rfl ?_
  obtain ⟨r_8, hc_7, h⟩ := cap_go h
  refine G_callV (pc := 18) (S := []) [.int v2, .int v3] nosub X  (dg dt_Q_can 11 rfl) cb_Grid_optionsAt cv_Grid_optionsAt w_622 (s_Grid_optionsAt _ ad _ _ _ _ hg_r_2 hc_7) rfl ⟨Nat.le_of_ble_eq_true rfl, Nat.le_of_ble_eq_true rfl⟩ (sh_g hg_r_2) rfl (Nat.le_of_ble_eq_true rfl) Rc0 ?_
  exact G_xiret (pc := 21) X hq (dg dt_Q_can 12 rfl) h
set_option maxRecDepth 100000 in
set_option maxHeartbeats 4000000 in
theorem s_Q_turnBy (l : Launch) (ad : Nat → Nat) (σ : St) (v0 : Nat) (v1 : Int32) (hg_v0 : gok v0) {rv : Unit} {σe : St} (h : f_Q_turnBy σ v0 v1 = some (rv, σe)) : Rt l [] yX11_turnBy cX11_turnBy 5 none 5 114 (g_SH, ad) [.ref (ad v0), .int v1] σ none σe := by
  refine Rt.intro (L := [some (.ref (ad v0)), some (.int v1), none, none, none]) (by decide +kernel) (Nat.le_of_ble_eq_true rfl) rfl (fun θ hl X hq => ?_)
  subst hl
  unfold f_Q_turnBy at h
  refine G_aload_n (pc := 0) 0 X (dg dt_Q_turnBy 0 rfl) rfl rfl ?_
  refine G_getIN (pc := 1) 3 X (dg dt_Q_turnBy 1 rfl) fc_0 w_119 rfl (Nat.le_of_ble_eq_true rfl) (sh_g hg_v0) rfl ?_
  refine G_istore_n (pc := 4) 2 X (dg dt_Q_turnBy 2 rfl) rfl (Nat.le_of_ble_eq_true rfl) rfl ?_
  refine G_iload_n (pc := 5) 2 X (dg dt_Q_turnBy 3 rfl) rfl rfl ?_
  refine G_iconst (pc := 6) 2 X (dg dt_Q_turnBy 4 rfl) (by decide) ?_
  refine G_icmp_lt (pc := 7) 15 X (dg dt_Q_turnBy 5 rfl) (by decide) h (fun h => ?_) (fun h => ?_)
  · exact G_vret (pc := 15) X hq (dg dt_Q_turnBy 9 rfl) h
  · refine G_iload_n (pc := 10) 2 X (dg dt_Q_turnBy 6 rfl) rfl rfl ?_
    refine G_iconst (pc := 11) 5 X (dg dt_Q_turnBy 7 rfl) (by decide) ?_
    refine G_icmp_le (pc := 12) 16 X (dg dt_Q_turnBy 8 rfl) (by decide) h (fun h => ?_) (fun h => ?_)
    · refine G_iload_n (pc := 16) 1 X (dg dt_Q_turnBy 10 rfl) rfl rfl ?_
      refine G_iload_n (pc := 17) 2 X (dg dt_Q_turnBy 11 rfl) rfl rfl ?_
      refine G_irem (pc := 18) X (dg dt_Q_turnBy 12 rfl) h (fun q_1 h => ?_)
      refine G_istore_n (pc := 19) 3 X (dg dt_Q_turnBy 13 rfl) rfl (Nat.le_of_ble_eq_true rfl) rfl ?_
      refine G_iload_n (pc := 20) 3 X (dg dt_Q_turnBy 14 rfl) rfl rfl ?_
      refine G_iconst (pc := 21) 1 X (dg dt_Q_turnBy 15 rfl) (by decide) ?_
      refine G_iadd (pc := 22) X (dg dt_Q_turnBy 16 rfl) ?_
      refine G_iload_n (pc := 23) 1 X (dg dt_Q_turnBy 17 rfl) rfl rfl ?_
      refine G_iload_n (pc := 24) 2 X (dg dt_Q_turnBy 18 rfl) rfl rfl ?_
      refine G_idiv (pc := 25) X (dg dt_Q_turnBy 19 rfl) h (fun q_2 h => ?_)
      refine G_iload_n (pc := 26) 2 X (dg dt_Q_turnBy 20 rfl) rfl rfl ?_
      refine G_iconst (pc := 27) 1 X (dg dt_Q_turnBy 21 rfl) (by decide) ?_
      refine G_isub (pc := 28) X (dg dt_Q_turnBy 22 rfl) ?_
      refine G_irem (pc := 29) X (dg dt_Q_turnBy 23 rfl) h (fun q_3 h => ?_)
      refine G_iadd (pc := 30) X (dg dt_Q_turnBy 24 rfl) ?_
      refine G_iload_n (pc := 31) 2 X (dg dt_Q_turnBy 25 rfl) rfl rfl ?_
      refine G_irem (pc := 32) X (dg dt_Q_turnBy 26 rfl) h (fun q_4 h => ?_)
      refine G_istore (pc := 33) X (dg dt_Q_turnBy 27 rfl) (Nat.le_of_ble_eq_true rfl) rfl ?_
      refine G_aload_n (pc := 35) 0 X (dg dt_Q_turnBy 28 rfl) rfl rfl ?_
      refine G_iload_n (pc := 36) 3 X (dg dt_Q_turnBy 29 rfl) rfl rfl ?_
      refine G_iload (pc := 37) X (dg dt_Q_turnBy 30 rfl) rfl ?_
      refine G_iload_n (pc := 39) 1 X (dg dt_Q_turnBy 31 rfl) rfl rfl ?_
      refine G_iload_n (pc := 40) 2 X (dg dt_Q_turnBy 32 rfl) rfl rfl ?_
      refine G_iload_n (pc := 41) 2 X (dg dt_Q_turnBy 33 rfl) rfl rfl ?_
      refine G_imul (pc := 42) X (dg dt_Q_turnBy 34 rfl) ?_
      refine G_idiv (pc := 43) X (dg dt_Q_turnBy 35 rfl) h (fun q_5 h => ?_)
      refine G_iload_n (pc := 44) 2 X (dg dt_Q_turnBy 36 rfl) rfl rfl ?_
      refine G_irem (pc := 45) X (dg dt_Q_turnBy 37 rfl) h (fun q_6 h => ?_)
      obtain ⟨r_8, σ_9, hc_7, h⟩ := cal_go h
      refine G_callV (pc := 46) (S := []) [.int q_1, .int q_4, .int q_6] nosub X  (dg dt_Q_turnBy 38 rfl) cb_Grid_turnRows cv_Grid_turnRows w_582 (s_Grid_turnRows _ ad _ _ _ _ _ hg_v0 hc_7) rfl ⟨Nat.le_of_ble_eq_true rfl, Nat.le_of_ble_eq_true rfl⟩ (sh_g hg_v0) rfl (Nat.le_of_ble_eq_true rfl) Rc0 ?_
      refine G_pop (pc := 49) X (dg dt_Q_turnBy 39 rfl) rfl ?_
      exact G_vret (pc := 50) X hq (dg dt_Q_turnBy 40 rfl) h
    · exact G_vret (pc := 15) X hq (dg dt_Q_turnBy 9 rfl) h
set_option maxRecDepth 100000 in
set_option maxHeartbeats 4000000 in
theorem s_Q_stir_L43 {θ : Th} {ad : Nat → Nat} (htr : θ.2.1.stackTraces = false) {rv : Except Nat Int32} {σe : St} (X : Cx θ g_strs cX11_stir 7 "Quasigrove" 7 138)
    {v3 : Int32} {v4 : Nat} (hq : Xq θ (g_SH, ad) (some .int) (xi rv) σe) (hg_v4 : gok v4) {kx83 : Int32 → St → Option (Except Nat Int32 × St)} (hkx83 : ∀ (v5 : Int32) (σ : St), kx83 v5 σ = some (rv, σe) → G θ (0, 0) (g_SH, ad) σ 83 [none, none, none, none, none, some (.int v5), none] []) :
    ∀ (n : Nat) (v5 : Int32) (v6 : Int32) (σ : St), f_Q_stir_L43 v3 v4 kx83 n v5 v6 σ = some (rv, σe) → G θ (0, 0) (g_SH, ad) σ 43 [none, none, none, some (.int v3), some (.ref (ad v4)), some (.int v5), some (.int v6)] [] := by
  intro n
  induction n with
  | zero => intro v5 v6 σ h; rw [f_Q_stir_L43] at h; cases h
  | succ n ih =>
    intro v5 v6 σ h
    rw [f_Q_stir_L43] at h
    refine G_iload (pc := 43) X (dg dt_Q_stir 22 rfl) rfl ?_
    refine G_iload_n (pc := 45) 3 X (dg dt_Q_stir 23 rfl) rfl rfl ?_
    refine G_icmp_ge (pc := 46) 83 X (dg dt_Q_stir 24 rfl) (by decide) h (fun h => ?_) (fun h => ?_)
    · exact G_wk (hkx83 v5 σ h) ⟨rfl, trivial⟩
    · refine G_ldc2 (pc := 49) X (dg dt_Q_stir 25 rfl) w_609 ?_
      refine G_iload (pc := 52) X (dg dt_Q_stir 26 rfl) rfl ?_
      refine G_i2l (pc := 54) X (dg dt_Q_stir 27 rfl) ?_
      refine G_lmul (pc := 55) X (dg dt_Q_stir 28 rfl) ?_
      refine G_ldc2 (pc := 56) X (dg dt_Q_stir 29 rfl) w_610 ?_
      refine G_ladd (pc := 59) X (dg dt_Q_stir 30 rfl) ?_
      refine G_ldc2 (pc := 60) X (dg dt_Q_stir 31 rfl) w_611 ?_
      refine G_land (pc := 63) X (dg dt_Q_stir 32 rfl) ?_
      refine G_l2i (pc := 64) X (dg dt_Q_stir 33 rfl) ?_
      refine G_istore_lt (pc := 65) X (dg dt_Q_stir 34 rfl) (Nat.le_of_ble_eq_true rfl) rfl h (fun v5_14 h => ?_)
      refine G_aload (pc := 67) X (dg dt_Q_stir 35 rfl) rfl ?_
      refine G_iload (pc := 69) X (dg dt_Q_stir 36 rfl) rfl ?_
      refine G_bipush (pc := 71) 16 X (dg dt_Q_stir 37 rfl) (by decide) ?_
      refine G_ishr (pc := 73) X (dg dt_Q_stir 38 rfl) ?_
      obtain ⟨r_16, σ_17, hc_15, h⟩ := cal_go h
      refine G_callS (pc := 74) (S := []) [.ref (ad v4), .int (v5_14 >>> (16 &&& 31))] nosub X  (dg dt_Q_stir 39 rfl) cb_Q_turnBy w_613 w_612 (s_Q_turnBy _ ad _ _ _ hg_v4 hc_15) rfl ⟨Nat.le_of_ble_eq_true rfl, Nat.le_of_ble_eq_true rfl⟩  (Nat.le_of_ble_eq_true rfl) Rc0 ?_
      refine G_iinc (pc := 77) (v6 + 1) X (dg dt_Q_stir 40 rfl) rfl (Nat.le_of_ble_eq_true rfl) rfl rfl ?_
      refine G_goto (pc := 80) 43 X (dg dt_Q_stir 41 rfl) (by decide) ?_
      exact G_wk (ih v5_14 (v6 + 1) σ_17 h) ⟨rfl, ⟨rfl, ⟨rfl, ⟨rfl, trivial⟩⟩⟩⟩
set_option maxRecDepth 100000 in
set_option maxHeartbeats 4000000 in
theorem s_Q_stir {l : Launch} (htr : l.stackTraces = false) (_ : Unit) (ad : Nat → Nat) (σ : St) (v1 : Int32) (v2 : Int32) (v3 : Int32)  {rv : Except Nat Int32} {σe : St} (h : f_Q_stir σ v1 v2 v3 = some (rv, σe)) : RX l g_strs yX11_stir cX11_stir 7 (some .int) 7 138 (g_SH, ad) [.ref (ad 0), .int v1, .int v2, .int v3] σ (xi rv) σe := by
  refine RX.intro htr (L := [some (.ref (ad 0)), some (.int v1), some (.int v2), some (.int v3), none, none, none]) (by decide +kernel) (Nat.le_of_ble_eq_true rfl) rfl (fun θ hl X hq => ?_)
  subst hl
  unfold f_Q_stir at h
  refine G_aload_n (pc := 0) 0 X (dg dt_Q_stir 0 rfl) rfl rfl ?_
  refine G_iload_n (pc := 1) 1 X (dg dt_Q_stir 1 rfl) rfl rfl ?_
  refine cax_go h (fun ex hc_1 hex => by subst hex; exact G_callVX (pc := 2) (S := []) [.int v1] (fun _ h => h) X hq (dg dt_Q_stir 2 rfl) cb_Q_gridAt cv_Q_gridAt w_462 (s_Q_gridAt htr () ad _ _ hc_1) rfl ⟨Nat.le_of_ble_eq_true rfl, Nat.le_of_ble_eq_true rfl⟩ sh_0 rfl (Nat.le_of_ble_eq_true rfl)) (fun r_2 σ_3 hc_1 h => ?_)
  have hg_r_2 := gk_of_Q_gridAt hc_1
  refine G_callV (pc := 2) (S := []) [.int v1] (fun _ h => h) X  (dg dt_Q_stir 2 rfl) cb_Q_gridAt cv_Q_gridAt w_462 (s_Q_gridAt htr () ad _ _ hc_1) rfl ⟨Nat.le_of_ble_eq_true rfl, Nat.le_of_ble_eq_true rfl⟩ sh_0 rfl (Nat.le_of_ble_eq_true rfl) Rc0 ?_
  refine G_astore (pc := 5) X (dg dt_Q_stir 3 rfl) (Nat.le_of_ble_eq_true rfl) rfl ?_
  refine G_iload_n (pc := 7) 2 X (dg dt_Q_stir 4 rfl) rfl rfl ?_
  refine jn_go (fun j26_4 => ∀ (s_5 : Int32), j26_4 s_5 = some (rv, σe) → G θ (0, 0) (g_SH, ad) σ_3 26 [none, none, some (.int v2), some (.int v3), some (.ref (ad r_2)), none, none] [.int s_5]) h ?_ (fun j26_4 hj26_4 h => ?_)
  · intro s_5 h
    refine cax_go h (fun ex hc_6 hex => by subst hex; exact G_callSX (pc := 26) (S := []) [.int s_5] (fun _ h => h) X hq (dg dt_Q_stir 14 rfl) cb_Q_needArgument w_329 w_328 (s_Q_needArgument htr () ad _ _ hc_6) rfl ⟨Nat.le_of_ble_eq_true rfl, Nat.le_of_ble_eq_true rfl⟩  (Nat.le_of_ble_eq_true rfl)) (fun r_7 σ_8 hc_6 h => ?_)
    refine G_callS (pc := 26) (S := []) [.int s_5] (fun _ h => h) X  (dg dt_Q_stir 14 rfl) cb_Q_needArgument w_329 w_328 (s_Q_needArgument htr () ad _ _ hc_6) rfl ⟨Nat.le_of_ble_eq_true rfl, Nat.le_of_ble_eq_true rfl⟩  (Nat.le_of_ble_eq_true rfl) Rc0 ?_
    refine G_aload (pc := 29) X (dg dt_Q_stir 15 rfl) rfl ?_
    obtain ⟨r_10, hc_9, h⟩ := cap_go h
    refine G_callV (pc := 31) (S := []) [] nosub X  (dg dt_Q_stir 16 rfl) cb_Grid_isSquare cv_Grid_isSquare w_601 (s_Grid_isSquare _ ad _ _ hg_r_2 hc_9) rfl ⟨Nat.le_of_ble_eq_true rfl, Nat.le_of_ble_eq_true rfl⟩ (sh_g hg_r_2) rfl (Nat.le_of_ble_eq_true rfl) Rc0 ?_
    refine cax_go h (fun ex hc_11 hex => by subst hex; exact G_callSX (pc := 34) (S := []) [.int r_10] (fun _ h => h) X hq (dg dt_Q_stir 17 rfl) cb_Q_needState w_499 w_498 (s_Q_needState htr () ad _ _ hc_11) rfl ⟨Nat.le_of_ble_eq_true rfl, Nat.le_of_ble_eq_true rfl⟩  (Nat.le_of_ble_eq_true rfl)) (fun r_12 σ_13 hc_11 h => ?_)
    refine G_callS (pc := 34) (S := []) [.int r_10] (fun _ h => h) X  (dg dt_Q_stir 17 rfl) cb_Q_needState w_499 w_498 (s_Q_needState htr () ad _ _ hc_11) rfl ⟨Nat.le_of_ble_eq_true rfl, Nat.le_of_ble_eq_true rfl⟩  (Nat.le_of_ble_eq_true rfl) Rc0 ?_
    refine G_iload_n (pc := 37) 2 X (dg dt_Q_stir 18 rfl) rfl rfl ?_
    refine G_istore (pc := 38) X (dg dt_Q_stir 19 rfl) (Nat.le_of_ble_eq_true rfl) rfl ?_
    refine G_iconst (pc := 40) 0 X (dg dt_Q_stir 20 rfl) (by decide) ?_
    refine G_istore (pc := 41) X (dg dt_Q_stir 21 rfl) (Nat.le_of_ble_eq_true rfl) rfl ?_
    refine G_weak (L' := [none, none, none, some (.int v3), some (.ref (ad r_2)), some (.int v2), some (.int 0)]) ⟨rfl, ⟨rfl, ⟨rfl, ⟨rfl, trivial⟩⟩⟩⟩ ?_
    refine s_Q_stir_L43 htr X hq hg_r_2 (fun v5_18 σ_19 h => ?_) _ _ _ _ h
    refine G_iload (pc := 83) X (dg dt_Q_stir 42 rfl) rfl ?_
    exact G_xiret (pc := 85) X hq (dg dt_Q_stir 43 rfl) h
  refine jn_go (fun j25_20 => j25_20 = some (rv, σe) → G θ (0, 0) (g_SH, ad) σ_3 25 [none, none, some (.int v2), some (.int v3), some (.ref (ad r_2)), none, none] []) h ?_ (fun j25_20 hj25_20 h => ?_)
  · intro  h
    refine G_iconst (pc := 25) 0 X (dg dt_Q_stir 13 rfl) (by decide) ?_
    exact G_wk (hj26_4 0 h) ⟨rfl, ⟨rfl, ⟨rfl, trivial⟩⟩⟩
  refine G_if_lt (pc := 8) 25 X (dg dt_Q_stir 5 rfl) (by decide) h (fun h => ?_) (fun h => ?_)
  · exact G_wk (hj25_20  h) ⟨rfl, ⟨rfl, ⟨rfl, trivial⟩⟩⟩
  · refine G_iload_n (pc := 11) 3 X (dg dt_Q_stir 6 rfl) rfl rfl ?_
    refine G_iconst (pc := 12) 1 X (dg dt_Q_stir 7 rfl) (by decide) ?_
    refine G_bipush (pc := 13) 50 X (dg dt_Q_stir 8 rfl) (by decide) ?_
    obtain ⟨r_22, hc_21, h⟩ := cap_go h
    refine G_callS (pc := 15) (S := []) [.int v3, .int 1, .int 50] nosub X  (dg dt_Q_stir 9 rfl) cb_Q_isFrom w_326 w_325 (s_Q_isFrom _ ad _ _ _ _ hc_21) rfl ⟨Nat.le_of_ble_eq_true rfl, Nat.le_of_ble_eq_true rfl⟩  (Nat.le_of_ble_eq_true rfl) Rc0 ?_
    refine G_if_eq (pc := 18) 25 X (dg dt_Q_stir 10 rfl) (by decide) h (fun h => ?_) (fun h => ?_)
    · exact G_wk (hj25_20  h) ⟨rfl, ⟨rfl, ⟨rfl, trivial⟩⟩⟩
    · refine G_iconst (pc := 21) 1 X (dg dt_Q_stir 11 rfl) (by decide) ?_
      refine G_goto (pc := 22) 26 X (dg dt_Q_stir 12 rfl) (by decide) ?_
      exact G_wk (hj26_4 1 h) ⟨rfl, ⟨rfl, ⟨rfl, trivial⟩⟩⟩
set_option maxRecDepth 100000 in
set_option maxHeartbeats 4000000 in
theorem s_Q_turn {l : Launch} (htr : l.stackTraces = false) (_ : Unit) (ad : Nat → Nat) (σ : St) (v1 : Int32) (v2 : Int32) (v3 : Int32) (v4 : Int32)  {rv : Except Nat Int32} {σe : St} (h : f_Q_turn σ v1 v2 v3 v4 = some (rv, σe)) : RX l g_strs yX11_turn cX11_turn 6 (some .int) 7 122 (g_SH, ad) [.ref (ad 0), .int v1, .int v2, .int v3, .int v4] σ (xi rv) σe := by
  refine RX.intro htr (L := [some (.ref (ad 0)), some (.int v1), some (.int v2), some (.int v3), some (.int v4), none]) (by decide +kernel) (Nat.le_of_ble_eq_true rfl) rfl (fun θ hl X hq => ?_)
  subst hl
  unfold f_Q_turn at h
  refine G_aload_n (pc := 0) 0 X (dg dt_Q_turn 0 rfl) rfl rfl ?_
  refine G_iload_n (pc := 1) 1 X (dg dt_Q_turn 1 rfl) rfl rfl ?_
  refine cax_go h (fun ex hc_1 hex => by subst hex; exact G_callVX (pc := 2) (S := []) [.int v1] (fun _ h => h) X hq (dg dt_Q_turn 2 rfl) cb_Q_gridAt cv_Q_gridAt w_462 (s_Q_gridAt htr () ad _ _ hc_1) rfl ⟨Nat.le_of_ble_eq_true rfl, Nat.le_of_ble_eq_true rfl⟩ sh_0 rfl (Nat.le_of_ble_eq_true rfl)) (fun r_2 σ_3 hc_1 h => ?_)
  have hg_r_2 := gk_of_Q_gridAt hc_1
  refine G_callV (pc := 2) (S := []) [.int v1] (fun _ h => h) X  (dg dt_Q_turn 2 rfl) cb_Q_gridAt cv_Q_gridAt w_462 (s_Q_gridAt htr () ad _ _ hc_1) rfl ⟨Nat.le_of_ble_eq_true rfl, Nat.le_of_ble_eq_true rfl⟩ sh_0 rfl (Nat.le_of_ble_eq_true rfl) Rc0 ?_
  refine G_astore (pc := 5) X (dg dt_Q_turn 3 rfl) (Nat.le_of_ble_eq_true rfl) rfl ?_
  refine G_aload (pc := 7) X (dg dt_Q_turn 4 rfl) rfl ?_
  refine G_iload_n (pc := 9) 2 X (dg dt_Q_turn 5 rfl) rfl rfl ?_
  refine G_iload (pc := 10) X (dg dt_Q_turn 6 rfl) rfl ?_
  refine cax_go h (fun ex hc_4 hex => by subst hex; exact G_callSX (pc := 12) (S := []) [.ref (ad r_2), .int v2, .int v4] (fun _ h => h) X hq (dg dt_Q_turn 7 rfl) cb_Q_needCell w_483 w_482 (s_Q_needCell htr () ad _ _ _ _ hg_r_2 hc_4) rfl ⟨Nat.le_of_ble_eq_true rfl, Nat.le_of_ble_eq_true rfl⟩  (Nat.le_of_ble_eq_true rfl)) (fun r_5 σ_6 hc_4 h => ?_)
  refine G_callS (pc := 12) (S := []) [.ref (ad r_2), .int v2, .int v4] (fun _ h => h) X  (dg dt_Q_turn 7 rfl) cb_Q_needCell w_483 w_482 (s_Q_needCell htr () ad _ _ _ _ hg_r_2 hc_4) rfl ⟨Nat.le_of_ble_eq_true rfl, Nat.le_of_ble_eq_true rfl⟩  (Nat.le_of_ble_eq_true rfl) Rc0 ?_
  refine G_aload (pc := 15) X (dg dt_Q_turn 8 rfl) rfl ?_
  refine G_iload_n (pc := 17) 3 X (dg dt_Q_turn 9 rfl) rfl rfl ?_
  refine G_iload (pc := 18) X (dg dt_Q_turn 10 rfl) rfl ?_
  refine cax_go h (fun ex hc_7 hex => by subst hex; exact G_callSX (pc := 20) (S := []) [.ref (ad r_2), .int v3, .int v4] (fun _ h => h) X hq (dg dt_Q_turn 11 rfl) cb_Q_needCell w_483 w_482 (s_Q_needCell htr () ad _ _ _ _ hg_r_2 hc_7) rfl ⟨Nat.le_of_ble_eq_true rfl, Nat.le_of_ble_eq_true rfl⟩  (Nat.le_of_ble_eq_true rfl)) (fun r_8 σ_9 hc_7 h => ?_)
  refine G_callS (pc := 20) (S := []) [.ref (ad r_2), .int v3, .int v4] (fun _ h => h) X  (dg dt_Q_turn 11 rfl) cb_Q_needCell w_483 w_482 (s_Q_needCell htr () ad _ _ _ _ hg_r_2 hc_7) rfl ⟨Nat.le_of_ble_eq_true rfl, Nat.le_of_ble_eq_true rfl⟩  (Nat.le_of_ble_eq_true rfl) Rc0 ?_
  refine G_iload_n (pc := 23) 2 X (dg dt_Q_turn 12 rfl) rfl rfl ?_
  refine G_iload_n (pc := 24) 3 X (dg dt_Q_turn 13 rfl) rfl rfl ?_
  refine jn_go (fun j33_10 => ∀ (s_11 : Int32), j33_10 s_11 = some (rv, σe) → G θ (0, 0) (g_SH, ad) σ_9 33 [none, none, some (.int v2), some (.int v3), some (.int v4), some (.ref (ad r_2))] [.int s_11]) h ?_ (fun j33_10 hj33_10 h => ?_)
  · intro s_11 h
    refine cax_go h (fun ex hc_12 hex => by subst hex; exact G_callSX (pc := 33) (S := []) [.int s_11] (fun _ h => h) X hq (dg dt_Q_turn 18 rfl) cb_Q_needArgument w_329 w_328 (s_Q_needArgument htr () ad _ _ hc_12) rfl ⟨Nat.le_of_ble_eq_true rfl, Nat.le_of_ble_eq_true rfl⟩  (Nat.le_of_ble_eq_true rfl)) (fun r_13 σ_14 hc_12 h => ?_)
    refine G_callS (pc := 33) (S := []) [.int s_11] (fun _ h => h) X  (dg dt_Q_turn 18 rfl) cb_Q_needArgument w_329 w_328 (s_Q_needArgument htr () ad _ _ hc_12) rfl ⟨Nat.le_of_ble_eq_true rfl, Nat.le_of_ble_eq_true rfl⟩  (Nat.le_of_ble_eq_true rfl) Rc0 ?_
    refine G_aload (pc := 36) X (dg dt_Q_turn 19 rfl) rfl ?_
    refine G_iload_n (pc := 38) 2 X (dg dt_Q_turn 20 rfl) rfl rfl ?_
    obtain ⟨r_16, hc_15, h⟩ := cap_go h
    refine G_callV (pc := 39) (S := []) [.int v2] nosub X  (dg dt_Q_turn 21 rfl) cb_Grid_isRowFull cv_Grid_isRowFull w_578 (s_Grid_isRowFull _ ad _ _ _ hg_r_2 hc_15) rfl ⟨Nat.le_of_ble_eq_true rfl, Nat.le_of_ble_eq_true rfl⟩ (sh_g hg_r_2) rfl (Nat.le_of_ble_eq_true rfl) Rc0 ?_
    refine jn_go (fun j59_17 => ∀ (s_18 : Int32), j59_17 s_18 = some (rv, σe) → G θ (0, 0) (g_SH, ad) σ_14 59 [none, none, some (.int v2), some (.int v3), some (.int v4), some (.ref (ad r_2))] [.int s_18]) h ?_ (fun j59_17 hj59_17 h => ?_)
    · intro s_18 h
      refine cax_go h (fun ex hc_19 hex => by subst hex; exact G_callSX (pc := 59) (S := []) [.int s_18] (fun _ h => h) X hq (dg dt_Q_turn 30 rfl) cb_Q_needState w_499 w_498 (s_Q_needState htr () ad _ _ hc_19) rfl ⟨Nat.le_of_ble_eq_true rfl, Nat.le_of_ble_eq_true rfl⟩  (Nat.le_of_ble_eq_true rfl)) (fun r_20 σ_21 hc_19 h => ?_)
      refine G_callS (pc := 59) (S := []) [.int s_18] (fun _ h => h) X  (dg dt_Q_turn 30 rfl) cb_Q_needState w_499 w_498 (s_Q_needState htr () ad _ _ hc_19) rfl ⟨Nat.le_of_ble_eq_true rfl, Nat.le_of_ble_eq_true rfl⟩  (Nat.le_of_ble_eq_true rfl) Rc0 ?_
      refine G_aload (pc := 62) X (dg dt_Q_turn 31 rfl) rfl ?_
      refine G_iload_n (pc := 64) 2 X (dg dt_Q_turn 32 rfl) rfl rfl ?_
      refine G_iload_n (pc := 65) 3 X (dg dt_Q_turn 33 rfl) rfl rfl ?_
      refine G_iload (pc := 66) X (dg dt_Q_turn 34 rfl) rfl ?_
      obtain ⟨r_23, σ_24, hc_22, h⟩ := cal_go h
      refine G_callV (pc := 68) (S := []) [.int v2, .int v3, .int v4] nosub X  (dg dt_Q_turn 35 rfl) cb_Grid_turnRows cv_Grid_turnRows w_582 (s_Grid_turnRows _ ad _ _ _ _ _ hg_r_2 hc_22) rfl ⟨Nat.le_of_ble_eq_true rfl, Nat.le_of_ble_eq_true rfl⟩ (sh_g hg_r_2) rfl (Nat.le_of_ble_eq_true rfl) Rc0 ?_
      exact G_xiret (pc := 71) X hq (dg dt_Q_turn 36 rfl) h
    refine jn_go (fun j58_25 => j58_25 = some (rv, σe) → G θ (0, 0) (g_SH, ad) σ_14 58 [none, none, some (.int v2), some (.int v3), some (.int v4), some (.ref (ad r_2))] []) h ?_ (fun j58_25 hj58_25 h => ?_)
    · intro  h
      refine G_iconst (pc := 58) 0 X (dg dt_Q_turn 29 rfl) (by decide) ?_
      exact G_wk (hj59_17 0 h) ⟨rfl, ⟨rfl, ⟨rfl, ⟨rfl, trivial⟩⟩⟩⟩
    refine G_if_eq (pc := 42) 58 X (dg dt_Q_turn 22 rfl) (by decide) h (fun h => ?_) (fun h => ?_)
    · exact G_wk (hj58_25  h) ⟨rfl, ⟨rfl, ⟨rfl, ⟨rfl, trivial⟩⟩⟩⟩
    · refine G_aload (pc := 45) X (dg dt_Q_turn 23 rfl) rfl ?_
      refine G_iload_n (pc := 47) 3 X (dg dt_Q_turn 24 rfl) rfl rfl ?_
      obtain ⟨r_27, hc_26, h⟩ := cap_go h
      refine G_callV (pc := 48) (S := []) [.int v3] nosub X  (dg dt_Q_turn 25 rfl) cb_Grid_isRowFull cv_Grid_isRowFull w_578 (s_Grid_isRowFull _ ad _ _ _ hg_r_2 hc_26) rfl ⟨Nat.le_of_ble_eq_true rfl, Nat.le_of_ble_eq_true rfl⟩ (sh_g hg_r_2) rfl (Nat.le_of_ble_eq_true rfl) Rc0 ?_
      refine G_if_eq (pc := 51) 58 X (dg dt_Q_turn 26 rfl) (by decide) h (fun h => ?_) (fun h => ?_)
      · exact G_wk (hj58_25  h) ⟨rfl, ⟨rfl, ⟨rfl, ⟨rfl, trivial⟩⟩⟩⟩
      · refine G_iconst (pc := 54) 1 X (dg dt_Q_turn 27 rfl) (by decide) ?_
        refine G_goto (pc := 55) 59 X (dg dt_Q_turn 28 rfl) (by decide) ?_
        exact G_wk (hj59_17 1 h) ⟨rfl, ⟨rfl, ⟨rfl, ⟨rfl, trivial⟩⟩⟩⟩
  refine G_icmp_eq (pc := 25) 32 X (dg dt_Q_turn 14 rfl) (by decide) h (fun h => ?_) (fun h => ?_)
  · refine G_iconst (pc := 32) 0 X (dg dt_Q_turn 17 rfl) (by decide) ?_
    exact G_wk (hj33_10 0 h) ⟨rfl, ⟨rfl, ⟨rfl, ⟨rfl, trivial⟩⟩⟩⟩
  · refine G_iconst (pc := 28) 1 X (dg dt_Q_turn 15 rfl) (by decide) ?_
    refine G_goto (pc := 29) 33 X (dg dt_Q_turn 16 rfl) (by decide) ?_
    exact G_wk (hj33_10 1 h) ⟨rfl, ⟨rfl, ⟨rfl, ⟨rfl, trivial⟩⟩⟩⟩
set_option maxRecDepth 100000 in
set_option maxHeartbeats 4000000 in
theorem s_Q_distance_L51 {θ : Th} {ad : Nat → Nat} (htr : θ.2.1.stackTraces = false) {rv : Except Nat Int32} {σe : St} (X : Cx θ g_strs cX11_distance 8 "Quasigrove" 7 121)
    {v3 : Nat} {v4 : Nat} {v6 : Int32} {σ : St} (hq : Xq θ (g_SH, ad) (some .int) (xi rv) σe) (hg_v3 : gok v3) (hg_v4 : gok v4) {kx89 : Int32 → Option (Except Nat Int32 × St)} (hkx89 : ∀ (v5 : Int32), kx89 v5 = some (rv, σe) → G θ (0, 0) (g_SH, ad) σ 89 [none, none, none, some (.ref (ad v3)), some (.ref (ad v4)), some (.int v5), some (.int v6), none] []) :
    ∀ (n : Nat) (v5 : Int32) (v7 : Int32), f_Q_distance_L51 v3 v4 v6 σ kx89 n v5 v7 = some (rv, σe) → G θ (0, 0) (g_SH, ad) σ 51 [none, none, none, some (.ref (ad v3)), some (.ref (ad v4)), some (.int v5), some (.int v6), some (.int v7)] [] := by
  intro n
  induction n with
  | zero => intro v5 v7 h; rw [f_Q_distance_L51] at h; cases h
  | succ n ih =>
    intro v5 v7 h
    rw [f_Q_distance_L51] at h
    refine G_iload (pc := 51) X (dg dt_Q_distance 27 rfl) rfl ?_
    refine G_aload_n (pc := 53) 3 X (dg dt_Q_distance 28 rfl) rfl rfl ?_
    refine G_getIN (pc := 54) 3 X (dg dt_Q_distance 29 rfl) fc_0 w_119 rfl (Nat.le_of_ble_eq_true rfl) (sh_g hg_v3) rfl ?_
    refine G_icmp_ge (pc := 57) 89 X (dg dt_Q_distance 30 rfl) (by decide) h (fun h => ?_) (fun h => ?_)
    · exact G_wk (hkx89 v5 h) ⟨rfl, ⟨rfl, ⟨rfl, ⟨rfl, trivial⟩⟩⟩⟩
    · refine G_aload_n (pc := 60) 3 X (dg dt_Q_distance 31 rfl) rfl rfl ?_
      refine G_iload (pc := 61) X (dg dt_Q_distance 32 rfl) rfl ?_
      refine G_iload (pc := 63) X (dg dt_Q_distance 33 rfl) rfl ?_
      obtain ⟨r_13, hc_12, h⟩ := cap_go h
      refine G_callV (pc := 65) (S := []) [.int v6, .int v7] nosub X  (dg dt_Q_distance 34 rfl) cb_Grid_signAt cv_Grid_signAt w_487 (s_Grid_signAt _ ad _ _ _ _ hg_v3 hc_12) rfl ⟨Nat.le_of_ble_eq_true rfl, Nat.le_of_ble_eq_true rfl⟩ (sh_g hg_v3) rfl (Nat.le_of_ble_eq_true rfl) Rc0 ?_
      refine G_aload (pc := 68) X (dg dt_Q_distance 35 rfl) rfl ?_
      refine G_iload (pc := 70) X (dg dt_Q_distance 36 rfl) rfl ?_
      refine G_iload (pc := 72) X (dg dt_Q_distance 37 rfl) rfl ?_
      obtain ⟨r_15, hc_14, h⟩ := cap_go h
      refine G_callV (pc := 74) (S := [.int r_13]) [.int v6, .int v7] nosub X  (dg dt_Q_distance 38 rfl) cb_Grid_signAt cv_Grid_signAt w_487 (s_Grid_signAt _ ad _ _ _ _ hg_v4 hc_14) rfl ⟨Nat.le_of_ble_eq_true rfl, Nat.le_of_ble_eq_true rfl⟩ (sh_g hg_v4) rfl (Nat.le_of_ble_eq_true rfl) Rc0 ?_
      refine jn_go (fun j83_16 => ∀ (v5_17 : Int32), j83_16 v5_17 = some (rv, σe) → G θ (0, 0) (g_SH, ad) σ 83 [none, none, none, some (.ref (ad v3)), some (.ref (ad v4)), some (.int v5_17), some (.int v6), some (.int v7)] []) h ?_ (fun j83_16 hj83_16 h => ?_)
      · intro v5_17 h
        refine G_iinc (pc := 83) (v7 + 1) X (dg dt_Q_distance 41 rfl) rfl (Nat.le_of_ble_eq_true rfl) rfl rfl ?_
        refine G_goto (pc := 86) 51 X (dg dt_Q_distance 42 rfl) (by decide) ?_
        exact G_wk (ih v5_17 (v7 + 1) h) ⟨rfl, ⟨rfl, ⟨rfl, ⟨rfl, ⟨rfl, trivial⟩⟩⟩⟩⟩
      refine G_icmp_eq (pc := 77) 83 X (dg dt_Q_distance 39 rfl) (by decide) h (fun h => ?_) (fun h => ?_)
      · exact G_wk (hj83_16 v5 h) ⟨rfl, ⟨rfl, ⟨rfl, ⟨rfl, ⟨rfl, trivial⟩⟩⟩⟩⟩
      · refine G_iinc (pc := 80) (v5 + 1) X (dg dt_Q_distance 40 rfl) rfl (Nat.le_of_ble_eq_true rfl) rfl rfl ?_
        exact G_wk (hj83_16 (v5 + 1) h) ⟨rfl, ⟨rfl, ⟨rfl, ⟨rfl, ⟨rfl, trivial⟩⟩⟩⟩⟩
set_option maxRecDepth 100000 in
set_option maxHeartbeats 4000000 in
theorem s_Q_distance_L39 {θ : Th} {ad : Nat → Nat} (htr : θ.2.1.stackTraces = false) {rv : Except Nat Int32} {σe : St} (X : Cx θ g_strs cX11_distance 8 "Quasigrove" 7 121)
    {v3 : Nat} {v4 : Nat} {σ : St} (hq : Xq θ (g_SH, ad) (some .int) (xi rv) σe) (hg_v3 : gok v3) (hg_v4 : gok v4) {kx95 : Int32 → Option (Except Nat Int32 × St)} (hkx95 : ∀ (v5 : Int32), kx95 v5 = some (rv, σe) → G θ (0, 0) (g_SH, ad) σ 95 [none, none, none, none, none, some (.int v5), none, none] []) :
    ∀ (n : Nat) (v5 : Int32) (v6 : Int32), f_Q_distance_L39 v3 v4 σ kx95 n v5 v6 = some (rv, σe) → G θ (0, 0) (g_SH, ad) σ 39 [none, none, none, some (.ref (ad v3)), some (.ref (ad v4)), some (.int v5), some (.int v6), none] [] := by
  intro n
  induction n with
  | zero => intro v5 v6 h; rw [f_Q_distance_L39] at h; cases h
  | succ n ih =>
    intro v5 v6 h
    rw [f_Q_distance_L39] at h
    refine G_iload (pc := 39) X (dg dt_Q_distance 21 rfl) rfl ?_
    refine G_aload_n (pc := 41) 3 X (dg dt_Q_distance 22 rfl) rfl rfl ?_
    refine G_getIN (pc := 42) 3 X (dg dt_Q_distance 23 rfl) fc_0 w_119 rfl (Nat.le_of_ble_eq_true rfl) (sh_g hg_v3) rfl ?_
    refine G_icmp_ge (pc := 45) 95 X (dg dt_Q_distance 24 rfl) (by decide) h (fun h => ?_) (fun h => ?_)
    · exact G_wk (hkx95 v5 h) ⟨rfl, trivial⟩
    · refine G_iconst (pc := 48) 0 X (dg dt_Q_distance 25 rfl) (by decide) ?_
      refine G_istore (pc := 49) X (dg dt_Q_distance 26 rfl) (Nat.le_of_ble_eq_true rfl) rfl ?_
      refine G_weak (L' := [none, none, none, some (.ref (ad v3)), some (.ref (ad v4)), some (.int v5), some (.int v6), some (.int 0)]) ⟨rfl, ⟨rfl, ⟨rfl, ⟨rfl, ⟨rfl, trivial⟩⟩⟩⟩⟩ ?_
      refine s_Q_distance_L51 htr X hq hg_v3 hg_v4 (fun v5_18 h => ?_) _ _ _ h
      refine G_iinc (pc := 89) (v6 + 1) X (dg dt_Q_distance 43 rfl) rfl (Nat.le_of_ble_eq_true rfl) rfl rfl ?_
      refine G_goto (pc := 92) 39 X (dg dt_Q_distance 44 rfl) (by decide) ?_
      exact G_wk (ih v5_18 (v6 + 1) h) ⟨rfl, ⟨rfl, ⟨rfl, ⟨rfl, trivial⟩⟩⟩⟩
set_option maxRecDepth 100000 in
set_option maxHeartbeats 4000000 in
theorem s_Q_distance {l : Launch} (htr : l.stackTraces = false) (_ : Unit) (ad : Nat → Nat) (σ : St) (v1 : Int32) (v2 : Int32)  {rv : Except Nat Int32} {σe : St} (h : f_Q_distance σ v1 v2 = some (rv, σe)) : RX l g_strs yX11_distance cX11_distance 8 (some .int) 7 121 (g_SH, ad) [.ref (ad 0), .int v1, .int v2] σ (xi rv) σe := by
  refine RX.intro htr (L := [some (.ref (ad 0)), some (.int v1), some (.int v2), none, none, none, none, none]) (by decide +kernel) (Nat.le_of_ble_eq_true rfl) rfl (fun θ hl X hq => ?_)
  subst hl
  unfold f_Q_distance at h
  refine G_aload_n (pc := 0) 0 X (dg dt_Q_distance 0 rfl) rfl rfl ?_
  refine G_iload_n (pc := 1) 1 X (dg dt_Q_distance 1 rfl) rfl rfl ?_
  refine cax_go h (fun ex hc_1 hex => by subst hex; exact G_callVX (pc := 2) (S := []) [.int v1] (fun _ h => h) X hq (dg dt_Q_distance 2 rfl) cb_Q_gridAt cv_Q_gridAt w_462 (s_Q_gridAt htr () ad _ _ hc_1) rfl ⟨Nat.le_of_ble_eq_true rfl, Nat.le_of_ble_eq_true rfl⟩ sh_0 rfl (Nat.le_of_ble_eq_true rfl)) (fun r_2 σ_3 hc_1 h => ?_)
  have hg_r_2 := gk_of_Q_gridAt hc_1
  refine G_callV (pc := 2) (S := []) [.int v1] (fun _ h => h) X  (dg dt_Q_distance 2 rfl) cb_Q_gridAt cv_Q_gridAt w_462 (s_Q_gridAt htr () ad _ _ hc_1) rfl ⟨Nat.le_of_ble_eq_true rfl, Nat.le_of_ble_eq_true rfl⟩ sh_0 rfl (Nat.le_of_ble_eq_true rfl) Rc0 ?_
  refine G_astore_n (pc := 5) 3 X (dg dt_Q_distance 3 rfl) rfl (Nat.le_of_ble_eq_true rfl) rfl ?_
  refine G_aload_n (pc := 6) 0 X (dg dt_Q_distance 4 rfl) rfl rfl ?_
  refine G_iload_n (pc := 7) 2 X (dg dt_Q_distance 5 rfl) rfl rfl ?_
  refine cax_go h (fun ex hc_4 hex => by subst hex; exact G_callVX (pc := 8) (S := []) [.int v2] (fun _ h => h) X hq (dg dt_Q_distance 6 rfl) cb_Q_gridAt cv_Q_gridAt w_462 (s_Q_gridAt htr () ad _ _ hc_4) rfl ⟨Nat.le_of_ble_eq_true rfl, Nat.le_of_ble_eq_true rfl⟩ sh_0 rfl (Nat.le_of_ble_eq_true rfl)) (fun r_5 σ_6 hc_4 h => ?_)
  have hg_r_5 := gk_of_Q_gridAt hc_4
  refine G_callV (pc := 8) (S := []) [.int v2] (fun _ h => h) X  (dg dt_Q_distance 6 rfl) cb_Q_gridAt cv_Q_gridAt w_462 (s_Q_gridAt htr () ad _ _ hc_4) rfl ⟨Nat.le_of_ble_eq_true rfl, Nat.le_of_ble_eq_true rfl⟩ sh_0 rfl (Nat.le_of_ble_eq_true rfl) Rc0 ?_
  refine G_astore (pc := 11) X (dg dt_Q_distance 7 rfl) (Nat.le_of_ble_eq_true rfl) rfl ?_
  refine G_aload_n (pc := 13) 3 X (dg dt_Q_distance 8 rfl) rfl rfl ?_
  refine G_getIN (pc := 14) 3 X (dg dt_Q_distance 9 rfl) fc_0 w_119 rfl (Nat.le_of_ble_eq_true rfl) (sh_g hg_r_2) rfl ?_
  refine G_aload (pc := 17) X (dg dt_Q_distance 10 rfl) rfl ?_
  refine G_getIN (pc := 19) 3 X (dg dt_Q_distance 11 rfl) fc_0 w_119 rfl (Nat.le_of_ble_eq_true rfl) (sh_g hg_r_5) rfl ?_
  refine jn_go (fun j30_7 => ∀ (s_8 : Int32), j30_7 s_8 = some (rv, σe) → G θ (0, 0) (g_SH, ad) σ_6 30 [none, none, none, some (.ref (ad r_2)), some (.ref (ad r_5)), none, none, none] [.int s_8]) h ?_ (fun j30_7 hj30_7 h => ?_)
  · intro s_8 h
    refine cax_go h (fun ex hc_9 hex => by subst hex; exact G_callSX (pc := 30) (S := []) [.int s_8] (fun _ h => h) X hq (dg dt_Q_distance 16 rfl) cb_Q_needArgument w_329 w_328 (s_Q_needArgument htr () ad _ _ hc_9) rfl ⟨Nat.le_of_ble_eq_true rfl, Nat.le_of_ble_eq_true rfl⟩  (Nat.le_of_ble_eq_true rfl)) (fun r_10 σ_11 hc_9 h => ?_)
    refine G_callS (pc := 30) (S := []) [.int s_8] (fun _ h => h) X  (dg dt_Q_distance 16 rfl) cb_Q_needArgument w_329 w_328 (s_Q_needArgument htr () ad _ _ hc_9) rfl ⟨Nat.le_of_ble_eq_true rfl, Nat.le_of_ble_eq_true rfl⟩  (Nat.le_of_ble_eq_true rfl) Rc0 ?_
    refine G_iconst (pc := 33) 0 X (dg dt_Q_distance 17 rfl) (by decide) ?_
    refine G_istore (pc := 34) X (dg dt_Q_distance 18 rfl) (Nat.le_of_ble_eq_true rfl) rfl ?_
    refine G_iconst (pc := 36) 0 X (dg dt_Q_distance 19 rfl) (by decide) ?_
    refine G_istore (pc := 37) X (dg dt_Q_distance 20 rfl) (Nat.le_of_ble_eq_true rfl) rfl ?_
    refine G_weak (L' := [none, none, none, some (.ref (ad r_2)), some (.ref (ad r_5)), some (.int 0), some (.int 0), none]) ⟨rfl, ⟨rfl, ⟨rfl, ⟨rfl, trivial⟩⟩⟩⟩ ?_
    refine s_Q_distance_L39 htr X hq hg_r_2 hg_r_5 (fun v5_19 h => ?_) _ _ _ h
    refine G_iload (pc := 95) X (dg dt_Q_distance 45 rfl) rfl ?_
    exact G_xiret (pc := 97) X hq (dg dt_Q_distance 46 rfl) h
  refine G_icmp_ne (pc := 22) 29 X (dg dt_Q_distance 12 rfl) (by decide) h (fun h => ?_) (fun h => ?_)
  · refine G_iconst (pc := 29) 0 X (dg dt_Q_distance 15 rfl) (by decide) ?_
    exact G_wk (hj30_7 0 h) ⟨rfl, ⟨rfl, trivial⟩⟩
  · refine G_iconst (pc := 25) 1 X (dg dt_Q_distance 13 rfl) (by decide) ?_
    refine G_goto (pc := 26) 30 X (dg dt_Q_distance 14 rfl) (by decide) ?_
    exact G_wk (hj30_7 1 h) ⟨rfl, ⟨rfl, trivial⟩⟩
set_option maxRecDepth 100000 in
set_option maxHeartbeats 4000000 in
theorem s_Q_of {l : Launch} (htr : l.stackTraces = false) (_ : Unit) (ad : Nat → Nat) (σ : St) (v1 : Int32) (v2 : Int32)  {rv : Except Nat Int32} {σe : St} (h : f_Q_of σ v1 v2 = some (rv, σe)) : RX l g_strs yX11_of cX11_of 4 (some .int) 7 121 (g_SH, ad) [.ref (ad 0), .int v1, .int v2] σ (xi rv) σe := by
  refine RX.intro htr (L := [some (.ref (ad 0)), some (.int v1), some (.int v2), none]) (by decide +kernel) (Nat.le_of_ble_eq_true rfl) rfl (fun θ hl X hq => ?_)
  subst hl
  unfold f_Q_of at h
  refine G_aload_n (pc := 0) 0 X (dg dt_Q_of 0 rfl) rfl rfl ?_
  refine G_iload_n (pc := 1) 1 X (dg dt_Q_of 1 rfl) rfl rfl ?_
  refine cax_go h (fun ex hc_1 hex => by subst hex; exact G_callVX (pc := 2) (S := []) [.int v1] (fun _ h => h) X hq (dg dt_Q_of 2 rfl) cb_Q_gridAt cv_Q_gridAt w_462 (s_Q_gridAt htr () ad _ _ hc_1) rfl ⟨Nat.le_of_ble_eq_true rfl, Nat.le_of_ble_eq_true rfl⟩ sh_0 rfl (Nat.le_of_ble_eq_true rfl)) (fun r_2 σ_3 hc_1 h => ?_)
  have hg_r_2 := gk_of_Q_gridAt hc_1
  refine G_callV (pc := 2) (S := []) [.int v1] (fun _ h => h) X  (dg dt_Q_of 2 rfl) cb_Q_gridAt cv_Q_gridAt w_462 (s_Q_gridAt htr () ad _ _ hc_1) rfl ⟨Nat.le_of_ble_eq_true rfl, Nat.le_of_ble_eq_true rfl⟩ sh_0 rfl (Nat.le_of_ble_eq_true rfl) Rc0 ?_
  refine G_astore_n (pc := 5) 3 X (dg dt_Q_of 3 rfl) rfl (Nat.le_of_ble_eq_true rfl) rfl ?_
  refine G_iload_n (pc := 6) 2 X (dg dt_Q_of 4 rfl) rfl rfl ?_
  refine G_iconst (pc := 7) 0 X (dg dt_Q_of 5 rfl) (by decide) ?_
  refine G_iconst (pc := 8) 2 X (dg dt_Q_of 6 rfl) (by decide) ?_
  obtain ⟨r_5, hc_4, h⟩ := cap_go h
  refine G_callS (pc := 9) (S := []) [.int v2, .int 0, .int 2] nosub X  (dg dt_Q_of 7 rfl) cb_Q_isFrom w_326 w_325 (s_Q_isFrom _ ad _ _ _ _ hc_4) rfl ⟨Nat.le_of_ble_eq_true rfl, Nat.le_of_ble_eq_true rfl⟩  (Nat.le_of_ble_eq_true rfl) Rc0 ?_
  refine cax_go h (fun ex hc_6 hex => by subst hex; exact G_callSX (pc := 12) (S := []) [.int r_5] (fun _ h => h) X hq (dg dt_Q_of 8 rfl) cb_Q_needArgument w_329 w_328 (s_Q_needArgument htr () ad _ _ hc_6) rfl ⟨Nat.le_of_ble_eq_true rfl, Nat.le_of_ble_eq_true rfl⟩  (Nat.le_of_ble_eq_true rfl)) (fun r_7 σ_8 hc_6 h => ?_)
  refine G_callS (pc := 12) (S := []) [.int r_5] (fun _ h => h) X  (dg dt_Q_of 8 rfl) cb_Q_needArgument w_329 w_328 (s_Q_needArgument htr () ad _ _ hc_6) rfl ⟨Nat.le_of_ble_eq_true rfl, Nat.le_of_ble_eq_true rfl⟩  (Nat.le_of_ble_eq_true rfl) Rc0 ?_
  refine G_iload_n (pc := 15) 2 X (dg dt_Q_of 9 rfl) rfl rfl ?_
  refine G_lookup2 (pc := 16) 44 49 54 X (dg dt_Q_of 10 rfl) (by decide) (by decide) (by decide) (by decide) (by decide) (by decide) h (fun h => ?_) (fun h => ?_) (fun h => ?_)
  · refine G_aload_n (pc := 44) 3 X (dg dt_Q_of 11 rfl) rfl rfl ?_
    refine G_getIN (pc := 45) 3 X (dg dt_Q_of 12 rfl) fc_0 w_119 rfl (Nat.le_of_ble_eq_true rfl) (sh_g hg_r_2) rfl ?_
    exact G_xiret (pc := 48) X hq (dg dt_Q_of 13 rfl) h
  · refine G_aload_n (pc := 49) 3 X (dg dt_Q_of 14 rfl) rfl rfl ?_
    refine G_getIN (pc := 50) 4 X (dg dt_Q_of 15 rfl) fc_0 w_122 rfl (Nat.le_of_ble_eq_true rfl) (sh_g hg_r_2) rfl ?_
    exact G_xiret (pc := 53) X hq (dg dt_Q_of 16 rfl) h
  · refine G_aload_n (pc := 54) 3 X (dg dt_Q_of 17 rfl) rfl rfl ?_
    obtain ⟨r_10, hc_9, h⟩ := cap_go h
    refine G_callV (pc := 55) (S := []) [] nosub X  (dg dt_Q_of 18 rfl) cb_Grid_deadCells cv_Grid_deadCells w_551 (s_Grid_deadCells _ ad _ _ hg_r_2 hc_9) rfl ⟨Nat.le_of_ble_eq_true rfl, Nat.le_of_ble_eq_true rfl⟩ (sh_g hg_r_2) rfl (Nat.le_of_ble_eq_true rfl) Rc0 ?_
    exact G_xiret (pc := 58) X hq (dg dt_Q_of 19 rfl) h
set_option maxRecDepth 100000 in
set_option maxHeartbeats 4000000 in
theorem s_Q_cell {l : Launch} (htr : l.stackTraces = false) (_ : Unit) (ad : Nat → Nat) (σ : St) (v1 : Int32) (v2 : Int32) (v3 : Int32)  {rv : Except Nat Int32} {σe : St} (h : f_Q_cell σ v1 v2 v3 = some (rv, σe)) : RX l g_strs yX11_cell cX11_cell 5 (some .int) 7 122 (g_SH, ad) [.ref (ad 0), .int v1, .int v2, .int v3] σ (xi rv) σe := by
  refine RX.intro htr (L := [some (.ref (ad 0)), some (.int v1), some (.int v2), some (.int v3), none]) (by decide +kernel) (Nat.le_of_ble_eq_true rfl) rfl (fun θ hl X hq => ?_)
  subst hl
  unfold f_Q_cell at h
  refine G_aload_n (pc := 0) 0 X (dg dt_Q_cell 0 rfl) rfl rfl ?_
  refine G_iload_n (pc := 1) 1 X (dg dt_Q_cell 1 rfl) rfl rfl ?_
  refine cax_go h (fun ex hc_1 hex => by subst hex; exact G_callVX (pc := 2) (S := []) [.int v1] (fun _ h => h) X hq (dg dt_Q_cell 2 rfl) cb_Q_gridAt cv_Q_gridAt w_462 (s_Q_gridAt htr () ad _ _ hc_1) rfl ⟨Nat.le_of_ble_eq_true rfl, Nat.le_of_ble_eq_true rfl⟩ sh_0 rfl (Nat.le_of_ble_eq_true rfl)) (fun r_2 σ_3 hc_1 h => ?_)
  have hg_r_2 := gk_of_Q_gridAt hc_1
  refine G_callV (pc := 2) (S := []) [.int v1] (fun _ h => h) X  (dg dt_Q_cell 2 rfl) cb_Q_gridAt cv_Q_gridAt w_462 (s_Q_gridAt htr () ad _ _ hc_1) rfl ⟨Nat.le_of_ble_eq_true rfl, Nat.le_of_ble_eq_true rfl⟩ sh_0 rfl (Nat.le_of_ble_eq_true rfl) Rc0 ?_
  refine G_astore (pc := 5) X (dg dt_Q_cell 3 rfl) (Nat.le_of_ble_eq_true rfl) rfl ?_
  refine G_aload (pc := 7) X (dg dt_Q_cell 4 rfl) rfl ?_
  refine G_iload_n (pc := 9) 2 X (dg dt_Q_cell 5 rfl) rfl rfl ?_
  refine G_iload_n (pc := 10) 3 X (dg dt_Q_cell 6 rfl) rfl rfl ?_
  refine cax_go h (fun ex hc_4 hex => by subst hex; exact G_callSX (pc := 11) (S := []) [.ref (ad r_2), .int v2, .int v3] (fun _ h => h) X hq (dg dt_Q_cell 7 rfl) cb_Q_needCell w_483 w_482 (s_Q_needCell htr () ad _ _ _ _ hg_r_2 hc_4) rfl ⟨Nat.le_of_ble_eq_true rfl, Nat.le_of_ble_eq_true rfl⟩  (Nat.le_of_ble_eq_true rfl)) (fun r_5 σ_6 hc_4 h => ?_)
  refine G_callS (pc := 11) (S := []) [.ref (ad r_2), .int v2, .int v3] (fun _ h => h) X  (dg dt_Q_cell 7 rfl) cb_Q_needCell w_483 w_482 (s_Q_needCell htr () ad _ _ _ _ hg_r_2 hc_4) rfl ⟨Nat.le_of_ble_eq_true rfl, Nat.le_of_ble_eq_true rfl⟩  (Nat.le_of_ble_eq_true rfl) Rc0 ?_
  refine G_aload (pc := 14) X (dg dt_Q_cell 8 rfl) rfl ?_
  refine G_iload_n (pc := 16) 2 X (dg dt_Q_cell 9 rfl) rfl rfl ?_
  refine G_iload_n (pc := 17) 3 X (dg dt_Q_cell 10 rfl) rfl rfl ?_
  obtain ⟨r_8, hc_7, h⟩ := cap_go h
  refine G_callV (pc := 18) (S := []) [.int v2, .int v3] nosub X  (dg dt_Q_cell 11 rfl) cb_Grid_signAt cv_Grid_signAt w_487 (s_Grid_signAt _ ad _ _ _ _ hg_r_2 hc_7) rfl ⟨Nat.le_of_ble_eq_true rfl, Nat.le_of_ble_eq_true rfl⟩ (sh_g hg_r_2) rfl (Nat.le_of_ble_eq_true rfl) Rc0 ?_
  exact G_xiret (pc := 21) X hq (dg dt_Q_cell 12 rfl) h
set_option maxRecDepth 100000 in
set_option maxHeartbeats 4000000 in
theorem s_Q_setConjugate (l : Launch) (ad : Nat → Nat) (σ : St) (v0 : Nat) (v1 : Int32) (v2 : Int32) (v3 : Int32) (v4 : Int32) (hg_v0 : gok v0) {rv : Unit} {σe : St} (h : f_Q_setConjugate σ v0 v1 v2 v3 v4 = some (rv, σe)) : Rt l [] yX11_setConjugate cX11_setConjugate 5 none 3 67 (g_SH, ad) [.ref (ad v0), .int v1, .int v2, .int v3, .int v4] σ none σe := by
  refine Rt.intro (L := [some (.ref (ad v0)), some (.int v1), some (.int v2), some (.int v3), some (.int v4)]) (by decide +kernel) (Nat.le_of_ble_eq_true rfl) rfl (fun θ hl X hq => ?_)
  subst hl
  unfold f_Q_setConjugate at h
  refine G_iload_n (pc := 0) 1 X (dg dt_Q_setConjugate 0 rfl) rfl rfl ?_
  refine G_table5 (pc := 1) 36 47 58 69 80 91 X (dg dt_Q_setConjugate 1 rfl) (by decide) (by decide) (by decide) (by decide) (by decide) (by decide) (by decide) h (fun h => ?_) (fun h => ?_) (fun h => ?_) (fun h => ?_) (fun h => ?_) (fun h => ?_)
  · refine G_aload_n (pc := 36) 0 X (dg dt_Q_setConjugate 2 rfl) rfl rfl ?_
    refine G_iload_n (pc := 37) 2 X (dg dt_Q_setConjugate 3 rfl) rfl rfl ?_
    refine G_iload_n (pc := 38) 3 X (dg dt_Q_setConjugate 4 rfl) rfl rfl ?_
    refine G_iload (pc := 39) X (dg dt_Q_setConjugate 5 rfl) rfl ?_
    obtain ⟨r_2, σ_3, hc_1, h⟩ := cal_go h
    refine G_callV (pc := 41) (S := []) [.int v2, .int v3, .int v4] nosub X  (dg dt_Q_setConjugate 6 rfl) cb_Grid_set cv_Grid_set w_442 (s_Grid_set _ ad _ _ _ _ _ hg_v0 hc_1) rfl ⟨Nat.le_of_ble_eq_true rfl, Nat.le_of_ble_eq_true rfl⟩ (sh_g hg_v0) rfl (Nat.le_of_ble_eq_true rfl) Rc0 ?_
    refine G_goto (pc := 44) 99 X (dg dt_Q_setConjugate 7 rfl) (by decide) ?_
    exact G_vret (pc := 99) X hq (dg dt_Q_setConjugate 37 rfl) h
  · refine G_aload_n (pc := 47) 0 X (dg dt_Q_setConjugate 8 rfl) rfl rfl ?_
    refine G_iload_n (pc := 48) 3 X (dg dt_Q_setConjugate 9 rfl) rfl rfl ?_
    refine G_iload_n (pc := 49) 2 X (dg dt_Q_setConjugate 10 rfl) rfl rfl ?_
    refine G_iload (pc := 50) X (dg dt_Q_setConjugate 11 rfl) rfl ?_
    obtain ⟨r_5, σ_6, hc_4, h⟩ := cal_go h
    refine G_callV (pc := 52) (S := []) [.int v3, .int v2, .int v4] nosub X  (dg dt_Q_setConjugate 12 rfl) cb_Grid_set cv_Grid_set w_442 (s_Grid_set _ ad _ _ _ _ _ hg_v0 hc_4) rfl ⟨Nat.le_of_ble_eq_true rfl, Nat.le_of_ble_eq_true rfl⟩ (sh_g hg_v0) rfl (Nat.le_of_ble_eq_true rfl) Rc0 ?_
    refine G_goto (pc := 55) 99 X (dg dt_Q_setConjugate 13 rfl) (by decide) ?_
    exact G_vret (pc := 99) X hq (dg dt_Q_setConjugate 37 rfl) h
  · refine G_aload_n (pc := 58) 0 X (dg dt_Q_setConjugate 14 rfl) rfl rfl ?_
    refine G_iload_n (pc := 59) 2 X (dg dt_Q_setConjugate 15 rfl) rfl rfl ?_
    refine G_iload (pc := 60) X (dg dt_Q_setConjugate 16 rfl) rfl ?_
    refine G_iload_n (pc := 62) 3 X (dg dt_Q_setConjugate 17 rfl) rfl rfl ?_
    obtain ⟨r_8, σ_9, hc_7, h⟩ := cal_go h
    refine G_callV (pc := 63) (S := []) [.int v2, .int v4, .int v3] nosub X  (dg dt_Q_setConjugate 18 rfl) cb_Grid_set cv_Grid_set w_442 (s_Grid_set _ ad _ _ _ _ _ hg_v0 hc_7) rfl ⟨Nat.le_of_ble_eq_true rfl, Nat.le_of_ble_eq_true rfl⟩ (sh_g hg_v0) rfl (Nat.le_of_ble_eq_true rfl) Rc0 ?_
    refine G_goto (pc := 66) 99 X (dg dt_Q_setConjugate 19 rfl) (by decide) ?_
    exact G_vret (pc := 99) X hq (dg dt_Q_setConjugate 37 rfl) h
  · refine G_aload_n (pc := 69) 0 X (dg dt_Q_setConjugate 20 rfl) rfl rfl ?_
    refine G_iload (pc := 70) X (dg dt_Q_setConjugate 21 rfl) rfl ?_
    refine G_iload_n (pc := 72) 3 X (dg dt_Q_setConjugate 22 rfl) rfl rfl ?_
    refine G_iload_n (pc := 73) 2 X (dg dt_Q_setConjugate 23 rfl) rfl rfl ?_
    obtain ⟨r_11, σ_12, hc_10, h⟩ := cal_go h
    refine G_callV (pc := 74) (S := []) [.int v4, .int v3, .int v2] nosub X  (dg dt_Q_setConjugate 24 rfl) cb_Grid_set cv_Grid_set w_442 (s_Grid_set _ ad _ _ _ _ _ hg_v0 hc_10) rfl ⟨Nat.le_of_ble_eq_true rfl, Nat.le_of_ble_eq_true rfl⟩ (sh_g hg_v0) rfl (Nat.le_of_ble_eq_true rfl) Rc0 ?_
    refine G_goto (pc := 77) 99 X (dg dt_Q_setConjugate 25 rfl) (by decide) ?_
    exact G_vret (pc := 99) X hq (dg dt_Q_setConjugate 37 rfl) h
  · refine G_aload_n (pc := 80) 0 X (dg dt_Q_setConjugate 26 rfl) rfl rfl ?_
    refine G_iload_n (pc := 81) 3 X (dg dt_Q_setConjugate 27 rfl) rfl rfl ?_
    refine G_iload (pc := 82) X (dg dt_Q_setConjugate 28 rfl) rfl ?_
    refine G_iload_n (pc := 84) 2 X (dg dt_Q_setConjugate 29 rfl) rfl rfl ?_
    obtain ⟨r_14, σ_15, hc_13, h⟩ := cal_go h
    refine G_callV (pc := 85) (S := []) [.int v3, .int v4, .int v2] nosub X  (dg dt_Q_setConjugate 30 rfl) cb_Grid_set cv_Grid_set w_442 (s_Grid_set _ ad _ _ _ _ _ hg_v0 hc_13) rfl ⟨Nat.le_of_ble_eq_true rfl, Nat.le_of_ble_eq_true rfl⟩ (sh_g hg_v0) rfl (Nat.le_of_ble_eq_true rfl) Rc0 ?_
    refine G_goto (pc := 88) 99 X (dg dt_Q_setConjugate 31 rfl) (by decide) ?_
    exact G_vret (pc := 99) X hq (dg dt_Q_setConjugate 37 rfl) h
  · refine G_aload_n (pc := 91) 0 X (dg dt_Q_setConjugate 32 rfl) rfl rfl ?_
    refine G_iload (pc := 92) X (dg dt_Q_setConjugate 33 rfl) rfl ?_
    refine G_iload_n (pc := 94) 2 X (dg dt_Q_setConjugate 34 rfl) rfl rfl ?_
    refine G_iload_n (pc := 95) 3 X (dg dt_Q_setConjugate 35 rfl) rfl rfl ?_
    obtain ⟨r_17, σ_18, hc_16, h⟩ := cal_go h
    refine G_callV (pc := 96) (S := []) [.int v4, .int v2, .int v3] nosub X  (dg dt_Q_setConjugate 36 rfl) cb_Grid_set cv_Grid_set w_442 (s_Grid_set _ ad _ _ _ _ _ hg_v0 hc_16) rfl ⟨Nat.le_of_ble_eq_true rfl, Nat.le_of_ble_eq_true rfl⟩ (sh_g hg_v0) rfl (Nat.le_of_ble_eq_true rfl) Rc0 ?_
    exact G_vret (pc := 99) X hq (dg dt_Q_setConjugate 37 rfl) h
set_option maxRecDepth 100000 in
set_option maxHeartbeats 4000000 in
theorem s_Q_conjugate_L40 {θ : Th} {ad : Nat → Nat} (htr : θ.2.1.stackTraces = false) {rv : Except Nat Int32} {σe : St} (X : Cx θ g_strs cX11_conjugate 8 "Quasigrove" 7 122)
    {v2 : Int32} {v3 : Nat} {v4 : Nat} {v5 : Int32} (hq : Xq θ (g_SH, ad) (some .int) (xi rv) σe) (hg_v3 : gok v3) (hg_v4 : gok v4) {kx83 : St → Option (Except Nat Int32 × St)} (hkx83 : ∀ (σ : St), kx83 σ = some (rv, σe) → G θ (0, 0) (g_SH, ad) σ 83 [some (.ref (ad 0)), none, some (.int v2), some (.ref (ad v3)), some (.ref (ad v4)), some (.int v5), none, none] []) :
    ∀ (n : Nat) (v6 : Int32) (σ : St), f_Q_conjugate_L40 v2 v3 v4 v5 kx83 n v6 σ = some (rv, σe) → G θ (0, 0) (g_SH, ad) σ 40 [some (.ref (ad 0)), none, some (.int v2), some (.ref (ad v3)), some (.ref (ad v4)), some (.int v5), some (.int v6), none] [] := by
  intro n
  induction n with
  | zero => intro v6 σ h; rw [f_Q_conjugate_L40] at h; cases h
  | succ n ih =>
    intro v6 σ h
    rw [f_Q_conjugate_L40] at h
    refine G_iload (pc := 40) X (dg dt_Q_conjugate 22 rfl) rfl ?_
    refine G_aload_n (pc := 42) 3 X (dg dt_Q_conjugate 23 rfl) rfl rfl ?_
    refine G_getIN (pc := 43) 3 X (dg dt_Q_conjugate 24 rfl) fc_0 w_119 rfl (Nat.le_of_ble_eq_true rfl) (sh_g hg_v3) rfl ?_
    refine G_icmp_ge (pc := 46) 83 X (dg dt_Q_conjugate 25 rfl) (by decide) h (fun h => ?_) (fun h => ?_)
    · exact G_wk (hkx83 σ h) ⟨rfl, ⟨rfl, ⟨rfl, ⟨rfl, ⟨rfl, trivial⟩⟩⟩⟩⟩
    · refine G_aload_n (pc := 49) 3 X (dg dt_Q_conjugate 26 rfl) rfl rfl ?_
      refine G_iload (pc := 50) X (dg dt_Q_conjugate 27 rfl) rfl ?_
      refine G_iload (pc := 52) X (dg dt_Q_conjugate 28 rfl) rfl ?_
      obtain ⟨r_13, hc_12, h⟩ := cap_go h
      refine G_callV (pc := 54) (S := []) [.int v5, .int v6] nosub X  (dg dt_Q_conjugate 29 rfl) cb_Grid_signAt cv_Grid_signAt w_487 (s_Grid_signAt _ ad _ _ _ _ hg_v3 hc_12) rfl ⟨Nat.le_of_ble_eq_true rfl, Nat.le_of_ble_eq_true rfl⟩ (sh_g hg_v3) rfl (Nat.le_of_ble_eq_true rfl) Rc0 ?_
      refine G_istore (pc := 57) X (dg dt_Q_conjugate 30 rfl) (Nat.le_of_ble_eq_true rfl) rfl ?_
      refine G_iload (pc := 59) X (dg dt_Q_conjugate 31 rfl) rfl ?_
      refine G_iconst (pc := 61) (-1) X (dg dt_Q_conjugate 32 rfl) (by decide) ?_
      refine jn_go (fun j77_14 => ∀ (σ_15 : St), j77_14 σ_15 = some (rv, σe) → G θ (0, 0) (g_SH, ad) σ_15 77 [some (.ref (ad 0)), none, some (.int v2), some (.ref (ad v3)), some (.ref (ad v4)), some (.int v5), some (.int v6), none] []) h ?_ (fun j77_14 hj77_14 h => ?_)
      · intro σ_15 h
        refine G_iinc (pc := 77) (v6 + 1) X (dg dt_Q_conjugate 40 rfl) rfl (Nat.le_of_ble_eq_true rfl) rfl rfl ?_
        refine G_goto (pc := 80) 40 X (dg dt_Q_conjugate 41 rfl) (by decide) ?_
        exact G_wk (ih (v6 + 1) σ_15 h) ⟨rfl, ⟨rfl, ⟨rfl, ⟨rfl, ⟨rfl, ⟨rfl, trivial⟩⟩⟩⟩⟩⟩
      refine G_icmp_eq (pc := 62) 77 X (dg dt_Q_conjugate 33 rfl) (by decide) h (fun h => ?_) (fun h => ?_)
      · exact G_wk (hj77_14 σ h) ⟨rfl, ⟨rfl, ⟨rfl, ⟨rfl, ⟨rfl, ⟨rfl, trivial⟩⟩⟩⟩⟩⟩
      · refine G_aload (pc := 65) X (dg dt_Q_conjugate 34 rfl) rfl ?_
        refine G_iload_n (pc := 67) 2 X (dg dt_Q_conjugate 35 rfl) rfl rfl ?_
        refine G_iload (pc := 68) X (dg dt_Q_conjugate 36 rfl) rfl ?_
        refine G_iload (pc := 70) X (dg dt_Q_conjugate 37 rfl) rfl ?_
        refine G_iload (pc := 72) X (dg dt_Q_conjugate 38 rfl) rfl ?_
        obtain ⟨r_17, σ_18, hc_16, h⟩ := cal_go h
        refine G_callS (pc := 74) (S := []) [.ref (ad v4), .int v2, .int v5, .int v6, .int r_13] nosub X  (dg dt_Q_conjugate 39 rfl) cb_Q_setConjugate w_535 w_534 (s_Q_setConjugate _ ad _ _ _ _ _ _ hg_v4 hc_16) rfl ⟨Nat.le_of_ble_eq_true rfl, Nat.le_of_ble_eq_true rfl⟩  (Nat.le_of_ble_eq_true rfl) Rc0 ?_
        exact G_wk (hj77_14 σ_18 h) ⟨rfl, ⟨rfl, ⟨rfl, ⟨rfl, ⟨rfl, ⟨rfl, trivial⟩⟩⟩⟩⟩⟩
set_option maxRecDepth 100000 in
set_option maxHeartbeats 4000000 in
theorem s_Q_conjugate_L28 {θ : Th} {ad : Nat → Nat} (htr : θ.2.1.stackTraces = false) {rv : Except Nat Int32} {σe : St} (X : Cx θ g_strs cX11_conjugate 8 "Quasigrove" 7 122)
    {v2 : Int32} {v3 : Nat} {v4 : Nat} (hq : Xq θ (g_SH, ad) (some .int) (xi rv) σe) (hg_v3 : gok v3) (hg_v4 : gok v4) {kx89 : St → Option (Except Nat Int32 × St)} (hkx89 : ∀ (σ : St), kx89 σ = some (rv, σe) → G θ (0, 0) (g_SH, ad) σ 89 [some (.ref (ad 0)), none, none, none, none, none, none, none] []) :
    ∀ (n : Nat) (v5 : Int32) (σ : St), f_Q_conjugate_L28 v2 v3 v4 kx89 n v5 σ = some (rv, σe) → G θ (0, 0) (g_SH, ad) σ 28 [some (.ref (ad 0)), none, some (.int v2), some (.ref (ad v3)), some (.ref (ad v4)), some (.int v5), none, none] [] := by
  intro n
  induction n with
  | zero => intro v5 σ h; rw [f_Q_conjugate_L28] at h; cases h
  | succ n ih =>
    intro v5 σ h
    rw [f_Q_conjugate_L28] at h
    refine G_iload (pc := 28) X (dg dt_Q_conjugate 16 rfl) rfl ?_
    refine G_aload_n (pc := 30) 3 X (dg dt_Q_conjugate 17 rfl) rfl rfl ?_
    refine G_getIN (pc := 31) 3 X (dg dt_Q_conjugate 18 rfl) fc_0 w_119 rfl (Nat.le_of_ble_eq_true rfl) (sh_g hg_v3) rfl ?_
    refine G_icmp_ge (pc := 34) 89 X (dg dt_Q_conjugate 19 rfl) (by decide) h (fun h => ?_) (fun h => ?_)
    · exact G_wk (hkx89 σ h) ⟨rfl, trivial⟩
    · refine G_iconst (pc := 37) 0 X (dg dt_Q_conjugate 20 rfl) (by decide) ?_
      refine G_istore (pc := 38) X (dg dt_Q_conjugate 21 rfl) (Nat.le_of_ble_eq_true rfl) rfl ?_
      refine G_weak (L' := [some (.ref (ad 0)), none, some (.int v2), some (.ref (ad v3)), some (.ref (ad v4)), some (.int v5), some (.int 0), none]) ⟨rfl, ⟨rfl, ⟨rfl, ⟨rfl, ⟨rfl, ⟨rfl, trivial⟩⟩⟩⟩⟩⟩ ?_
      refine s_Q_conjugate_L40 htr X hq hg_v3 hg_v4 (fun σ_19 h => ?_) _ _ _ h
      refine G_iinc (pc := 83) (v5 + 1) X (dg dt_Q_conjugate 42 rfl) rfl (Nat.le_of_ble_eq_true rfl) rfl rfl ?_
      refine G_goto (pc := 86) 28 X (dg dt_Q_conjugate 43 rfl) (by decide) ?_
      exact G_wk (ih (v5 + 1) σ_19 h) ⟨rfl, ⟨rfl, ⟨rfl, ⟨rfl, ⟨rfl, trivial⟩⟩⟩⟩⟩
set_option maxRecDepth 100000 in
set_option maxHeartbeats 4000000 in
theorem s_Q_conjugate {l : Launch} (htr : l.stackTraces = false) (_ : Unit) (ad : Nat → Nat) (σ : St) (v1 : Int32) (v2 : Int32)  {rv : Except Nat Int32} {σe : St} (h : f_Q_conjugate σ v1 v2 = some (rv, σe)) : RX l g_strs yX11_conjugate cX11_conjugate 8 (some .int) 7 122 (g_SH, ad) [.ref (ad 0), .int v1, .int v2] σ (xi rv) σe := by
  refine RX.intro htr (L := [some (.ref (ad 0)), some (.int v1), some (.int v2), none, none, none, none, none]) (by decide +kernel) (Nat.le_of_ble_eq_true rfl) rfl (fun θ hl X hq => ?_)
  subst hl
  unfold f_Q_conjugate at h
  refine G_aload_n (pc := 0) 0 X (dg dt_Q_conjugate 0 rfl) rfl rfl ?_
  refine G_iload_n (pc := 1) 1 X (dg dt_Q_conjugate 1 rfl) rfl rfl ?_
  refine cax_go h (fun ex hc_1 hex => by subst hex; exact G_callVX (pc := 2) (S := []) [.int v1] (fun _ h => h) X hq (dg dt_Q_conjugate 2 rfl) cb_Q_gridAt cv_Q_gridAt w_462 (s_Q_gridAt htr () ad _ _ hc_1) rfl ⟨Nat.le_of_ble_eq_true rfl, Nat.le_of_ble_eq_true rfl⟩ sh_0 rfl (Nat.le_of_ble_eq_true rfl)) (fun r_2 σ_3 hc_1 h => ?_)
  have hg_r_2 := gk_of_Q_gridAt hc_1
  refine G_callV (pc := 2) (S := []) [.int v1] (fun _ h => h) X  (dg dt_Q_conjugate 2 rfl) cb_Q_gridAt cv_Q_gridAt w_462 (s_Q_gridAt htr () ad _ _ hc_1) rfl ⟨Nat.le_of_ble_eq_true rfl, Nat.le_of_ble_eq_true rfl⟩ sh_0 rfl (Nat.le_of_ble_eq_true rfl) Rc0 ?_
  refine G_astore_n (pc := 5) 3 X (dg dt_Q_conjugate 3 rfl) rfl (Nat.le_of_ble_eq_true rfl) rfl ?_
  refine G_iload_n (pc := 6) 2 X (dg dt_Q_conjugate 4 rfl) rfl rfl ?_
  refine G_iconst (pc := 7) 0 X (dg dt_Q_conjugate 5 rfl) (by decide) ?_
  refine G_iconst (pc := 8) 5 X (dg dt_Q_conjugate 6 rfl) (by decide) ?_
  obtain ⟨r_5, hc_4, h⟩ := cap_go h
  refine G_callS (pc := 9) (S := []) [.int v2, .int 0, .int 5] nosub X  (dg dt_Q_conjugate 7 rfl) cb_Q_isFrom w_326 w_325 (s_Q_isFrom _ ad _ _ _ _ hc_4) rfl ⟨Nat.le_of_ble_eq_true rfl, Nat.le_of_ble_eq_true rfl⟩  (Nat.le_of_ble_eq_true rfl) Rc0 ?_
  refine cax_go h (fun ex hc_6 hex => by subst hex; exact G_callSX (pc := 12) (S := []) [.int r_5] (fun _ h => h) X hq (dg dt_Q_conjugate 8 rfl) cb_Q_needArgument w_329 w_328 (s_Q_needArgument htr () ad _ _ hc_6) rfl ⟨Nat.le_of_ble_eq_true rfl, Nat.le_of_ble_eq_true rfl⟩  (Nat.le_of_ble_eq_true rfl)) (fun r_7 σ_8 hc_6 h => ?_)
  refine G_callS (pc := 12) (S := []) [.int r_5] (fun _ h => h) X  (dg dt_Q_conjugate 8 rfl) cb_Q_needArgument w_329 w_328 (s_Q_needArgument htr () ad _ _ hc_6) rfl ⟨Nat.le_of_ble_eq_true rfl, Nat.le_of_ble_eq_true rfl⟩  (Nat.le_of_ble_eq_true rfl) Rc0 ?_
  refine G_aload_n (pc := 15) 0 X (dg dt_Q_conjugate 9 rfl) rfl rfl ?_
  refine G_aload_n (pc := 16) 3 X (dg dt_Q_conjugate 10 rfl) rfl rfl ?_
  refine G_getIN (pc := 17) 3 X (dg dt_Q_conjugate 11 rfl) fc_0 w_119 rfl (Nat.le_of_ble_eq_true rfl) (sh_g hg_r_2) rfl ?_
  refine cax_go h (fun ex hc_9 hex => by subst hex; exact G_callVX (pc := 20) (S := []) [.int (σ_8 r_2 3)] (fun _ h => h) X hq (dg dt_Q_conjugate 12 rfl) cb_Q_newGrid cv_Q_newGrid w_399 (s_Q_newGrid htr () ad _ _ hc_9) rfl ⟨Nat.le_of_ble_eq_true rfl, Nat.le_of_ble_eq_true rfl⟩ sh_0 rfl (Nat.le_of_ble_eq_true rfl)) (fun r_10 σ_11 hc_9 h => ?_)
  have hg_r_10 := gk_of_Q_newGrid hc_9
  refine G_callV (pc := 20) (S := []) [.int (σ_8 r_2 3)] (fun _ h => h) X  (dg dt_Q_conjugate 12 rfl) cb_Q_newGrid cv_Q_newGrid w_399 (s_Q_newGrid htr () ad _ _ hc_9) rfl ⟨Nat.le_of_ble_eq_true rfl, Nat.le_of_ble_eq_true rfl⟩ sh_0 rfl (Nat.le_of_ble_eq_true rfl) Rc0 ?_
  refine G_astore (pc := 23) X (dg dt_Q_conjugate 13 rfl) (Nat.le_of_ble_eq_true rfl) rfl ?_
  refine G_iconst (pc := 25) 0 X (dg dt_Q_conjugate 14 rfl) (by decide) ?_
  refine G_istore (pc := 26) X (dg dt_Q_conjugate 15 rfl) (Nat.le_of_ble_eq_true rfl) rfl ?_
  refine G_weak (L' := [some (.ref (ad 0)), none, some (.int v2), some (.ref (ad r_2)), some (.ref (ad r_10)), some (.int 0), none, none]) ⟨rfl, ⟨rfl, ⟨rfl, ⟨rfl, ⟨rfl, trivial⟩⟩⟩⟩⟩ ?_
  refine s_Q_conjugate_L28 htr X hq hg_r_2 hg_r_10 (fun σ_20 h => ?_) _ _ _ h
  refine G_aload_n (pc := 89) 0 X (dg dt_Q_conjugate 44 rfl) rfl rfl ?_
  refine G_getI (pc := 90) 8 X (dg dt_Q_conjugate 45 rfl) fc_7 w_272 rfl (Nat.le_of_ble_eq_true rfl) sh_0 rfl ?_
  refine G_iconst (pc := 93) 1 X (dg dt_Q_conjugate 46 rfl) (by decide) ?_
  refine G_isub (pc := 94) X (dg dt_Q_conjugate 47 rfl) ?_
  exact G_xiret (pc := 95) X hq (dg dt_Q_conjugate 48 rfl) h
set_option maxRecDepth 100000 in
set_option maxHeartbeats 4000000 in
theorem s_Q_isotope_L106 {θ : Th} {ad : Nat → Nat} (htr : θ.2.1.stackTraces = false) {rv : Except Nat Int32} {σe : St} (X : Cx θ g_strs cX11_isotope 13 "Quasigrove" 7 122)
    {v5 : Nat} {v6 : Int32} {v7 : Int32} {v8 : Int32} {v9 : Nat} {v10 : Int32} (hq : Xq θ (g_SH, ad) (some .int) (xi rv) σe) (hg_v5 : gok v5) (hg_v9 : gok v9) {kx171 : St → Option (Except Nat Int32 × St)} (hkx171 : ∀ (σ : St), kx171 σ = some (rv, σe) → G θ (0, 0) (g_SH, ad) σ 171 [some (.ref (ad 0)), none, none, none, none, some (.ref (ad v5)), some (.int v6), some (.int v7), some (.int v8), some (.ref (ad v9)), some (.int v10), none, none] []) :
    ∀ (n : Nat) (v11 : Int32) (σ : St), f_Q_isotope_L106 v5 v6 v7 v8 v9 v10 kx171 n v11 σ = some (rv, σe) → G θ (0, 0) (g_SH, ad) σ 106 [some (.ref (ad 0)), none, none, none, none, some (.ref (ad v5)), some (.int v6), some (.int v7), some (.int v8), some (.ref (ad v9)), some (.int v10), some (.int v11), none] [] := by
  intro n
  induction n with
  | zero => intro v11 σ h; rw [f_Q_isotope_L106] at h; cases h
  | succ n ih =>
    intro v11 σ h
    rw [f_Q_isotope_L106] at h
    refine G_iload (pc := 106) X (dg dt_Q_isotope 51 rfl) rfl ?_
    refine G_aload (pc := 108) X (dg dt_Q_isotope 52 rfl) rfl ?_
    refine G_getIN (pc := 110) 3 X (dg dt_Q_isotope 53 rfl) fc_0 w_119 rfl (Nat.le_of_ble_eq_true rfl) (sh_g hg_v5) rfl ?_
    refine G_icmp_ge (pc := 113) 171 X (dg dt_Q_isotope 54 rfl) (by decide) h (fun h => ?_) (fun h => ?_)
    · exact G_wk (hkx171 σ h) ⟨rfl, ⟨rfl, ⟨rfl, ⟨rfl, ⟨rfl, ⟨rfl, ⟨rfl, trivial⟩⟩⟩⟩⟩⟩⟩
    · refine G_aload_n (pc := 116) 0 X (dg dt_Q_isotope 55 rfl) rfl rfl ?_
      refine G_getR (pc := 117) 2 X (dg dt_Q_isotope 56 rfl) fc_7 w_266 rfl (Nat.le_of_ble_eq_true rfl) sh_0 rfl ?_
      refine G_iload (pc := 120) X (dg dt_Q_isotope 57 rfl) rfl ?_
      refine G_aload (pc := 122) X (dg dt_Q_isotope 58 rfl) rfl ?_
      refine G_iload (pc := 124) X (dg dt_Q_isotope 59 rfl) rfl ?_
      refine G_iload (pc := 126) X (dg dt_Q_isotope 60 rfl) rfl ?_
      obtain ⟨r_22, hc_21, h⟩ := cap_go h
      refine G_callV (pc := 128) (S := [.int v8, .ref (ad 6)]) [.int v10, .int v11] nosub X  (dg dt_Q_isotope 61 rfl) cb_Grid_signAt cv_Grid_signAt w_487 (s_Grid_signAt _ ad _ _ _ _ hg_v5 hc_21) rfl ⟨Nat.le_of_ble_eq_true rfl, Nat.le_of_ble_eq_true rfl⟩ (sh_g hg_v5) rfl (Nat.le_of_ble_eq_true rfl) Rc0 ?_
      obtain ⟨r_24, hc_23, h⟩ := cap_go h
      refine G_callV (pc := 131) (S := []) [.int v8, .int r_22] nosub X  (dg dt_Q_isotope 62 rfl) cb_Maps_imageOf cv_Maps_imageOf w_523 (s_Maps_imageOf _ ad _ _ _ hc_23) rfl ⟨Nat.le_of_ble_eq_true rfl, Nat.le_of_ble_eq_true rfl⟩ sh_6 rfl (Nat.le_of_ble_eq_true rfl) Rc0 ?_
      refine G_istore (pc := 134) X (dg dt_Q_isotope 63 rfl) (Nat.le_of_ble_eq_true rfl) rfl ?_
      refine G_aload (pc := 136) X (dg dt_Q_isotope 64 rfl) rfl ?_
      refine G_aload_n (pc := 138) 0 X (dg dt_Q_isotope 65 rfl) rfl rfl ?_
      refine G_getR (pc := 139) 2 X (dg dt_Q_isotope 66 rfl) fc_7 w_266 rfl (Nat.le_of_ble_eq_true rfl) sh_0 rfl ?_
      refine G_iload (pc := 142) X (dg dt_Q_isotope 67 rfl) rfl ?_
      refine G_iload (pc := 144) X (dg dt_Q_isotope 68 rfl) rfl ?_
      obtain ⟨r_26, hc_25, h⟩ := cap_go h
      refine G_callV (pc := 146) (S := [.ref (ad v9)]) [.int v6, .int v10] nosub X  (dg dt_Q_isotope 69 rfl) cb_Maps_imageOf cv_Maps_imageOf w_523 (s_Maps_imageOf _ ad _ _ _ hc_25) rfl ⟨Nat.le_of_ble_eq_true rfl, Nat.le_of_ble_eq_true rfl⟩ sh_6 rfl (Nat.le_of_ble_eq_true rfl) Rc0 ?_
      refine G_aload_n (pc := 149) 0 X (dg dt_Q_isotope 70 rfl) rfl rfl ?_
      refine G_getR (pc := 150) 2 X (dg dt_Q_isotope 71 rfl) fc_7 w_266 rfl (Nat.le_of_ble_eq_true rfl) sh_0 rfl ?_
      refine G_iload (pc := 153) X (dg dt_Q_isotope 72 rfl) rfl ?_
      refine G_iload (pc := 155) X (dg dt_Q_isotope 73 rfl) rfl ?_
      obtain ⟨r_28, hc_27, h⟩ := cap_go h
      refine G_callV (pc := 157) (S := [.int r_26, .ref (ad v9)]) [.int v7, .int v11] nosub X  (dg dt_Q_isotope 74 rfl) cb_Maps_imageOf cv_Maps_imageOf w_523 (s_Maps_imageOf _ ad _ _ _ hc_27) rfl ⟨Nat.le_of_ble_eq_true rfl, Nat.le_of_ble_eq_true rfl⟩ sh_6 rfl (Nat.le_of_ble_eq_true rfl) Rc0 ?_
      refine G_iload (pc := 160) X (dg dt_Q_isotope 75 rfl) rfl ?_
      obtain ⟨r_30, σ_31, hc_29, h⟩ := cal_go h
      refine G_callV (pc := 162) (S := []) [.int r_26, .int r_28, .int r_24] nosub X  (dg dt_Q_isotope 76 rfl) cb_Grid_set cv_Grid_set w_442 (s_Grid_set _ ad _ _ _ _ _ hg_v9 hc_29) rfl ⟨Nat.le_of_ble_eq_true rfl, Nat.le_of_ble_eq_true rfl⟩ (sh_g hg_v9) rfl (Nat.le_of_ble_eq_true rfl) Rc0 ?_
      refine G_iinc (pc := 165) (v11 + 1) X (dg dt_Q_isotope 77 rfl) rfl (Nat.le_of_ble_eq_true rfl) rfl rfl ?_
      refine G_goto (pc := 168) 106 X (dg dt_Q_isotope 78 rfl) (by decide) ?_
      exact G_wk (ih (v11 + 1) σ_31 h) ⟨rfl, ⟨rfl, ⟨rfl, ⟨rfl, ⟨rfl, ⟨rfl, ⟨rfl, ⟨rfl, trivial⟩⟩⟩⟩⟩⟩⟩⟩
set_option maxRecDepth 100000 in
set_option maxHeartbeats 4000000 in
theorem s_Q_isotope_L93 {θ : Th} {ad : Nat → Nat} (htr : θ.2.1.stackTraces = false) {rv : Except Nat Int32} {σe : St} (X : Cx θ g_strs cX11_isotope 13 "Quasigrove" 7 122)
    {v5 : Nat} {v6 : Int32} {v7 : Int32} {v8 : Int32} {v9 : Nat} (hq : Xq θ (g_SH, ad) (some .int) (xi rv) σe) (hg_v5 : gok v5) (hg_v9 : gok v9) {kx177 : St → Option (Except Nat Int32 × St)} (hkx177 : ∀ (σ : St), kx177 σ = some (rv, σe) → G θ (0, 0) (g_SH, ad) σ 177 [some (.ref (ad 0)), none, none, none, none, none, none, none, none, none, none, none, none] []) :
    ∀ (n : Nat) (v10 : Int32) (σ : St), f_Q_isotope_L93 v5 v6 v7 v8 v9 kx177 n v10 σ = some (rv, σe) → G θ (0, 0) (g_SH, ad) σ 93 [some (.ref (ad 0)), none, none, none, none, some (.ref (ad v5)), some (.int v6), some (.int v7), some (.int v8), some (.ref (ad v9)), some (.int v10), none, none] [] := by
  intro n
  induction n with
  | zero => intro v10 σ h; rw [f_Q_isotope_L93] at h; cases h
  | succ n ih =>
    intro v10 σ h
    rw [f_Q_isotope_L93] at h
    refine G_iload (pc := 93) X (dg dt_Q_isotope 45 rfl) rfl ?_
    refine G_aload (pc := 95) X (dg dt_Q_isotope 46 rfl) rfl ?_
    refine G_getIN (pc := 97) 3 X (dg dt_Q_isotope 47 rfl) fc_0 w_119 rfl (Nat.le_of_ble_eq_true rfl) (sh_g hg_v5) rfl ?_
    refine G_icmp_ge (pc := 100) 177 X (dg dt_Q_isotope 48 rfl) (by decide) h (fun h => ?_) (fun h => ?_)
    · exact G_wk (hkx177 σ h) ⟨rfl, trivial⟩
    · refine G_iconst (pc := 103) 0 X (dg dt_Q_isotope 49 rfl) (by decide) ?_
      refine G_istore (pc := 104) X (dg dt_Q_isotope 50 rfl) (Nat.le_of_ble_eq_true rfl) rfl ?_
      refine G_weak (L' := [some (.ref (ad 0)), none, none, none, none, some (.ref (ad v5)), some (.int v6), some (.int v7), some (.int v8), some (.ref (ad v9)), some (.int v10), some (.int 0), none]) ⟨rfl, ⟨rfl, ⟨rfl, ⟨rfl, ⟨rfl, ⟨rfl, ⟨rfl, ⟨rfl, trivial⟩⟩⟩⟩⟩⟩⟩⟩ ?_
      refine s_Q_isotope_L106 htr X hq hg_v5 hg_v9 (fun σ_32 h => ?_) _ _ _ h
      refine G_iinc (pc := 171) (v10 + 1) X (dg dt_Q_isotope 79 rfl) rfl (Nat.le_of_ble_eq_true rfl) rfl rfl ?_
      refine G_goto (pc := 174) 93 X (dg dt_Q_isotope 80 rfl) (by decide) ?_
      exact G_wk (ih (v10 + 1) σ_32 h) ⟨rfl, ⟨rfl, ⟨rfl, ⟨rfl, ⟨rfl, ⟨rfl, ⟨rfl, trivial⟩⟩⟩⟩⟩⟩⟩
set_option maxRecDepth 100000 in
set_option maxHeartbeats 4000000 in
theorem s_Q_isotope {l : Launch} (htr : l.stackTraces = false) (_ : Unit) (ad : Nat → Nat) (σ : St) (v1 : Int32) (v2 : Int32) (v3 : Int32) (v4 : Int32)  {rv : Except Nat Int32} {σe : St} (h : f_Q_isotope σ v1 v2 v3 v4 = some (rv, σe)) : RX l g_strs yX11_isotope cX11_isotope 13 (some .int) 7 122 (g_SH, ad) [.ref (ad 0), .int v1, .int v2, .int v3, .int v4] σ (xi rv) σe := by
  refine RX.intro htr (L := [some (.ref (ad 0)), some (.int v1), some (.int v2), some (.int v3), some (.int v4), none, none, none, none, none, none, none, none]) (by decide +kernel) (Nat.le_of_ble_eq_true rfl) rfl (fun θ hl X hq => ?_)
  subst hl
  unfold f_Q_isotope at h
  refine G_aload_n (pc := 0) 0 X (dg dt_Q_isotope 0 rfl) rfl rfl ?_
  refine G_iload_n (pc := 1) 1 X (dg dt_Q_isotope 1 rfl) rfl rfl ?_
  refine cax_go h (fun ex hc_1 hex => by subst hex; exact G_callVX (pc := 2) (S := []) [.int v1] (fun _ h => h) X hq (dg dt_Q_isotope 2 rfl) cb_Q_gridAt cv_Q_gridAt w_462 (s_Q_gridAt htr () ad _ _ hc_1) rfl ⟨Nat.le_of_ble_eq_true rfl, Nat.le_of_ble_eq_true rfl⟩ sh_0 rfl (Nat.le_of_ble_eq_true rfl)) (fun r_2 σ_3 hc_1 h => ?_)
  have hg_r_2 := gk_of_Q_gridAt hc_1
  refine G_callV (pc := 2) (S := []) [.int v1] (fun _ h => h) X  (dg dt_Q_isotope 2 rfl) cb_Q_gridAt cv_Q_gridAt w_462 (s_Q_gridAt htr () ad _ _ hc_1) rfl ⟨Nat.le_of_ble_eq_true rfl, Nat.le_of_ble_eq_true rfl⟩ sh_0 rfl (Nat.le_of_ble_eq_true rfl) Rc0 ?_
  refine G_astore (pc := 5) X (dg dt_Q_isotope 3 rfl) (Nat.le_of_ble_eq_true rfl) rfl ?_
  refine G_aload_n (pc := 7) 0 X (dg dt_Q_isotope 4 rfl) rfl rfl ?_
  refine G_getR (pc := 8) 2 X (dg dt_Q_isotope 5 rfl) fc_7 w_266 rfl (Nat.le_of_ble_eq_true rfl) sh_0 rfl ?_
  refine G_iload_n (pc := 11) 2 X (dg dt_Q_isotope 6 rfl) rfl rfl ?_
  refine G_aload (pc := 12) X (dg dt_Q_isotope 7 rfl) rfl ?_
  refine G_getIN (pc := 14) 3 X (dg dt_Q_isotope 8 rfl) fc_0 w_119 rfl (Nat.le_of_ble_eq_true rfl) (sh_g hg_r_2) rfl ?_
  obtain ⟨r_5, σ_6, hc_4, h⟩ := cal_go h
  refine G_callV (pc := 17) (S := []) [.int v2, .int (σ_3 r_2 3)] nosub X  (dg dt_Q_isotope 9 rfl) cb_Maps_numberOfCode cv_Maps_numberOfCode w_509 (s_Maps_numberOfCode _ ad _ _ _ hc_4) rfl ⟨Nat.le_of_ble_eq_true rfl, Nat.le_of_ble_eq_true rfl⟩ sh_6 rfl (Nat.le_of_ble_eq_true rfl) Rc0 ?_
  refine G_istore (pc := 20) X (dg dt_Q_isotope 10 rfl) (Nat.le_of_ble_eq_true rfl) rfl ?_
  refine G_aload_n (pc := 22) 0 X (dg dt_Q_isotope 11 rfl) rfl rfl ?_
  refine G_getR (pc := 23) 2 X (dg dt_Q_isotope 12 rfl) fc_7 w_266 rfl (Nat.le_of_ble_eq_true rfl) sh_0 rfl ?_
  refine G_iload_n (pc := 26) 3 X (dg dt_Q_isotope 13 rfl) rfl rfl ?_
  refine G_aload (pc := 27) X (dg dt_Q_isotope 14 rfl) rfl ?_
  refine G_getIN (pc := 29) 3 X (dg dt_Q_isotope 15 rfl) fc_0 w_119 rfl (Nat.le_of_ble_eq_true rfl) (sh_g hg_r_2) rfl ?_
  obtain ⟨r_8, σ_9, hc_7, h⟩ := cal_go h
  refine G_callV (pc := 32) (S := []) [.int v3, .int (σ_6 r_2 3)] nosub X  (dg dt_Q_isotope 16 rfl) cb_Maps_numberOfCode cv_Maps_numberOfCode w_509 (s_Maps_numberOfCode _ ad _ _ _ hc_7) rfl ⟨Nat.le_of_ble_eq_true rfl, Nat.le_of_ble_eq_true rfl⟩ sh_6 rfl (Nat.le_of_ble_eq_true rfl) Rc0 ?_
  refine G_istore (pc := 35) X (dg dt_Q_isotope 17 rfl) (Nat.le_of_ble_eq_true rfl) rfl ?_
  refine G_aload_n (pc := 37) 0 X (dg dt_Q_isotope 18 rfl) rfl rfl ?_
  refine G_getR (pc := 38) 2 X (dg dt_Q_isotope 19 rfl) fc_7 w_266 rfl (Nat.le_of_ble_eq_true rfl) sh_0 rfl ?_
  refine G_iload (pc := 41) X (dg dt_Q_isotope 20 rfl) rfl ?_
  refine G_aload (pc := 43) X (dg dt_Q_isotope 21 rfl) rfl ?_
  refine G_getIN (pc := 45) 3 X (dg dt_Q_isotope 22 rfl) fc_0 w_119 rfl (Nat.le_of_ble_eq_true rfl) (sh_g hg_r_2) rfl ?_
  obtain ⟨r_11, σ_12, hc_10, h⟩ := cal_go h
  refine G_callV (pc := 48) (S := []) [.int v4, .int (σ_9 r_2 3)] nosub X  (dg dt_Q_isotope 23 rfl) cb_Maps_numberOfCode cv_Maps_numberOfCode w_509 (s_Maps_numberOfCode _ ad _ _ _ hc_10) rfl ⟨Nat.le_of_ble_eq_true rfl, Nat.le_of_ble_eq_true rfl⟩ sh_6 rfl (Nat.le_of_ble_eq_true rfl) Rc0 ?_
  refine G_istore (pc := 51) X (dg dt_Q_isotope 24 rfl) (Nat.le_of_ble_eq_true rfl) rfl ?_
  refine G_iload (pc := 53) X (dg dt_Q_isotope 25 rfl) rfl ?_
  refine G_iconst (pc := 55) (-1) X (dg dt_Q_isotope 26 rfl) (by decide) ?_
  refine jn_go (fun j76_13 => ∀ (s_14 : Int32), j76_13 s_14 = some (rv, σe) → G θ (0, 0) (g_SH, ad) σ_12 76 [some (.ref (ad 0)), none, none, none, none, some (.ref (ad r_2)), some (.int r_5), some (.int r_8), some (.int r_11), none, none, none, none] [.int s_14]) h ?_ (fun j76_13 hj76_13 h => ?_)
  · intro s_14 h
    refine cax_go h (fun ex hc_15 hex => by subst hex; exact G_callSX (pc := 76) (S := []) [.int s_14] (fun _ h => h) X hq (dg dt_Q_isotope 37 rfl) cb_Q_needArgument w_329 w_328 (s_Q_needArgument htr () ad _ _ hc_15) rfl ⟨Nat.le_of_ble_eq_true rfl, Nat.le_of_ble_eq_true rfl⟩  (Nat.le_of_ble_eq_true rfl)) (fun r_16 σ_17 hc_15 h => ?_)
    refine G_callS (pc := 76) (S := []) [.int s_14] (fun _ h => h) X  (dg dt_Q_isotope 37 rfl) cb_Q_needArgument w_329 w_328 (s_Q_needArgument htr () ad _ _ hc_15) rfl ⟨Nat.le_of_ble_eq_true rfl, Nat.le_of_ble_eq_true rfl⟩  (Nat.le_of_ble_eq_true rfl) Rc0 ?_
    refine G_aload_n (pc := 79) 0 X (dg dt_Q_isotope 38 rfl) rfl rfl ?_
    refine G_aload (pc := 80) X (dg dt_Q_isotope 39 rfl) rfl ?_
    refine G_getIN (pc := 82) 3 X (dg dt_Q_isotope 40 rfl) fc_0 w_119 rfl (Nat.le_of_ble_eq_true rfl) (sh_g hg_r_2) rfl ?_
    refine cax_go h (fun ex hc_18 hex => by subst hex; exact G_callVX (pc := 85) (S := []) [.int (σ_17 r_2 3)] (fun _ h => h) X hq (dg dt_Q_isotope 41 rfl) cb_Q_newGrid cv_Q_newGrid w_399 (s_Q_newGrid htr () ad _ _ hc_18) rfl ⟨Nat.le_of_ble_eq_true rfl, Nat.le_of_ble_eq_true rfl⟩ sh_0 rfl (Nat.le_of_ble_eq_true rfl)) (fun r_19 σ_20 hc_18 h => ?_)
    have hg_r_19 := gk_of_Q_newGrid hc_18
    refine G_callV (pc := 85) (S := []) [.int (σ_17 r_2 3)] (fun _ h => h) X  (dg dt_Q_isotope 41 rfl) cb_Q_newGrid cv_Q_newGrid w_399 (s_Q_newGrid htr () ad _ _ hc_18) rfl ⟨Nat.le_of_ble_eq_true rfl, Nat.le_of_ble_eq_true rfl⟩ sh_0 rfl (Nat.le_of_ble_eq_true rfl) Rc0 ?_
    refine G_astore (pc := 88) X (dg dt_Q_isotope 42 rfl) (Nat.le_of_ble_eq_true rfl) rfl ?_
    refine G_iconst (pc := 90) 0 X (dg dt_Q_isotope 43 rfl) (by decide) ?_
    refine G_istore (pc := 91) X (dg dt_Q_isotope 44 rfl) (Nat.le_of_ble_eq_true rfl) rfl ?_
    refine G_weak (L' := [some (.ref (ad 0)), none, none, none, none, some (.ref (ad r_2)), some (.int r_5), some (.int r_8), some (.int r_11), some (.ref (ad r_19)), some (.int 0), none, none]) ⟨rfl, ⟨rfl, ⟨rfl, ⟨rfl, ⟨rfl, ⟨rfl, ⟨rfl, trivial⟩⟩⟩⟩⟩⟩⟩ ?_
    refine s_Q_isotope_L93 htr X hq hg_r_2 hg_r_19 (fun σ_33 h => ?_) _ _ _ h
    refine G_aload_n (pc := 177) 0 X (dg dt_Q_isotope 81 rfl) rfl rfl ?_
    refine G_getI (pc := 178) 8 X (dg dt_Q_isotope 82 rfl) fc_7 w_272 rfl (Nat.le_of_ble_eq_true rfl) sh_0 rfl ?_
    refine G_iconst (pc := 181) 1 X (dg dt_Q_isotope 83 rfl) (by decide) ?_
    refine G_isub (pc := 182) X (dg dt_Q_isotope 84 rfl) ?_
    exact G_xiret (pc := 183) X hq (dg dt_Q_isotope 85 rfl) h
  refine jn_go (fun j75_34 => j75_34 = some (rv, σe) → G θ (0, 0) (g_SH, ad) σ_12 75 [some (.ref (ad 0)), none, none, none, none, some (.ref (ad r_2)), some (.int r_5), some (.int r_8), some (.int r_11), none, none, none, none] []) h ?_ (fun j75_34 hj75_34 h => ?_)
  · intro  h
    refine G_iconst (pc := 75) 0 X (dg dt_Q_isotope 36 rfl) (by decide) ?_
    exact G_wk (hj76_13 0 h) ⟨rfl, ⟨rfl, ⟨rfl, ⟨rfl, ⟨rfl, trivial⟩⟩⟩⟩⟩
  refine G_icmp_eq (pc := 56) 75 X (dg dt_Q_isotope 27 rfl) (by decide) h (fun h => ?_) (fun h => ?_)
  · exact G_wk (hj75_34  h) ⟨rfl, ⟨rfl, ⟨rfl, ⟨rfl, ⟨rfl, trivial⟩⟩⟩⟩⟩
  · refine G_iload (pc := 59) X (dg dt_Q_isotope 28 rfl) rfl ?_
    refine G_iconst (pc := 61) (-1) X (dg dt_Q_isotope 29 rfl) (by decide) ?_
    refine G_icmp_eq (pc := 62) 75 X (dg dt_Q_isotope 30 rfl) (by decide) h (fun h => ?_) (fun h => ?_)
    · exact G_wk (hj75_34  h) ⟨rfl, ⟨rfl, ⟨rfl, ⟨rfl, ⟨rfl, trivial⟩⟩⟩⟩⟩
    · refine G_iload (pc := 65) X (dg dt_Q_isotope 31 rfl) rfl ?_
      refine G_iconst (pc := 67) (-1) X (dg dt_Q_isotope 32 rfl) (by decide) ?_
      refine G_icmp_eq (pc := 68) 75 X (dg dt_Q_isotope 33 rfl) (by decide) h (fun h => ?_) (fun h => ?_)
      · exact G_wk (hj75_34  h) ⟨rfl, ⟨rfl, ⟨rfl, ⟨rfl, ⟨rfl, trivial⟩⟩⟩⟩⟩
      · refine G_iconst (pc := 71) 1 X (dg dt_Q_isotope 34 rfl) (by decide) ?_
        refine G_goto (pc := 72) 76 X (dg dt_Q_isotope 35 rfl) (by decide) ?_
        exact G_wk (hj76_13 1 h) ⟨rfl, ⟨rfl, ⟨rfl, ⟨rfl, ⟨rfl, trivial⟩⟩⟩⟩⟩
set_option maxRecDepth 100000 in
set_option maxHeartbeats 4000000 in
theorem s_Q_put {l : Launch} (htr : l.stackTraces = false) (_ : Unit) (ad : Nat → Nat) (σ : St) (v1 : Int32) (v2 : Int32) (v3 : Int32) (v4 : Int32)  {rv : Except Nat Int32} {σe : St} (h : f_Q_put σ v1 v2 v3 v4 = some (rv, σe)) : RX l g_strs yX11_put cX11_put 7 (some .int) 7 122 (g_SH, ad) [.ref (ad 0), .int v1, .int v2, .int v3, .int v4] σ (xi rv) σe := by
  refine RX.intro htr (L := [some (.ref (ad 0)), some (.int v1), some (.int v2), some (.int v3), some (.int v4), none, none]) (by decide +kernel) (Nat.le_of_ble_eq_true rfl) rfl (fun θ hl X hq => ?_)
  subst hl
  unfold f_Q_put at h
  refine G_aload_n (pc := 0) 0 X (dg dt_Q_put 0 rfl) rfl rfl ?_
  refine G_iload_n (pc := 1) 1 X (dg dt_Q_put 1 rfl) rfl rfl ?_
  refine cax_go h (fun ex hc_1 hex => by subst hex; exact G_callVX (pc := 2) (S := []) [.int v1] (fun _ h => h) X hq (dg dt_Q_put 2 rfl) cb_Q_gridAt cv_Q_gridAt w_462 (s_Q_gridAt htr () ad _ _ hc_1) rfl ⟨Nat.le_of_ble_eq_true rfl, Nat.le_of_ble_eq_true rfl⟩ sh_0 rfl (Nat.le_of_ble_eq_true rfl)) (fun r_2 σ_3 hc_1 h => ?_)
  have hg_r_2 := gk_of_Q_gridAt hc_1
  refine G_callV (pc := 2) (S := []) [.int v1] (fun _ h => h) X  (dg dt_Q_put 2 rfl) cb_Q_gridAt cv_Q_gridAt w_462 (s_Q_gridAt htr () ad _ _ hc_1) rfl ⟨Nat.le_of_ble_eq_true rfl, Nat.le_of_ble_eq_true rfl⟩ sh_0 rfl (Nat.le_of_ble_eq_true rfl) Rc0 ?_
  refine G_astore (pc := 5) X (dg dt_Q_put 3 rfl) (Nat.le_of_ble_eq_true rfl) rfl ?_
  refine G_aload (pc := 7) X (dg dt_Q_put 4 rfl) rfl ?_
  refine G_iload_n (pc := 9) 2 X (dg dt_Q_put 5 rfl) rfl rfl ?_
  refine G_iload_n (pc := 10) 3 X (dg dt_Q_put 6 rfl) rfl rfl ?_
  refine cax_go h (fun ex hc_4 hex => by subst hex; exact G_callSX (pc := 11) (S := []) [.ref (ad r_2), .int v2, .int v3] (fun _ h => h) X hq (dg dt_Q_put 7 rfl) cb_Q_needCell w_483 w_482 (s_Q_needCell htr () ad _ _ _ _ hg_r_2 hc_4) rfl ⟨Nat.le_of_ble_eq_true rfl, Nat.le_of_ble_eq_true rfl⟩  (Nat.le_of_ble_eq_true rfl)) (fun r_5 σ_6 hc_4 h => ?_)
  refine G_callS (pc := 11) (S := []) [.ref (ad r_2), .int v2, .int v3] (fun _ h => h) X  (dg dt_Q_put 7 rfl) cb_Q_needCell w_483 w_482 (s_Q_needCell htr () ad _ _ _ _ hg_r_2 hc_4) rfl ⟨Nat.le_of_ble_eq_true rfl, Nat.le_of_ble_eq_true rfl⟩  (Nat.le_of_ble_eq_true rfl) Rc0 ?_
  refine G_iload (pc := 14) X (dg dt_Q_put 8 rfl) rfl ?_
  refine G_iconst (pc := 16) (-1) X (dg dt_Q_put 9 rfl) (by decide) ?_
  refine G_aload (pc := 17) X (dg dt_Q_put 10 rfl) rfl ?_
  refine G_getIN (pc := 19) 3 X (dg dt_Q_put 11 rfl) fc_0 w_119 rfl (Nat.le_of_ble_eq_true rfl) (sh_g hg_r_2) rfl ?_
  refine G_iconst (pc := 22) 1 X (dg dt_Q_put 12 rfl) (by decide) ?_
  refine G_isub (pc := 23) X (dg dt_Q_put 13 rfl) ?_
  obtain ⟨r_8, hc_7, h⟩ := cap_go h
  refine G_callS (pc := 24) (S := []) [.int v4, .int (-1), .int ((σ_6 r_2 3) - 1)] nosub X  (dg dt_Q_put 14 rfl) cb_Q_isFrom w_326 w_325 (s_Q_isFrom _ ad _ _ _ _ hc_7) rfl ⟨Nat.le_of_ble_eq_true rfl, Nat.le_of_ble_eq_true rfl⟩  (Nat.le_of_ble_eq_true rfl) Rc0 ?_
  refine cax_go h (fun ex hc_9 hex => by subst hex; exact G_callSX (pc := 27) (S := []) [.int r_8] (fun _ h => h) X hq (dg dt_Q_put 15 rfl) cb_Q_needArgument w_329 w_328 (s_Q_needArgument htr () ad _ _ hc_9) rfl ⟨Nat.le_of_ble_eq_true rfl, Nat.le_of_ble_eq_true rfl⟩  (Nat.le_of_ble_eq_true rfl)) (fun r_10 σ_11 hc_9 h => ?_)
  refine G_callS (pc := 27) (S := []) [.int r_8] (fun _ h => h) X  (dg dt_Q_put 15 rfl) cb_Q_needArgument w_329 w_328 (s_Q_needArgument htr () ad _ _ hc_9) rfl ⟨Nat.le_of_ble_eq_true rfl, Nat.le_of_ble_eq_true rfl⟩  (Nat.le_of_ble_eq_true rfl) Rc0 ?_
  refine G_aload (pc := 30) X (dg dt_Q_put 16 rfl) rfl ?_
  refine G_iload_n (pc := 32) 2 X (dg dt_Q_put 17 rfl) rfl rfl ?_
  refine G_iload_n (pc := 33) 3 X (dg dt_Q_put 18 rfl) rfl rfl ?_
  obtain ⟨r_13, hc_12, h⟩ := cap_go h
  refine G_callV (pc := 34) (S := []) [.int v2, .int v3] nosub X  (dg dt_Q_put 19 rfl) cb_Grid_signAt cv_Grid_signAt w_487 (s_Grid_signAt _ ad _ _ _ _ hg_r_2 hc_12) rfl ⟨Nat.le_of_ble_eq_true rfl, Nat.le_of_ble_eq_true rfl⟩ (sh_g hg_r_2) rfl (Nat.le_of_ble_eq_true rfl) Rc0 ?_
  refine G_istore (pc := 37) X (dg dt_Q_put 20 rfl) (Nat.le_of_ble_eq_true rfl) rfl ?_
  refine G_iload (pc := 39) X (dg dt_Q_put 21 rfl) rfl ?_
  refine G_iload (pc := 41) X (dg dt_Q_put 22 rfl) rfl ?_
  refine jn_go (fun j75_14 => ∀ (σ_15 : St), j75_14 σ_15 = some (rv, σe) → G θ (0, 0) (g_SH, ad) σ_15 75 [none, none, none, none, none, none, some (.int r_13)] []) h ?_ (fun j75_14 hj75_14 h => ?_)
  · intro σ_15 h
    refine G_iload (pc := 75) X (dg dt_Q_put 39 rfl) rfl ?_
    exact G_xiret (pc := 77) X hq (dg dt_Q_put 40 rfl) h
  refine G_icmp_eq (pc := 43) 75 X (dg dt_Q_put 23 rfl) (by decide) h (fun h => ?_) (fun h => ?_)
  · exact G_wk (hj75_14 σ_11 h) ⟨rfl, trivial⟩
  · refine G_aload (pc := 46) X (dg dt_Q_put 24 rfl) rfl ?_
    refine G_iload_n (pc := 48) 2 X (dg dt_Q_put 25 rfl) rfl rfl ?_
    refine G_iload_n (pc := 49) 3 X (dg dt_Q_put 26 rfl) rfl rfl ?_
    refine G_iload (pc := 50) X (dg dt_Q_put 27 rfl) rfl ?_
    obtain ⟨r_17, hc_16, h⟩ := cap_go h
    refine G_callV (pc := 52) (S := []) [.int v2, .int v3, .int v4] nosub X  (dg dt_Q_put 28 rfl) cb_Grid_hasInLines cv_Grid_hasInLines w_491 (s_Grid_hasInLines _ ad _ _ _ _ _ hg_r_2 hc_16) rfl ⟨Nat.le_of_ble_eq_true rfl, Nat.le_of_ble_eq_true rfl⟩ (sh_g hg_r_2) rfl (Nat.le_of_ble_eq_true rfl) Rc0 ?_
    refine jn_go (fun j63_18 => ∀ (s_19 : Int32), j63_18 s_19 = some (rv, σe) → G θ (0, 0) (g_SH, ad) σ_11 63 [none, none, some (.int v2), some (.int v3), some (.int v4), some (.ref (ad r_2)), some (.int r_13)] [.int s_19]) h ?_ (fun j63_18 hj63_18 h => ?_)
    · intro s_19 h
      refine cax_go h (fun ex hc_20 hex => by subst hex; exact G_callSX (pc := 63) (S := []) [.int s_19] (fun _ h => h) X hq (dg dt_Q_put 33 rfl) cb_Q_needState w_499 w_498 (s_Q_needState htr () ad _ _ hc_20) rfl ⟨Nat.le_of_ble_eq_true rfl, Nat.le_of_ble_eq_true rfl⟩  (Nat.le_of_ble_eq_true rfl)) (fun r_21 σ_22 hc_20 h => ?_)
      refine G_callS (pc := 63) (S := []) [.int s_19] (fun _ h => h) X  (dg dt_Q_put 33 rfl) cb_Q_needState w_499 w_498 (s_Q_needState htr () ad _ _ hc_20) rfl ⟨Nat.le_of_ble_eq_true rfl, Nat.le_of_ble_eq_true rfl⟩  (Nat.le_of_ble_eq_true rfl) Rc0 ?_
      refine G_aload (pc := 66) X (dg dt_Q_put 34 rfl) rfl ?_
      refine G_iload_n (pc := 68) 2 X (dg dt_Q_put 35 rfl) rfl rfl ?_
      refine G_iload_n (pc := 69) 3 X (dg dt_Q_put 36 rfl) rfl rfl ?_
      refine G_iload (pc := 70) X (dg dt_Q_put 37 rfl) rfl ?_
      obtain ⟨r_24, σ_25, hc_23, h⟩ := cal_go h
      refine G_callV (pc := 72) (S := []) [.int v2, .int v3, .int v4] nosub X  (dg dt_Q_put 38 rfl) cb_Grid_set cv_Grid_set w_442 (s_Grid_set _ ad _ _ _ _ _ hg_r_2 hc_23) rfl ⟨Nat.le_of_ble_eq_true rfl, Nat.le_of_ble_eq_true rfl⟩ (sh_g hg_r_2) rfl (Nat.le_of_ble_eq_true rfl) Rc0 ?_
      exact G_wk (hj75_14 σ_25 h) ⟨rfl, trivial⟩
    refine G_if_ne (pc := 55) 62 X (dg dt_Q_put 29 rfl) (by decide) h (fun h => ?_) (fun h => ?_)
    · refine G_iconst (pc := 62) 0 X (dg dt_Q_put 32 rfl) (by decide) ?_
      exact G_wk (hj63_18 0 h) ⟨rfl, ⟨rfl, ⟨rfl, ⟨rfl, ⟨rfl, trivial⟩⟩⟩⟩⟩
    · refine G_iconst (pc := 58) 1 X (dg dt_Q_put 30 rfl) (by decide) ?_
      refine G_goto (pc := 59) 63 X (dg dt_Q_put 31 rfl) (by decide) ?_
      exact G_wk (hj63_18 1 h) ⟨rfl, ⟨rfl, ⟨rfl, ⟨rfl, ⟨rfl, trivial⟩⟩⟩⟩⟩
set_option maxRecDepth 100000 in
set_option maxHeartbeats 4000000 in
theorem s_Q_remainder (l : Launch) (ad : Nat → Nat) (σ : St) (v0 : Int32) (v1 : Int32)  {rv : Int32} (h : f_Q_remainder σ v0 v1 = some rv) : Rt l [] yX11_remainder cX11_remainder 2 (some .int) 0 0 (g_SH, ad) [.int v0, .int v1] σ (some (.int rv)) σ := by
  refine Rt.intro (L := [some (.int v0), some (.int v1)]) (by decide +kernel) (Nat.le_of_ble_eq_true rfl) rfl (fun θ hl X hq => ?_)
  subst hl
  unfold f_Q_remainder at h
  refine G_iload_n (pc := 0) 1 X (dg dt_Q_remainder 0 rfl) rfl rfl ?_
  refine G_if_le (pc := 1) 10 X (dg dt_Q_remainder 1 rfl) (by decide) h (fun h => ?_) (fun h => ?_)
  · refine G_iconst (pc := 10) 0 X (dg dt_Q_remainder 6 rfl) (by decide) ?_
    exact G_iretp (pc := 11) X hq (dg dt_Q_remainder 7 rfl) h
  · refine G_iload_n (pc := 4) 0 X (dg dt_Q_remainder 2 rfl) rfl rfl ?_
    refine G_iload_n (pc := 5) 1 X (dg dt_Q_remainder 3 rfl) rfl rfl ?_
    refine G_irem (pc := 6) X (dg dt_Q_remainder 4 rfl) h (fun q_1 h => ?_)
    refine G_goto (pc := 7) 11 X (dg dt_Q_remainder 5 rfl) (by decide) ?_
    exact G_iretp (pc := 11) X hq (dg dt_Q_remainder 7 rfl) h
set_option maxRecDepth 100000 in
set_option maxHeartbeats 4000000 in
theorem s_Q_reachesAll_L4 {θ : Th} {ad : Nat → Nat}  {rv : Int32} (X : Cx θ [] cX11_reachesAll 4 "Quasigrove" 1 21)
    {v0 : Int32} {v1 : Int32} {σ : St} (hq : Rq θ (g_SH, ad) (some .boolean) (some (.int rv)) σ) {kx27 : Int32 → Option Int32} (hkx27 : ∀ (v2 : Int32), kx27 v2 = some rv → G θ (0, 0) (g_SH, ad) σ 27 [none, some (.int v1), some (.int v2), none] []) :
    ∀ (n : Nat) (v2 : Int32) (v3 : Int32), f_Q_reachesAll_L4 v0 v1 σ kx27 n v2 v3 = some rv → G θ (0, 0) (g_SH, ad) σ 4 [some (.int v0), some (.int v1), some (.int v2), some (.int v3)] [] := by
  intro n
  induction n with
  | zero => intro v2 v3 h; rw [f_Q_reachesAll_L4] at h; cases h
  | succ n ih =>
    intro v2 v3 h
    rw [f_Q_reachesAll_L4] at h
    refine G_iload_n (pc := 4) 3 X (dg dt_Q_reachesAll 4 rfl) rfl rfl ?_
    refine G_iload_n (pc := 5) 1 X (dg dt_Q_reachesAll 5 rfl) rfl rfl ?_
    refine G_icmp_ge (pc := 6) 27 X (dg dt_Q_reachesAll 6 rfl) (by decide) h (fun h => ?_) (fun h => ?_)
    · exact G_wk (hkx27 v2 h) ⟨rfl, ⟨rfl, trivial⟩⟩
    · refine G_iload_n (pc := 9) 2 X (dg dt_Q_reachesAll 7 rfl) rfl rfl ?_
      refine G_iconst (pc := 10) 1 X (dg dt_Q_reachesAll 8 rfl) (by decide) ?_
      refine G_iload_n (pc := 11) 0 X (dg dt_Q_reachesAll 9 rfl) rfl rfl ?_
      refine G_iload_n (pc := 12) 3 X (dg dt_Q_reachesAll 10 rfl) rfl rfl ?_
      refine G_imul (pc := 13) X (dg dt_Q_reachesAll 11 rfl) ?_
      refine G_iload_n (pc := 14) 1 X (dg dt_Q_reachesAll 12 rfl) rfl rfl ?_
      obtain ⟨r_2, hc_1, h⟩ := cap_go h
      refine G_callS (pc := 15) (S := [.int 1, .int v2]) [.int (v0 * v3), .int v1] nosub X  (dg dt_Q_reachesAll 13 rfl) cb_Q_remainder w_440 w_439 (s_Q_remainder _ ad _ _ _ hc_1) rfl ⟨Nat.le_of_ble_eq_true rfl, Nat.le_of_ble_eq_true rfl⟩  (Nat.le_of_ble_eq_true rfl) Rc0 ?_
      refine G_ishl (pc := 18) X (dg dt_Q_reachesAll 14 rfl) ?_
      refine G_ior (pc := 19) X (dg dt_Q_reachesAll 15 rfl) ?_
      refine G_istore_n_lt (pc := 20) 2 X (dg dt_Q_reachesAll 16 rfl) rfl (Nat.le_of_ble_eq_true rfl) rfl h (fun v2_3 h => ?_)
      refine G_iinc (pc := 21) (v3 + 1) X (dg dt_Q_reachesAll 17 rfl) rfl (Nat.le_of_ble_eq_true rfl) rfl rfl ?_
      refine G_goto (pc := 24) 4 X (dg dt_Q_reachesAll 18 rfl) (by decide) ?_
      exact G_wk (ih v2_3 (v3 + 1) h) ⟨rfl, ⟨rfl, ⟨rfl, ⟨rfl, trivial⟩⟩⟩⟩
set_option maxRecDepth 100000 in
set_option maxHeartbeats 4000000 in
theorem s_Q_reachesAll (l : Launch) (ad : Nat → Nat) (σ : St) (v0 : Int32) (v1 : Int32)  {rv : Int32} (h : f_Q_reachesAll σ v0 v1 = some rv) : Rt l [] yX11_reachesAll cX11_reachesAll 4 (some .boolean) 1 21 (g_SH, ad) [.int v0, .int v1] σ (some (.int rv)) σ := by
  refine Rt.intro (L := [some (.int v0), some (.int v1), none, none]) (by decide +kernel) (Nat.le_of_ble_eq_true rfl) rfl (fun θ hl X hq => ?_)
  subst hl
  unfold f_Q_reachesAll at h
  refine G_iconst (pc := 0) 0 X (dg dt_Q_reachesAll 0 rfl) (by decide) ?_
  refine G_istore_n (pc := 1) 2 X (dg dt_Q_reachesAll 1 rfl) rfl (Nat.le_of_ble_eq_true rfl) rfl ?_
  refine G_iconst (pc := 2) 0 X (dg dt_Q_reachesAll 2 rfl) (by decide) ?_
  refine G_istore_n (pc := 3) 3 X (dg dt_Q_reachesAll 3 rfl) rfl (Nat.le_of_ble_eq_true rfl) rfl ?_
  refine G_weak (L' := [some (.int v0), some (.int v1), some (.int 0), some (.int 0)]) ⟨rfl, ⟨rfl, ⟨rfl, ⟨rfl, trivial⟩⟩⟩⟩ ?_
  refine s_Q_reachesAll_L4  X hq  (fun v2_4 h => ?_) _ _ _ h
  refine G_iload_n (pc := 27) 2 X (dg dt_Q_reachesAll 19 rfl) rfl rfl ?_
  refine G_iconst (pc := 28) 1 X (dg dt_Q_reachesAll 20 rfl) (by decide) ?_
  refine G_iload_n (pc := 29) 1 X (dg dt_Q_reachesAll 21 rfl) rfl rfl ?_
  refine G_ishl (pc := 30) X (dg dt_Q_reachesAll 22 rfl) ?_
  refine G_iconst (pc := 31) 1 X (dg dt_Q_reachesAll 23 rfl) (by decide) ?_
  refine G_isub (pc := 32) X (dg dt_Q_reachesAll 24 rfl) ?_
  refine G_icmp_ne (pc := 33) 40 X (dg dt_Q_reachesAll 25 rfl) (by decide) h (fun h => ?_) (fun h => ?_)
  · refine G_iconst (pc := 40) 0 X (dg dt_Q_reachesAll 28 rfl) (by decide) ?_
    exact G_zretlp (pc := 41) X hq (dg dt_Q_reachesAll 29 rfl) rfl h
  · refine G_iconst (pc := 36) 1 X (dg dt_Q_reachesAll 26 rfl) (by decide) ?_
    refine G_goto (pc := 37) 41 X (dg dt_Q_reachesAll 27 rfl) (by decide) ?_
    exact G_zretlp (pc := 41) X hq (dg dt_Q_reachesAll 29 rfl) rfl h
set_option maxRecDepth 100000 in
set_option maxHeartbeats 4000000 in
theorem s_Q_linear_L88 {θ : Th} {ad : Nat → Nat} (htr : θ.2.1.stackTraces = false) {rv : Except Nat Int32} {σe : St} (X : Cx θ g_strs cX11_linear 8 "Quasigrove" 7 122)
    {v1 : Int32} {v2 : Int32} {v3 : Int32} {v4 : Int32} {v5 : Nat} {v6 : Int32} (hq : Xq θ (g_SH, ad) (some .int) (xi rv) σe) (hg_v5 : gok v5) {kx125 : St → Option (Except Nat Int32 × St)} (hkx125 : ∀ (σ : St), kx125 σ = some (rv, σe) → G θ (0, 0) (g_SH, ad) σ 125 [some (.ref (ad 0)), some (.int v1), some (.int v2), some (.int v3), some (.int v4), some (.ref (ad v5)), some (.int v6), none] []) :
    ∀ (n : Nat) (v7 : Int32) (σ : St), f_Q_linear_L88 v1 v2 v3 v4 v5 v6 kx125 n v7 σ = some (rv, σe) → G θ (0, 0) (g_SH, ad) σ 88 [some (.ref (ad 0)), some (.int v1), some (.int v2), some (.int v3), some (.int v4), some (.ref (ad v5)), some (.int v6), some (.int v7)] [] := by
  intro n
  induction n with
  | zero => intro v7 σ h; rw [f_Q_linear_L88] at h; cases h
  | succ n ih =>
    intro v7 σ h
    rw [f_Q_linear_L88] at h
    refine G_iload (pc := 88) X (dg dt_Q_linear 47 rfl) rfl ?_
    refine G_iload_n (pc := 90) 1 X (dg dt_Q_linear 48 rfl) rfl rfl ?_
    refine G_icmp_ge (pc := 91) 125 X (dg dt_Q_linear 49 rfl) (by decide) h (fun h => ?_) (fun h => ?_)
    · exact G_wk (hkx125 σ h) ⟨rfl, ⟨rfl, ⟨rfl, ⟨rfl, ⟨rfl, ⟨rfl, ⟨rfl, trivial⟩⟩⟩⟩⟩⟩⟩
    · refine G_aload (pc := 94) X (dg dt_Q_linear 50 rfl) rfl ?_
      refine G_iload (pc := 96) X (dg dt_Q_linear 51 rfl) rfl ?_
      refine G_iload (pc := 98) X (dg dt_Q_linear 52 rfl) rfl ?_
      refine G_iload_n (pc := 100) 2 X (dg dt_Q_linear 53 rfl) rfl rfl ?_
      refine G_iload (pc := 101) X (dg dt_Q_linear 54 rfl) rfl ?_
      refine G_imul (pc := 103) X (dg dt_Q_linear 55 rfl) ?_
      refine G_iload_n (pc := 104) 3 X (dg dt_Q_linear 56 rfl) rfl rfl ?_
      refine G_iload (pc := 105) X (dg dt_Q_linear 57 rfl) rfl ?_
      refine G_imul (pc := 107) X (dg dt_Q_linear 58 rfl) ?_
      refine G_iadd (pc := 108) X (dg dt_Q_linear 59 rfl) ?_
      refine G_iload (pc := 109) X (dg dt_Q_linear 60 rfl) rfl ?_
      refine G_iadd (pc := 111) X (dg dt_Q_linear 61 rfl) ?_
      refine G_iload_n (pc := 112) 1 X (dg dt_Q_linear 62 rfl) rfl rfl ?_
      obtain ⟨r_24, hc_23, h⟩ := cap_go h
      refine G_callS (pc := 113) (S := [.int v7, .int v6, .ref (ad v5)]) [.int (((v2 * v6) + (v3 * v7)) + v4), .int v1] nosub X  (dg dt_Q_linear 63 rfl) cb_Q_remainder w_440 w_439 (s_Q_remainder _ ad _ _ _ hc_23) rfl ⟨Nat.le_of_ble_eq_true rfl, Nat.le_of_ble_eq_true rfl⟩  (Nat.le_of_ble_eq_true rfl) Rc0 ?_
      obtain ⟨r_26, σ_27, hc_25, h⟩ := cal_go h
      refine G_callV (pc := 116) (S := []) [.int v6, .int v7, .int r_24] nosub X  (dg dt_Q_linear 64 rfl) cb_Grid_set cv_Grid_set w_442 (s_Grid_set _ ad _ _ _ _ _ hg_v5 hc_25) rfl ⟨Nat.le_of_ble_eq_true rfl, Nat.le_of_ble_eq_true rfl⟩ (sh_g hg_v5) rfl (Nat.le_of_ble_eq_true rfl) Rc0 ?_
      refine G_iinc (pc := 119) (v7 + 1) X (dg dt_Q_linear 65 rfl) rfl (Nat.le_of_ble_eq_true rfl) rfl rfl ?_
      refine G_goto (pc := 122) 88 X (dg dt_Q_linear 66 rfl) (by decide) ?_
      exact G_wk (ih (v7 + 1) σ_27 h) ⟨rfl, ⟨rfl, ⟨rfl, ⟨rfl, ⟨rfl, ⟨rfl, ⟨rfl, ⟨rfl, trivial⟩⟩⟩⟩⟩⟩⟩⟩
set_option maxRecDepth 100000 in
set_option maxHeartbeats 4000000 in
theorem s_Q_linear_L79 {θ : Th} {ad : Nat → Nat} (htr : θ.2.1.stackTraces = false) {rv : Except Nat Int32} {σe : St} (X : Cx θ g_strs cX11_linear 8 "Quasigrove" 7 122)
    {v1 : Int32} {v2 : Int32} {v3 : Int32} {v4 : Int32} {v5 : Nat} (hq : Xq θ (g_SH, ad) (some .int) (xi rv) σe) (hg_v5 : gok v5) {kx131 : St → Option (Except Nat Int32 × St)} (hkx131 : ∀ (σ : St), kx131 σ = some (rv, σe) → G θ (0, 0) (g_SH, ad) σ 131 [some (.ref (ad 0)), none, none, none, none, none, none, none] []) :
    ∀ (n : Nat) (v6 : Int32) (σ : St), f_Q_linear_L79 v1 v2 v3 v4 v5 kx131 n v6 σ = some (rv, σe) → G θ (0, 0) (g_SH, ad) σ 79 [some (.ref (ad 0)), some (.int v1), some (.int v2), some (.int v3), some (.int v4), some (.ref (ad v5)), some (.int v6), none] [] := by
  intro n
  induction n with
  | zero => intro v6 σ h; rw [f_Q_linear_L79] at h; cases h
  | succ n ih =>
    intro v6 σ h
    rw [f_Q_linear_L79] at h
    refine G_iload (pc := 79) X (dg dt_Q_linear 42 rfl) rfl ?_
    refine G_iload_n (pc := 81) 1 X (dg dt_Q_linear 43 rfl) rfl rfl ?_
    refine G_icmp_ge (pc := 82) 131 X (dg dt_Q_linear 44 rfl) (by decide) h (fun h => ?_) (fun h => ?_)
    · exact G_wk (hkx131 σ h) ⟨rfl, trivial⟩
    · refine G_iconst (pc := 85) 0 X (dg dt_Q_linear 45 rfl) (by decide) ?_
      refine G_istore (pc := 86) X (dg dt_Q_linear 46 rfl) (Nat.le_of_ble_eq_true rfl) rfl ?_
      refine G_weak (L' := [some (.ref (ad 0)), some (.int v1), some (.int v2), some (.int v3), some (.int v4), some (.ref (ad v5)), some (.int v6), some (.int 0)]) ⟨rfl, ⟨rfl, ⟨rfl, ⟨rfl, ⟨rfl, ⟨rfl, ⟨rfl, ⟨rfl, trivial⟩⟩⟩⟩⟩⟩⟩⟩ ?_
      refine s_Q_linear_L88 htr X hq hg_v5 (fun σ_28 h => ?_) _ _ _ h
      refine G_iinc (pc := 125) (v6 + 1) X (dg dt_Q_linear 67 rfl) rfl (Nat.le_of_ble_eq_true rfl) rfl rfl ?_
      refine G_goto (pc := 128) 79 X (dg dt_Q_linear 68 rfl) (by decide) ?_
      exact G_wk (ih (v6 + 1) σ_28 h) ⟨rfl, ⟨rfl, ⟨rfl, ⟨rfl, ⟨rfl, ⟨rfl, ⟨rfl, trivial⟩⟩⟩⟩⟩⟩⟩
set_option maxRecDepth 100000 in
set_option maxHeartbeats 4000000 in
theorem s_Q_linear {l : Launch} (htr : l.stackTraces = false) (_ : Unit) (ad : Nat → Nat) (σ : St) (v1 : Int32) (v2 : Int32) (v3 : Int32) (v4 : Int32)  {rv : Except Nat Int32} {σe : St} (h : f_Q_linear σ v1 v2 v3 v4 = some (rv, σe)) : RX l g_strs yX11_linear cX11_linear 8 (some .int) 7 122 (g_SH, ad) [.ref (ad 0), .int v1, .int v2, .int v3, .int v4] σ (xi rv) σe := by
  refine RX.intro htr (L := [some (.ref (ad 0)), some (.int v1), some (.int v2), some (.int v3), some (.int v4), none, none, none]) (by decide +kernel) (Nat.le_of_ble_eq_true rfl) rfl (fun θ hl X hq => ?_)
  subst hl
  unfold f_Q_linear at h
  refine G_iload_n (pc := 0) 1 X (dg dt_Q_linear 0 rfl) rfl rfl ?_
  refine G_iconst (pc := 1) 2 X (dg dt_Q_linear 1 rfl) (by decide) ?_
  refine G_iconst (pc := 2) 5 X (dg dt_Q_linear 2 rfl) (by decide) ?_
  obtain ⟨r_2, hc_1, h⟩ := cap_go h
  refine G_callS (pc := 3) (S := []) [.int v1, .int 2, .int 5] nosub X  (dg dt_Q_linear 3 rfl) cb_Q_isFrom w_326 w_325 (s_Q_isFrom _ ad _ _ _ _ hc_1) rfl ⟨Nat.le_of_ble_eq_true rfl, Nat.le_of_ble_eq_true rfl⟩  (Nat.le_of_ble_eq_true rfl) Rc0 ?_
  refine cax_go h (fun ex hc_3 hex => by subst hex; exact G_callSX (pc := 6) (S := []) [.int r_2] (fun _ h => h) X hq (dg dt_Q_linear 4 rfl) cb_Q_needArgument w_329 w_328 (s_Q_needArgument htr () ad _ _ hc_3) rfl ⟨Nat.le_of_ble_eq_true rfl, Nat.le_of_ble_eq_true rfl⟩  (Nat.le_of_ble_eq_true rfl)) (fun r_4 σ_5 hc_3 h => ?_)
  refine G_callS (pc := 6) (S := []) [.int r_2] (fun _ h => h) X  (dg dt_Q_linear 4 rfl) cb_Q_needArgument w_329 w_328 (s_Q_needArgument htr () ad _ _ hc_3) rfl ⟨Nat.le_of_ble_eq_true rfl, Nat.le_of_ble_eq_true rfl⟩  (Nat.le_of_ble_eq_true rfl) Rc0 ?_
  refine G_iload_n (pc := 9) 2 X (dg dt_Q_linear 5 rfl) rfl rfl ?_
  refine G_iconst (pc := 10) 0 X (dg dt_Q_linear 6 rfl) (by decide) ?_
  refine G_iconst (pc := 11) 4 X (dg dt_Q_linear 7 rfl) (by decide) ?_
  obtain ⟨r_7, hc_6, h⟩ := cap_go h
  refine G_callS (pc := 12) (S := []) [.int v2, .int 0, .int 4] nosub X  (dg dt_Q_linear 8 rfl) cb_Q_isFrom w_326 w_325 (s_Q_isFrom _ ad _ _ _ _ hc_6) rfl ⟨Nat.le_of_ble_eq_true rfl, Nat.le_of_ble_eq_true rfl⟩  (Nat.le_of_ble_eq_true rfl) Rc0 ?_
  refine jn_go (fun j42_8 => ∀ (s_9 : Int32), j42_8 s_9 = some (rv, σe) → G θ (0, 0) (g_SH, ad) σ_5 42 [some (.ref (ad 0)), some (.int v1), some (.int v2), some (.int v3), some (.int v4), none, none, none] [.int s_9]) h ?_ (fun j42_8 hj42_8 h => ?_)
  · intro s_9 h
    refine cax_go h (fun ex hc_10 hex => by subst hex; exact G_callSX (pc := 42) (S := []) [.int s_9] (fun _ h => h) X hq (dg dt_Q_linear 23 rfl) cb_Q_needArgument w_329 w_328 (s_Q_needArgument htr () ad _ _ hc_10) rfl ⟨Nat.le_of_ble_eq_true rfl, Nat.le_of_ble_eq_true rfl⟩  (Nat.le_of_ble_eq_true rfl)) (fun r_11 σ_12 hc_10 h => ?_)
    refine G_callS (pc := 42) (S := []) [.int s_9] (fun _ h => h) X  (dg dt_Q_linear 23 rfl) cb_Q_needArgument w_329 w_328 (s_Q_needArgument htr () ad _ _ hc_10) rfl ⟨Nat.le_of_ble_eq_true rfl, Nat.le_of_ble_eq_true rfl⟩  (Nat.le_of_ble_eq_true rfl) Rc0 ?_
    refine G_iload_n (pc := 45) 2 X (dg dt_Q_linear 24 rfl) rfl rfl ?_
    refine G_iload_n (pc := 46) 1 X (dg dt_Q_linear 25 rfl) rfl rfl ?_
    obtain ⟨r_14, hc_13, h⟩ := cap_go h
    refine G_callS (pc := 47) (S := []) [.int v2, .int v1] nosub X  (dg dt_Q_linear 26 rfl) cb_Q_reachesAll w_437 w_436 (s_Q_reachesAll _ ad _ _ _ hc_13) rfl ⟨Nat.le_of_ble_eq_true rfl, Nat.le_of_ble_eq_true rfl⟩  (Nat.le_of_ble_eq_true rfl) Rc0 ?_
    refine jn_go (fun j66_15 => ∀ (s_16 : Int32), j66_15 s_16 = some (rv, σe) → G θ (0, 0) (g_SH, ad) σ_12 66 [some (.ref (ad 0)), some (.int v1), some (.int v2), some (.int v3), some (.int v4), none, none, none] [.int s_16]) h ?_ (fun j66_15 hj66_15 h => ?_)
    · intro s_16 h
      refine cax_go h (fun ex hc_17 hex => by subst hex; exact G_callSX (pc := 66) (S := []) [.int s_16] (fun _ h => h) X hq (dg dt_Q_linear 35 rfl) cb_Q_needArgument w_329 w_328 (s_Q_needArgument htr () ad _ _ hc_17) rfl ⟨Nat.le_of_ble_eq_true rfl, Nat.le_of_ble_eq_true rfl⟩  (Nat.le_of_ble_eq_true rfl)) (fun r_18 σ_19 hc_17 h => ?_)
      refine G_callS (pc := 66) (S := []) [.int s_16] (fun _ h => h) X  (dg dt_Q_linear 35 rfl) cb_Q_needArgument w_329 w_328 (s_Q_needArgument htr () ad _ _ hc_17) rfl ⟨Nat.le_of_ble_eq_true rfl, Nat.le_of_ble_eq_true rfl⟩  (Nat.le_of_ble_eq_true rfl) Rc0 ?_
      refine G_aload_n (pc := 69) 0 X (dg dt_Q_linear 36 rfl) rfl rfl ?_
      refine G_iload_n (pc := 70) 1 X (dg dt_Q_linear 37 rfl) rfl rfl ?_
      refine cax_go h (fun ex hc_20 hex => by subst hex; exact G_callVX (pc := 71) (S := []) [.int v1] (fun _ h => h) X hq (dg dt_Q_linear 38 rfl) cb_Q_newGrid cv_Q_newGrid w_399 (s_Q_newGrid htr () ad _ _ hc_20) rfl ⟨Nat.le_of_ble_eq_true rfl, Nat.le_of_ble_eq_true rfl⟩ sh_0 rfl (Nat.le_of_ble_eq_true rfl)) (fun r_21 σ_22 hc_20 h => ?_)
      have hg_r_21 := gk_of_Q_newGrid hc_20
      refine G_callV (pc := 71) (S := []) [.int v1] (fun _ h => h) X  (dg dt_Q_linear 38 rfl) cb_Q_newGrid cv_Q_newGrid w_399 (s_Q_newGrid htr () ad _ _ hc_20) rfl ⟨Nat.le_of_ble_eq_true rfl, Nat.le_of_ble_eq_true rfl⟩ sh_0 rfl (Nat.le_of_ble_eq_true rfl) Rc0 ?_
      refine G_astore (pc := 74) X (dg dt_Q_linear 39 rfl) (Nat.le_of_ble_eq_true rfl) rfl ?_
      refine G_iconst (pc := 76) 0 X (dg dt_Q_linear 40 rfl) (by decide) ?_
      refine G_istore (pc := 77) X (dg dt_Q_linear 41 rfl) (Nat.le_of_ble_eq_true rfl) rfl ?_
      refine G_weak (L' := [some (.ref (ad 0)), some (.int v1), some (.int v2), some (.int v3), some (.int v4), some (.ref (ad r_21)), some (.int 0), none]) ⟨rfl, ⟨rfl, ⟨rfl, ⟨rfl, ⟨rfl, ⟨rfl, ⟨rfl, trivial⟩⟩⟩⟩⟩⟩⟩ ?_
      refine s_Q_linear_L79 htr X hq hg_r_21 (fun σ_29 h => ?_) _ _ _ h
      refine G_aload_n (pc := 131) 0 X (dg dt_Q_linear 69 rfl) rfl rfl ?_
      refine G_getI (pc := 132) 8 X (dg dt_Q_linear 70 rfl) fc_7 w_272 rfl (Nat.le_of_ble_eq_true rfl) sh_0 rfl ?_
      refine G_iconst (pc := 135) 1 X (dg dt_Q_linear 71 rfl) (by decide) ?_
      refine G_isub (pc := 136) X (dg dt_Q_linear 72 rfl) ?_
      exact G_xiret (pc := 137) X hq (dg dt_Q_linear 73 rfl) h
    refine jn_go (fun j65_30 => j65_30 = some (rv, σe) → G θ (0, 0) (g_SH, ad) σ_12 65 [some (.ref (ad 0)), some (.int v1), some (.int v2), some (.int v3), some (.int v4), none, none, none] []) h ?_ (fun j65_30 hj65_30 h => ?_)
    · intro  h
      refine G_iconst (pc := 65) 0 X (dg dt_Q_linear 34 rfl) (by decide) ?_
      exact G_wk (hj66_15 0 h) ⟨rfl, ⟨rfl, ⟨rfl, ⟨rfl, ⟨rfl, trivial⟩⟩⟩⟩⟩
    refine G_if_eq (pc := 50) 65 X (dg dt_Q_linear 27 rfl) (by decide) h (fun h => ?_) (fun h => ?_)
    · exact G_wk (hj65_30  h) ⟨rfl, ⟨rfl, ⟨rfl, ⟨rfl, ⟨rfl, trivial⟩⟩⟩⟩⟩
    · refine G_iload_n (pc := 53) 3 X (dg dt_Q_linear 28 rfl) rfl rfl ?_
      refine G_iload_n (pc := 54) 1 X (dg dt_Q_linear 29 rfl) rfl rfl ?_
      obtain ⟨r_32, hc_31, h⟩ := cap_go h
      refine G_callS (pc := 55) (S := []) [.int v3, .int v1] nosub X  (dg dt_Q_linear 30 rfl) cb_Q_reachesAll w_437 w_436 (s_Q_reachesAll _ ad _ _ _ hc_31) rfl ⟨Nat.le_of_ble_eq_true rfl, Nat.le_of_ble_eq_true rfl⟩  (Nat.le_of_ble_eq_true rfl) Rc0 ?_
      refine G_if_eq (pc := 58) 65 X (dg dt_Q_linear 31 rfl) (by decide) h (fun h => ?_) (fun h => ?_)
      · exact G_wk (hj65_30  h) ⟨rfl, ⟨rfl, ⟨rfl, ⟨rfl, ⟨rfl, trivial⟩⟩⟩⟩⟩
      · refine G_iconst (pc := 61) 1 X (dg dt_Q_linear 32 rfl) (by decide) ?_
        refine G_goto (pc := 62) 66 X (dg dt_Q_linear 33 rfl) (by decide) ?_
        exact G_wk (hj66_15 1 h) ⟨rfl, ⟨rfl, ⟨rfl, ⟨rfl, ⟨rfl, trivial⟩⟩⟩⟩⟩
  refine jn_go (fun j41_33 => j41_33 = some (rv, σe) → G θ (0, 0) (g_SH, ad) σ_5 41 [some (.ref (ad 0)), some (.int v1), some (.int v2), some (.int v3), some (.int v4), none, none, none] []) h ?_ (fun j41_33 hj41_33 h => ?_)
  · intro  h
    refine G_iconst (pc := 41) 0 X (dg dt_Q_linear 22 rfl) (by decide) ?_
    exact G_wk (hj42_8 0 h) ⟨rfl, ⟨rfl, ⟨rfl, ⟨rfl, ⟨rfl, trivial⟩⟩⟩⟩⟩
  refine G_if_eq (pc := 15) 41 X (dg dt_Q_linear 9 rfl) (by decide) h (fun h => ?_) (fun h => ?_)
  · exact G_wk (hj41_33  h) ⟨rfl, ⟨rfl, ⟨rfl, ⟨rfl, ⟨rfl, trivial⟩⟩⟩⟩⟩
  · refine G_iload_n (pc := 18) 3 X (dg dt_Q_linear 10 rfl) rfl rfl ?_
    refine G_iconst (pc := 19) 0 X (dg dt_Q_linear 11 rfl) (by decide) ?_
    refine G_iconst (pc := 20) 4 X (dg dt_Q_linear 12 rfl) (by decide) ?_
    obtain ⟨r_35, hc_34, h⟩ := cap_go h
    refine G_callS (pc := 21) (S := []) [.int v3, .int 0, .int 4] nosub X  (dg dt_Q_linear 13 rfl) cb_Q_isFrom w_326 w_325 (s_Q_isFrom _ ad _ _ _ _ hc_34) rfl ⟨Nat.le_of_ble_eq_true rfl, Nat.le_of_ble_eq_true rfl⟩  (Nat.le_of_ble_eq_true rfl) Rc0 ?_
    refine G_if_eq (pc := 24) 41 X (dg dt_Q_linear 14 rfl) (by decide) h (fun h => ?_) (fun h => ?_)
    · exact G_wk (hj41_33  h) ⟨rfl, ⟨rfl, ⟨rfl, ⟨rfl, ⟨rfl, trivial⟩⟩⟩⟩⟩
    · refine G_iload (pc := 27) X (dg dt_Q_linear 15 rfl) rfl ?_
      refine G_iconst (pc := 29) 0 X (dg dt_Q_linear 16 rfl) (by decide) ?_
      refine G_iconst (pc := 30) 4 X (dg dt_Q_linear 17 rfl) (by decide) ?_
      obtain ⟨r_37, hc_36, h⟩ := cap_go h
      refine G_callS (pc := 31) (S := []) [.int v4, .int 0, .int 4] nosub X  (dg dt_Q_linear 18 rfl) cb_Q_isFrom w_326 w_325 (s_Q_isFrom _ ad _ _ _ _ hc_36) rfl ⟨Nat.le_of_ble_eq_true rfl, Nat.le_of_ble_eq_true rfl⟩  (Nat.le_of_ble_eq_true rfl) Rc0 ?_
      refine G_if_eq (pc := 34) 41 X (dg dt_Q_linear 19 rfl) (by decide) h (fun h => ?_) (fun h => ?_)
      · exact G_wk (hj41_33  h) ⟨rfl, ⟨rfl, ⟨rfl, ⟨rfl, ⟨rfl, trivial⟩⟩⟩⟩⟩
      · refine G_iconst (pc := 37) 1 X (dg dt_Q_linear 20 rfl) (by decide) ?_
        refine G_goto (pc := 38) 42 X (dg dt_Q_linear 21 rfl) (by decide) ?_
        exact G_wk (hj42_8 1 h) ⟨rfl, ⟨rfl, ⟨rfl, ⟨rfl, ⟨rfl, trivial⟩⟩⟩⟩⟩
set_option maxRecDepth 100000 in
set_option maxHeartbeats 4000000 in
theorem s_Q_grid {l : Launch} (htr : l.stackTraces = false) (_ : Unit) (ad : Nat → Nat) (σ : St) (v1 : Int32)  {rv : Except Nat Int32} {σe : St} (h : f_Q_grid σ v1 = some (rv, σe)) : RX l g_strs yX11_grid cX11_grid 2 (some .int) 7 122 (g_SH, ad) [.ref (ad 0), .int v1] σ (xi rv) σe := by
  refine RX.intro htr (L := [some (.ref (ad 0)), some (.int v1)]) (by decide +kernel) (Nat.le_of_ble_eq_true rfl) rfl (fun θ hl X hq => ?_)
  subst hl
  unfold f_Q_grid at h
  refine G_iload_n (pc := 0) 1 X (dg dt_Q_grid 0 rfl) rfl rfl ?_
  refine G_iconst (pc := 1) 2 X (dg dt_Q_grid 1 rfl) (by decide) ?_
  refine G_iconst (pc := 2) 5 X (dg dt_Q_grid 2 rfl) (by decide) ?_
  obtain ⟨r_2, hc_1, h⟩ := cap_go h
  refine G_callS (pc := 3) (S := []) [.int v1, .int 2, .int 5] nosub X  (dg dt_Q_grid 3 rfl) cb_Q_isFrom w_326 w_325 (s_Q_isFrom _ ad _ _ _ _ hc_1) rfl ⟨Nat.le_of_ble_eq_true rfl, Nat.le_of_ble_eq_true rfl⟩  (Nat.le_of_ble_eq_true rfl) Rc0 ?_
  refine cax_go h (fun ex hc_3 hex => by subst hex; exact G_callSX (pc := 6) (S := []) [.int r_2] (fun _ h => h) X hq (dg dt_Q_grid 4 rfl) cb_Q_needArgument w_329 w_328 (s_Q_needArgument htr () ad _ _ hc_3) rfl ⟨Nat.le_of_ble_eq_true rfl, Nat.le_of_ble_eq_true rfl⟩  (Nat.le_of_ble_eq_true rfl)) (fun r_4 σ_5 hc_3 h => ?_)
  refine G_callS (pc := 6) (S := []) [.int r_2] (fun _ h => h) X  (dg dt_Q_grid 4 rfl) cb_Q_needArgument w_329 w_328 (s_Q_needArgument htr () ad _ _ hc_3) rfl ⟨Nat.le_of_ble_eq_true rfl, Nat.le_of_ble_eq_true rfl⟩  (Nat.le_of_ble_eq_true rfl) Rc0 ?_
  refine G_aload_n (pc := 9) 0 X (dg dt_Q_grid 5 rfl) rfl rfl ?_
  refine G_iload_n (pc := 10) 1 X (dg dt_Q_grid 6 rfl) rfl rfl ?_
  refine cax_go h (fun ex hc_6 hex => by subst hex; exact G_callVX (pc := 11) (S := []) [.int v1] (fun _ h => h) X hq (dg dt_Q_grid 7 rfl) cb_Q_newGrid cv_Q_newGrid w_399 (s_Q_newGrid htr () ad _ _ hc_6) rfl ⟨Nat.le_of_ble_eq_true rfl, Nat.le_of_ble_eq_true rfl⟩ sh_0 rfl (Nat.le_of_ble_eq_true rfl)) (fun r_7 σ_8 hc_6 h => ?_)
  have hg_r_7 := gk_of_Q_newGrid hc_6
  refine G_callV (pc := 11) (S := []) [.int v1] (fun _ h => h) X  (dg dt_Q_grid 7 rfl) cb_Q_newGrid cv_Q_newGrid w_399 (s_Q_newGrid htr () ad _ _ hc_6) rfl ⟨Nat.le_of_ble_eq_true rfl, Nat.le_of_ble_eq_true rfl⟩ sh_0 rfl (Nat.le_of_ble_eq_true rfl) Rc0 ?_
  refine G_pop (pc := 14) X (dg dt_Q_grid 8 rfl) rfl ?_
  refine G_aload_n (pc := 15) 0 X (dg dt_Q_grid 9 rfl) rfl rfl ?_
  refine G_getI (pc := 16) 8 X (dg dt_Q_grid 10 rfl) fc_7 w_272 rfl (Nat.le_of_ble_eq_true rfl) sh_0 rfl ?_
  refine G_iconst (pc := 19) 1 X (dg dt_Q_grid 11 rfl) (by decide) ?_
  refine G_isub (pc := 20) X (dg dt_Q_grid 12 rfl) ?_
  exact G_xiret (pc := 21) X hq (dg dt_Q_grid 13 rfl) h
