set_option maxRecDepth 100000 in
set_option maxHeartbeats 4000000 in
theorem s_Q_gridAt {l : Launch} (htr : l.stackTraces = false) (_ : Unit) (ad : Nat → Nat) (σ : St) (v1 : Int32)  {rv : Except Nat Nat} {σe : St} (h : f_Q_gridAt σ v1 = some (rv, σe)) : RX l g_strs yX11_gridAt cX11_gridAt 2 (some (.object "Quasigrove$Grid")) 6 100 (g_SH, ad) [.ref (ad 0), .int v1] σ (xr ad rv) σe := by
  refine RX.intro htr (L := [some (.ref (ad 0)), some (.int v1)]) (by decide +kernel) (Nat.le_of_ble_eq_true rfl) rfl (fun θ hl X hq => ?_)
  subst hl
  unfold f_Q_gridAt at h
  refine G_iload_n (pc := 0) 1 X (dg dt_Q_gridAt 0 rfl) rfl rfl ?_
  refine jn_go (fun j30_1 => j30_1 = some (rv, σe) → G θ (0, 0) (g_SH, ad) σ 30 [none, none] []) h ?_ (fun j30_1 hj30_1 h => ?_)
  · intro  h
    exact G_xthrow (pc := 30) (e := 1) (text := "there is no such grid") X hq tw_254_258 (by decide) (dg dt_Q_gridAt 16 rfl) (dg dt_Q_gridAt 17 rfl) (dg dt_Q_gridAt 18 rfl) (dg dt_Q_gridAt 19 rfl) (dg dt_Q_gridAt 20 rfl) h (Nat.le_of_ble_eq_true rfl) (Nat.le_of_ble_eq_true rfl)
  refine G_if_lt (pc := 1) 30 X (dg dt_Q_gridAt 1 rfl) (by decide) h (fun h => ?_) (fun h => ?_)
  · exact G_wk (hj30_1  h) trivial
  · refine G_iload_n (pc := 4) 1 X (dg dt_Q_gridAt 2 rfl) rfl rfl ?_
    refine G_aload_n (pc := 5) 0 X (dg dt_Q_gridAt 3 rfl) rfl rfl ?_
    refine G_getI (pc := 6) 8 X (dg dt_Q_gridAt 4 rfl) fc_7 w_194 rfl (Nat.le_of_ble_eq_true rfl) sh_0 rfl ?_
    refine G_icmp_ge (pc := 9) 30 X (dg dt_Q_gridAt 5 rfl) (by decide) h (fun h => ?_) (fun h => ?_)
    · exact G_wk (hj30_1  h) trivial
    · refine G_iload_n (pc := 12) 1 X (dg dt_Q_gridAt 6 rfl) rfl rfl ?_
      refine G_aload_n (pc := 13) 0 X (dg dt_Q_gridAt 7 rfl) rfl rfl ?_
      refine G_getR (pc := 14) 0 X (dg dt_Q_gridAt 8 rfl) fc_7 w_186 rfl (Nat.le_of_ble_eq_true rfl) sh_0 rfl ?_
      refine G_alenQ (pc := 17) 12 X (dg dt_Q_gridAt 9 rfl) sh_1 (by decide) ?_
      refine G_icmp_ge (pc := 18) 30 X (dg dt_Q_gridAt 10 rfl) (by decide) h (fun h => ?_) (fun h => ?_)
      · exact G_wk (hj30_1  h) trivial
      · refine G_aload_n (pc := 21) 0 X (dg dt_Q_gridAt 11 rfl) rfl rfl ?_
        refine G_getR (pc := 22) 0 X (dg dt_Q_gridAt 12 rfl) fc_7 w_186 rfl (Nat.le_of_ble_eq_true rfl) sh_0 rfl ?_
        refine G_iload_n (pc := 25) 1 X (dg dt_Q_gridAt 13 rfl) rfl rfl ?_
        refine G_gld (pc := 26) X (dg dt_Q_gridAt 14 rfl) h (fun g_2 hg_g_2 h => ?_)
        refine G_ifnonnull (pc := 27) 41 X (dg dt_Q_gridAt 15 rfl) (by decide) ?_
        refine G_aload_n (pc := 41) 0 X (dg dt_Q_gridAt 21 rfl) rfl rfl ?_
        refine G_getR (pc := 42) 0 X (dg dt_Q_gridAt 22 rfl) fc_7 w_186 rfl (Nat.le_of_ble_eq_true rfl) sh_0 rfl ?_
        refine G_iload_n (pc := 45) 1 X (dg dt_Q_gridAt 23 rfl) rfl rfl ?_
        refine G_gld (pc := 46) X (dg dt_Q_gridAt 24 rfl) h (fun g_3 hg_g_3 h => ?_)
        exact G_xaret (pc := 47) X hq (dg dt_Q_gridAt 25 rfl) h
set_option maxRecDepth 100000 in
set_option maxHeartbeats 4000000 in
theorem s_Q_needCell {l : Launch} (htr : l.stackTraces = false) (_ : Unit) (ad : Nat → Nat) (σ : St) (v0 : Nat) (v1 : Int32) (v2 : Int32) (hg_v0 : gok v0) {rv : Except Nat Unit} {σe : St} (h : f_Q_needCell σ v0 v1 v2 = some (rv, σe)) : RX l g_strs yX11_needCell cX11_needCell 3 none 6 100 (g_SH, ad) [.ref (ad v0), .int v1, .int v2] σ (xv rv) σe := by
  refine RX.intro htr (L := [some (.ref (ad v0)), some (.int v1), some (.int v2)]) (by decide +kernel) (Nat.le_of_ble_eq_true rfl) rfl (fun θ hl X hq => ?_)
  subst hl
  unfold f_Q_needCell at h
  refine G_aload_n (pc := 0) 0 X (dg dt_Q_needCell 0 rfl) rfl rfl ?_
  refine G_iload_n (pc := 1) 1 X (dg dt_Q_needCell 1 rfl) rfl rfl ?_
  refine G_iload_n (pc := 2) 2 X (dg dt_Q_needCell 2 rfl) rfl rfl ?_
  obtain ⟨r_2, hc_1, h⟩ := cap_go h
  refine G_callV (pc := 3) (S := []) [.int v1, .int v2] nosub X  (dg dt_Q_needCell 3 rfl) cb_Grid_has cv_Grid_has w_382 (s_Grid_has _ ad _ _ _ _ hg_v0 hc_1) rfl ⟨Nat.le_of_ble_eq_true rfl, Nat.le_of_ble_eq_true rfl⟩ (sh_g hg_v0) rfl (Nat.le_of_ble_eq_true rfl) Rc0 ?_
  refine G_if_ne (pc := 6) 20 X (dg dt_Q_needCell 4 rfl) (by decide) h (fun h => ?_) (fun h => ?_)
  · exact G_xvret (pc := 20) X hq (dg dt_Q_needCell 10 rfl) h
  · exact G_xthrow (pc := 9) (e := 1) (text := "there is no such row or column") X hq tw_254_258 (by decide) (dg dt_Q_needCell 5 rfl) (dg dt_Q_needCell 6 rfl) (dg dt_Q_needCell 7 rfl) (dg dt_Q_needCell 8 rfl) (dg dt_Q_needCell 9 rfl) h (Nat.le_of_ble_eq_true rfl) (Nat.le_of_ble_eq_true rfl)
set_option maxRecDepth 100000 in
set_option maxHeartbeats 4000000 in
theorem s_Q_isFrom (l : Launch) (ad : Nat → Nat) (σ : St) (v0 : Int32) (v1 : Int32) (v2 : Int32)  {rv : Int32} (h : f_Q_isFrom σ v0 v1 v2 = some rv) : Rt l [] yX11_isFrom cX11_isFrom 3 (some .boolean) 0 0 (g_SH, ad) [.int v0, .int v1, .int v2] σ (some (.int rv)) σ := by
  refine Rt.intro (L := [some (.int v0), some (.int v1), some (.int v2)]) (by decide +kernel) (Nat.le_of_ble_eq_true rfl) rfl (fun θ hl X hq => ?_)
  subst hl
  unfold f_Q_isFrom at h
  refine G_iload_n (pc := 0) 0 X (dg dt_Q_isFrom 0 rfl) rfl rfl ?_
  refine G_iload_n (pc := 1) 1 X (dg dt_Q_isFrom 1 rfl) rfl rfl ?_
  refine jn_go (fun j14_1 => j14_1 = some rv → G θ (0, 0) (g_SH, ad) σ 14 [none, none, none] []) h ?_ (fun j14_1 hj14_1 h => ?_)
  · intro  h
    refine G_iconst (pc := 14) 0 X (dg dt_Q_isFrom 8 rfl) (by decide) ?_
    exact G_zretlp (pc := 15) X hq (dg dt_Q_isFrom 9 rfl) rfl h
  refine G_icmp_lt (pc := 2) 14 X (dg dt_Q_isFrom 2 rfl) (by decide) h (fun h => ?_) (fun h => ?_)
  · exact G_wk (hj14_1  h) trivial
  · refine G_iload_n (pc := 5) 0 X (dg dt_Q_isFrom 3 rfl) rfl rfl ?_
    refine G_iload_n (pc := 6) 2 X (dg dt_Q_isFrom 4 rfl) rfl rfl ?_
    refine G_icmp_gt (pc := 7) 14 X (dg dt_Q_isFrom 5 rfl) (by decide) h (fun h => ?_) (fun h => ?_)
    · exact G_wk (hj14_1  h) trivial
    · refine G_iconst (pc := 10) 1 X (dg dt_Q_isFrom 6 rfl) (by decide) ?_
      refine G_goto (pc := 11) 15 X (dg dt_Q_isFrom 7 rfl) (by decide) ?_
      exact G_zretlp (pc := 15) X hq (dg dt_Q_isFrom 9 rfl) rfl h
set_option maxRecDepth 100000 in
set_option maxHeartbeats 4000000 in
theorem s_Q_needArgument {l : Launch} (htr : l.stackTraces = false) (_ : Unit) (ad : Nat → Nat) (σ : St) (v0 : Int32)  {rv : Except Nat Unit} {σe : St} (h : f_Q_needArgument σ v0 = some (rv, σe)) : RX l g_strs yX11_needArgument cX11_needArgument 1 none 6 100 (g_SH, ad) [.int v0] σ (xv rv) σe := by
  refine RX.intro htr (L := [some (.int v0)]) (by decide +kernel) (Nat.le_of_ble_eq_true rfl) rfl (fun θ hl X hq => ?_)
  subst hl
  unfold f_Q_needArgument at h
  refine G_iload_n (pc := 0) 0 X (dg dt_Q_needArgument 0 rfl) rfl rfl ?_
  refine G_if_ne (pc := 1) 15 X (dg dt_Q_needArgument 1 rfl) (by decide) h (fun h => ?_) (fun h => ?_)
  · exact G_xvret (pc := 15) X hq (dg dt_Q_needArgument 7 rfl) h
  · exact G_xthrow (pc := 4) (e := 2) (text := "an argument does not fit") X hq tw_274_278 (by decide) (dg dt_Q_needArgument 2 rfl) (dg dt_Q_needArgument 3 rfl) (dg dt_Q_needArgument 4 rfl) (dg dt_Q_needArgument 5 rfl) (dg dt_Q_needArgument 6 rfl) h (Nat.le_of_ble_eq_true rfl) (Nat.le_of_ble_eq_true rfl)
set_option maxRecDepth 100000 in
set_option maxHeartbeats 4000000 in
theorem s_Q_needState {l : Launch} (htr : l.stackTraces = false) (_ : Unit) (ad : Nat → Nat) (σ : St) (v0 : Int32)  {rv : Except Nat Unit} {σe : St} (h : f_Q_needState σ v0 = some (rv, σe)) : RX l g_strs yX11_needState cX11_needState 1 none 6 100 (g_SH, ad) [.int v0] σ (xv rv) σe := by
  refine RX.intro htr (L := [some (.int v0)]) (by decide +kernel) (Nat.le_of_ble_eq_true rfl) rfl (fun θ hl X hq => ?_)
  subst hl
  unfold f_Q_needState at h
  refine G_iload_n (pc := 0) 0 X (dg dt_Q_needState 0 rfl) rfl rfl ?_
  refine G_if_ne (pc := 1) 15 X (dg dt_Q_needState 1 rfl) (by decide) h (fun h => ?_) (fun h => ?_)
  · exact G_xvret (pc := 15) X hq (dg dt_Q_needState 7 rfl) h
  · exact G_xthrow (pc := 4) (e := 3) (text := "the grove does not allow it") X hq tw_261_265 (by decide) (dg dt_Q_needState 2 rfl) (dg dt_Q_needState 3 rfl) (dg dt_Q_needState 4 rfl) (dg dt_Q_needState 5 rfl) (dg dt_Q_needState 6 rfl) h (Nat.le_of_ble_eq_true rfl) (Nat.le_of_ble_eq_true rfl)
set_option maxRecDepth 100000 in
set_option maxHeartbeats 4000000 in
theorem s_Q_put {l : Launch} (htr : l.stackTraces = false) (_ : Unit) (ad : Nat → Nat) (σ : St) (v1 : Int32) (v2 : Int32) (v3 : Int32) (v4 : Int32)  {rv : Except Nat Int32} {σe : St} (h : f_Q_put σ v1 v2 v3 v4 = some (rv, σe)) : RX l g_strs yX11_put cX11_put 7 (some .int) 7 122 (g_SH, ad) [.ref (ad 0), .int v1, .int v2, .int v3, .int v4] σ (xi rv) σe := by
  refine RX.intro htr (L := [some (.ref (ad 0)), some (.int v1), some (.int v2), some (.int v3), some (.int v4), none, none]) (by decide +kernel) (Nat.le_of_ble_eq_true rfl) rfl (fun θ hl X hq => ?_)
  subst hl
  unfold f_Q_put at h
  refine G_aload_n (pc := 0) 0 X (dg dt_Q_put 0 rfl) rfl rfl ?_
  refine G_iload_n (pc := 1) 1 X (dg dt_Q_put 1 rfl) rfl rfl ?_
  refine cax_go h (fun ex hc_1 hex => by subst hex; exact G_callVX (pc := 2) (S := []) [.int v1] (fun _ h => h) X hq (dg dt_Q_put 2 rfl) cb_Q_gridAt cv_Q_gridAt w_348 (s_Q_gridAt htr () ad _ _ hc_1) rfl ⟨Nat.le_of_ble_eq_true rfl, Nat.le_of_ble_eq_true rfl⟩ sh_0 rfl (Nat.le_of_ble_eq_true rfl)) (fun r_2 σ_3 hc_1 h => ?_)
  have hg_r_2 := gk_of_Q_gridAt hc_1
  refine G_callV (pc := 2) (S := []) [.int v1] (fun _ h => h) X  (dg dt_Q_put 2 rfl) cb_Q_gridAt cv_Q_gridAt w_348 (s_Q_gridAt htr () ad _ _ hc_1) rfl ⟨Nat.le_of_ble_eq_true rfl, Nat.le_of_ble_eq_true rfl⟩ sh_0 rfl (Nat.le_of_ble_eq_true rfl) Rc0 ?_
  refine G_astore (pc := 5) X (dg dt_Q_put 3 rfl) (Nat.le_of_ble_eq_true rfl) rfl ?_
  refine G_aload (pc := 7) X (dg dt_Q_put 4 rfl) rfl ?_
  refine G_iload_n (pc := 9) 2 X (dg dt_Q_put 5 rfl) rfl rfl ?_
  refine G_iload_n (pc := 10) 3 X (dg dt_Q_put 6 rfl) rfl rfl ?_
  refine cax_go h (fun ex hc_4 hex => by subst hex; exact G_callSX (pc := 11) (S := []) [.ref (ad r_2), .int v2, .int v3] (fun _ h => h) X hq (dg dt_Q_put 7 rfl) cb_Q_needCell w_380 w_379 (s_Q_needCell htr () ad _ _ _ _ hg_r_2 hc_4) rfl ⟨Nat.le_of_ble_eq_true rfl, Nat.le_of_ble_eq_true rfl⟩  (Nat.le_of_ble_eq_true rfl)) (fun r_5 σ_6 hc_4 h => ?_)
  refine G_callS (pc := 11) (S := []) [.ref (ad r_2), .int v2, .int v3] (fun _ h => h) X  (dg dt_Q_put 7 rfl) cb_Q_needCell w_380 w_379 (s_Q_needCell htr () ad _ _ _ _ hg_r_2 hc_4) rfl ⟨Nat.le_of_ble_eq_true rfl, Nat.le_of_ble_eq_true rfl⟩  (Nat.le_of_ble_eq_true rfl) Rc0 ?_
  refine G_iload (pc := 14) X (dg dt_Q_put 8 rfl) rfl ?_
  refine G_iconst (pc := 16) (-1) X (dg dt_Q_put 9 rfl) (by decide) ?_
  refine G_aload (pc := 17) X (dg dt_Q_put 10 rfl) rfl ?_
  refine G_getIN (pc := 19) 3 X (dg dt_Q_put 11 rfl) fc_0 w_43 rfl (Nat.le_of_ble_eq_true rfl) (sh_g hg_r_2) rfl ?_
  refine G_iconst (pc := 22) 1 X (dg dt_Q_put 12 rfl) (by decide) ?_
  refine G_isub (pc := 23) X (dg dt_Q_put 13 rfl) ?_
  obtain ⟨r_8, hc_7, h⟩ := cap_go h
  refine G_callS (pc := 24) (S := []) [.int v4, .int (-1), .int ((σ_6 r_2 3) - 1)] nosub X  (dg dt_Q_put 14 rfl) cb_Q_isFrom w_219 w_218 (s_Q_isFrom _ ad _ _ _ _ hc_7) rfl ⟨Nat.le_of_ble_eq_true rfl, Nat.le_of_ble_eq_true rfl⟩  (Nat.le_of_ble_eq_true rfl) Rc0 ?_
  refine cax_go h (fun ex hc_9 hex => by subst hex; exact G_callSX (pc := 27) (S := []) [.int r_8] (fun _ h => h) X hq (dg dt_Q_put 15 rfl) cb_Q_needArgument w_222 w_221 (s_Q_needArgument htr () ad _ _ hc_9) rfl ⟨Nat.le_of_ble_eq_true rfl, Nat.le_of_ble_eq_true rfl⟩  (Nat.le_of_ble_eq_true rfl)) (fun r_10 σ_11 hc_9 h => ?_)
  refine G_callS (pc := 27) (S := []) [.int r_8] (fun _ h => h) X  (dg dt_Q_put 15 rfl) cb_Q_needArgument w_222 w_221 (s_Q_needArgument htr () ad _ _ hc_9) rfl ⟨Nat.le_of_ble_eq_true rfl, Nat.le_of_ble_eq_true rfl⟩  (Nat.le_of_ble_eq_true rfl) Rc0 ?_
  refine G_aload (pc := 30) X (dg dt_Q_put 16 rfl) rfl ?_
  refine G_iload_n (pc := 32) 2 X (dg dt_Q_put 17 rfl) rfl rfl ?_
  refine G_iload_n (pc := 33) 3 X (dg dt_Q_put 18 rfl) rfl rfl ?_
  obtain ⟨r_13, hc_12, h⟩ := cap_go h
  refine G_callV (pc := 34) (S := []) [.int v2, .int v3] nosub X  (dg dt_Q_put 19 rfl) cb_Grid_signAt cv_Grid_signAt w_368 (s_Grid_signAt _ ad _ _ _ _ hg_r_2 hc_12) rfl ⟨Nat.le_of_ble_eq_true rfl, Nat.le_of_ble_eq_true rfl⟩ (sh_g hg_r_2) rfl (Nat.le_of_ble_eq_true rfl) Rc0 ?_
  refine G_istore (pc := 37) X (dg dt_Q_put 20 rfl) (Nat.le_of_ble_eq_true rfl) rfl ?_
  refine G_iload (pc := 39) X (dg dt_Q_put 21 rfl) rfl ?_
  refine G_iload (pc := 41) X (dg dt_Q_put 22 rfl) rfl ?_
  refine jn_go (fun j75_14 => ∀ (σ_15 : St), j75_14 σ_15 = some (rv, σe) → G θ (0, 0) (g_SH, ad) σ_15 75 [none, none, none, none, none, none, some (.int r_13)] []) h ?_ (fun j75_14 hj75_14 h => ?_)
  · intro σ_15 h
    refine G_iload (pc := 75) X (dg dt_Q_put 39 rfl) rfl ?_
    exact G_xiret (pc := 77) X hq (dg dt_Q_put 40 rfl) h
  refine G_icmp_eq (pc := 43) 75 X (dg dt_Q_put 23 rfl) (by decide) h (fun h => ?_) (fun h => ?_)
  · exact G_wk (hj75_14 σ_11 h) ⟨rfl, trivial⟩
  · refine G_aload (pc := 46) X (dg dt_Q_put 24 rfl) rfl ?_
    refine G_iload_n (pc := 48) 2 X (dg dt_Q_put 25 rfl) rfl rfl ?_
    refine G_iload_n (pc := 49) 3 X (dg dt_Q_put 26 rfl) rfl rfl ?_
    refine G_iload (pc := 50) X (dg dt_Q_put 27 rfl) rfl ?_
    obtain ⟨r_17, hc_16, h⟩ := cap_go h
    refine G_callV (pc := 52) (S := []) [.int v2, .int v3, .int v4] nosub X  (dg dt_Q_put 28 rfl) cb_Grid_hasInLines cv_Grid_hasInLines w_479 (s_Grid_hasInLines _ ad _ _ _ _ _ hg_r_2 hc_16) rfl ⟨Nat.le_of_ble_eq_true rfl, Nat.le_of_ble_eq_true rfl⟩ (sh_g hg_r_2) rfl (Nat.le_of_ble_eq_true rfl) Rc0 ?_
    refine jn_go (fun j63_18 => ∀ (s_19 : Int32), j63_18 s_19 = some (rv, σe) → G θ (0, 0) (g_SH, ad) σ_11 63 [none, none, some (.int v2), some (.int v3), some (.int v4), some (.ref (ad r_2)), some (.int r_13)] [.int s_19]) h ?_ (fun j63_18 hj63_18 h => ?_)
    · intro s_19 h
      refine cax_go h (fun ex hc_20 hex => by subst hex; exact G_callSX (pc := 63) (S := []) [.int s_19] (fun _ h => h) X hq (dg dt_Q_put 33 rfl) cb_Q_needState w_485 w_484 (s_Q_needState htr () ad _ _ hc_20) rfl ⟨Nat.le_of_ble_eq_true rfl, Nat.le_of_ble_eq_true rfl⟩  (Nat.le_of_ble_eq_true rfl)) (fun r_21 σ_22 hc_20 h => ?_)
      refine G_callS (pc := 63) (S := []) [.int s_19] (fun _ h => h) X  (dg dt_Q_put 33 rfl) cb_Q_needState w_485 w_484 (s_Q_needState htr () ad _ _ hc_20) rfl ⟨Nat.le_of_ble_eq_true rfl, Nat.le_of_ble_eq_true rfl⟩  (Nat.le_of_ble_eq_true rfl) Rc0 ?_
      refine G_aload (pc := 66) X (dg dt_Q_put 34 rfl) rfl ?_
      refine G_iload_n (pc := 68) 2 X (dg dt_Q_put 35 rfl) rfl rfl ?_
      refine G_iload_n (pc := 69) 3 X (dg dt_Q_put 36 rfl) rfl rfl ?_
      refine G_iload (pc := 70) X (dg dt_Q_put 37 rfl) rfl ?_
      obtain ⟨r_24, σ_25, hc_23, h⟩ := cal_go h
      refine G_callV (pc := 72) (S := []) [.int v2, .int v3, .int v4] nosub X  (dg dt_Q_put 38 rfl) cb_Grid_set cv_Grid_set w_332 (s_Grid_set _ ad _ _ _ _ _ hg_r_2 hc_23) rfl ⟨Nat.le_of_ble_eq_true rfl, Nat.le_of_ble_eq_true rfl⟩ (sh_g hg_r_2) rfl (Nat.le_of_ble_eq_true rfl) Rc0 ?_
      exact G_wk (hj75_14 σ_25 h) ⟨rfl, trivial⟩
    refine G_if_ne (pc := 55) 62 X (dg dt_Q_put 29 rfl) (by decide) h (fun h => ?_) (fun h => ?_)
    · refine G_iconst (pc := 62) 0 X (dg dt_Q_put 32 rfl) (by decide) ?_
      exact G_wk (hj63_18 0 h) ⟨rfl, ⟨rfl, ⟨rfl, ⟨rfl, ⟨rfl, trivial⟩⟩⟩⟩⟩
    · refine G_iconst (pc := 58) 1 X (dg dt_Q_put 30 rfl) (by decide) ?_
      refine G_goto (pc := 59) 63 X (dg dt_Q_put 31 rfl) (by decide) ?_
      exact G_wk (hj63_18 1 h) ⟨rfl, ⟨rfl, ⟨rfl, ⟨rfl, ⟨rfl, trivial⟩⟩⟩⟩⟩
set_option maxRecDepth 100000 in
set_option maxHeartbeats 4000000 in
theorem s_Q_turn {l : Launch} (htr : l.stackTraces = false) (_ : Unit) (ad : Nat → Nat) (σ : St) (v1 : Int32) (v2 : Int32) (v3 : Int32) (v4 : Int32)  {rv : Except Nat Int32} {σe : St} (h : f_Q_turn σ v1 v2 v3 v4 = some (rv, σe)) : RX l g_strs yX11_turn cX11_turn 6 (some .int) 7 122 (g_SH, ad) [.ref (ad 0), .int v1, .int v2, .int v3, .int v4] σ (xi rv) σe := by
  refine RX.intro htr (L := [some (.ref (ad 0)), some (.int v1), some (.int v2), some (.int v3), some (.int v4), none]) (by decide +kernel) (Nat.le_of_ble_eq_true rfl) rfl (fun θ hl X hq => ?_)
  subst hl
  unfold f_Q_turn at h
  refine G_aload_n (pc := 0) 0 X (dg dt_Q_turn 0 rfl) rfl rfl ?_
  refine G_iload_n (pc := 1) 1 X (dg dt_Q_turn 1 rfl) rfl rfl ?_
  refine cax_go h (fun ex hc_1 hex => by subst hex; exact G_callVX (pc := 2) (S := []) [.int v1] (fun _ h => h) X hq (dg dt_Q_turn 2 rfl) cb_Q_gridAt cv_Q_gridAt w_348 (s_Q_gridAt htr () ad _ _ hc_1) rfl ⟨Nat.le_of_ble_eq_true rfl, Nat.le_of_ble_eq_true rfl⟩ sh_0 rfl (Nat.le_of_ble_eq_true rfl)) (fun r_2 σ_3 hc_1 h => ?_)
  have hg_r_2 := gk_of_Q_gridAt hc_1
  refine G_callV (pc := 2) (S := []) [.int v1] (fun _ h => h) X  (dg dt_Q_turn 2 rfl) cb_Q_gridAt cv_Q_gridAt w_348 (s_Q_gridAt htr () ad _ _ hc_1) rfl ⟨Nat.le_of_ble_eq_true rfl, Nat.le_of_ble_eq_true rfl⟩ sh_0 rfl (Nat.le_of_ble_eq_true rfl) Rc0 ?_
  refine G_astore (pc := 5) X (dg dt_Q_turn 3 rfl) (Nat.le_of_ble_eq_true rfl) rfl ?_
  refine G_aload (pc := 7) X (dg dt_Q_turn 4 rfl) rfl ?_
  refine G_iload_n (pc := 9) 2 X (dg dt_Q_turn 5 rfl) rfl rfl ?_
  refine G_iload (pc := 10) X (dg dt_Q_turn 6 rfl) rfl ?_
  refine cax_go h (fun ex hc_4 hex => by subst hex; exact G_callSX (pc := 12) (S := []) [.ref (ad r_2), .int v2, .int v4] (fun _ h => h) X hq (dg dt_Q_turn 7 rfl) cb_Q_needCell w_380 w_379 (s_Q_needCell htr () ad _ _ _ _ hg_r_2 hc_4) rfl ⟨Nat.le_of_ble_eq_true rfl, Nat.le_of_ble_eq_true rfl⟩  (Nat.le_of_ble_eq_true rfl)) (fun r_5 σ_6 hc_4 h => ?_)
  refine G_callS (pc := 12) (S := []) [.ref (ad r_2), .int v2, .int v4] (fun _ h => h) X  (dg dt_Q_turn 7 rfl) cb_Q_needCell w_380 w_379 (s_Q_needCell htr () ad _ _ _ _ hg_r_2 hc_4) rfl ⟨Nat.le_of_ble_eq_true rfl, Nat.le_of_ble_eq_true rfl⟩  (Nat.le_of_ble_eq_true rfl) Rc0 ?_
  refine G_aload (pc := 15) X (dg dt_Q_turn 8 rfl) rfl ?_
  refine G_iload_n (pc := 17) 3 X (dg dt_Q_turn 9 rfl) rfl rfl ?_
  refine G_iload (pc := 18) X (dg dt_Q_turn 10 rfl) rfl ?_
  refine cax_go h (fun ex hc_7 hex => by subst hex; exact G_callSX (pc := 20) (S := []) [.ref (ad r_2), .int v3, .int v4] (fun _ h => h) X hq (dg dt_Q_turn 11 rfl) cb_Q_needCell w_380 w_379 (s_Q_needCell htr () ad _ _ _ _ hg_r_2 hc_7) rfl ⟨Nat.le_of_ble_eq_true rfl, Nat.le_of_ble_eq_true rfl⟩  (Nat.le_of_ble_eq_true rfl)) (fun r_8 σ_9 hc_7 h => ?_)
  refine G_callS (pc := 20) (S := []) [.ref (ad r_2), .int v3, .int v4] (fun _ h => h) X  (dg dt_Q_turn 11 rfl) cb_Q_needCell w_380 w_379 (s_Q_needCell htr () ad _ _ _ _ hg_r_2 hc_7) rfl ⟨Nat.le_of_ble_eq_true rfl, Nat.le_of_ble_eq_true rfl⟩  (Nat.le_of_ble_eq_true rfl) Rc0 ?_
  refine G_iload_n (pc := 23) 2 X (dg dt_Q_turn 12 rfl) rfl rfl ?_
  refine G_iload_n (pc := 24) 3 X (dg dt_Q_turn 13 rfl) rfl rfl ?_
  refine jn_go (fun j33_10 => ∀ (s_11 : Int32), j33_10 s_11 = some (rv, σe) → G θ (0, 0) (g_SH, ad) σ_9 33 [none, none, some (.int v2), some (.int v3), some (.int v4), some (.ref (ad r_2))] [.int s_11]) h ?_ (fun j33_10 hj33_10 h => ?_)
  · intro s_11 h
    refine cax_go h (fun ex hc_12 hex => by subst hex; exact G_callSX (pc := 33) (S := []) [.int s_11] (fun _ h => h) X hq (dg dt_Q_turn 18 rfl) cb_Q_needArgument w_222 w_221 (s_Q_needArgument htr () ad _ _ hc_12) rfl ⟨Nat.le_of_ble_eq_true rfl, Nat.le_of_ble_eq_true rfl⟩  (Nat.le_of_ble_eq_true rfl)) (fun r_13 σ_14 hc_12 h => ?_)
    refine G_callS (pc := 33) (S := []) [.int s_11] (fun _ h => h) X  (dg dt_Q_turn 18 rfl) cb_Q_needArgument w_222 w_221 (s_Q_needArgument htr () ad _ _ hc_12) rfl ⟨Nat.le_of_ble_eq_true rfl, Nat.le_of_ble_eq_true rfl⟩  (Nat.le_of_ble_eq_true rfl) Rc0 ?_
    refine G_aload (pc := 36) X (dg dt_Q_turn 19 rfl) rfl ?_
    refine G_iload_n (pc := 38) 2 X (dg dt_Q_turn 20 rfl) rfl rfl ?_
    obtain ⟨r_16, hc_15, h⟩ := cap_go h
    refine G_callV (pc := 39) (S := []) [.int v2] nosub X  (dg dt_Q_turn 21 rfl) cb_Grid_isRowFull cv_Grid_isRowFull w_492 (s_Grid_isRowFull _ ad _ _ _ hg_r_2 hc_15) rfl ⟨Nat.le_of_ble_eq_true rfl, Nat.le_of_ble_eq_true rfl⟩ (sh_g hg_r_2) rfl (Nat.le_of_ble_eq_true rfl) Rc0 ?_
    refine jn_go (fun j59_17 => ∀ (s_18 : Int32), j59_17 s_18 = some (rv, σe) → G θ (0, 0) (g_SH, ad) σ_14 59 [none, none, some (.int v2), some (.int v3), some (.int v4), some (.ref (ad r_2))] [.int s_18]) h ?_ (fun j59_17 hj59_17 h => ?_)
    · intro s_18 h
      refine cax_go h (fun ex hc_19 hex => by subst hex; exact G_callSX (pc := 59) (S := []) [.int s_18] (fun _ h => h) X hq (dg dt_Q_turn 30 rfl) cb_Q_needState w_485 w_484 (s_Q_needState htr () ad _ _ hc_19) rfl ⟨Nat.le_of_ble_eq_true rfl, Nat.le_of_ble_eq_true rfl⟩  (Nat.le_of_ble_eq_true rfl)) (fun r_20 σ_21 hc_19 h => ?_)
      refine G_callS (pc := 59) (S := []) [.int s_18] (fun _ h => h) X  (dg dt_Q_turn 30 rfl) cb_Q_needState w_485 w_484 (s_Q_needState htr () ad _ _ hc_19) rfl ⟨Nat.le_of_ble_eq_true rfl, Nat.le_of_ble_eq_true rfl⟩  (Nat.le_of_ble_eq_true rfl) Rc0 ?_
      refine G_aload (pc := 62) X (dg dt_Q_turn 31 rfl) rfl ?_
      refine G_iload_n (pc := 64) 2 X (dg dt_Q_turn 32 rfl) rfl rfl ?_
      refine G_iload_n (pc := 65) 3 X (dg dt_Q_turn 33 rfl) rfl rfl ?_
      refine G_iload (pc := 66) X (dg dt_Q_turn 34 rfl) rfl ?_
      obtain ⟨r_23, σ_24, hc_22, h⟩ := cal_go h
      refine G_callV (pc := 68) (S := []) [.int v2, .int v3, .int v4] nosub X  (dg dt_Q_turn 35 rfl) cb_Grid_turnRows cv_Grid_turnRows w_496 (s_Grid_turnRows _ ad _ _ _ _ _ hg_r_2 hc_22) rfl ⟨Nat.le_of_ble_eq_true rfl, Nat.le_of_ble_eq_true rfl⟩ (sh_g hg_r_2) rfl (Nat.le_of_ble_eq_true rfl) Rc0 ?_
      exact G_xiret (pc := 71) X hq (dg dt_Q_turn 36 rfl) h
    refine jn_go (fun j58_25 => j58_25 = some (rv, σe) → G θ (0, 0) (g_SH, ad) σ_14 58 [none, none, some (.int v2), some (.int v3), some (.int v4), some (.ref (ad r_2))] []) h ?_ (fun j58_25 hj58_25 h => ?_)
    · intro  h
      refine G_iconst (pc := 58) 0 X (dg dt_Q_turn 29 rfl) (by decide) ?_
      exact G_wk (hj59_17 0 h) ⟨rfl, ⟨rfl, ⟨rfl, ⟨rfl, trivial⟩⟩⟩⟩
    refine G_if_eq (pc := 42) 58 X (dg dt_Q_turn 22 rfl) (by decide) h (fun h => ?_) (fun h => ?_)
    · exact G_wk (hj58_25  h) ⟨rfl, ⟨rfl, ⟨rfl, ⟨rfl, trivial⟩⟩⟩⟩
    · refine G_aload (pc := 45) X (dg dt_Q_turn 23 rfl) rfl ?_
      refine G_iload_n (pc := 47) 3 X (dg dt_Q_turn 24 rfl) rfl rfl ?_
      obtain ⟨r_27, hc_26, h⟩ := cap_go h
      refine G_callV (pc := 48) (S := []) [.int v3] nosub X  (dg dt_Q_turn 25 rfl) cb_Grid_isRowFull cv_Grid_isRowFull w_492 (s_Grid_isRowFull _ ad _ _ _ hg_r_2 hc_26) rfl ⟨Nat.le_of_ble_eq_true rfl, Nat.le_of_ble_eq_true rfl⟩ (sh_g hg_r_2) rfl (Nat.le_of_ble_eq_true rfl) Rc0 ?_
      refine G_if_eq (pc := 51) 58 X (dg dt_Q_turn 26 rfl) (by decide) h (fun h => ?_) (fun h => ?_)
      · exact G_wk (hj58_25  h) ⟨rfl, ⟨rfl, ⟨rfl, ⟨rfl, trivial⟩⟩⟩⟩
      · refine G_iconst (pc := 54) 1 X (dg dt_Q_turn 27 rfl) (by decide) ?_
        refine G_goto (pc := 55) 59 X (dg dt_Q_turn 28 rfl) (by decide) ?_
        exact G_wk (hj59_17 1 h) ⟨rfl, ⟨rfl, ⟨rfl, ⟨rfl, trivial⟩⟩⟩⟩
  refine G_icmp_eq (pc := 25) 32 X (dg dt_Q_turn 14 rfl) (by decide) h (fun h => ?_) (fun h => ?_)
  · refine G_iconst (pc := 32) 0 X (dg dt_Q_turn 17 rfl) (by decide) ?_
    exact G_wk (hj33_10 0 h) ⟨rfl, ⟨rfl, ⟨rfl, ⟨rfl, trivial⟩⟩⟩⟩
  · refine G_iconst (pc := 28) 1 X (dg dt_Q_turn 15 rfl) (by decide) ?_
    refine G_goto (pc := 29) 33 X (dg dt_Q_turn 16 rfl) (by decide) ?_
    exact G_wk (hj33_10 1 h) ⟨rfl, ⟨rfl, ⟨rfl, ⟨rfl, trivial⟩⟩⟩⟩
set_option maxRecDepth 100000 in
set_option maxHeartbeats 4000000 in
theorem s_Q_logic {l : Launch} (htr : l.stackTraces = false) (_ : Unit) (ad : Nat → Nat) (σ : St) (v1 : Int32)  {rv : Except Nat Int32} {σe : St} (h : f_Q_logic σ v1 = some (rv, σe)) : RX l g_strs yX11_logic cX11_logic 2 (some .int) 7 158 (g_SH, ad) [.ref (ad 0), .int v1] σ (xi rv) σe := by
  refine RX.intro htr (L := [some (.ref (ad 0)), some (.int v1)]) (by decide +kernel) (Nat.le_of_ble_eq_true rfl) rfl (fun θ hl X hq => ?_)
  subst hl
  unfold f_Q_logic at h
  refine G_aload_n (pc := 0) 0 X (dg dt_Q_logic 0 rfl) rfl rfl ?_
  refine G_getR (pc := 1) 1 X (dg dt_Q_logic 1 rfl) fc_7 w_187 rfl (Nat.le_of_ble_eq_true rfl) sh_0 rfl ?_
  refine G_aload_n (pc := 4) 0 X (dg dt_Q_logic 2 rfl) rfl rfl ?_
  refine G_iload_n (pc := 5) 1 X (dg dt_Q_logic 3 rfl) rfl rfl ?_
  refine cax_go h (fun ex hc_1 hex => by subst hex; exact G_callVX (pc := 6) (S := [.ref (ad 2)]) [.int v1] (fun _ h => h) X hq (dg dt_Q_logic 4 rfl) cb_Q_gridAt cv_Q_gridAt w_348 (s_Q_gridAt htr () ad _ _ hc_1) rfl ⟨Nat.le_of_ble_eq_true rfl, Nat.le_of_ble_eq_true rfl⟩ sh_0 rfl (Nat.le_of_ble_eq_true rfl)) (fun r_2 σ_3 hc_1 h => ?_)
  have hg_r_2 := gk_of_Q_gridAt hc_1
  refine G_callV (pc := 6) (S := [.ref (ad 2)]) [.int v1] (fun _ h => h) X  (dg dt_Q_logic 4 rfl) cb_Q_gridAt cv_Q_gridAt w_348 (s_Q_gridAt htr () ad _ _ hc_1) rfl ⟨Nat.le_of_ble_eq_true rfl, Nat.le_of_ble_eq_true rfl⟩ sh_0 rfl (Nat.le_of_ble_eq_true rfl) Rc0 ?_
  obtain ⟨r_5, σ_6, hc_4, h⟩ := cal_go h
  refine G_callV (pc := 9) (S := []) [.ref (ad r_2)] nosub X  (dg dt_Q_logic 5 rfl) cb_Grid_copy cv_Grid_copy w_449 (s_Grid_copy _ ad _ _ _ gk_2 hg_r_2 hc_4) rfl ⟨Nat.le_of_ble_eq_true rfl, Nat.le_of_ble_eq_true rfl⟩ (sh_g gk_2) rfl (Nat.le_of_ble_eq_true rfl) Rc0 ?_
  refine G_aload_n (pc := 12) 0 X (dg dt_Q_logic 6 rfl) rfl rfl ?_
  refine G_getR (pc := 13) 1 X (dg dt_Q_logic 7 rfl) fc_7 w_187 rfl (Nat.le_of_ble_eq_true rfl) sh_0 rfl ?_
  obtain ⟨r_8, σ_9, hc_7, h⟩ := cal_go h
  refine G_callS (pc := 16) (S := []) [.ref (ad 2)] nosub X  (dg dt_Q_logic 8 rfl) cb_Filling_fillForced w_454 w_453 (s_Filling_fillForced _ ad _ _ gk_2 hc_7) rfl ⟨Nat.le_of_ble_eq_true rfl, Nat.le_of_ble_eq_true rfl⟩  (Nat.le_of_ble_eq_true rfl) Rc0 ?_
  exact G_xiret (pc := 19) X hq (dg dt_Q_logic 9 rfl) h
set_option maxRecDepth 100000 in
set_option maxHeartbeats 4000000 in
theorem s_Q_forced {l : Launch} (htr : l.stackTraces = false) (_ : Unit) (ad : Nat → Nat) (σ : St) (v1 : Int32)  {rv : Except Nat Int32} {σe : St} (h : f_Q_forced σ v1 = some (rv, σe)) : RX l g_strs yX11_forced cX11_forced 3 (some .int) 7 136 (g_SH, ad) [.ref (ad 0), .int v1] σ (xi rv) σe := by
  refine RX.intro htr (L := [some (.ref (ad 0)), some (.int v1), none]) (by decide +kernel) (Nat.le_of_ble_eq_true rfl) rfl (fun θ hl X hq => ?_)
  subst hl
  unfold f_Q_forced at h
  refine G_aload_n (pc := 0) 0 X (dg dt_Q_forced 0 rfl) rfl rfl ?_
  refine G_iload_n (pc := 1) 1 X (dg dt_Q_forced 1 rfl) rfl rfl ?_
  refine cax_go h (fun ex hc_1 hex => by subst hex; exact G_callVX (pc := 2) (S := []) [.int v1] (fun _ h => h) X hq (dg dt_Q_forced 2 rfl) cb_Q_gridAt cv_Q_gridAt w_348 (s_Q_gridAt htr () ad _ _ hc_1) rfl ⟨Nat.le_of_ble_eq_true rfl, Nat.le_of_ble_eq_true rfl⟩ sh_0 rfl (Nat.le_of_ble_eq_true rfl)) (fun r_2 σ_3 hc_1 h => ?_)
  have hg_r_2 := gk_of_Q_gridAt hc_1
  refine G_callV (pc := 2) (S := []) [.int v1] (fun _ h => h) X  (dg dt_Q_forced 2 rfl) cb_Q_gridAt cv_Q_gridAt w_348 (s_Q_gridAt htr () ad _ _ hc_1) rfl ⟨Nat.le_of_ble_eq_true rfl, Nat.le_of_ble_eq_true rfl⟩ sh_0 rfl (Nat.le_of_ble_eq_true rfl) Rc0 ?_
  refine G_astore_n (pc := 5) 2 X (dg dt_Q_forced 3 rfl) rfl (Nat.le_of_ble_eq_true rfl) rfl ?_
  refine G_aload_n (pc := 6) 2 X (dg dt_Q_forced 4 rfl) rfl rfl ?_
  obtain ⟨r_5, hc_4, h⟩ := cap_go h
  refine G_callS (pc := 7) (S := []) [.ref (ad r_2)] nosub X  (dg dt_Q_forced 5 rfl) cb_Filling_firstForced w_415 w_414 (s_Filling_firstForced _ ad _ _ hg_r_2 hc_4) rfl ⟨Nat.le_of_ble_eq_true rfl, Nat.le_of_ble_eq_true rfl⟩  (Nat.le_of_ble_eq_true rfl) Rc0 ?_
  refine G_aload_n (pc := 10) 2 X (dg dt_Q_forced 6 rfl) rfl rfl ?_
  refine G_getIN (pc := 11) 3 X (dg dt_Q_forced 7 rfl) fc_0 w_43 rfl (Nat.le_of_ble_eq_true rfl) (sh_g hg_r_2) rfl ?_
  obtain ⟨r_7, hc_6, h⟩ := cap_go h
  refine G_callS (pc := 14) (S := []) [.int r_5, .int (σ_3 r_2 3)] nosub X  (dg dt_Q_forced 8 rfl) cb_Move_told w_434 w_433 (s_Move_told _ ad _ _ _ hc_6) rfl ⟨Nat.le_of_ble_eq_true rfl, Nat.le_of_ble_eq_true rfl⟩  (Nat.le_of_ble_eq_true rfl) Rc0 ?_
  exact G_xiret (pc := 17) X hq (dg dt_Q_forced 9 rfl) h
set_option maxRecDepth 100000 in
set_option maxHeartbeats 4000000 in
theorem s_Q_can {l : Launch} (htr : l.stackTraces = false) (_ : Unit) (ad : Nat → Nat) (σ : St) (v1 : Int32) (v2 : Int32) (v3 : Int32)  {rv : Except Nat Int32} {σe : St} (h : f_Q_can σ v1 v2 v3 = some (rv, σe)) : RX l g_strs yX11_can cX11_can 5 (some .int) 7 122 (g_SH, ad) [.ref (ad 0), .int v1, .int v2, .int v3] σ (xi rv) σe := by
  refine RX.intro htr (L := [some (.ref (ad 0)), some (.int v1), some (.int v2), some (.int v3), none]) (by decide +kernel) (Nat.le_of_ble_eq_true rfl) rfl (fun θ hl X hq => ?_)
  subst hl
  unfold f_Q_can at h
  refine G_aload_n (pc := 0) 0 X (dg dt_Q_can 0 rfl) rfl rfl ?_
  refine G_iload_n (pc := 1) 1 X (dg dt_Q_can 1 rfl) rfl rfl ?_
  refine cax_go h (fun ex hc_1 hex => by subst hex; exact G_callVX (pc := 2) (S := []) [.int v1] (fun _ h => h) X hq (dg dt_Q_can 2 rfl) cb_Q_gridAt cv_Q_gridAt w_348 (s_Q_gridAt htr () ad _ _ hc_1) rfl ⟨Nat.le_of_ble_eq_true rfl, Nat.le_of_ble_eq_true rfl⟩ sh_0 rfl (Nat.le_of_ble_eq_true rfl)) (fun r_2 σ_3 hc_1 h => ?_)
  have hg_r_2 := gk_of_Q_gridAt hc_1
  refine G_callV (pc := 2) (S := []) [.int v1] (fun _ h => h) X  (dg dt_Q_can 2 rfl) cb_Q_gridAt cv_Q_gridAt w_348 (s_Q_gridAt htr () ad _ _ hc_1) rfl ⟨Nat.le_of_ble_eq_true rfl, Nat.le_of_ble_eq_true rfl⟩ sh_0 rfl (Nat.le_of_ble_eq_true rfl) Rc0 ?_
  refine G_astore (pc := 5) X (dg dt_Q_can 3 rfl) (Nat.le_of_ble_eq_true rfl) rfl ?_
  refine G_aload (pc := 7) X (dg dt_Q_can 4 rfl) rfl ?_
  refine G_iload_n (pc := 9) 2 X (dg dt_Q_can 5 rfl) rfl rfl ?_
  refine G_iload_n (pc := 10) 3 X (dg dt_Q_can 6 rfl) rfl rfl ?_
  refine cax_go h (fun ex hc_4 hex => by subst hex; exact G_callSX (pc := 11) (S := []) [.ref (ad r_2), .int v2, .int v3] (fun _ h => h) X hq (dg dt_Q_can 7 rfl) cb_Q_needCell w_380 w_379 (s_Q_needCell htr () ad _ _ _ _ hg_r_2 hc_4) rfl ⟨Nat.le_of_ble_eq_true rfl, Nat.le_of_ble_eq_true rfl⟩  (Nat.le_of_ble_eq_true rfl)) (fun r_5 σ_6 hc_4 h => ?_)
  refine G_callS (pc := 11) (S := []) [.ref (ad r_2), .int v2, .int v3] (fun _ h => h) X  (dg dt_Q_can 7 rfl) cb_Q_needCell w_380 w_379 (s_Q_needCell htr () ad _ _ _ _ hg_r_2 hc_4) rfl ⟨Nat.le_of_ble_eq_true rfl, Nat.le_of_ble_eq_true rfl⟩  (Nat.le_of_ble_eq_true rfl) Rc0 ?_
  refine G_aload (pc := 14) X (dg dt_Q_can 8 rfl) rfl ?_
  refine G_iload_n (pc := 16) 2 X (dg dt_Q_can 9 rfl) rfl rfl ?_
  refine G_iload_n (pc := 17) 3 X (dg dt_Q_can 10 rfl) rfl rfl ?_
  obtain ⟨r_8, hc_7, h⟩ := cap_go h
  refine G_callV (pc := 18) (S := []) [.int v2, .int v3] nosub X  (dg dt_Q_can 11 rfl) cb_Grid_optionsAt cv_Grid_optionsAt w_409 (s_Grid_optionsAt _ ad _ _ _ _ hg_r_2 hc_7) rfl ⟨Nat.le_of_ble_eq_true rfl, Nat.le_of_ble_eq_true rfl⟩ (sh_g hg_r_2) rfl (Nat.le_of_ble_eq_true rfl) Rc0 ?_
  exact G_xiret (pc := 21) X hq (dg dt_Q_can 12 rfl) h
set_option maxRecDepth 100000 in
set_option maxHeartbeats 4000000 in
theorem s_Q_distance_L51 {θ : Th} {ad : Nat → Nat} (htr : θ.2.1.stackTraces = false) {rv : Except Nat Int32} {σe : St} (X : Cx θ g_strs cX11_distance 8 "Quasigrove" 7 121)
    {v3 : Nat} {v4 : Nat} {v6 : Int32} {σ : St} (hq : Xq θ (g_SH, ad) (some .int) (xi rv) σe) (hg_v3 : gok v3) (hg_v4 : gok v4) {kx89 : Int32 → Option (Except Nat Int32 × St)} (hkx89 : ∀ (v5 : Int32), kx89 v5 = some (rv, σe) → G θ (0, 0) (g_SH, ad) σ 89 [none, none, none, some (.ref (ad v3)), some (.ref (ad v4)), some (.int v5), some (.int v6), none] []) :
    ∀ (n : Nat) (v5 : Int32) (v7 : Int32), f_Q_distance_L51 v3 v4 v6 σ kx89 n v5 v7 = some (rv, σe) → G θ (0, 0) (g_SH, ad) σ 51 [none, none, none, some (.ref (ad v3)), some (.ref (ad v4)), some (.int v5), some (.int v6), some (.int v7)] [] := by
  intro n
  induction n with
  | zero => intro v5 v7 h; rw [f_Q_distance_L51] at h; cases h
  | succ n ih =>
    intro v5 v7 h
    rw [f_Q_distance_L51] at h
    refine G_iload (pc := 51) X (dg dt_Q_distance 27 rfl) rfl ?_
    refine G_aload_n (pc := 53) 3 X (dg dt_Q_distance 28 rfl) rfl rfl ?_
    refine G_getIN (pc := 54) 3 X (dg dt_Q_distance 29 rfl) fc_0 w_43 rfl (Nat.le_of_ble_eq_true rfl) (sh_g hg_v3) rfl ?_
    refine G_icmp_ge (pc := 57) 89 X (dg dt_Q_distance 30 rfl) (by decide) h (fun h => ?_) (fun h => ?_)
    · exact G_wk (hkx89 v5 h) ⟨rfl, ⟨rfl, ⟨rfl, ⟨rfl, trivial⟩⟩⟩⟩
    · refine G_aload_n (pc := 60) 3 X (dg dt_Q_distance 31 rfl) rfl rfl ?_
      refine G_iload (pc := 61) X (dg dt_Q_distance 32 rfl) rfl ?_
      refine G_iload (pc := 63) X (dg dt_Q_distance 33 rfl) rfl ?_
      obtain ⟨r_13, hc_12, h⟩ := cap_go h
      refine G_callV (pc := 65) (S := []) [.int v6, .int v7] nosub X  (dg dt_Q_distance 34 rfl) cb_Grid_signAt cv_Grid_signAt w_368 (s_Grid_signAt _ ad _ _ _ _ hg_v3 hc_12) rfl ⟨Nat.le_of_ble_eq_true rfl, Nat.le_of_ble_eq_true rfl⟩ (sh_g hg_v3) rfl (Nat.le_of_ble_eq_true rfl) Rc0 ?_
      refine G_aload (pc := 68) X (dg dt_Q_distance 35 rfl) rfl ?_
      refine G_iload (pc := 70) X (dg dt_Q_distance 36 rfl) rfl ?_
      refine G_iload (pc := 72) X (dg dt_Q_distance 37 rfl) rfl ?_
      obtain ⟨r_15, hc_14, h⟩ := cap_go h
      refine G_callV (pc := 74) (S := [.int r_13]) [.int v6, .int v7] nosub X  (dg dt_Q_distance 38 rfl) cb_Grid_signAt cv_Grid_signAt w_368 (s_Grid_signAt _ ad _ _ _ _ hg_v4 hc_14) rfl ⟨Nat.le_of_ble_eq_true rfl, Nat.le_of_ble_eq_true rfl⟩ (sh_g hg_v4) rfl (Nat.le_of_ble_eq_true rfl) Rc0 ?_
      refine jn_go (fun j83_16 => ∀ (v5_17 : Int32), j83_16 v5_17 = some (rv, σe) → G θ (0, 0) (g_SH, ad) σ 83 [none, none, none, some (.ref (ad v3)), some (.ref (ad v4)), some (.int v5_17), some (.int v6), some (.int v7)] []) h ?_ (fun j83_16 hj83_16 h => ?_)
      · intro v5_17 h
        refine G_iinc (pc := 83) (v7 + 1) X (dg dt_Q_distance 41 rfl) rfl (Nat.le_of_ble_eq_true rfl) rfl rfl ?_
        refine G_goto (pc := 86) 51 X (dg dt_Q_distance 42 rfl) (by decide) ?_
        exact G_wk (ih v5_17 (v7 + 1) h) ⟨rfl, ⟨rfl, ⟨rfl, ⟨rfl, ⟨rfl, trivial⟩⟩⟩⟩⟩
      refine G_icmp_eq (pc := 77) 83 X (dg dt_Q_distance 39 rfl) (by decide) h (fun h => ?_) (fun h => ?_)
      · exact G_wk (hj83_16 v5 h) ⟨rfl, ⟨rfl, ⟨rfl, ⟨rfl, ⟨rfl, trivial⟩⟩⟩⟩⟩
      · refine G_iinc (pc := 80) (v5 + 1) X (dg dt_Q_distance 40 rfl) rfl (Nat.le_of_ble_eq_true rfl) rfl rfl ?_
        exact G_wk (hj83_16 (v5 + 1) h) ⟨rfl, ⟨rfl, ⟨rfl, ⟨rfl, ⟨rfl, trivial⟩⟩⟩⟩⟩
set_option maxRecDepth 100000 in
set_option maxHeartbeats 4000000 in
theorem s_Q_distance_L39 {θ : Th} {ad : Nat → Nat} (htr : θ.2.1.stackTraces = false) {rv : Except Nat Int32} {σe : St} (X : Cx θ g_strs cX11_distance 8 "Quasigrove" 7 121)
    {v3 : Nat} {v4 : Nat} {σ : St} (hq : Xq θ (g_SH, ad) (some .int) (xi rv) σe) (hg_v3 : gok v3) (hg_v4 : gok v4) {kx95 : Int32 → Option (Except Nat Int32 × St)} (hkx95 : ∀ (v5 : Int32), kx95 v5 = some (rv, σe) → G θ (0, 0) (g_SH, ad) σ 95 [none, none, none, none, none, some (.int v5), none, none] []) :
    ∀ (n : Nat) (v5 : Int32) (v6 : Int32), f_Q_distance_L39 v3 v4 σ kx95 n v5 v6 = some (rv, σe) → G θ (0, 0) (g_SH, ad) σ 39 [none, none, none, some (.ref (ad v3)), some (.ref (ad v4)), some (.int v5), some (.int v6), none] [] := by
  intro n
  induction n with
  | zero => intro v5 v6 h; rw [f_Q_distance_L39] at h; cases h
  | succ n ih =>
    intro v5 v6 h
    rw [f_Q_distance_L39] at h
    refine G_iload (pc := 39) X (dg dt_Q_distance 21 rfl) rfl ?_
    refine G_aload_n (pc := 41) 3 X (dg dt_Q_distance 22 rfl) rfl rfl ?_
    refine G_getIN (pc := 42) 3 X (dg dt_Q_distance 23 rfl) fc_0 w_43 rfl (Nat.le_of_ble_eq_true rfl) (sh_g hg_v3) rfl ?_
    refine G_icmp_ge (pc := 45) 95 X (dg dt_Q_distance 24 rfl) (by decide) h (fun h => ?_) (fun h => ?_)
    · exact G_wk (hkx95 v5 h) ⟨rfl, trivial⟩
    · refine G_iconst (pc := 48) 0 X (dg dt_Q_distance 25 rfl) (by decide) ?_
      refine G_istore (pc := 49) X (dg dt_Q_distance 26 rfl) (Nat.le_of_ble_eq_true rfl) rfl ?_
      refine G_weak (L' := [none, none, none, some (.ref (ad v3)), some (.ref (ad v4)), some (.int v5), some (.int v6), some (.int 0)]) ⟨rfl, ⟨rfl, ⟨rfl, ⟨rfl, ⟨rfl, trivial⟩⟩⟩⟩⟩ ?_
      refine s_Q_distance_L51 htr X hq hg_v3 hg_v4 (fun v5_18 h => ?_) _ _ _ h
      refine G_iinc (pc := 89) (v6 + 1) X (dg dt_Q_distance 43 rfl) rfl (Nat.le_of_ble_eq_true rfl) rfl rfl ?_
      refine G_goto (pc := 92) 39 X (dg dt_Q_distance 44 rfl) (by decide) ?_
      exact G_wk (ih v5_18 (v6 + 1) h) ⟨rfl, ⟨rfl, ⟨rfl, ⟨rfl, trivial⟩⟩⟩⟩
set_option maxRecDepth 100000 in
set_option maxHeartbeats 4000000 in
theorem s_Q_distance {l : Launch} (htr : l.stackTraces = false) (_ : Unit) (ad : Nat → Nat) (σ : St) (v1 : Int32) (v2 : Int32)  {rv : Except Nat Int32} {σe : St} (h : f_Q_distance σ v1 v2 = some (rv, σe)) : RX l g_strs yX11_distance cX11_distance 8 (some .int) 7 121 (g_SH, ad) [.ref (ad 0), .int v1, .int v2] σ (xi rv) σe := by
  refine RX.intro htr (L := [some (.ref (ad 0)), some (.int v1), some (.int v2), none, none, none, none, none]) (by decide +kernel) (Nat.le_of_ble_eq_true rfl) rfl (fun θ hl X hq => ?_)
  subst hl
  unfold f_Q_distance at h
  refine G_aload_n (pc := 0) 0 X (dg dt_Q_distance 0 rfl) rfl rfl ?_
  refine G_iload_n (pc := 1) 1 X (dg dt_Q_distance 1 rfl) rfl rfl ?_
  refine cax_go h (fun ex hc_1 hex => by subst hex; exact G_callVX (pc := 2) (S := []) [.int v1] (fun _ h => h) X hq (dg dt_Q_distance 2 rfl) cb_Q_gridAt cv_Q_gridAt w_348 (s_Q_gridAt htr () ad _ _ hc_1) rfl ⟨Nat.le_of_ble_eq_true rfl, Nat.le_of_ble_eq_true rfl⟩ sh_0 rfl (Nat.le_of_ble_eq_true rfl)) (fun r_2 σ_3 hc_1 h => ?_)
  have hg_r_2 := gk_of_Q_gridAt hc_1
  refine G_callV (pc := 2) (S := []) [.int v1] (fun _ h => h) X  (dg dt_Q_distance 2 rfl) cb_Q_gridAt cv_Q_gridAt w_348 (s_Q_gridAt htr () ad _ _ hc_1) rfl ⟨Nat.le_of_ble_eq_true rfl, Nat.le_of_ble_eq_true rfl⟩ sh_0 rfl (Nat.le_of_ble_eq_true rfl) Rc0 ?_
  refine G_astore_n (pc := 5) 3 X (dg dt_Q_distance 3 rfl) rfl (Nat.le_of_ble_eq_true rfl) rfl ?_
  refine G_aload_n (pc := 6) 0 X (dg dt_Q_distance 4 rfl) rfl rfl ?_
  refine G_iload_n (pc := 7) 2 X (dg dt_Q_distance 5 rfl) rfl rfl ?_
  refine cax_go h (fun ex hc_4 hex => by subst hex; exact G_callVX (pc := 8) (S := []) [.int v2] (fun _ h => h) X hq (dg dt_Q_distance 6 rfl) cb_Q_gridAt cv_Q_gridAt w_348 (s_Q_gridAt htr () ad _ _ hc_4) rfl ⟨Nat.le_of_ble_eq_true rfl, Nat.le_of_ble_eq_true rfl⟩ sh_0 rfl (Nat.le_of_ble_eq_true rfl)) (fun r_5 σ_6 hc_4 h => ?_)
  have hg_r_5 := gk_of_Q_gridAt hc_4
  refine G_callV (pc := 8) (S := []) [.int v2] (fun _ h => h) X  (dg dt_Q_distance 6 rfl) cb_Q_gridAt cv_Q_gridAt w_348 (s_Q_gridAt htr () ad _ _ hc_4) rfl ⟨Nat.le_of_ble_eq_true rfl, Nat.le_of_ble_eq_true rfl⟩ sh_0 rfl (Nat.le_of_ble_eq_true rfl) Rc0 ?_
  refine G_astore (pc := 11) X (dg dt_Q_distance 7 rfl) (Nat.le_of_ble_eq_true rfl) rfl ?_
  refine G_aload_n (pc := 13) 3 X (dg dt_Q_distance 8 rfl) rfl rfl ?_
  refine G_getIN (pc := 14) 3 X (dg dt_Q_distance 9 rfl) fc_0 w_43 rfl (Nat.le_of_ble_eq_true rfl) (sh_g hg_r_2) rfl ?_
  refine G_aload (pc := 17) X (dg dt_Q_distance 10 rfl) rfl ?_
  refine G_getIN (pc := 19) 3 X (dg dt_Q_distance 11 rfl) fc_0 w_43 rfl (Nat.le_of_ble_eq_true rfl) (sh_g hg_r_5) rfl ?_
  refine jn_go (fun j30_7 => ∀ (s_8 : Int32), j30_7 s_8 = some (rv, σe) → G θ (0, 0) (g_SH, ad) σ_6 30 [none, none, none, some (.ref (ad r_2)), some (.ref (ad r_5)), none, none, none] [.int s_8]) h ?_ (fun j30_7 hj30_7 h => ?_)
  · intro s_8 h
    refine cax_go h (fun ex hc_9 hex => by subst hex; exact G_callSX (pc := 30) (S := []) [.int s_8] (fun _ h => h) X hq (dg dt_Q_distance 16 rfl) cb_Q_needArgument w_222 w_221 (s_Q_needArgument htr () ad _ _ hc_9) rfl ⟨Nat.le_of_ble_eq_true rfl, Nat.le_of_ble_eq_true rfl⟩  (Nat.le_of_ble_eq_true rfl)) (fun r_10 σ_11 hc_9 h => ?_)
    refine G_callS (pc := 30) (S := []) [.int s_8] (fun _ h => h) X  (dg dt_Q_distance 16 rfl) cb_Q_needArgument w_222 w_221 (s_Q_needArgument htr () ad _ _ hc_9) rfl ⟨Nat.le_of_ble_eq_true rfl, Nat.le_of_ble_eq_true rfl⟩  (Nat.le_of_ble_eq_true rfl) Rc0 ?_
    refine G_iconst (pc := 33) 0 X (dg dt_Q_distance 17 rfl) (by decide) ?_
    refine G_istore (pc := 34) X (dg dt_Q_distance 18 rfl) (Nat.le_of_ble_eq_true rfl) rfl ?_
    refine G_iconst (pc := 36) 0 X (dg dt_Q_distance 19 rfl) (by decide) ?_
    refine G_istore (pc := 37) X (dg dt_Q_distance 20 rfl) (Nat.le_of_ble_eq_true rfl) rfl ?_
    refine G_weak (L' := [none, none, none, some (.ref (ad r_2)), some (.ref (ad r_5)), some (.int 0), some (.int 0), none]) ⟨rfl, ⟨rfl, ⟨rfl, ⟨rfl, trivial⟩⟩⟩⟩ ?_
    refine s_Q_distance_L39 htr X hq hg_r_2 hg_r_5 (fun v5_19 h => ?_) _ _ _ h
    refine G_iload (pc := 95) X (dg dt_Q_distance 45 rfl) rfl ?_
    exact G_xiret (pc := 97) X hq (dg dt_Q_distance 46 rfl) h
  refine G_icmp_ne (pc := 22) 29 X (dg dt_Q_distance 12 rfl) (by decide) h (fun h => ?_) (fun h => ?_)
  · refine G_iconst (pc := 29) 0 X (dg dt_Q_distance 15 rfl) (by decide) ?_
    exact G_wk (hj30_7 0 h) ⟨rfl, ⟨rfl, trivial⟩⟩
  · refine G_iconst (pc := 25) 1 X (dg dt_Q_distance 13 rfl) (by decide) ?_
    refine G_goto (pc := 26) 30 X (dg dt_Q_distance 14 rfl) (by decide) ?_
    exact G_wk (hj30_7 1 h) ⟨rfl, ⟨rfl, trivial⟩⟩
set_option maxRecDepth 100000 in
set_option maxHeartbeats 4000000 in
theorem s_Q_of {l : Launch} (htr : l.stackTraces = false) (_ : Unit) (ad : Nat → Nat) (σ : St) (v1 : Int32) (v2 : Int32)  {rv : Except Nat Int32} {σe : St} (h : f_Q_of σ v1 v2 = some (rv, σe)) : RX l g_strs yX11_of cX11_of 4 (some .int) 7 121 (g_SH, ad) [.ref (ad 0), .int v1, .int v2] σ (xi rv) σe := by
  refine RX.intro htr (L := [some (.ref (ad 0)), some (.int v1), some (.int v2), none]) (by decide +kernel) (Nat.le_of_ble_eq_true rfl) rfl (fun θ hl X hq => ?_)
  subst hl
  unfold f_Q_of at h
  refine G_aload_n (pc := 0) 0 X (dg dt_Q_of 0 rfl) rfl rfl ?_
  refine G_iload_n (pc := 1) 1 X (dg dt_Q_of 1 rfl) rfl rfl ?_
  refine cax_go h (fun ex hc_1 hex => by subst hex; exact G_callVX (pc := 2) (S := []) [.int v1] (fun _ h => h) X hq (dg dt_Q_of 2 rfl) cb_Q_gridAt cv_Q_gridAt w_348 (s_Q_gridAt htr () ad _ _ hc_1) rfl ⟨Nat.le_of_ble_eq_true rfl, Nat.le_of_ble_eq_true rfl⟩ sh_0 rfl (Nat.le_of_ble_eq_true rfl)) (fun r_2 σ_3 hc_1 h => ?_)
  have hg_r_2 := gk_of_Q_gridAt hc_1
  refine G_callV (pc := 2) (S := []) [.int v1] (fun _ h => h) X  (dg dt_Q_of 2 rfl) cb_Q_gridAt cv_Q_gridAt w_348 (s_Q_gridAt htr () ad _ _ hc_1) rfl ⟨Nat.le_of_ble_eq_true rfl, Nat.le_of_ble_eq_true rfl⟩ sh_0 rfl (Nat.le_of_ble_eq_true rfl) Rc0 ?_
  refine G_astore_n (pc := 5) 3 X (dg dt_Q_of 3 rfl) rfl (Nat.le_of_ble_eq_true rfl) rfl ?_
  refine G_iload_n (pc := 6) 2 X (dg dt_Q_of 4 rfl) rfl rfl ?_
  refine G_iconst (pc := 7) 0 X (dg dt_Q_of 5 rfl) (by decide) ?_
  refine G_iconst (pc := 8) 2 X (dg dt_Q_of 6 rfl) (by decide) ?_
  obtain ⟨r_5, hc_4, h⟩ := cap_go h
  refine G_callS (pc := 9) (S := []) [.int v2, .int 0, .int 2] nosub X  (dg dt_Q_of 7 rfl) cb_Q_isFrom w_219 w_218 (s_Q_isFrom _ ad _ _ _ _ hc_4) rfl ⟨Nat.le_of_ble_eq_true rfl, Nat.le_of_ble_eq_true rfl⟩  (Nat.le_of_ble_eq_true rfl) Rc0 ?_
  refine cax_go h (fun ex hc_6 hex => by subst hex; exact G_callSX (pc := 12) (S := []) [.int r_5] (fun _ h => h) X hq (dg dt_Q_of 8 rfl) cb_Q_needArgument w_222 w_221 (s_Q_needArgument htr () ad _ _ hc_6) rfl ⟨Nat.le_of_ble_eq_true rfl, Nat.le_of_ble_eq_true rfl⟩  (Nat.le_of_ble_eq_true rfl)) (fun r_7 σ_8 hc_6 h => ?_)
  refine G_callS (pc := 12) (S := []) [.int r_5] (fun _ h => h) X  (dg dt_Q_of 8 rfl) cb_Q_needArgument w_222 w_221 (s_Q_needArgument htr () ad _ _ hc_6) rfl ⟨Nat.le_of_ble_eq_true rfl, Nat.le_of_ble_eq_true rfl⟩  (Nat.le_of_ble_eq_true rfl) Rc0 ?_
  refine G_iload_n (pc := 15) 2 X (dg dt_Q_of 9 rfl) rfl rfl ?_
  refine G_lookup2 (pc := 16) 44 49 54 X (dg dt_Q_of 10 rfl) (by decide) (by decide) (by decide) (by decide) (by decide) (by decide) h (fun h => ?_) (fun h => ?_) (fun h => ?_)
  · refine G_aload_n (pc := 44) 3 X (dg dt_Q_of 11 rfl) rfl rfl ?_
    refine G_getIN (pc := 45) 3 X (dg dt_Q_of 12 rfl) fc_0 w_43 rfl (Nat.le_of_ble_eq_true rfl) (sh_g hg_r_2) rfl ?_
    exact G_xiret (pc := 48) X hq (dg dt_Q_of 13 rfl) h
  · refine G_aload_n (pc := 49) 3 X (dg dt_Q_of 14 rfl) rfl rfl ?_
    refine G_getIN (pc := 50) 4 X (dg dt_Q_of 15 rfl) fc_0 w_46 rfl (Nat.le_of_ble_eq_true rfl) (sh_g hg_r_2) rfl ?_
    exact G_xiret (pc := 53) X hq (dg dt_Q_of 16 rfl) h
  · refine G_aload_n (pc := 54) 3 X (dg dt_Q_of 17 rfl) rfl rfl ?_
    obtain ⟨r_10, hc_9, h⟩ := cap_go h
    refine G_callV (pc := 55) (S := []) [] nosub X  (dg dt_Q_of 18 rfl) cb_Grid_deadCells cv_Grid_deadCells w_388 (s_Grid_deadCells _ ad _ _ hg_r_2 hc_9) rfl ⟨Nat.le_of_ble_eq_true rfl, Nat.le_of_ble_eq_true rfl⟩ (sh_g hg_r_2) rfl (Nat.le_of_ble_eq_true rfl) Rc0 ?_
    exact G_xiret (pc := 58) X hq (dg dt_Q_of 19 rfl) h
set_option maxRecDepth 100000 in
set_option maxHeartbeats 4000000 in
theorem s_Q_cell {l : Launch} (htr : l.stackTraces = false) (_ : Unit) (ad : Nat → Nat) (σ : St) (v1 : Int32) (v2 : Int32) (v3 : Int32)  {rv : Except Nat Int32} {σe : St} (h : f_Q_cell σ v1 v2 v3 = some (rv, σe)) : RX l g_strs yX11_cell cX11_cell 5 (some .int) 7 122 (g_SH, ad) [.ref (ad 0), .int v1, .int v2, .int v3] σ (xi rv) σe := by
  refine RX.intro htr (L := [some (.ref (ad 0)), some (.int v1), some (.int v2), some (.int v3), none]) (by decide +kernel) (Nat.le_of_ble_eq_true rfl) rfl (fun θ hl X hq => ?_)
  subst hl
  unfold f_Q_cell at h
  refine G_aload_n (pc := 0) 0 X (dg dt_Q_cell 0 rfl) rfl rfl ?_
  refine G_iload_n (pc := 1) 1 X (dg dt_Q_cell 1 rfl) rfl rfl ?_
  refine cax_go h (fun ex hc_1 hex => by subst hex; exact G_callVX (pc := 2) (S := []) [.int v1] (fun _ h => h) X hq (dg dt_Q_cell 2 rfl) cb_Q_gridAt cv_Q_gridAt w_348 (s_Q_gridAt htr () ad _ _ hc_1) rfl ⟨Nat.le_of_ble_eq_true rfl, Nat.le_of_ble_eq_true rfl⟩ sh_0 rfl (Nat.le_of_ble_eq_true rfl)) (fun r_2 σ_3 hc_1 h => ?_)
  have hg_r_2 := gk_of_Q_gridAt hc_1
  refine G_callV (pc := 2) (S := []) [.int v1] (fun _ h => h) X  (dg dt_Q_cell 2 rfl) cb_Q_gridAt cv_Q_gridAt w_348 (s_Q_gridAt htr () ad _ _ hc_1) rfl ⟨Nat.le_of_ble_eq_true rfl, Nat.le_of_ble_eq_true rfl⟩ sh_0 rfl (Nat.le_of_ble_eq_true rfl) Rc0 ?_
  refine G_astore (pc := 5) X (dg dt_Q_cell 3 rfl) (Nat.le_of_ble_eq_true rfl) rfl ?_
  refine G_aload (pc := 7) X (dg dt_Q_cell 4 rfl) rfl ?_
  refine G_iload_n (pc := 9) 2 X (dg dt_Q_cell 5 rfl) rfl rfl ?_
  refine G_iload_n (pc := 10) 3 X (dg dt_Q_cell 6 rfl) rfl rfl ?_
  refine cax_go h (fun ex hc_4 hex => by subst hex; exact G_callSX (pc := 11) (S := []) [.ref (ad r_2), .int v2, .int v3] (fun _ h => h) X hq (dg dt_Q_cell 7 rfl) cb_Q_needCell w_380 w_379 (s_Q_needCell htr () ad _ _ _ _ hg_r_2 hc_4) rfl ⟨Nat.le_of_ble_eq_true rfl, Nat.le_of_ble_eq_true rfl⟩  (Nat.le_of_ble_eq_true rfl)) (fun r_5 σ_6 hc_4 h => ?_)
  refine G_callS (pc := 11) (S := []) [.ref (ad r_2), .int v2, .int v3] (fun _ h => h) X  (dg dt_Q_cell 7 rfl) cb_Q_needCell w_380 w_379 (s_Q_needCell htr () ad _ _ _ _ hg_r_2 hc_4) rfl ⟨Nat.le_of_ble_eq_true rfl, Nat.le_of_ble_eq_true rfl⟩  (Nat.le_of_ble_eq_true rfl) Rc0 ?_
  refine G_aload (pc := 14) X (dg dt_Q_cell 8 rfl) rfl ?_
  refine G_iload_n (pc := 16) 2 X (dg dt_Q_cell 9 rfl) rfl rfl ?_
  refine G_iload_n (pc := 17) 3 X (dg dt_Q_cell 10 rfl) rfl rfl ?_
  obtain ⟨r_8, hc_7, h⟩ := cap_go h
  refine G_callV (pc := 18) (S := []) [.int v2, .int v3] nosub X  (dg dt_Q_cell 11 rfl) cb_Grid_signAt cv_Grid_signAt w_368 (s_Grid_signAt _ ad _ _ _ _ hg_r_2 hc_7) rfl ⟨Nat.le_of_ble_eq_true rfl, Nat.le_of_ble_eq_true rfl⟩ (sh_g hg_r_2) rfl (Nat.le_of_ble_eq_true rfl) Rc0 ?_
  exact G_xiret (pc := 21) X hq (dg dt_Q_cell 12 rfl) h
set_option maxRecDepth 100000 in
set_option maxHeartbeats 4000000 in
theorem s_Q_newGrid {l : Launch} (htr : l.stackTraces = false) (_ : Unit) (ad : Nat → Nat) (σ : St) (v1 : Int32)  {rv : Except Nat Nat} {σe : St} (h : f_Q_newGrid σ v1 = some (rv, σe)) : RX l g_strs yX11_newGrid cX11_newGrid 3 (some (.object "Quasigrove$Grid")) 6 100 (g_SH, ad) [.ref (ad 0), .int v1] σ (xr ad rv) σe := by
  refine RX.intro htr (L := [some (.ref (ad 0)), some (.int v1), none]) (by decide +kernel) (Nat.le_of_ble_eq_true rfl) rfl (fun θ hl X hq => ?_)
  subst hl
  unfold f_Q_newGrid at h
  refine G_aload_n (pc := 0) 0 X (dg dt_Q_newGrid 0 rfl) rfl rfl ?_
  refine G_getI (pc := 1) 8 X (dg dt_Q_newGrid 1 rfl) fc_7 w_194 rfl (Nat.le_of_ble_eq_true rfl) sh_0 rfl ?_
  refine jn_go (fun j31_1 => j31_1 = some (rv, σe) → G θ (0, 0) (g_SH, ad) σ 31 [none, none, none] []) h ?_ (fun j31_1 hj31_1 h => ?_)
  · intro  h
    exact G_xthrow (pc := 31) (e := 3) (text := "there are 12 grids") X hq tw_261_265 (by decide) (dg dt_Q_newGrid 15 rfl) (dg dt_Q_newGrid 16 rfl) (dg dt_Q_newGrid 17 rfl) (dg dt_Q_newGrid 18 rfl) (dg dt_Q_newGrid 19 rfl) h (Nat.le_of_ble_eq_true rfl) (Nat.le_of_ble_eq_true rfl)
  refine G_if_lt (pc := 4) 31 X (dg dt_Q_newGrid 2 rfl) (by decide) h (fun h => ?_) (fun h => ?_)
  · exact G_wk (hj31_1  h) trivial
  · refine G_aload_n (pc := 7) 0 X (dg dt_Q_newGrid 3 rfl) rfl rfl ?_
    refine G_getI (pc := 8) 8 X (dg dt_Q_newGrid 4 rfl) fc_7 w_194 rfl (Nat.le_of_ble_eq_true rfl) sh_0 rfl ?_
    refine G_aload_n (pc := 11) 0 X (dg dt_Q_newGrid 5 rfl) rfl rfl ?_
    refine G_getR (pc := 12) 0 X (dg dt_Q_newGrid 6 rfl) fc_7 w_186 rfl (Nat.le_of_ble_eq_true rfl) sh_0 rfl ?_
    refine G_alenQ (pc := 15) 12 X (dg dt_Q_newGrid 7 rfl) sh_1 (by decide) ?_
    refine G_icmp_ge (pc := 16) 31 X (dg dt_Q_newGrid 8 rfl) (by decide) h (fun h => ?_) (fun h => ?_)
    · exact G_wk (hj31_1  h) trivial
    · refine G_aload_n (pc := 19) 0 X (dg dt_Q_newGrid 9 rfl) rfl rfl ?_
      refine G_getR (pc := 20) 0 X (dg dt_Q_newGrid 10 rfl) fc_7 w_186 rfl (Nat.le_of_ble_eq_true rfl) sh_0 rfl ?_
      refine G_aload_n (pc := 23) 0 X (dg dt_Q_newGrid 11 rfl) rfl rfl ?_
      refine G_getI (pc := 24) 8 X (dg dt_Q_newGrid 12 rfl) fc_7 w_194 rfl (Nat.le_of_ble_eq_true rfl) sh_0 rfl ?_
      refine G_gld (pc := 27) X (dg dt_Q_newGrid 13 rfl) h (fun g_2 hg_g_2 h => ?_)
      refine G_ifnonnull (pc := 28) 42 X (dg dt_Q_newGrid 14 rfl) (by decide) ?_
      refine G_aload_n (pc := 42) 0 X (dg dt_Q_newGrid 20 rfl) rfl rfl ?_
      refine G_getR (pc := 43) 0 X (dg dt_Q_newGrid 21 rfl) fc_7 w_186 rfl (Nat.le_of_ble_eq_true rfl) sh_0 rfl ?_
      refine G_aload_n (pc := 46) 0 X (dg dt_Q_newGrid 22 rfl) rfl rfl ?_
      refine G_getI (pc := 47) 8 X (dg dt_Q_newGrid 23 rfl) fc_7 w_194 rfl (Nat.le_of_ble_eq_true rfl) sh_0 rfl ?_
      refine G_gld (pc := 50) X (dg dt_Q_newGrid 24 rfl) h (fun g_3 hg_g_3 h => ?_)
      refine G_astore_n (pc := 51) 2 X (dg dt_Q_newGrid 25 rfl) rfl (Nat.le_of_ble_eq_true rfl) rfl ?_
      refine G_aload_n (pc := 52) 0 X (dg dt_Q_newGrid 26 rfl) rfl rfl ?_
      refine G_dup (pc := 53) X (dg dt_Q_newGrid 27 rfl) rfl ?_
      refine G_getI (pc := 54) 8 X (dg dt_Q_newGrid 28 rfl) fc_7 w_194 rfl (Nat.le_of_ble_eq_true rfl) sh_0 rfl ?_
      refine G_iconst (pc := 57) 1 X (dg dt_Q_newGrid 29 rfl) (by decide) ?_
      refine G_iadd (pc := 58) X (dg dt_Q_newGrid 30 rfl) ?_
      refine G_put (pc := 59) 8 X (dg dt_Q_newGrid 31 rfl) fc_7 w_194 rfl (Nat.le_of_ble_eq_true rfl) rfl rfl sh_0 rfl h (fun σ_4 h => ?_)
      refine G_aload_n (pc := 62) 2 X (dg dt_Q_newGrid 32 rfl) rfl rfl ?_
      refine G_iload_n (pc := 63) 1 X (dg dt_Q_newGrid 33 rfl) rfl rfl ?_
      obtain ⟨r_6, σ_7, hc_5, h⟩ := cal_go h
      refine G_callV (pc := 64) (S := []) [.int v1] nosub X  (dg dt_Q_newGrid 34 rfl) cb_Grid_clear cv_Grid_clear w_312 (s_Grid_clear _ ad _ _ _ hg_g_3 hc_5) rfl ⟨Nat.le_of_ble_eq_true rfl, Nat.le_of_ble_eq_true rfl⟩ (sh_g hg_g_3) rfl (Nat.le_of_ble_eq_true rfl) Rc0 ?_
      refine G_aload_n (pc := 67) 2 X (dg dt_Q_newGrid 35 rfl) rfl rfl ?_
      exact G_xaret (pc := 68) X hq (dg dt_Q_newGrid 36 rfl) h
set_option maxRecDepth 100000 in
set_option maxHeartbeats 4000000 in
theorem s_Q_setConjugate (l : Launch) (ad : Nat → Nat) (σ : St) (v0 : Nat) (v1 : Int32) (v2 : Int32) (v3 : Int32) (v4 : Int32) (hg_v0 : gok v0) {rv : Unit} {σe : St} (h : f_Q_setConjugate σ v0 v1 v2 v3 v4 = some (rv, σe)) : Rt l [] yX11_setConjugate cX11_setConjugate 5 none 3 67 (g_SH, ad) [.ref (ad v0), .int v1, .int v2, .int v3, .int v4] σ none σe := by
  refine Rt.intro (L := [some (.ref (ad v0)), some (.int v1), some (.int v2), some (.int v3), some (.int v4)]) (by decide +kernel) (Nat.le_of_ble_eq_true rfl) rfl (fun θ hl X hq => ?_)
  subst hl
  unfold f_Q_setConjugate at h
  refine G_iload_n (pc := 0) 1 X (dg dt_Q_setConjugate 0 rfl) rfl rfl ?_
  refine G_table5 (pc := 1) 36 47 58 69 80 91 X (dg dt_Q_setConjugate 1 rfl) (by decide) (by decide) (by decide) (by decide) (by decide) (by decide) (by decide) h (fun h => ?_) (fun h => ?_) (fun h => ?_) (fun h => ?_) (fun h => ?_) (fun h => ?_)
  · refine G_aload_n (pc := 36) 0 X (dg dt_Q_setConjugate 2 rfl) rfl rfl ?_
    refine G_iload_n (pc := 37) 2 X (dg dt_Q_setConjugate 3 rfl) rfl rfl ?_
    refine G_iload_n (pc := 38) 3 X (dg dt_Q_setConjugate 4 rfl) rfl rfl ?_
    refine G_iload (pc := 39) X (dg dt_Q_setConjugate 5 rfl) rfl ?_
    obtain ⟨r_2, σ_3, hc_1, h⟩ := cal_go h
    refine G_callV (pc := 41) (S := []) [.int v2, .int v3, .int v4] nosub X  (dg dt_Q_setConjugate 6 rfl) cb_Grid_set cv_Grid_set w_332 (s_Grid_set _ ad _ _ _ _ _ hg_v0 hc_1) rfl ⟨Nat.le_of_ble_eq_true rfl, Nat.le_of_ble_eq_true rfl⟩ (sh_g hg_v0) rfl (Nat.le_of_ble_eq_true rfl) Rc0 ?_
    refine G_goto (pc := 44) 99 X (dg dt_Q_setConjugate 7 rfl) (by decide) ?_
    exact G_vret (pc := 99) X hq (dg dt_Q_setConjugate 37 rfl) h
  · refine G_aload_n (pc := 47) 0 X (dg dt_Q_setConjugate 8 rfl) rfl rfl ?_
    refine G_iload_n (pc := 48) 3 X (dg dt_Q_setConjugate 9 rfl) rfl rfl ?_
    refine G_iload_n (pc := 49) 2 X (dg dt_Q_setConjugate 10 rfl) rfl rfl ?_
    refine G_iload (pc := 50) X (dg dt_Q_setConjugate 11 rfl) rfl ?_
    obtain ⟨r_5, σ_6, hc_4, h⟩ := cal_go h
    refine G_callV (pc := 52) (S := []) [.int v3, .int v2, .int v4] nosub X  (dg dt_Q_setConjugate 12 rfl) cb_Grid_set cv_Grid_set w_332 (s_Grid_set _ ad _ _ _ _ _ hg_v0 hc_4) rfl ⟨Nat.le_of_ble_eq_true rfl, Nat.le_of_ble_eq_true rfl⟩ (sh_g hg_v0) rfl (Nat.le_of_ble_eq_true rfl) Rc0 ?_
    refine G_goto (pc := 55) 99 X (dg dt_Q_setConjugate 13 rfl) (by decide) ?_
    exact G_vret (pc := 99) X hq (dg dt_Q_setConjugate 37 rfl) h
  · refine G_aload_n (pc := 58) 0 X (dg dt_Q_setConjugate 14 rfl) rfl rfl ?_
    refine G_iload_n (pc := 59) 2 X (dg dt_Q_setConjugate 15 rfl) rfl rfl ?_
    refine G_iload (pc := 60) X (dg dt_Q_setConjugate 16 rfl) rfl ?_
    refine G_iload_n (pc := 62) 3 X (dg dt_Q_setConjugate 17 rfl) rfl rfl ?_
    obtain ⟨r_8, σ_9, hc_7, h⟩ := cal_go h
    refine G_callV (pc := 63) (S := []) [.int v2, .int v4, .int v3] nosub X  (dg dt_Q_setConjugate 18 rfl) cb_Grid_set cv_Grid_set w_332 (s_Grid_set _ ad _ _ _ _ _ hg_v0 hc_7) rfl ⟨Nat.le_of_ble_eq_true rfl, Nat.le_of_ble_eq_true rfl⟩ (sh_g hg_v0) rfl (Nat.le_of_ble_eq_true rfl) Rc0 ?_
    refine G_goto (pc := 66) 99 X (dg dt_Q_setConjugate 19 rfl) (by decide) ?_
    exact G_vret (pc := 99) X hq (dg dt_Q_setConjugate 37 rfl) h
  · refine G_aload_n (pc := 69) 0 X (dg dt_Q_setConjugate 20 rfl) rfl rfl ?_
    refine G_iload (pc := 70) X (dg dt_Q_setConjugate 21 rfl) rfl ?_
    refine G_iload_n (pc := 72) 3 X (dg dt_Q_setConjugate 22 rfl) rfl rfl ?_
    refine G_iload_n (pc := 73) 2 X (dg dt_Q_setConjugate 23 rfl) rfl rfl ?_
    obtain ⟨r_11, σ_12, hc_10, h⟩ := cal_go h
    refine G_callV (pc := 74) (S := []) [.int v4, .int v3, .int v2] nosub X  (dg dt_Q_setConjugate 24 rfl) cb_Grid_set cv_Grid_set w_332 (s_Grid_set _ ad _ _ _ _ _ hg_v0 hc_10) rfl ⟨Nat.le_of_ble_eq_true rfl, Nat.le_of_ble_eq_true rfl⟩ (sh_g hg_v0) rfl (Nat.le_of_ble_eq_true rfl) Rc0 ?_
    refine G_goto (pc := 77) 99 X (dg dt_Q_setConjugate 25 rfl) (by decide) ?_
    exact G_vret (pc := 99) X hq (dg dt_Q_setConjugate 37 rfl) h
  · refine G_aload_n (pc := 80) 0 X (dg dt_Q_setConjugate 26 rfl) rfl rfl ?_
    refine G_iload_n (pc := 81) 3 X (dg dt_Q_setConjugate 27 rfl) rfl rfl ?_
    refine G_iload (pc := 82) X (dg dt_Q_setConjugate 28 rfl) rfl ?_
    refine G_iload_n (pc := 84) 2 X (dg dt_Q_setConjugate 29 rfl) rfl rfl ?_
    obtain ⟨r_14, σ_15, hc_13, h⟩ := cal_go h
    refine G_callV (pc := 85) (S := []) [.int v3, .int v4, .int v2] nosub X  (dg dt_Q_setConjugate 30 rfl) cb_Grid_set cv_Grid_set w_332 (s_Grid_set _ ad _ _ _ _ _ hg_v0 hc_13) rfl ⟨Nat.le_of_ble_eq_true rfl, Nat.le_of_ble_eq_true rfl⟩ (sh_g hg_v0) rfl (Nat.le_of_ble_eq_true rfl) Rc0 ?_
    refine G_goto (pc := 88) 99 X (dg dt_Q_setConjugate 31 rfl) (by decide) ?_
    exact G_vret (pc := 99) X hq (dg dt_Q_setConjugate 37 rfl) h
  · refine G_aload_n (pc := 91) 0 X (dg dt_Q_setConjugate 32 rfl) rfl rfl ?_
    refine G_iload (pc := 92) X (dg dt_Q_setConjugate 33 rfl) rfl ?_
    refine G_iload_n (pc := 94) 2 X (dg dt_Q_setConjugate 34 rfl) rfl rfl ?_
    refine G_iload_n (pc := 95) 3 X (dg dt_Q_setConjugate 35 rfl) rfl rfl ?_
    obtain ⟨r_17, σ_18, hc_16, h⟩ := cal_go h
    refine G_callV (pc := 96) (S := []) [.int v4, .int v2, .int v3] nosub X  (dg dt_Q_setConjugate 36 rfl) cb_Grid_set cv_Grid_set w_332 (s_Grid_set _ ad _ _ _ _ _ hg_v0 hc_16) rfl ⟨Nat.le_of_ble_eq_true rfl, Nat.le_of_ble_eq_true rfl⟩ (sh_g hg_v0) rfl (Nat.le_of_ble_eq_true rfl) Rc0 ?_
    exact G_vret (pc := 99) X hq (dg dt_Q_setConjugate 37 rfl) h
set_option maxRecDepth 100000 in
set_option maxHeartbeats 4000000 in
theorem s_Q_conjugate_L40 {θ : Th} {ad : Nat → Nat} (htr : θ.2.1.stackTraces = false) {rv : Except Nat Int32} {σe : St} (X : Cx θ g_strs cX11_conjugate 8 "Quasigrove" 7 122)
    {v2 : Int32} {v3 : Nat} {v4 : Nat} {v5 : Int32} (hq : Xq θ (g_SH, ad) (some .int) (xi rv) σe) (hg_v3 : gok v3) (hg_v4 : gok v4) {kx83 : St → Option (Except Nat Int32 × St)} (hkx83 : ∀ (σ : St), kx83 σ = some (rv, σe) → G θ (0, 0) (g_SH, ad) σ 83 [some (.ref (ad 0)), none, some (.int v2), some (.ref (ad v3)), some (.ref (ad v4)), some (.int v5), none, none] []) :
    ∀ (n : Nat) (v6 : Int32) (σ : St), f_Q_conjugate_L40 v2 v3 v4 v5 kx83 n v6 σ = some (rv, σe) → G θ (0, 0) (g_SH, ad) σ 40 [some (.ref (ad 0)), none, some (.int v2), some (.ref (ad v3)), some (.ref (ad v4)), some (.int v5), some (.int v6), none] [] := by
  intro n
  induction n with
  | zero => intro v6 σ h; rw [f_Q_conjugate_L40] at h; cases h
  | succ n ih =>
    intro v6 σ h
    rw [f_Q_conjugate_L40] at h
    refine G_iload (pc := 40) X (dg dt_Q_conjugate 22 rfl) rfl ?_
    refine G_aload_n (pc := 42) 3 X (dg dt_Q_conjugate 23 rfl) rfl rfl ?_
    refine G_getIN (pc := 43) 3 X (dg dt_Q_conjugate 24 rfl) fc_0 w_43 rfl (Nat.le_of_ble_eq_true rfl) (sh_g hg_v3) rfl ?_
    refine G_icmp_ge (pc := 46) 83 X (dg dt_Q_conjugate 25 rfl) (by decide) h (fun h => ?_) (fun h => ?_)
    · exact G_wk (hkx83 σ h) ⟨rfl, ⟨rfl, ⟨rfl, ⟨rfl, ⟨rfl, trivial⟩⟩⟩⟩⟩
    · refine G_aload_n (pc := 49) 3 X (dg dt_Q_conjugate 26 rfl) rfl rfl ?_
      refine G_iload (pc := 50) X (dg dt_Q_conjugate 27 rfl) rfl ?_
      refine G_iload (pc := 52) X (dg dt_Q_conjugate 28 rfl) rfl ?_
      obtain ⟨r_13, hc_12, h⟩ := cap_go h
      refine G_callV (pc := 54) (S := []) [.int v5, .int v6] nosub X  (dg dt_Q_conjugate 29 rfl) cb_Grid_signAt cv_Grid_signAt w_368 (s_Grid_signAt _ ad _ _ _ _ hg_v3 hc_12) rfl ⟨Nat.le_of_ble_eq_true rfl, Nat.le_of_ble_eq_true rfl⟩ (sh_g hg_v3) rfl (Nat.le_of_ble_eq_true rfl) Rc0 ?_
      refine G_istore (pc := 57) X (dg dt_Q_conjugate 30 rfl) (Nat.le_of_ble_eq_true rfl) rfl ?_
      refine G_iload (pc := 59) X (dg dt_Q_conjugate 31 rfl) rfl ?_
      refine G_iconst (pc := 61) (-1) X (dg dt_Q_conjugate 32 rfl) (by decide) ?_
      refine jn_go (fun j77_14 => ∀ (σ_15 : St), j77_14 σ_15 = some (rv, σe) → G θ (0, 0) (g_SH, ad) σ_15 77 [some (.ref (ad 0)), none, some (.int v2), some (.ref (ad v3)), some (.ref (ad v4)), some (.int v5), some (.int v6), none] []) h ?_ (fun j77_14 hj77_14 h => ?_)
      · intro σ_15 h
        refine G_iinc (pc := 77) (v6 + 1) X (dg dt_Q_conjugate 40 rfl) rfl (Nat.le_of_ble_eq_true rfl) rfl rfl ?_
        refine G_goto (pc := 80) 40 X (dg dt_Q_conjugate 41 rfl) (by decide) ?_
        exact G_wk (ih (v6 + 1) σ_15 h) ⟨rfl, ⟨rfl, ⟨rfl, ⟨rfl, ⟨rfl, ⟨rfl, trivial⟩⟩⟩⟩⟩⟩
      refine G_icmp_eq (pc := 62) 77 X (dg dt_Q_conjugate 33 rfl) (by decide) h (fun h => ?_) (fun h => ?_)
      · exact G_wk (hj77_14 σ h) ⟨rfl, ⟨rfl, ⟨rfl, ⟨rfl, ⟨rfl, ⟨rfl, trivial⟩⟩⟩⟩⟩⟩
      · refine G_aload (pc := 65) X (dg dt_Q_conjugate 34 rfl) rfl ?_
        refine G_iload_n (pc := 67) 2 X (dg dt_Q_conjugate 35 rfl) rfl rfl ?_
        refine G_iload (pc := 68) X (dg dt_Q_conjugate 36 rfl) rfl ?_
        refine G_iload (pc := 70) X (dg dt_Q_conjugate 37 rfl) rfl ?_
        refine G_iload (pc := 72) X (dg dt_Q_conjugate 38 rfl) rfl ?_
        obtain ⟨r_17, σ_18, hc_16, h⟩ := cal_go h
        refine G_callS (pc := 74) (S := []) [.ref (ad v4), .int v2, .int v5, .int v6, .int r_13] nosub X  (dg dt_Q_conjugate 39 rfl) cb_Q_setConjugate w_373 w_372 (s_Q_setConjugate _ ad _ _ _ _ _ _ hg_v4 hc_16) rfl ⟨Nat.le_of_ble_eq_true rfl, Nat.le_of_ble_eq_true rfl⟩  (Nat.le_of_ble_eq_true rfl) Rc0 ?_
        exact G_wk (hj77_14 σ_18 h) ⟨rfl, ⟨rfl, ⟨rfl, ⟨rfl, ⟨rfl, ⟨rfl, trivial⟩⟩⟩⟩⟩⟩
set_option maxRecDepth 100000 in
set_option maxHeartbeats 4000000 in
theorem s_Q_conjugate_L28 {θ : Th} {ad : Nat → Nat} (htr : θ.2.1.stackTraces = false) {rv : Except Nat Int32} {σe : St} (X : Cx θ g_strs cX11_conjugate 8 "Quasigrove" 7 122)
    {v2 : Int32} {v3 : Nat} {v4 : Nat} (hq : Xq θ (g_SH, ad) (some .int) (xi rv) σe) (hg_v3 : gok v3) (hg_v4 : gok v4) {kx89 : St → Option (Except Nat Int32 × St)} (hkx89 : ∀ (σ : St), kx89 σ = some (rv, σe) → G θ (0, 0) (g_SH, ad) σ 89 [some (.ref (ad 0)), none, none, none, none, none, none, none] []) :
    ∀ (n : Nat) (v5 : Int32) (σ : St), f_Q_conjugate_L28 v2 v3 v4 kx89 n v5 σ = some (rv, σe) → G θ (0, 0) (g_SH, ad) σ 28 [some (.ref (ad 0)), none, some (.int v2), some (.ref (ad v3)), some (.ref (ad v4)), some (.int v5), none, none] [] := by
  intro n
  induction n with
  | zero => intro v5 σ h; rw [f_Q_conjugate_L28] at h; cases h
  | succ n ih =>
    intro v5 σ h
    rw [f_Q_conjugate_L28] at h
    refine G_iload (pc := 28) X (dg dt_Q_conjugate 16 rfl) rfl ?_
    refine G_aload_n (pc := 30) 3 X (dg dt_Q_conjugate 17 rfl) rfl rfl ?_
    refine G_getIN (pc := 31) 3 X (dg dt_Q_conjugate 18 rfl) fc_0 w_43 rfl (Nat.le_of_ble_eq_true rfl) (sh_g hg_v3) rfl ?_
    refine G_icmp_ge (pc := 34) 89 X (dg dt_Q_conjugate 19 rfl) (by decide) h (fun h => ?_) (fun h => ?_)
    · exact G_wk (hkx89 σ h) ⟨rfl, trivial⟩
    · refine G_iconst (pc := 37) 0 X (dg dt_Q_conjugate 20 rfl) (by decide) ?_
      refine G_istore (pc := 38) X (dg dt_Q_conjugate 21 rfl) (Nat.le_of_ble_eq_true rfl) rfl ?_
      refine G_weak (L' := [some (.ref (ad 0)), none, some (.int v2), some (.ref (ad v3)), some (.ref (ad v4)), some (.int v5), some (.int 0), none]) ⟨rfl, ⟨rfl, ⟨rfl, ⟨rfl, ⟨rfl, ⟨rfl, trivial⟩⟩⟩⟩⟩⟩ ?_
      refine s_Q_conjugate_L40 htr X hq hg_v3 hg_v4 (fun σ_19 h => ?_) _ _ _ h
      refine G_iinc (pc := 83) (v5 + 1) X (dg dt_Q_conjugate 42 rfl) rfl (Nat.le_of_ble_eq_true rfl) rfl rfl ?_
      refine G_goto (pc := 86) 28 X (dg dt_Q_conjugate 43 rfl) (by decide) ?_
      exact G_wk (ih (v5 + 1) σ_19 h) ⟨rfl, ⟨rfl, ⟨rfl, ⟨rfl, ⟨rfl, trivial⟩⟩⟩⟩⟩
set_option maxRecDepth 100000 in
set_option maxHeartbeats 4000000 in
theorem s_Q_conjugate {l : Launch} (htr : l.stackTraces = false) (_ : Unit) (ad : Nat → Nat) (σ : St) (v1 : Int32) (v2 : Int32)  {rv : Except Nat Int32} {σe : St} (h : f_Q_conjugate σ v1 v2 = some (rv, σe)) : RX l g_strs yX11_conjugate cX11_conjugate 8 (some .int) 7 122 (g_SH, ad) [.ref (ad 0), .int v1, .int v2] σ (xi rv) σe := by
  refine RX.intro htr (L := [some (.ref (ad 0)), some (.int v1), some (.int v2), none, none, none, none, none]) (by decide +kernel) (Nat.le_of_ble_eq_true rfl) rfl (fun θ hl X hq => ?_)
  subst hl
  unfold f_Q_conjugate at h
  refine G_aload_n (pc := 0) 0 X (dg dt_Q_conjugate 0 rfl) rfl rfl ?_
  refine G_iload_n (pc := 1) 1 X (dg dt_Q_conjugate 1 rfl) rfl rfl ?_
  refine cax_go h (fun ex hc_1 hex => by subst hex; exact G_callVX (pc := 2) (S := []) [.int v1] (fun _ h => h) X hq (dg dt_Q_conjugate 2 rfl) cb_Q_gridAt cv_Q_gridAt w_348 (s_Q_gridAt htr () ad _ _ hc_1) rfl ⟨Nat.le_of_ble_eq_true rfl, Nat.le_of_ble_eq_true rfl⟩ sh_0 rfl (Nat.le_of_ble_eq_true rfl)) (fun r_2 σ_3 hc_1 h => ?_)
  have hg_r_2 := gk_of_Q_gridAt hc_1
  refine G_callV (pc := 2) (S := []) [.int v1] (fun _ h => h) X  (dg dt_Q_conjugate 2 rfl) cb_Q_gridAt cv_Q_gridAt w_348 (s_Q_gridAt htr () ad _ _ hc_1) rfl ⟨Nat.le_of_ble_eq_true rfl, Nat.le_of_ble_eq_true rfl⟩ sh_0 rfl (Nat.le_of_ble_eq_true rfl) Rc0 ?_
  refine G_astore_n (pc := 5) 3 X (dg dt_Q_conjugate 3 rfl) rfl (Nat.le_of_ble_eq_true rfl) rfl ?_
  refine G_iload_n (pc := 6) 2 X (dg dt_Q_conjugate 4 rfl) rfl rfl ?_
  refine G_iconst (pc := 7) 0 X (dg dt_Q_conjugate 5 rfl) (by decide) ?_
  refine G_iconst (pc := 8) 5 X (dg dt_Q_conjugate 6 rfl) (by decide) ?_
  obtain ⟨r_5, hc_4, h⟩ := cap_go h
  refine G_callS (pc := 9) (S := []) [.int v2, .int 0, .int 5] nosub X  (dg dt_Q_conjugate 7 rfl) cb_Q_isFrom w_219 w_218 (s_Q_isFrom _ ad _ _ _ _ hc_4) rfl ⟨Nat.le_of_ble_eq_true rfl, Nat.le_of_ble_eq_true rfl⟩  (Nat.le_of_ble_eq_true rfl) Rc0 ?_
  refine cax_go h (fun ex hc_6 hex => by subst hex; exact G_callSX (pc := 12) (S := []) [.int r_5] (fun _ h => h) X hq (dg dt_Q_conjugate 8 rfl) cb_Q_needArgument w_222 w_221 (s_Q_needArgument htr () ad _ _ hc_6) rfl ⟨Nat.le_of_ble_eq_true rfl, Nat.le_of_ble_eq_true rfl⟩  (Nat.le_of_ble_eq_true rfl)) (fun r_7 σ_8 hc_6 h => ?_)
  refine G_callS (pc := 12) (S := []) [.int r_5] (fun _ h => h) X  (dg dt_Q_conjugate 8 rfl) cb_Q_needArgument w_222 w_221 (s_Q_needArgument htr () ad _ _ hc_6) rfl ⟨Nat.le_of_ble_eq_true rfl, Nat.le_of_ble_eq_true rfl⟩  (Nat.le_of_ble_eq_true rfl) Rc0 ?_
  refine G_aload_n (pc := 15) 0 X (dg dt_Q_conjugate 9 rfl) rfl rfl ?_
  refine G_aload_n (pc := 16) 3 X (dg dt_Q_conjugate 10 rfl) rfl rfl ?_
  refine G_getIN (pc := 17) 3 X (dg dt_Q_conjugate 11 rfl) fc_0 w_43 rfl (Nat.le_of_ble_eq_true rfl) (sh_g hg_r_2) rfl ?_
  refine cax_go h (fun ex hc_9 hex => by subst hex; exact G_callVX (pc := 20) (S := []) [.int (σ_8 r_2 3)] (fun _ h => h) X hq (dg dt_Q_conjugate 12 rfl) cb_Q_newGrid cv_Q_newGrid w_292 (s_Q_newGrid htr () ad _ _ hc_9) rfl ⟨Nat.le_of_ble_eq_true rfl, Nat.le_of_ble_eq_true rfl⟩ sh_0 rfl (Nat.le_of_ble_eq_true rfl)) (fun r_10 σ_11 hc_9 h => ?_)
  have hg_r_10 := gk_of_Q_newGrid hc_9
  refine G_callV (pc := 20) (S := []) [.int (σ_8 r_2 3)] (fun _ h => h) X  (dg dt_Q_conjugate 12 rfl) cb_Q_newGrid cv_Q_newGrid w_292 (s_Q_newGrid htr () ad _ _ hc_9) rfl ⟨Nat.le_of_ble_eq_true rfl, Nat.le_of_ble_eq_true rfl⟩ sh_0 rfl (Nat.le_of_ble_eq_true rfl) Rc0 ?_
  refine G_astore (pc := 23) X (dg dt_Q_conjugate 13 rfl) (Nat.le_of_ble_eq_true rfl) rfl ?_
  refine G_iconst (pc := 25) 0 X (dg dt_Q_conjugate 14 rfl) (by decide) ?_
  refine G_istore (pc := 26) X (dg dt_Q_conjugate 15 rfl) (Nat.le_of_ble_eq_true rfl) rfl ?_
  refine G_weak (L' := [some (.ref (ad 0)), none, some (.int v2), some (.ref (ad r_2)), some (.ref (ad r_10)), some (.int 0), none, none]) ⟨rfl, ⟨rfl, ⟨rfl, ⟨rfl, ⟨rfl, trivial⟩⟩⟩⟩⟩ ?_
  refine s_Q_conjugate_L28 htr X hq hg_r_2 hg_r_10 (fun σ_20 h => ?_) _ _ _ h
  refine G_aload_n (pc := 89) 0 X (dg dt_Q_conjugate 44 rfl) rfl rfl ?_
  refine G_getI (pc := 90) 8 X (dg dt_Q_conjugate 45 rfl) fc_7 w_194 rfl (Nat.le_of_ble_eq_true rfl) sh_0 rfl ?_
  refine G_iconst (pc := 93) 1 X (dg dt_Q_conjugate 46 rfl) (by decide) ?_
  refine G_isub (pc := 94) X (dg dt_Q_conjugate 47 rfl) ?_
  exact G_xiret (pc := 95) X hq (dg dt_Q_conjugate 48 rfl) h
set_option maxRecDepth 100000 in
set_option maxHeartbeats 4000000 in
theorem s_Q_remainder (l : Launch) (ad : Nat → Nat) (σ : St) (v0 : Int32) (v1 : Int32)  {rv : Int32} (h : f_Q_remainder σ v0 v1 = some rv) : Rt l [] yX11_remainder cX11_remainder 2 (some .int) 0 0 (g_SH, ad) [.int v0, .int v1] σ (some (.int rv)) σ := by
  refine Rt.intro (L := [some (.int v0), some (.int v1)]) (by decide +kernel) (Nat.le_of_ble_eq_true rfl) rfl (fun θ hl X hq => ?_)
  subst hl
  unfold f_Q_remainder at h
  refine G_iload_n (pc := 0) 1 X (dg dt_Q_remainder 0 rfl) rfl rfl ?_
  refine G_if_le (pc := 1) 10 X (dg dt_Q_remainder 1 rfl) (by decide) h (fun h => ?_) (fun h => ?_)
  · refine G_iconst (pc := 10) 0 X (dg dt_Q_remainder 6 rfl) (by decide) ?_
    exact G_iretp (pc := 11) X hq (dg dt_Q_remainder 7 rfl) h
  · refine G_iload_n (pc := 4) 0 X (dg dt_Q_remainder 2 rfl) rfl rfl ?_
    refine G_iload_n (pc := 5) 1 X (dg dt_Q_remainder 3 rfl) rfl rfl ?_
    refine G_irem (pc := 6) X (dg dt_Q_remainder 4 rfl) h (fun q_1 h => ?_)
    refine G_goto (pc := 7) 11 X (dg dt_Q_remainder 5 rfl) (by decide) ?_
    exact G_iretp (pc := 11) X hq (dg dt_Q_remainder 7 rfl) h
set_option maxRecDepth 100000 in
set_option maxHeartbeats 4000000 in
theorem s_Q_reachesAll_L4 {θ : Th} {ad : Nat → Nat}  {rv : Int32} (X : Cx θ [] cX11_reachesAll 4 "Quasigrove" 1 21)
    {v0 : Int32} {v1 : Int32} {σ : St} (hq : Rq θ (g_SH, ad) (some .boolean) (some (.int rv)) σ) {kx27 : Int32 → Option Int32} (hkx27 : ∀ (v2 : Int32), kx27 v2 = some rv → G θ (0, 0) (g_SH, ad) σ 27 [none, some (.int v1), some (.int v2), none] []) :
    ∀ (n : Nat) (v2 : Int32) (v3 : Int32), f_Q_reachesAll_L4 v0 v1 σ kx27 n v2 v3 = some rv → G θ (0, 0) (g_SH, ad) σ 4 [some (.int v0), some (.int v1), some (.int v2), some (.int v3)] [] := by
  intro n
  induction n with
  | zero => intro v2 v3 h; rw [f_Q_reachesAll_L4] at h; cases h
  | succ n ih =>
    intro v2 v3 h
    rw [f_Q_reachesAll_L4] at h
    refine G_iload_n (pc := 4) 3 X (dg dt_Q_reachesAll 4 rfl) rfl rfl ?_
    refine G_iload_n (pc := 5) 1 X (dg dt_Q_reachesAll 5 rfl) rfl rfl ?_
    refine G_icmp_ge (pc := 6) 27 X (dg dt_Q_reachesAll 6 rfl) (by decide) h (fun h => ?_) (fun h => ?_)
    · exact G_wk (hkx27 v2 h) ⟨rfl, ⟨rfl, trivial⟩⟩
    · refine G_iload_n (pc := 9) 2 X (dg dt_Q_reachesAll 7 rfl) rfl rfl ?_
      refine G_iconst (pc := 10) 1 X (dg dt_Q_reachesAll 8 rfl) (by decide) ?_
      refine G_iload_n (pc := 11) 0 X (dg dt_Q_reachesAll 9 rfl) rfl rfl ?_
      refine G_iload_n (pc := 12) 3 X (dg dt_Q_reachesAll 10 rfl) rfl rfl ?_
      refine G_imul (pc := 13) X (dg dt_Q_reachesAll 11 rfl) ?_
      refine G_iload_n (pc := 14) 1 X (dg dt_Q_reachesAll 12 rfl) rfl rfl ?_
      obtain ⟨r_2, hc_1, h⟩ := cap_go h
      refine G_callS (pc := 15) (S := [.int 1, .int v2]) [.int (v0 * v3), .int v1] nosub X  (dg dt_Q_reachesAll 13 rfl) cb_Q_remainder w_330 w_329 (s_Q_remainder _ ad _ _ _ hc_1) rfl ⟨Nat.le_of_ble_eq_true rfl, Nat.le_of_ble_eq_true rfl⟩  (Nat.le_of_ble_eq_true rfl) Rc0 ?_
      refine G_ishl (pc := 18) X (dg dt_Q_reachesAll 14 rfl) ?_
      refine G_ior (pc := 19) X (dg dt_Q_reachesAll 15 rfl) ?_
      refine G_istore_n_lt (pc := 20) 2 X (dg dt_Q_reachesAll 16 rfl) rfl (Nat.le_of_ble_eq_true rfl) rfl h (fun v2_3 h => ?_)
      refine G_iinc (pc := 21) (v3 + 1) X (dg dt_Q_reachesAll 17 rfl) rfl (Nat.le_of_ble_eq_true rfl) rfl rfl ?_
      refine G_goto (pc := 24) 4 X (dg dt_Q_reachesAll 18 rfl) (by decide) ?_
      exact G_wk (ih v2_3 (v3 + 1) h) ⟨rfl, ⟨rfl, ⟨rfl, ⟨rfl, trivial⟩⟩⟩⟩
set_option maxRecDepth 100000 in
set_option maxHeartbeats 4000000 in
theorem s_Q_reachesAll (l : Launch) (ad : Nat → Nat) (σ : St) (v0 : Int32) (v1 : Int32)  {rv : Int32} (h : f_Q_reachesAll σ v0 v1 = some rv) : Rt l [] yX11_reachesAll cX11_reachesAll 4 (some .boolean) 1 21 (g_SH, ad) [.int v0, .int v1] σ (some (.int rv)) σ := by
  refine Rt.intro (L := [some (.int v0), some (.int v1), none, none]) (by decide +kernel) (Nat.le_of_ble_eq_true rfl) rfl (fun θ hl X hq => ?_)
  subst hl
  unfold f_Q_reachesAll at h
  refine G_iconst (pc := 0) 0 X (dg dt_Q_reachesAll 0 rfl) (by decide) ?_
  refine G_istore_n (pc := 1) 2 X (dg dt_Q_reachesAll 1 rfl) rfl (Nat.le_of_ble_eq_true rfl) rfl ?_
  refine G_iconst (pc := 2) 0 X (dg dt_Q_reachesAll 2 rfl) (by decide) ?_
  refine G_istore_n (pc := 3) 3 X (dg dt_Q_reachesAll 3 rfl) rfl (Nat.le_of_ble_eq_true rfl) rfl ?_
  refine G_weak (L' := [some (.int v0), some (.int v1), some (.int 0), some (.int 0)]) ⟨rfl, ⟨rfl, ⟨rfl, ⟨rfl, trivial⟩⟩⟩⟩ ?_
  refine s_Q_reachesAll_L4  X hq  (fun v2_4 h => ?_) _ _ _ h
  refine G_iload_n (pc := 27) 2 X (dg dt_Q_reachesAll 19 rfl) rfl rfl ?_
  refine G_iconst (pc := 28) 1 X (dg dt_Q_reachesAll 20 rfl) (by decide) ?_
  refine G_iload_n (pc := 29) 1 X (dg dt_Q_reachesAll 21 rfl) rfl rfl ?_
  refine G_ishl (pc := 30) X (dg dt_Q_reachesAll 22 rfl) ?_
  refine G_iconst (pc := 31) 1 X (dg dt_Q_reachesAll 23 rfl) (by decide) ?_
  refine G_isub (pc := 32) X (dg dt_Q_reachesAll 24 rfl) ?_
  refine G_icmp_ne (pc := 33) 40 X (dg dt_Q_reachesAll 25 rfl) (by decide) h (fun h => ?_) (fun h => ?_)
  · refine G_iconst (pc := 40) 0 X (dg dt_Q_reachesAll 28 rfl) (by decide) ?_
    exact G_zretlp (pc := 41) X hq (dg dt_Q_reachesAll 29 rfl) rfl h
  · refine G_iconst (pc := 36) 1 X (dg dt_Q_reachesAll 26 rfl) (by decide) ?_
    refine G_goto (pc := 37) 41 X (dg dt_Q_reachesAll 27 rfl) (by decide) ?_
    exact G_zretlp (pc := 41) X hq (dg dt_Q_reachesAll 29 rfl) rfl h
set_option maxRecDepth 100000 in
set_option maxHeartbeats 4000000 in
theorem s_Q_linear_L88 {θ : Th} {ad : Nat → Nat} (htr : θ.2.1.stackTraces = false) {rv : Except Nat Int32} {σe : St} (X : Cx θ g_strs cX11_linear 8 "Quasigrove" 7 122)
    {v1 : Int32} {v2 : Int32} {v3 : Int32} {v4 : Int32} {v5 : Nat} {v6 : Int32} (hq : Xq θ (g_SH, ad) (some .int) (xi rv) σe) (hg_v5 : gok v5) {kx125 : St → Option (Except Nat Int32 × St)} (hkx125 : ∀ (σ : St), kx125 σ = some (rv, σe) → G θ (0, 0) (g_SH, ad) σ 125 [some (.ref (ad 0)), some (.int v1), some (.int v2), some (.int v3), some (.int v4), some (.ref (ad v5)), some (.int v6), none] []) :
    ∀ (n : Nat) (v7 : Int32) (σ : St), f_Q_linear_L88 v1 v2 v3 v4 v5 v6 kx125 n v7 σ = some (rv, σe) → G θ (0, 0) (g_SH, ad) σ 88 [some (.ref (ad 0)), some (.int v1), some (.int v2), some (.int v3), some (.int v4), some (.ref (ad v5)), some (.int v6), some (.int v7)] [] := by
  intro n
  induction n with
  | zero => intro v7 σ h; rw [f_Q_linear_L88] at h; cases h
  | succ n ih =>
    intro v7 σ h
    rw [f_Q_linear_L88] at h
    refine G_iload (pc := 88) X (dg dt_Q_linear 47 rfl) rfl ?_
    refine G_iload_n (pc := 90) 1 X (dg dt_Q_linear 48 rfl) rfl rfl ?_
    refine G_icmp_ge (pc := 91) 125 X (dg dt_Q_linear 49 rfl) (by decide) h (fun h => ?_) (fun h => ?_)
    · exact G_wk (hkx125 σ h) ⟨rfl, ⟨rfl, ⟨rfl, ⟨rfl, ⟨rfl, ⟨rfl, ⟨rfl, trivial⟩⟩⟩⟩⟩⟩⟩
    · refine G_aload (pc := 94) X (dg dt_Q_linear 50 rfl) rfl ?_
      refine G_iload (pc := 96) X (dg dt_Q_linear 51 rfl) rfl ?_
      refine G_iload (pc := 98) X (dg dt_Q_linear 52 rfl) rfl ?_
      refine G_iload_n (pc := 100) 2 X (dg dt_Q_linear 53 rfl) rfl rfl ?_
      refine G_iload (pc := 101) X (dg dt_Q_linear 54 rfl) rfl ?_
      refine G_imul (pc := 103) X (dg dt_Q_linear 55 rfl) ?_
      refine G_iload_n (pc := 104) 3 X (dg dt_Q_linear 56 rfl) rfl rfl ?_
      refine G_iload (pc := 105) X (dg dt_Q_linear 57 rfl) rfl ?_
      refine G_imul (pc := 107) X (dg dt_Q_linear 58 rfl) ?_
      refine G_iadd (pc := 108) X (dg dt_Q_linear 59 rfl) ?_
      refine G_iload (pc := 109) X (dg dt_Q_linear 60 rfl) rfl ?_
      refine G_iadd (pc := 111) X (dg dt_Q_linear 61 rfl) ?_
      refine G_iload_n (pc := 112) 1 X (dg dt_Q_linear 62 rfl) rfl rfl ?_
      obtain ⟨r_24, hc_23, h⟩ := cap_go h
      refine G_callS (pc := 113) (S := [.int v7, .int v6, .ref (ad v5)]) [.int (((v2 * v6) + (v3 * v7)) + v4), .int v1] nosub X  (dg dt_Q_linear 63 rfl) cb_Q_remainder w_330 w_329 (s_Q_remainder _ ad _ _ _ hc_23) rfl ⟨Nat.le_of_ble_eq_true rfl, Nat.le_of_ble_eq_true rfl⟩  (Nat.le_of_ble_eq_true rfl) Rc0 ?_
      obtain ⟨r_26, σ_27, hc_25, h⟩ := cal_go h
      refine G_callV (pc := 116) (S := []) [.int v6, .int v7, .int r_24] nosub X  (dg dt_Q_linear 64 rfl) cb_Grid_set cv_Grid_set w_332 (s_Grid_set _ ad _ _ _ _ _ hg_v5 hc_25) rfl ⟨Nat.le_of_ble_eq_true rfl, Nat.le_of_ble_eq_true rfl⟩ (sh_g hg_v5) rfl (Nat.le_of_ble_eq_true rfl) Rc0 ?_
      refine G_iinc (pc := 119) (v7 + 1) X (dg dt_Q_linear 65 rfl) rfl (Nat.le_of_ble_eq_true rfl) rfl rfl ?_
      refine G_goto (pc := 122) 88 X (dg dt_Q_linear 66 rfl) (by decide) ?_
      exact G_wk (ih (v7 + 1) σ_27 h) ⟨rfl, ⟨rfl, ⟨rfl, ⟨rfl, ⟨rfl, ⟨rfl, ⟨rfl, ⟨rfl, trivial⟩⟩⟩⟩⟩⟩⟩⟩
set_option maxRecDepth 100000 in
set_option maxHeartbeats 4000000 in
theorem s_Q_linear_L79 {θ : Th} {ad : Nat → Nat} (htr : θ.2.1.stackTraces = false) {rv : Except Nat Int32} {σe : St} (X : Cx θ g_strs cX11_linear 8 "Quasigrove" 7 122)
    {v1 : Int32} {v2 : Int32} {v3 : Int32} {v4 : Int32} {v5 : Nat} (hq : Xq θ (g_SH, ad) (some .int) (xi rv) σe) (hg_v5 : gok v5) {kx131 : St → Option (Except Nat Int32 × St)} (hkx131 : ∀ (σ : St), kx131 σ = some (rv, σe) → G θ (0, 0) (g_SH, ad) σ 131 [some (.ref (ad 0)), none, none, none, none, none, none, none] []) :
    ∀ (n : Nat) (v6 : Int32) (σ : St), f_Q_linear_L79 v1 v2 v3 v4 v5 kx131 n v6 σ = some (rv, σe) → G θ (0, 0) (g_SH, ad) σ 79 [some (.ref (ad 0)), some (.int v1), some (.int v2), some (.int v3), some (.int v4), some (.ref (ad v5)), some (.int v6), none] [] := by
  intro n
  induction n with
  | zero => intro v6 σ h; rw [f_Q_linear_L79] at h; cases h
  | succ n ih =>
    intro v6 σ h
    rw [f_Q_linear_L79] at h
    refine G_iload (pc := 79) X (dg dt_Q_linear 42 rfl) rfl ?_
    refine G_iload_n (pc := 81) 1 X (dg dt_Q_linear 43 rfl) rfl rfl ?_
    refine G_icmp_ge (pc := 82) 131 X (dg dt_Q_linear 44 rfl) (by decide) h (fun h => ?_) (fun h => ?_)
    · exact G_wk (hkx131 σ h) ⟨rfl, trivial⟩
    · refine G_iconst (pc := 85) 0 X (dg dt_Q_linear 45 rfl) (by decide) ?_
      refine G_istore (pc := 86) X (dg dt_Q_linear 46 rfl) (Nat.le_of_ble_eq_true rfl) rfl ?_
      refine G_weak (L' := [some (.ref (ad 0)), some (.int v1), some (.int v2), some (.int v3), some (.int v4), some (.ref (ad v5)), some (.int v6), some (.int 0)]) ⟨rfl, ⟨rfl, ⟨rfl, ⟨rfl, ⟨rfl, ⟨rfl, ⟨rfl, ⟨rfl, trivial⟩⟩⟩⟩⟩⟩⟩⟩ ?_
      refine s_Q_linear_L88 htr X hq hg_v5 (fun σ_28 h => ?_) _ _ _ h
      refine G_iinc (pc := 125) (v6 + 1) X (dg dt_Q_linear 67 rfl) rfl (Nat.le_of_ble_eq_true rfl) rfl rfl ?_
      refine G_goto (pc := 128) 79 X (dg dt_Q_linear 68 rfl) (by decide) ?_
      exact G_wk (ih (v6 + 1) σ_28 h) ⟨rfl, ⟨rfl, ⟨rfl, ⟨rfl, ⟨rfl, ⟨rfl, ⟨rfl, trivial⟩⟩⟩⟩⟩⟩⟩
set_option maxRecDepth 100000 in
set_option maxHeartbeats 4000000 in
theorem s_Q_linear {l : Launch} (htr : l.stackTraces = false) (_ : Unit) (ad : Nat → Nat) (σ : St) (v1 : Int32) (v2 : Int32) (v3 : Int32) (v4 : Int32)  {rv : Except Nat Int32} {σe : St} (h : f_Q_linear σ v1 v2 v3 v4 = some (rv, σe)) : RX l g_strs yX11_linear cX11_linear 8 (some .int) 7 122 (g_SH, ad) [.ref (ad 0), .int v1, .int v2, .int v3, .int v4] σ (xi rv) σe := by
  refine RX.intro htr (L := [some (.ref (ad 0)), some (.int v1), some (.int v2), some (.int v3), some (.int v4), none, none, none]) (by decide +kernel) (Nat.le_of_ble_eq_true rfl) rfl (fun θ hl X hq => ?_)
  subst hl
  unfold f_Q_linear at h
  refine G_iload_n (pc := 0) 1 X (dg dt_Q_linear 0 rfl) rfl rfl ?_
  refine G_iconst (pc := 1) 2 X (dg dt_Q_linear 1 rfl) (by decide) ?_
  refine G_iconst (pc := 2) 5 X (dg dt_Q_linear 2 rfl) (by decide) ?_
  obtain ⟨r_2, hc_1, h⟩ := cap_go h
  refine G_callS (pc := 3) (S := []) [.int v1, .int 2, .int 5] nosub X  (dg dt_Q_linear 3 rfl) cb_Q_isFrom w_219 w_218 (s_Q_isFrom _ ad _ _ _ _ hc_1) rfl ⟨Nat.le_of_ble_eq_true rfl, Nat.le_of_ble_eq_true rfl⟩  (Nat.le_of_ble_eq_true rfl) Rc0 ?_
  refine cax_go h (fun ex hc_3 hex => by subst hex; exact G_callSX (pc := 6) (S := []) [.int r_2] (fun _ h => h) X hq (dg dt_Q_linear 4 rfl) cb_Q_needArgument w_222 w_221 (s_Q_needArgument htr () ad _ _ hc_3) rfl ⟨Nat.le_of_ble_eq_true rfl, Nat.le_of_ble_eq_true rfl⟩  (Nat.le_of_ble_eq_true rfl)) (fun r_4 σ_5 hc_3 h => ?_)
  refine G_callS (pc := 6) (S := []) [.int r_2] (fun _ h => h) X  (dg dt_Q_linear 4 rfl) cb_Q_needArgument w_222 w_221 (s_Q_needArgument htr () ad _ _ hc_3) rfl ⟨Nat.le_of_ble_eq_true rfl, Nat.le_of_ble_eq_true rfl⟩  (Nat.le_of_ble_eq_true rfl) Rc0 ?_
  refine G_iload_n (pc := 9) 2 X (dg dt_Q_linear 5 rfl) rfl rfl ?_
  refine G_iconst (pc := 10) 0 X (dg dt_Q_linear 6 rfl) (by decide) ?_
  refine G_iconst (pc := 11) 4 X (dg dt_Q_linear 7 rfl) (by decide) ?_
  obtain ⟨r_7, hc_6, h⟩ := cap_go h
  refine G_callS (pc := 12) (S := []) [.int v2, .int 0, .int 4] nosub X  (dg dt_Q_linear 8 rfl) cb_Q_isFrom w_219 w_218 (s_Q_isFrom _ ad _ _ _ _ hc_6) rfl ⟨Nat.le_of_ble_eq_true rfl, Nat.le_of_ble_eq_true rfl⟩  (Nat.le_of_ble_eq_true rfl) Rc0 ?_
  refine jn_go (fun j42_8 => ∀ (s_9 : Int32), j42_8 s_9 = some (rv, σe) → G θ (0, 0) (g_SH, ad) σ_5 42 [some (.ref (ad 0)), some (.int v1), some (.int v2), some (.int v3), some (.int v4), none, none, none] [.int s_9]) h ?_ (fun j42_8 hj42_8 h => ?_)
  · intro s_9 h
    refine cax_go h (fun ex hc_10 hex => by subst hex; exact G_callSX (pc := 42) (S := []) [.int s_9] (fun _ h => h) X hq (dg dt_Q_linear 23 rfl) cb_Q_needArgument w_222 w_221 (s_Q_needArgument htr () ad _ _ hc_10) rfl ⟨Nat.le_of_ble_eq_true rfl, Nat.le_of_ble_eq_true rfl⟩  (Nat.le_of_ble_eq_true rfl)) (fun r_11 σ_12 hc_10 h => ?_)
    refine G_callS (pc := 42) (S := []) [.int s_9] (fun _ h => h) X  (dg dt_Q_linear 23 rfl) cb_Q_needArgument w_222 w_221 (s_Q_needArgument htr () ad _ _ hc_10) rfl ⟨Nat.le_of_ble_eq_true rfl, Nat.le_of_ble_eq_true rfl⟩  (Nat.le_of_ble_eq_true rfl) Rc0 ?_
    refine G_iload_n (pc := 45) 2 X (dg dt_Q_linear 24 rfl) rfl rfl ?_
    refine G_iload_n (pc := 46) 1 X (dg dt_Q_linear 25 rfl) rfl rfl ?_
    obtain ⟨r_14, hc_13, h⟩ := cap_go h
    refine G_callS (pc := 47) (S := []) [.int v2, .int v1] nosub X  (dg dt_Q_linear 26 rfl) cb_Q_reachesAll w_327 w_326 (s_Q_reachesAll _ ad _ _ _ hc_13) rfl ⟨Nat.le_of_ble_eq_true rfl, Nat.le_of_ble_eq_true rfl⟩  (Nat.le_of_ble_eq_true rfl) Rc0 ?_
    refine jn_go (fun j66_15 => ∀ (s_16 : Int32), j66_15 s_16 = some (rv, σe) → G θ (0, 0) (g_SH, ad) σ_12 66 [some (.ref (ad 0)), some (.int v1), some (.int v2), some (.int v3), some (.int v4), none, none, none] [.int s_16]) h ?_ (fun j66_15 hj66_15 h => ?_)
    · intro s_16 h
      refine cax_go h (fun ex hc_17 hex => by subst hex; exact G_callSX (pc := 66) (S := []) [.int s_16] (fun _ h => h) X hq (dg dt_Q_linear 35 rfl) cb_Q_needArgument w_222 w_221 (s_Q_needArgument htr () ad _ _ hc_17) rfl ⟨Nat.le_of_ble_eq_true rfl, Nat.le_of_ble_eq_true rfl⟩  (Nat.le_of_ble_eq_true rfl)) (fun r_18 σ_19 hc_17 h => ?_)
      refine G_callS (pc := 66) (S := []) [.int s_16] (fun _ h => h) X  (dg dt_Q_linear 35 rfl) cb_Q_needArgument w_222 w_221 (s_Q_needArgument htr () ad _ _ hc_17) rfl ⟨Nat.le_of_ble_eq_true rfl, Nat.le_of_ble_eq_true rfl⟩  (Nat.le_of_ble_eq_true rfl) Rc0 ?_
      refine G_aload_n (pc := 69) 0 X (dg dt_Q_linear 36 rfl) rfl rfl ?_
      refine G_iload_n (pc := 70) 1 X (dg dt_Q_linear 37 rfl) rfl rfl ?_
      refine cax_go h (fun ex hc_20 hex => by subst hex; exact G_callVX (pc := 71) (S := []) [.int v1] (fun _ h => h) X hq (dg dt_Q_linear 38 rfl) cb_Q_newGrid cv_Q_newGrid w_292 (s_Q_newGrid htr () ad _ _ hc_20) rfl ⟨Nat.le_of_ble_eq_true rfl, Nat.le_of_ble_eq_true rfl⟩ sh_0 rfl (Nat.le_of_ble_eq_true rfl)) (fun r_21 σ_22 hc_20 h => ?_)
      have hg_r_21 := gk_of_Q_newGrid hc_20
      refine G_callV (pc := 71) (S := []) [.int v1] (fun _ h => h) X  (dg dt_Q_linear 38 rfl) cb_Q_newGrid cv_Q_newGrid w_292 (s_Q_newGrid htr () ad _ _ hc_20) rfl ⟨Nat.le_of_ble_eq_true rfl, Nat.le_of_ble_eq_true rfl⟩ sh_0 rfl (Nat.le_of_ble_eq_true rfl) Rc0 ?_
      refine G_astore (pc := 74) X (dg dt_Q_linear 39 rfl) (Nat.le_of_ble_eq_true rfl) rfl ?_
      refine G_iconst (pc := 76) 0 X (dg dt_Q_linear 40 rfl) (by decide) ?_
      refine G_istore (pc := 77) X (dg dt_Q_linear 41 rfl) (Nat.le_of_ble_eq_true rfl) rfl ?_
      refine G_weak (L' := [some (.ref (ad 0)), some (.int v1), some (.int v2), some (.int v3), some (.int v4), some (.ref (ad r_21)), some (.int 0), none]) ⟨rfl, ⟨rfl, ⟨rfl, ⟨rfl, ⟨rfl, ⟨rfl, ⟨rfl, trivial⟩⟩⟩⟩⟩⟩⟩ ?_
      refine s_Q_linear_L79 htr X hq hg_r_21 (fun σ_29 h => ?_) _ _ _ h
      refine G_aload_n (pc := 131) 0 X (dg dt_Q_linear 69 rfl) rfl rfl ?_
      refine G_getI (pc := 132) 8 X (dg dt_Q_linear 70 rfl) fc_7 w_194 rfl (Nat.le_of_ble_eq_true rfl) sh_0 rfl ?_
      refine G_iconst (pc := 135) 1 X (dg dt_Q_linear 71 rfl) (by decide) ?_
      refine G_isub (pc := 136) X (dg dt_Q_linear 72 rfl) ?_
      exact G_xiret (pc := 137) X hq (dg dt_Q_linear 73 rfl) h
    refine jn_go (fun j65_30 => j65_30 = some (rv, σe) → G θ (0, 0) (g_SH, ad) σ_12 65 [some (.ref (ad 0)), some (.int v1), some (.int v2), some (.int v3), some (.int v4), none, none, none] []) h ?_ (fun j65_30 hj65_30 h => ?_)
    · intro  h
      refine G_iconst (pc := 65) 0 X (dg dt_Q_linear 34 rfl) (by decide) ?_
      exact G_wk (hj66_15 0 h) ⟨rfl, ⟨rfl, ⟨rfl, ⟨rfl, ⟨rfl, trivial⟩⟩⟩⟩⟩
    refine G_if_eq (pc := 50) 65 X (dg dt_Q_linear 27 rfl) (by decide) h (fun h => ?_) (fun h => ?_)
    · exact G_wk (hj65_30  h) ⟨rfl, ⟨rfl, ⟨rfl, ⟨rfl, ⟨rfl, trivial⟩⟩⟩⟩⟩
    · refine G_iload_n (pc := 53) 3 X (dg dt_Q_linear 28 rfl) rfl rfl ?_
      refine G_iload_n (pc := 54) 1 X (dg dt_Q_linear 29 rfl) rfl rfl ?_
      obtain ⟨r_32, hc_31, h⟩ := cap_go h
      refine G_callS (pc := 55) (S := []) [.int v3, .int v1] nosub X  (dg dt_Q_linear 30 rfl) cb_Q_reachesAll w_327 w_326 (s_Q_reachesAll _ ad _ _ _ hc_31) rfl ⟨Nat.le_of_ble_eq_true rfl, Nat.le_of_ble_eq_true rfl⟩  (Nat.le_of_ble_eq_true rfl) Rc0 ?_
      refine G_if_eq (pc := 58) 65 X (dg dt_Q_linear 31 rfl) (by decide) h (fun h => ?_) (fun h => ?_)
      · exact G_wk (hj65_30  h) ⟨rfl, ⟨rfl, ⟨rfl, ⟨rfl, ⟨rfl, trivial⟩⟩⟩⟩⟩
      · refine G_iconst (pc := 61) 1 X (dg dt_Q_linear 32 rfl) (by decide) ?_
        refine G_goto (pc := 62) 66 X (dg dt_Q_linear 33 rfl) (by decide) ?_
        exact G_wk (hj66_15 1 h) ⟨rfl, ⟨rfl, ⟨rfl, ⟨rfl, ⟨rfl, trivial⟩⟩⟩⟩⟩
  refine jn_go (fun j41_33 => j41_33 = some (rv, σe) → G θ (0, 0) (g_SH, ad) σ_5 41 [some (.ref (ad 0)), some (.int v1), some (.int v2), some (.int v3), some (.int v4), none, none, none] []) h ?_ (fun j41_33 hj41_33 h => ?_)
  · intro  h
    refine G_iconst (pc := 41) 0 X (dg dt_Q_linear 22 rfl) (by decide) ?_
    exact G_wk (hj42_8 0 h) ⟨rfl, ⟨rfl, ⟨rfl, ⟨rfl, ⟨rfl, trivial⟩⟩⟩⟩⟩
  refine G_if_eq (pc := 15) 41 X (dg dt_Q_linear 9 rfl) (by decide) h (fun h => ?_) (fun h => ?_)
  · exact G_wk (hj41_33  h) ⟨rfl, ⟨rfl, ⟨rfl, ⟨rfl, ⟨rfl, trivial⟩⟩⟩⟩⟩
  · refine G_iload_n (pc := 18) 3 X (dg dt_Q_linear 10 rfl) rfl rfl ?_
    refine G_iconst (pc := 19) 0 X (dg dt_Q_linear 11 rfl) (by decide) ?_
    refine G_iconst (pc := 20) 4 X (dg dt_Q_linear 12 rfl) (by decide) ?_
    obtain ⟨r_35, hc_34, h⟩ := cap_go h
    refine G_callS (pc := 21) (S := []) [.int v3, .int 0, .int 4] nosub X  (dg dt_Q_linear 13 rfl) cb_Q_isFrom w_219 w_218 (s_Q_isFrom _ ad _ _ _ _ hc_34) rfl ⟨Nat.le_of_ble_eq_true rfl, Nat.le_of_ble_eq_true rfl⟩  (Nat.le_of_ble_eq_true rfl) Rc0 ?_
    refine G_if_eq (pc := 24) 41 X (dg dt_Q_linear 14 rfl) (by decide) h (fun h => ?_) (fun h => ?_)
    · exact G_wk (hj41_33  h) ⟨rfl, ⟨rfl, ⟨rfl, ⟨rfl, ⟨rfl, trivial⟩⟩⟩⟩⟩
    · refine G_iload (pc := 27) X (dg dt_Q_linear 15 rfl) rfl ?_
      refine G_iconst (pc := 29) 0 X (dg dt_Q_linear 16 rfl) (by decide) ?_
      refine G_iconst (pc := 30) 4 X (dg dt_Q_linear 17 rfl) (by decide) ?_
      obtain ⟨r_37, hc_36, h⟩ := cap_go h
      refine G_callS (pc := 31) (S := []) [.int v4, .int 0, .int 4] nosub X  (dg dt_Q_linear 18 rfl) cb_Q_isFrom w_219 w_218 (s_Q_isFrom _ ad _ _ _ _ hc_36) rfl ⟨Nat.le_of_ble_eq_true rfl, Nat.le_of_ble_eq_true rfl⟩  (Nat.le_of_ble_eq_true rfl) Rc0 ?_
      refine G_if_eq (pc := 34) 41 X (dg dt_Q_linear 19 rfl) (by decide) h (fun h => ?_) (fun h => ?_)
      · exact G_wk (hj41_33  h) ⟨rfl, ⟨rfl, ⟨rfl, ⟨rfl, ⟨rfl, trivial⟩⟩⟩⟩⟩
      · refine G_iconst (pc := 37) 1 X (dg dt_Q_linear 20 rfl) (by decide) ?_
        refine G_goto (pc := 38) 42 X (dg dt_Q_linear 21 rfl) (by decide) ?_
        exact G_wk (hj42_8 1 h) ⟨rfl, ⟨rfl, ⟨rfl, ⟨rfl, ⟨rfl, trivial⟩⟩⟩⟩⟩
set_option maxRecDepth 100000 in
set_option maxHeartbeats 4000000 in
theorem s_Q_grid {l : Launch} (htr : l.stackTraces = false) (_ : Unit) (ad : Nat → Nat) (σ : St) (v1 : Int32)  {rv : Except Nat Int32} {σe : St} (h : f_Q_grid σ v1 = some (rv, σe)) : RX l g_strs yX11_grid cX11_grid 2 (some .int) 7 122 (g_SH, ad) [.ref (ad 0), .int v1] σ (xi rv) σe := by
  refine RX.intro htr (L := [some (.ref (ad 0)), some (.int v1)]) (by decide +kernel) (Nat.le_of_ble_eq_true rfl) rfl (fun θ hl X hq => ?_)
  subst hl
  unfold f_Q_grid at h
  refine G_iload_n (pc := 0) 1 X (dg dt_Q_grid 0 rfl) rfl rfl ?_
  refine G_iconst (pc := 1) 2 X (dg dt_Q_grid 1 rfl) (by decide) ?_
  refine G_iconst (pc := 2) 5 X (dg dt_Q_grid 2 rfl) (by decide) ?_
  obtain ⟨r_2, hc_1, h⟩ := cap_go h
  refine G_callS (pc := 3) (S := []) [.int v1, .int 2, .int 5] nosub X  (dg dt_Q_grid 3 rfl) cb_Q_isFrom w_219 w_218 (s_Q_isFrom _ ad _ _ _ _ hc_1) rfl ⟨Nat.le_of_ble_eq_true rfl, Nat.le_of_ble_eq_true rfl⟩  (Nat.le_of_ble_eq_true rfl) Rc0 ?_
  refine cax_go h (fun ex hc_3 hex => by subst hex; exact G_callSX (pc := 6) (S := []) [.int r_2] (fun _ h => h) X hq (dg dt_Q_grid 4 rfl) cb_Q_needArgument w_222 w_221 (s_Q_needArgument htr () ad _ _ hc_3) rfl ⟨Nat.le_of_ble_eq_true rfl, Nat.le_of_ble_eq_true rfl⟩  (Nat.le_of_ble_eq_true rfl)) (fun r_4 σ_5 hc_3 h => ?_)
  refine G_callS (pc := 6) (S := []) [.int r_2] (fun _ h => h) X  (dg dt_Q_grid 4 rfl) cb_Q_needArgument w_222 w_221 (s_Q_needArgument htr () ad _ _ hc_3) rfl ⟨Nat.le_of_ble_eq_true rfl, Nat.le_of_ble_eq_true rfl⟩  (Nat.le_of_ble_eq_true rfl) Rc0 ?_
  refine G_aload_n (pc := 9) 0 X (dg dt_Q_grid 5 rfl) rfl rfl ?_
  refine G_iload_n (pc := 10) 1 X (dg dt_Q_grid 6 rfl) rfl rfl ?_
  refine cax_go h (fun ex hc_6 hex => by subst hex; exact G_callVX (pc := 11) (S := []) [.int v1] (fun _ h => h) X hq (dg dt_Q_grid 7 rfl) cb_Q_newGrid cv_Q_newGrid w_292 (s_Q_newGrid htr () ad _ _ hc_6) rfl ⟨Nat.le_of_ble_eq_true rfl, Nat.le_of_ble_eq_true rfl⟩ sh_0 rfl (Nat.le_of_ble_eq_true rfl)) (fun r_7 σ_8 hc_6 h => ?_)
  have hg_r_7 := gk_of_Q_newGrid hc_6
  refine G_callV (pc := 11) (S := []) [.int v1] (fun _ h => h) X  (dg dt_Q_grid 7 rfl) cb_Q_newGrid cv_Q_newGrid w_292 (s_Q_newGrid htr () ad _ _ hc_6) rfl ⟨Nat.le_of_ble_eq_true rfl, Nat.le_of_ble_eq_true rfl⟩ sh_0 rfl (Nat.le_of_ble_eq_true rfl) Rc0 ?_
  refine G_pop (pc := 14) X (dg dt_Q_grid 8 rfl) rfl ?_
  refine G_aload_n (pc := 15) 0 X (dg dt_Q_grid 9 rfl) rfl rfl ?_
  refine G_getI (pc := 16) 8 X (dg dt_Q_grid 10 rfl) fc_7 w_194 rfl (Nat.le_of_ble_eq_true rfl) sh_0 rfl ?_
  refine G_iconst (pc := 19) 1 X (dg dt_Q_grid 11 rfl) (by decide) ?_
  refine G_isub (pc := 20) X (dg dt_Q_grid 12 rfl) ?_
  exact G_xiret (pc := 21) X hq (dg dt_Q_grid 13 rfl) h
