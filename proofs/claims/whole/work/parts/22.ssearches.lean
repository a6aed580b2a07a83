set_option maxRecDepth 100000 in
set_option maxHeartbeats 4000000 in
theorem s_Game_winsBy (l : Launch) (ad : Nat → Nat) {fr0 lo0 : Nat} (hfr0 : 3 ≤ fr0) (hlo0 : 67 ≤ lo0) {rec : St → Nat → Int32 → Option (Int32 × St)} (hrec : ∀ (σ : St) (v0 : Nat) (v1 : Int32) (hg_v0 : gok v0) {rv : Int32} {σe : St}, rec σ v0 v1 = some (rv, σe) → Rt l [] yX1_winningFrom cX1_winningFrom 6 (some .int) fr0 lo0 (g_SH, ad) [.ref (ad v0), .int v1] σ (some (.int rv)) σe) (σ : St) (v0 : Nat) (v1 : Int32) (v2 : Int32) (v3 : Int32) (v4 : Int32) (hg_v0 : gok v0) {rv : Int32} {σe : St} (h : f_Game_winsBy rec σ v0 v1 v2 v3 v4 = some (rv, σe)) : Rt l [] yX1_winsBy cX1_winsBy 6 (some .boolean) (fr0 + 1) (lo0 + 25) (g_SH, ad) [.ref (ad v0), .int v1, .int v2, .int v3, .int v4] σ (some (.int rv)) σe := by
  refine Rt.intro (L := [some (.ref (ad v0)), some (.int v1), some (.int v2), some (.int v3), some (.int v4), none]) (by decide +kernel) (Nat.le_of_ble_eq_true rfl) rfl (fun θ hl X hq => ?_)
  subst hl
  unfold f_Game_winsBy at h
  refine G_aload_n (pc := 0) 0 X (dg dt_Game_winsBy 0 rfl) rfl rfl ?_
  refine G_iload_n (pc := 1) 1 X (dg dt_Game_winsBy 1 rfl) rfl rfl ?_
  refine G_iload_n (pc := 2) 2 X (dg dt_Game_winsBy 2 rfl) rfl rfl ?_
  refine G_iload_n (pc := 3) 3 X (dg dt_Game_winsBy 3 rfl) rfl rfl ?_
  obtain ⟨r_2, σ_3, hc_1, h⟩ := cal_go h
  refine G_callV (pc := 4) (S := []) [.int v1, .int v2, .int v3] nosub X  (dg dt_Game_winsBy 4 rfl) cb_Grid_set cv_Grid_set w_1054 (s_Grid_set _ ad _ _ _ _ _ hg_v0 hc_1) rfl ⟨by omega, by omega⟩ (sh_g hg_v0) rfl (Nat.le_of_ble_eq_true rfl) Rc0 ?_
  refine G_aload_n (pc := 7) 0 X (dg dt_Game_winsBy 5 rfl) rfl rfl ?_
  refine G_iload (pc := 8) X (dg dt_Game_winsBy 6 rfl) rfl ?_
  refine G_iconst (pc := 10) 1 X (dg dt_Game_winsBy 7 rfl) (by decide) ?_
  refine G_iadd (pc := 11) X (dg dt_Game_winsBy 8 rfl) ?_
  obtain ⟨r_5, σ_6, hc_4, h⟩ := cal_go h
  refine G_callS (pc := 12) (S := []) [.ref (ad v0), .int (v4 + 1)] nosub X  (dg dt_Game_winsBy 9 rfl) cb_Game_winningFrom w_1047 w_1046 (hrec _ _ _ hg_v0 hc_4) rfl ⟨by omega, by omega⟩  (Nat.le_of_ble_eq_true rfl) Rc0 ?_
  refine G_iconst (pc := 15) (-1) X (dg dt_Game_winsBy 10 rfl) (by decide) ?_
  refine jn_go (fun j24_7 => ∀ (s_8 : Int32), j24_7 s_8 = some (rv, σe) → G θ (0, 0) (g_SH, ad) σ_6 24 [some (.ref (ad v0)), some (.int v1), some (.int v2), none, none, none] [.int s_8]) h ?_ (fun j24_7 hj24_7 h => ?_)
  · intro s_8 h
    refine G_istore (pc := 24) X (dg dt_Game_winsBy 15 rfl) (Nat.le_of_ble_eq_true rfl) rfl ?_
    refine G_aload_n (pc := 26) 0 X (dg dt_Game_winsBy 16 rfl) rfl rfl ?_
    refine G_iload_n (pc := 27) 1 X (dg dt_Game_winsBy 17 rfl) rfl rfl ?_
    refine G_iload_n (pc := 28) 2 X (dg dt_Game_winsBy 18 rfl) rfl rfl ?_
    refine G_iconst (pc := 29) (-1) X (dg dt_Game_winsBy 19 rfl) (by decide) ?_
    obtain ⟨r_10, σ_11, hc_9, h⟩ := cal_go h
    refine G_callV (pc := 30) (S := []) [.int v1, .int v2, .int (-1)] nosub X  (dg dt_Game_winsBy 20 rfl) cb_Grid_set cv_Grid_set w_1054 (s_Grid_set _ ad _ _ _ _ _ hg_v0 hc_9) rfl ⟨by omega, by omega⟩ (sh_g hg_v0) rfl (Nat.le_of_ble_eq_true rfl) Rc0 ?_
    refine G_iload (pc := 33) X (dg dt_Game_winsBy 21 rfl) rfl ?_
    exact G_zret (pc := 35) X hq (dg dt_Game_winsBy 22 rfl) h
  refine G_icmp_ne (pc := 16) 23 X (dg dt_Game_winsBy 11 rfl) (by decide) h (fun h => ?_) (fun h => ?_)
  · refine G_iconst (pc := 23) 0 X (dg dt_Game_winsBy 14 rfl) (by decide) ?_
    exact G_wk (hj24_7 0 h) ⟨rfl, ⟨rfl, ⟨rfl, trivial⟩⟩⟩
  · refine G_iconst (pc := 19) 1 X (dg dt_Game_winsBy 12 rfl) (by decide) ?_
    refine G_goto (pc := 20) 24 X (dg dt_Game_winsBy 13 rfl) (by decide) ?_
    exact G_wk (hj24_7 1 h) ⟨rfl, ⟨rfl, ⟨rfl, trivial⟩⟩⟩
set_option maxRecDepth 100000 in
set_option maxHeartbeats 4000000 in
theorem s_Game_winningFrom_L39 {θ : Th} {ad : Nat → Nat} {fr0 lo0 : Nat} (hfr0 : 3 ≤ fr0) (hlo0 : 67 ≤ lo0) {rec : St → Nat → Int32 → Option (Int32 × St)} (hrec : ∀ (σ : St) (v0 : Nat) (v1 : Int32) (hg_v0 : gok v0) {rv : Int32} {σe : St}, rec σ v0 v1 = some (rv, σe) → Rt θ.2.1 [] yX1_winningFrom cX1_winningFrom 6 (some .int) fr0 lo0 (g_SH, ad) [.ref (ad v0), .int v1] σ (some (.int rv)) σe) {rv : Int32} {σe : St} (X : Cx θ [] cX1_winningFrom 6 "Quasigrove$Game" (fr0 + 2) (lo0 + 50))
    {v0 : Nat} {v1 : Int32} {v2 : Int32} {v3 : Int32} {v4 : Int32} (hq : Rq θ (g_SH, ad) (some .int) (some (.int rv)) σe) (hg_v0 : gok v0) {kx70 : Int32 → St → Option (Int32 × St)} (hkx70 : ∀ (v5 : Int32) (σ : St), kx70 v5 σ = some (rv, σe) → G θ (0, 0) (g_SH, ad) σ 70 [none, none, some (.int v2), some (.int v3), none, some (.int v5)] []) {kx84 : St → Option (Int32 × St)} (hkx84 : ∀ (σ : St), kx84 σ = some (rv, σe) → G θ (0, 0) (g_SH, ad) σ 84 [some (.ref (ad v0)), some (.int v1), some (.int v2), some (.int v3), none, none] []) :
    ∀ (n : Nat) (v5 : Int32) (σ : St), f_Game_winningFrom_L39 rec v0 v1 v2 v3 v4 kx70 kx84 n v5 σ = some (rv, σe) → G θ (0, 0) (g_SH, ad) σ 39 [some (.ref (ad v0)), some (.int v1), some (.int v2), some (.int v3), some (.int v4), some (.int v5)] [] := by
  intro n
  induction n with
  | zero => intro v5 σ h; rw [f_Game_winningFrom_L39] at h; cases h
  | succ n ih =>
    intro v5 σ h
    rw [f_Game_winningFrom_L39] at h
    refine G_iload (pc := 39) X (dg dt_Game_winningFrom 24 rfl) rfl ?_
    refine G_aload_n (pc := 41) 0 X (dg dt_Game_winningFrom 25 rfl) rfl rfl ?_
    refine G_getIN (pc := 42) 3 X (dg dt_Game_winningFrom 26 rfl) fc_0 w_118 rfl (Nat.le_of_ble_eq_true rfl) (sh_g hg_v0) rfl ?_
    refine G_icmp_ge (pc := 45) 84 X (dg dt_Game_winningFrom 27 rfl) (by decide) h (fun h => ?_) (fun h => ?_)
    · exact G_wk (hkx84 σ h) ⟨rfl, ⟨rfl, ⟨rfl, ⟨rfl, trivial⟩⟩⟩⟩
    · refine G_iload (pc := 48) X (dg dt_Game_winningFrom 28 rfl) rfl ?_
      refine G_iload (pc := 50) X (dg dt_Game_winningFrom 29 rfl) rfl ?_
      obtain ⟨r_4, hc_3, h⟩ := cap_go h
      refine G_callSN (pc := 52) (S := []) [.int v4, .int v5] nosub X  (dg dt_Game_winningFrom 30 rfl) cb_Q_isIn w_496 w_1050 (s_Q_isIn _ ad _ _ _ hc_3) rfl ⟨by omega, by omega⟩  (Nat.le_of_ble_eq_true rfl) Rc0 ?_
      refine jn_go (fun j78_5 => ∀ (σ_6 : St), j78_5 σ_6 = some (rv, σe) → G θ (0, 0) (g_SH, ad) σ_6 78 [some (.ref (ad v0)), some (.int v1), some (.int v2), some (.int v3), some (.int v4), some (.int v5)] []) h ?_ (fun j78_5 hj78_5 h => ?_)
      · intro σ_6 h
        refine G_iinc (pc := 78) (v5 + 1) X (dg dt_Game_winningFrom 44 rfl) rfl (Nat.le_of_ble_eq_true rfl) rfl rfl ?_
        refine G_goto (pc := 81) 39 X (dg dt_Game_winningFrom 45 rfl) (by decide) ?_
        exact G_wk (ih (v5 + 1) σ_6 h) ⟨rfl, ⟨rfl, ⟨rfl, ⟨rfl, ⟨rfl, ⟨rfl, trivial⟩⟩⟩⟩⟩⟩
      refine G_if_eq (pc := 55) 78 X (dg dt_Game_winningFrom 31 rfl) (by decide) h (fun h => ?_) (fun h => ?_)
      · exact G_wk (hj78_5 σ h) ⟨rfl, ⟨rfl, ⟨rfl, ⟨rfl, ⟨rfl, ⟨rfl, trivial⟩⟩⟩⟩⟩⟩
      · refine G_aload_n (pc := 58) 0 X (dg dt_Game_winningFrom 32 rfl) rfl rfl ?_
        refine G_iload_n (pc := 59) 2 X (dg dt_Game_winningFrom 33 rfl) rfl rfl ?_
        refine G_iload_n (pc := 60) 3 X (dg dt_Game_winningFrom 34 rfl) rfl rfl ?_
        refine G_iload (pc := 61) X (dg dt_Game_winningFrom 35 rfl) rfl ?_
        refine G_iload_n (pc := 63) 1 X (dg dt_Game_winningFrom 36 rfl) rfl rfl ?_
        obtain ⟨r_8, σ_9, hc_7, h⟩ := cal_go h
        refine G_callS (pc := 64) (S := []) [.ref (ad v0), .int v2, .int v3, .int v5, .int v1] nosub X  (dg dt_Game_winningFrom 37 rfl) cb_Game_winsBy w_1052 w_1051 (s_Game_winsBy _ ad hfr0 hlo0 hrec _ _ _ _ _ _ hg_v0 hc_7) rfl ⟨by omega, by omega⟩  (Nat.le_of_ble_eq_true rfl) Rc0 ?_
        refine G_if_eq (pc := 67) 78 X (dg dt_Game_winningFrom 38 rfl) (by decide) h (fun h => ?_) (fun h => ?_)
        · exact G_wk (hj78_5 σ_9 h) ⟨rfl, ⟨rfl, ⟨rfl, ⟨rfl, ⟨rfl, ⟨rfl, trivial⟩⟩⟩⟩⟩⟩
        · exact G_wk (hkx70 v5 σ_9 h) ⟨rfl, ⟨rfl, ⟨rfl, trivial⟩⟩⟩
set_option maxRecDepth 100000 in
set_option maxHeartbeats 4000000 in
theorem s_Game_winningFrom_L20 {θ : Th} {ad : Nat → Nat} {fr0 lo0 : Nat} (hfr0 : 3 ≤ fr0) (hlo0 : 67 ≤ lo0) {rec : St → Nat → Int32 → Option (Int32 × St)} (hrec : ∀ (σ : St) (v0 : Nat) (v1 : Int32) (hg_v0 : gok v0) {rv : Int32} {σe : St}, rec σ v0 v1 = some (rv, σe) → Rt θ.2.1 [] yX1_winningFrom cX1_winningFrom 6 (some .int) fr0 lo0 (g_SH, ad) [.ref (ad v0), .int v1] σ (some (.int rv)) σe) {rv : Int32} {σe : St} (X : Cx θ [] cX1_winningFrom 6 "Quasigrove$Game" (fr0 + 2) (lo0 + 50))
    {v0 : Nat} {v1 : Int32} {v2 : Int32} (hq : Rq θ (g_SH, ad) (some .int) (some (.int rv)) σe) (hg_v0 : gok v0) {kx70 : Int32 → Int32 → St → Option (Int32 × St)} (hkx70 : ∀ (v3 : Int32) (v5 : Int32) (σ : St), kx70 v3 v5 σ = some (rv, σe) → G θ (0, 0) (g_SH, ad) σ 70 [none, none, some (.int v2), some (.int v3), none, some (.int v5)] []) {kx90 : St → Option (Int32 × St)} (hkx90 : ∀ (σ : St), kx90 σ = some (rv, σe) → G θ (0, 0) (g_SH, ad) σ 90 [some (.ref (ad v0)), some (.int v1), some (.int v2), none, none, none] []) :
    ∀ (n : Nat) (v3 : Int32) (σ : St), f_Game_winningFrom_L20 rec v0 v1 v2 kx70 kx90 n v3 σ = some (rv, σe) → G θ (0, 0) (g_SH, ad) σ 20 [some (.ref (ad v0)), some (.int v1), some (.int v2), some (.int v3), none, none] [] := by
  intro n
  induction n with
  | zero => intro v3 σ h; rw [f_Game_winningFrom_L20] at h; cases h
  | succ n ih =>
    intro v3 σ h
    rw [f_Game_winningFrom_L20] at h
    refine G_iload_n (pc := 20) 3 X (dg dt_Game_winningFrom 13 rfl) rfl rfl ?_
    refine G_aload_n (pc := 21) 0 X (dg dt_Game_winningFrom 14 rfl) rfl rfl ?_
    refine G_getIN (pc := 22) 3 X (dg dt_Game_winningFrom 15 rfl) fc_0 w_118 rfl (Nat.le_of_ble_eq_true rfl) (sh_g hg_v0) rfl ?_
    refine G_icmp_ge (pc := 25) 90 X (dg dt_Game_winningFrom 16 rfl) (by decide) h (fun h => ?_) (fun h => ?_)
    · exact G_wk (hkx90 σ h) ⟨rfl, ⟨rfl, ⟨rfl, trivial⟩⟩⟩
    · refine G_aload_n (pc := 28) 0 X (dg dt_Game_winningFrom 17 rfl) rfl rfl ?_
      refine G_iload_n (pc := 29) 2 X (dg dt_Game_winningFrom 18 rfl) rfl rfl ?_
      refine G_iload_n (pc := 30) 3 X (dg dt_Game_winningFrom 19 rfl) rfl rfl ?_
      obtain ⟨r_2, hc_1, h⟩ := cap_go h
      refine G_callV (pc := 31) (S := []) [.int v2, .int v3] nosub X  (dg dt_Game_winningFrom 20 rfl) cb_Grid_optionsAt cv_Grid_optionsAt w_1049 (s_Grid_optionsAt _ ad _ _ _ _ hg_v0 hc_1) rfl ⟨by omega, by omega⟩ (sh_g hg_v0) rfl (Nat.le_of_ble_eq_true rfl) Rc0 ?_
      refine G_istore (pc := 34) X (dg dt_Game_winningFrom 21 rfl) (Nat.le_of_ble_eq_true rfl) rfl ?_
      refine G_iconst (pc := 36) 0 X (dg dt_Game_winningFrom 22 rfl) (by decide) ?_
      refine G_istore (pc := 37) X (dg dt_Game_winningFrom 23 rfl) (Nat.le_of_ble_eq_true rfl) rfl ?_
      refine G_weak (L' := [some (.ref (ad v0)), some (.int v1), some (.int v2), some (.int v3), some (.int r_2), some (.int 0)]) ⟨rfl, ⟨rfl, ⟨rfl, ⟨rfl, ⟨rfl, ⟨rfl, trivial⟩⟩⟩⟩⟩⟩ ?_
      refine s_Game_winningFrom_L39 hfr0 hlo0 hrec X hq hg_v0 (fun v5_10 σ_11 h => ?_) (fun σ_12 h => ?_) _ _ _ h
      · exact G_wk (hkx70 v3 v5_10 σ_11 h) ⟨rfl, ⟨rfl, ⟨rfl, trivial⟩⟩⟩
      · refine G_iinc (pc := 84) (v3 + 1) X (dg dt_Game_winningFrom 46 rfl) rfl (Nat.le_of_ble_eq_true rfl) rfl rfl ?_
        refine G_goto (pc := 87) 20 X (dg dt_Game_winningFrom 47 rfl) (by decide) ?_
        exact G_wk (ih (v3 + 1) σ_12 h) ⟨rfl, ⟨rfl, ⟨rfl, ⟨rfl, trivial⟩⟩⟩⟩
set_option maxRecDepth 100000 in
set_option maxHeartbeats 4000000 in
theorem s_Game_winningFrom_L10 {θ : Th} {ad : Nat → Nat} {fr0 lo0 : Nat} (hfr0 : 3 ≤ fr0) (hlo0 : 67 ≤ lo0) {rec : St → Nat → Int32 → Option (Int32 × St)} (hrec : ∀ (σ : St) (v0 : Nat) (v1 : Int32) (hg_v0 : gok v0) {rv : Int32} {σe : St}, rec σ v0 v1 = some (rv, σe) → Rt θ.2.1 [] yX1_winningFrom cX1_winningFrom 6 (some .int) fr0 lo0 (g_SH, ad) [.ref (ad v0), .int v1] σ (some (.int rv)) σe) {rv : Int32} {σe : St} (X : Cx θ [] cX1_winningFrom 6 "Quasigrove$Game" (fr0 + 2) (lo0 + 50))
    {v0 : Nat} {v1 : Int32} (hq : Rq θ (g_SH, ad) (some .int) (some (.int rv)) σe) (hg_v0 : gok v0) {kx70 : Int32 → Int32 → Int32 → St → Option (Int32 × St)} (hkx70 : ∀ (v2 : Int32) (v3 : Int32) (v5 : Int32) (σ : St), kx70 v2 v3 v5 σ = some (rv, σe) → G θ (0, 0) (g_SH, ad) σ 70 [none, none, some (.int v2), some (.int v3), none, some (.int v5)] []) :
    ∀ (n : Nat) (v2 : Int32) (σ : St), f_Game_winningFrom_L10 rec v0 v1 kx70 n v2 σ = some (rv, σe) → G θ (0, 0) (g_SH, ad) σ 10 [some (.ref (ad v0)), some (.int v1), some (.int v2), none, none, none] [] := by
  intro n
  induction n with
  | zero => intro v2 σ h; rw [f_Game_winningFrom_L10] at h; cases h
  | succ n ih =>
    intro v2 σ h
    rw [f_Game_winningFrom_L10] at h
    refine G_iload_n (pc := 10) 2 X (dg dt_Game_winningFrom 7 rfl) rfl rfl ?_
    refine G_aload_n (pc := 11) 0 X (dg dt_Game_winningFrom 8 rfl) rfl rfl ?_
    refine G_getIN (pc := 12) 3 X (dg dt_Game_winningFrom 9 rfl) fc_0 w_118 rfl (Nat.le_of_ble_eq_true rfl) (sh_g hg_v0) rfl ?_
    refine G_icmp_ge (pc := 15) 96 X (dg dt_Game_winningFrom 10 rfl) (by decide) h (fun h => ?_) (fun h => ?_)
    · refine G_iconst (pc := 96) (-1) X (dg dt_Game_winningFrom 50 rfl) (by decide) ?_
      exact G_iret (pc := 97) X hq (dg dt_Game_winningFrom 51 rfl) h
    · refine G_iconst (pc := 18) 0 X (dg dt_Game_winningFrom 11 rfl) (by decide) ?_
      refine G_istore_n (pc := 19) 3 X (dg dt_Game_winningFrom 12 rfl) rfl (Nat.le_of_ble_eq_true rfl) rfl ?_
      refine G_weak (L' := [some (.ref (ad v0)), some (.int v1), some (.int v2), some (.int 0), none, none]) ⟨rfl, ⟨rfl, ⟨rfl, ⟨rfl, trivial⟩⟩⟩⟩ ?_
      refine s_Game_winningFrom_L20 hfr0 hlo0 hrec X hq hg_v0 (fun v3_13 v5_14 σ_15 h => ?_) (fun σ_16 h => ?_) _ _ _ h
      · exact G_wk (hkx70 v2 v3_13 v5_14 σ_15 h) ⟨rfl, ⟨rfl, ⟨rfl, trivial⟩⟩⟩
      · refine G_iinc (pc := 90) (v2 + 1) X (dg dt_Game_winningFrom 48 rfl) rfl (Nat.le_of_ble_eq_true rfl) rfl rfl ?_
        refine G_goto (pc := 93) 10 X (dg dt_Game_winningFrom 49 rfl) (by decide) ?_
        exact G_wk (ih (v2 + 1) σ_16 h) ⟨rfl, ⟨rfl, ⟨rfl, trivial⟩⟩⟩
set_option maxRecDepth 100000 in
set_option maxHeartbeats 4000000 in
theorem sb_Game_winningFrom (l : Launch) (ad : Nat → Nat) {fr0 lo0 : Nat} (hfr0 : 3 ≤ fr0) (hlo0 : 67 ≤ lo0) {rec : St → Nat → Int32 → Option (Int32 × St)} (hrec : ∀ (σ : St) (v0 : Nat) (v1 : Int32) (hg_v0 : gok v0) {rv : Int32} {σe : St}, rec σ v0 v1 = some (rv, σe) → Rt l [] yX1_winningFrom cX1_winningFrom 6 (some .int) fr0 lo0 (g_SH, ad) [.ref (ad v0), .int v1] σ (some (.int rv)) σe) (σ : St) (v0 : Nat) (v1 : Int32) (hg_v0 : gok v0) {rv : Int32} {σe : St} (h : fb_Game_winningFrom rec σ v0 v1 = some (rv, σe)) : Rt l [] yX1_winningFrom cX1_winningFrom 6 (some .int) (fr0 + 2) (lo0 + 50) (g_SH, ad) [.ref (ad v0), .int v1] σ (some (.int rv)) σe := by
  refine Rt.intro (L := [some (.ref (ad v0)), some (.int v1), none, none, none, none]) (by decide +kernel) (Nat.le_of_ble_eq_true rfl) rfl (fun θ hl X hq => ?_)
  subst hl
  unfold fb_Game_winningFrom at h
  refine G_iload_n (pc := 0) 1 X (dg dt_Game_winningFrom 0 rfl) rfl rfl ?_
  refine G_bipush (pc := 1) 6 X (dg dt_Game_winningFrom 1 rfl) (by decide) ?_
  refine G_icmp_le (pc := 3) 8 X (dg dt_Game_winningFrom 2 rfl) (by decide) h (fun h => ?_) (fun h => ?_)
  · refine G_iconst (pc := 8) 0 X (dg dt_Game_winningFrom 5 rfl) (by decide) ?_
    refine G_istore_n (pc := 9) 2 X (dg dt_Game_winningFrom 6 rfl) rfl (Nat.le_of_ble_eq_true rfl) rfl ?_
    refine G_weak (L' := [some (.ref (ad v0)), some (.int v1), some (.int 0), none, none, none]) ⟨rfl, ⟨rfl, ⟨rfl, trivial⟩⟩⟩ ?_
    refine s_Game_winningFrom_L10 hfr0 hlo0 hrec X hq hg_v0 (fun v2_17 v3_18 v5_19 σ_20 h => ?_) _ _ _ h
    refine G_iload_n (pc := 70) 2 X (dg dt_Game_winningFrom 39 rfl) rfl rfl ?_
    refine G_iload_n (pc := 71) 3 X (dg dt_Game_winningFrom 40 rfl) rfl rfl ?_
    refine G_iload (pc := 72) X (dg dt_Game_winningFrom 41 rfl) rfl ?_
    obtain ⟨r_22, hc_21, h⟩ := cap_go h
    refine G_callS (pc := 74) (S := []) [.int v2_17, .int v3_18, .int v5_19] nosub X  (dg dt_Game_winningFrom 42 rfl) cb_Move_packed w_728 w_1055 (s_Move_packed _ ad _ _ _ _ hc_21) rfl ⟨by omega, by omega⟩  (Nat.le_of_ble_eq_true rfl) Rc0 ?_
    exact G_iret (pc := 77) X hq (dg dt_Game_winningFrom 43 rfl) h
  · refine G_iconst (pc := 6) (-1) X (dg dt_Game_winningFrom 3 rfl) (by decide) ?_
    exact G_iret (pc := 7) X hq (dg dt_Game_winningFrom 4 rfl) h
set_option maxRecDepth 100000 in
set_option maxHeartbeats 4000000 in
theorem s_Game_winningFrom (l : Launch) (ad : Nat → Nat) : ∀ (d : Nat) (σ : St) (v0 : Nat) (v1 : Int32) (hg_v0 : gok v0) {rv : Int32} {σe : St}, f_Game_winningFrom d σ v0 v1 = some (rv, σe) → Rt l [] yX1_winningFrom cX1_winningFrom 6 (some .int) (3 + 2 * d) (67 + 50 * d) (g_SH, ad) [.ref (ad v0), .int v1] σ (some (.int rv)) σe := by
  intro d
  induction d with
  | zero => intro σ v0 v1 hg_v0 rv σe h; rw [f_Game_winningFrom] at h; cases h
  | succ d ih =>
    intro σ v0 v1 hg_v0 rv σe h
    rw [f_Game_winningFrom] at h
    rw [show 3 + 2 * (d + 1) = (3 + 2 * d) + 2 by omega, show 67 + 50 * (d + 1) = (67 + 50 * d) + 50 by omega]
    exact sb_Game_winningFrom l ad (by omega) (by omega) (fun σ v0 v1 hg_v0 _ _ h => ih σ v0 v1 hg_v0 h) σ v0 v1 hg_v0 h
set_option maxRecDepth 100000 in
set_option maxHeartbeats 4000000 in
theorem s_Game_winningMove (l : Launch) (ad : Nat → Nat) (σ : St) (v0 : Nat) (hg_v0 : gok v0) {rv : Int32} {σe : St} (h : f_Game_winningMove σ v0 = some (rv, σe)) : Rt l [] yX1_winningMove cX1_winningMove 1 (some .int) 84 2092 (g_SH, ad) [.ref (ad v0)] σ (some (.int rv)) σe := by
  refine Rt.intro (L := [some (.ref (ad v0))]) (by decide +kernel) (Nat.le_of_ble_eq_true rfl) rfl (fun θ hl X hq => ?_)
  subst hl
  unfold f_Game_winningMove at h
  refine G_aload_n (pc := 0) 0 X (dg dt_Game_winningMove 0 rfl) rfl rfl ?_
  refine G_iconst (pc := 1) 0 X (dg dt_Game_winningMove 1 rfl) (by decide) ?_
  obtain ⟨r_2, σ_3, hc_1, h⟩ := cal_go h
  refine G_callS (pc := 2) (S := []) [.ref (ad v0), .int 0] nosub X  (dg dt_Game_winningMove 2 rfl) cb_Game_winningFrom w_1047 w_1046 (s_Game_winningFrom _ ad DP _ _ _ hg_v0 hc_1) rfl ⟨Nat.le_of_ble_eq_true rfl, Nat.le_of_ble_eq_true rfl⟩  (Nat.le_of_ble_eq_true rfl) Rc0 ?_
  exact G_iret (pc := 5) X hq (dg dt_Game_winningMove 3 rfl) h
set_option maxRecDepth 100000 in
set_option maxHeartbeats 4000000 in
theorem s_Mating_haveUnlikePairs_L15 {θ : Th} {ad : Nat → Nat}  {rv : Int32} (X : Cx θ [] cX5_haveUnlikePairs 6 "Quasigrove$Mating" 3 65)
    {v0 : Nat} {v1 : Nat} {v3 : Int32} {σ : St} (hq : Rq θ (g_SH, ad) (some .boolean) (some (.int rv)) σ) (hg_v0 : gok v0) (hg_v1 : gok v1) {kx67 : Int32 → Option Int32} (hkx67 : ∀ (v2 : Int32), kx67 v2 = some rv → G θ (0, 0) (g_SH, ad) σ 67 [some (.ref (ad v0)), some (.ref (ad v1)), some (.int v2), some (.int v3), none, none] []) :
    ∀ (n : Nat) (v2 : Int32) (v4 : Int32), f_Mating_haveUnlikePairs_L15 v0 v1 v3 σ kx67 n v2 v4 = some rv → G θ (0, 0) (g_SH, ad) σ 15 [some (.ref (ad v0)), some (.ref (ad v1)), some (.int v2), some (.int v3), some (.int v4), none] [] := by
  intro n
  induction n with
  | zero => intro v2 v4 h; rw [f_Mating_haveUnlikePairs_L15] at h; cases h
  | succ n ih =>
    intro v2 v4 h
    rw [f_Mating_haveUnlikePairs_L15] at h
    refine G_iload (pc := 15) X (dg dt_Mating_haveUnlikePairs 10 rfl) rfl ?_
    refine G_aload_n (pc := 17) 0 X (dg dt_Mating_haveUnlikePairs 11 rfl) rfl rfl ?_
    refine G_getIN (pc := 18) 3 X (dg dt_Mating_haveUnlikePairs 12 rfl) fc_0 w_116 rfl (Nat.le_of_ble_eq_true rfl) (sh_g hg_v0) rfl ?_
    refine G_icmp_ge (pc := 21) 67 X (dg dt_Mating_haveUnlikePairs 13 rfl) (by decide) h (fun h => ?_) (fun h => ?_)
    · exact G_wk (hkx67 v2 h) ⟨rfl, ⟨rfl, ⟨rfl, ⟨rfl, trivial⟩⟩⟩⟩
    · refine G_iconst (pc := 24) 5 X (dg dt_Mating_haveUnlikePairs 14 rfl) (by decide) ?_
      refine G_aload_n (pc := 25) 0 X (dg dt_Mating_haveUnlikePairs 15 rfl) rfl rfl ?_
      refine G_iload_n (pc := 26) 3 X (dg dt_Mating_haveUnlikePairs 16 rfl) rfl rfl ?_
      refine G_iload (pc := 27) X (dg dt_Mating_haveUnlikePairs 17 rfl) rfl ?_
      obtain ⟨r_2, hc_1, h⟩ := cap_go h
      refine G_callV (pc := 29) (S := [.int 5]) [.int v3, .int v4] nosub X  (dg dt_Mating_haveUnlikePairs 18 rfl) cb_Grid_signAt cv_Grid_signAt w_975 (s_Grid_signAt _ ad _ _ _ _ hg_v0 hc_1) rfl ⟨Nat.le_of_ble_eq_true rfl, Nat.le_of_ble_eq_true rfl⟩ (sh_g hg_v0) rfl (Nat.le_of_ble_eq_true rfl) Rc0 ?_
      refine G_imul (pc := 32) X (dg dt_Mating_haveUnlikePairs 19 rfl) ?_
      refine G_aload_n (pc := 33) 1 X (dg dt_Mating_haveUnlikePairs 20 rfl) rfl rfl ?_
      refine G_iload_n (pc := 34) 3 X (dg dt_Mating_haveUnlikePairs 21 rfl) rfl rfl ?_
      refine G_iload (pc := 35) X (dg dt_Mating_haveUnlikePairs 22 rfl) rfl ?_
      obtain ⟨r_4, hc_3, h⟩ := cap_go h
      refine G_callV (pc := 37) (S := [.int (5 * r_2)]) [.int v3, .int v4] nosub X  (dg dt_Mating_haveUnlikePairs 23 rfl) cb_Grid_signAt cv_Grid_signAt w_975 (s_Grid_signAt _ ad _ _ _ _ hg_v1 hc_3) rfl ⟨Nat.le_of_ble_eq_true rfl, Nat.le_of_ble_eq_true rfl⟩ (sh_g hg_v1) rfl (Nat.le_of_ble_eq_true rfl) Rc0 ?_
      refine G_iadd (pc := 40) X (dg dt_Mating_haveUnlikePairs 24 rfl) ?_
      refine G_istore_lt (pc := 41) X (dg dt_Mating_haveUnlikePairs 25 rfl) (Nat.le_of_ble_eq_true rfl) rfl h (fun v5_5 h => ?_)
      refine G_iload_n (pc := 43) 2 X (dg dt_Mating_haveUnlikePairs 26 rfl) rfl rfl ?_
      refine G_iload (pc := 44) X (dg dt_Mating_haveUnlikePairs 27 rfl) rfl ?_
      obtain ⟨r_7, hc_6, h⟩ := cap_go h
      refine G_callSN (pc := 46) (S := []) [.int v2, .int v5_5] nosub X  (dg dt_Mating_haveUnlikePairs 28 rfl) cb_Q_isIn w_496 w_1021 (s_Q_isIn _ ad _ _ _ hc_6) rfl ⟨Nat.le_of_ble_eq_true rfl, Nat.le_of_ble_eq_true rfl⟩  (Nat.le_of_ble_eq_true rfl) Rc0 ?_
      refine G_if_eq (pc := 49) 54 X (dg dt_Mating_haveUnlikePairs 29 rfl) (by decide) h (fun h => ?_) (fun h => ?_)
      · refine G_iload_n (pc := 54) 2 X (dg dt_Mating_haveUnlikePairs 32 rfl) rfl rfl ?_
        refine G_iconst (pc := 55) 1 X (dg dt_Mating_haveUnlikePairs 33 rfl) (by decide) ?_
        refine G_iload (pc := 56) X (dg dt_Mating_haveUnlikePairs 34 rfl) rfl ?_
        refine G_ishl (pc := 58) X (dg dt_Mating_haveUnlikePairs 35 rfl) ?_
        refine G_ior (pc := 59) X (dg dt_Mating_haveUnlikePairs 36 rfl) ?_
        refine G_istore_n_lt (pc := 60) 2 X (dg dt_Mating_haveUnlikePairs 37 rfl) rfl (Nat.le_of_ble_eq_true rfl) rfl h (fun v2_8 h => ?_)
        refine G_iinc (pc := 61) (v4 + 1) X (dg dt_Mating_haveUnlikePairs 38 rfl) rfl (Nat.le_of_ble_eq_true rfl) rfl rfl ?_
        refine G_goto (pc := 64) 15 X (dg dt_Mating_haveUnlikePairs 39 rfl) (by decide) ?_
        exact G_wk (ih v2_8 (v4 + 1) h) ⟨rfl, ⟨rfl, ⟨rfl, ⟨rfl, ⟨rfl, trivial⟩⟩⟩⟩⟩
      · refine G_iconst (pc := 52) 0 X (dg dt_Mating_haveUnlikePairs 30 rfl) (by decide) ?_
        exact G_zretlp (pc := 53) X hq (dg dt_Mating_haveUnlikePairs 31 rfl) rfl h
set_option maxRecDepth 100000 in
set_option maxHeartbeats 4000000 in
theorem s_Mating_haveUnlikePairs_L4 {θ : Th} {ad : Nat → Nat}  {rv : Int32} (X : Cx θ [] cX5_haveUnlikePairs 6 "Quasigrove$Mating" 3 65)
    {v0 : Nat} {v1 : Nat} {σ : St} (hq : Rq θ (g_SH, ad) (some .boolean) (some (.int rv)) σ) (hg_v0 : gok v0) (hg_v1 : gok v1) :
    ∀ (n : Nat) (v2 : Int32) (v3 : Int32), f_Mating_haveUnlikePairs_L4 v0 v1 σ n v2 v3 = some rv → G θ (0, 0) (g_SH, ad) σ 4 [some (.ref (ad v0)), some (.ref (ad v1)), some (.int v2), some (.int v3), none, none] [] := by
  intro n
  induction n with
  | zero => intro v2 v3 h; rw [f_Mating_haveUnlikePairs_L4] at h; cases h
  | succ n ih =>
    intro v2 v3 h
    rw [f_Mating_haveUnlikePairs_L4] at h
    refine G_iload_n (pc := 4) 3 X (dg dt_Mating_haveUnlikePairs 4 rfl) rfl rfl ?_
    refine G_aload_n (pc := 5) 0 X (dg dt_Mating_haveUnlikePairs 5 rfl) rfl rfl ?_
    refine G_getIN (pc := 6) 3 X (dg dt_Mating_haveUnlikePairs 6 rfl) fc_0 w_116 rfl (Nat.le_of_ble_eq_true rfl) (sh_g hg_v0) rfl ?_
    refine G_icmp_ge (pc := 9) 73 X (dg dt_Mating_haveUnlikePairs 7 rfl) (by decide) h (fun h => ?_) (fun h => ?_)
    · refine G_iconst (pc := 73) 1 X (dg dt_Mating_haveUnlikePairs 42 rfl) (by decide) ?_
      exact G_zretlp (pc := 74) X hq (dg dt_Mating_haveUnlikePairs 43 rfl) rfl h
    · refine G_iconst (pc := 12) 0 X (dg dt_Mating_haveUnlikePairs 8 rfl) (by decide) ?_
      refine G_istore (pc := 13) X (dg dt_Mating_haveUnlikePairs 9 rfl) (Nat.le_of_ble_eq_true rfl) rfl ?_
      refine G_weak (L' := [some (.ref (ad v0)), some (.ref (ad v1)), some (.int v2), some (.int v3), some (.int 0), none]) ⟨rfl, ⟨rfl, ⟨rfl, ⟨rfl, ⟨rfl, trivial⟩⟩⟩⟩⟩ ?_
      refine s_Mating_haveUnlikePairs_L15  X hq hg_v0 hg_v1 (fun v2_9 h => ?_) _ _ _ h
      refine G_iinc (pc := 67) (v3 + 1) X (dg dt_Mating_haveUnlikePairs 40 rfl) rfl (Nat.le_of_ble_eq_true rfl) rfl rfl ?_
      refine G_goto (pc := 70) 4 X (dg dt_Mating_haveUnlikePairs 41 rfl) (by decide) ?_
      exact G_wk (ih v2_9 (v3 + 1) h) ⟨rfl, ⟨rfl, ⟨rfl, ⟨rfl, trivial⟩⟩⟩⟩
set_option maxRecDepth 100000 in
set_option maxHeartbeats 4000000 in
theorem s_Mating_haveUnlikePairs (l : Launch) (ad : Nat → Nat) (σ : St) (v0 : Nat) (v1 : Nat) (hg_v0 : gok v0) (hg_v1 : gok v1) {rv : Int32} (h : f_Mating_haveUnlikePairs σ v0 v1 = some rv) : Rt l [] yX5_haveUnlikePairs cX5_haveUnlikePairs 6 (some .boolean) 3 65 (g_SH, ad) [.ref (ad v0), .ref (ad v1)] σ (some (.int rv)) σ := by
  refine Rt.intro (L := [some (.ref (ad v0)), some (.ref (ad v1)), none, none, none, none]) (by decide +kernel) (Nat.le_of_ble_eq_true rfl) rfl (fun θ hl X hq => ?_)
  subst hl
  unfold f_Mating_haveUnlikePairs at h
  refine G_iconst (pc := 0) 0 X (dg dt_Mating_haveUnlikePairs 0 rfl) (by decide) ?_
  refine G_istore_n (pc := 1) 2 X (dg dt_Mating_haveUnlikePairs 1 rfl) rfl (Nat.le_of_ble_eq_true rfl) rfl ?_
  refine G_iconst (pc := 2) 0 X (dg dt_Mating_haveUnlikePairs 2 rfl) (by decide) ?_
  refine G_istore_n (pc := 3) 3 X (dg dt_Mating_haveUnlikePairs 3 rfl) rfl (Nat.le_of_ble_eq_true rfl) rfl ?_
  refine G_weak (L' := [some (.ref (ad v0)), some (.ref (ad v1)), some (.int 0), some (.int 0), none, none]) ⟨rfl, ⟨rfl, ⟨rfl, ⟨rfl, trivial⟩⟩⟩⟩ ?_
  refine s_Mating_haveUnlikePairs_L4  X hq hg_v0 hg_v1  _ _ _ h
set_option maxRecDepth 100000 in
set_option maxHeartbeats 4000000 in
theorem s_Mating_hasAllSigns_L5 {θ : Th} {ad : Nat → Nat}  {rv : Int32} (X : Cx θ [] cX5_hasAllSigns 5 "Quasigrove$Mating" 3 65)
    {v1 : Nat} {v2 : Int32} {σ : St} (hq : Rq θ (g_SH, ad) (some .boolean) (some (.int rv)) σ) (hg_v1 : gok v1) {kx41 : Int32 → Option Int32} (hkx41 : ∀ (v3 : Int32), kx41 v3 = some rv → G θ (0, 0) (g_SH, ad) σ 41 [none, some (.ref (ad v1)), none, some (.int v3), none] []) :
    ∀ (n : Nat) (v3 : Int32) (v4 : Int32), f_Mating_hasAllSigns_L5 v1 v2 σ kx41 n v3 v4 = some rv → G θ (0, 0) (g_SH, ad) σ 5 [some (.ref (ad 23)), some (.ref (ad v1)), some (.int v2), some (.int v3), some (.int v4)] [] := by
  intro n
  induction n with
  | zero => intro v3 v4 h; rw [f_Mating_hasAllSigns_L5] at h; cases h
  | succ n ih =>
    intro v3 v4 h
    rw [f_Mating_hasAllSigns_L5] at h
    refine G_iload (pc := 5) X (dg dt_Mating_hasAllSigns 4 rfl) rfl ?_
    refine G_aload_n (pc := 7) 1 X (dg dt_Mating_hasAllSigns 5 rfl) rfl rfl ?_
    refine G_getIN (pc := 8) 3 X (dg dt_Mating_hasAllSigns 6 rfl) fc_0 w_116 rfl (Nat.le_of_ble_eq_true rfl) (sh_g hg_v1) rfl ?_
    refine G_icmp_ge (pc := 11) 41 X (dg dt_Mating_hasAllSigns 7 rfl) (by decide) h (fun h => ?_) (fun h => ?_)
    · exact G_wk (hkx41 v3 h) ⟨rfl, ⟨rfl, trivial⟩⟩
    · refine G_iload_n (pc := 14) 3 X (dg dt_Mating_hasAllSigns 8 rfl) rfl rfl ?_
      refine G_iconst (pc := 15) 1 X (dg dt_Mating_hasAllSigns 9 rfl) (by decide) ?_
      refine G_aload_n (pc := 16) 1 X (dg dt_Mating_hasAllSigns 10 rfl) rfl rfl ?_
      refine G_iload (pc := 17) X (dg dt_Mating_hasAllSigns 11 rfl) rfl ?_
      refine G_aload_n (pc := 19) 0 X (dg dt_Mating_hasAllSigns 12 rfl) rfl rfl ?_
      refine G_getR (pc := 20) 0 X (dg dt_Mating_hasAllSigns 13 rfl) fc_2 w_241 rfl (Nat.le_of_ble_eq_true rfl) sh_23 rfl ?_
      refine G_iload_n (pc := 23) 2 X (dg dt_Mating_hasAllSigns 14 rfl) rfl rfl ?_
      refine G_iload (pc := 24) X (dg dt_Mating_hasAllSigns 15 rfl) rfl ?_
      obtain ⟨r_2, hc_1, h⟩ := cap_go h
      refine G_callV (pc := 26) (S := [.int v4, .ref (ad v1), .int 1, .int v3]) [.int v2, .int v4] nosub X  (dg dt_Mating_hasAllSigns 16 rfl) cb_Maps_imageOf cv_Maps_imageOf w_974 (s_Maps_imageOf _ ad _ _ _ hc_1) rfl ⟨Nat.le_of_ble_eq_true rfl, Nat.le_of_ble_eq_true rfl⟩ sh_6 rfl (Nat.le_of_ble_eq_true rfl) Rc0 ?_
      obtain ⟨r_4, hc_3, h⟩ := cap_go h
      refine G_callV (pc := 29) (S := [.int 1, .int v3]) [.int v4, .int r_2] nosub X  (dg dt_Mating_hasAllSigns 17 rfl) cb_Grid_signAt cv_Grid_signAt w_975 (s_Grid_signAt _ ad _ _ _ _ hg_v1 hc_3) rfl ⟨Nat.le_of_ble_eq_true rfl, Nat.le_of_ble_eq_true rfl⟩ (sh_g hg_v1) rfl (Nat.le_of_ble_eq_true rfl) Rc0 ?_
      refine G_ishl (pc := 32) X (dg dt_Mating_hasAllSigns 18 rfl) ?_
      refine G_ior (pc := 33) X (dg dt_Mating_hasAllSigns 19 rfl) ?_
      refine G_istore_n_lt (pc := 34) 3 X (dg dt_Mating_hasAllSigns 20 rfl) rfl (Nat.le_of_ble_eq_true rfl) rfl h (fun v3_5 h => ?_)
      refine G_iinc (pc := 35) (v4 + 1) X (dg dt_Mating_hasAllSigns 21 rfl) rfl (Nat.le_of_ble_eq_true rfl) rfl rfl ?_
      refine G_goto (pc := 38) 5 X (dg dt_Mating_hasAllSigns 22 rfl) (by decide) ?_
      exact G_wk (ih v3_5 (v4 + 1) h) ⟨rfl, ⟨rfl, ⟨rfl, ⟨rfl, ⟨rfl, trivial⟩⟩⟩⟩⟩
set_option maxRecDepth 100000 in
set_option maxHeartbeats 4000000 in
theorem s_Mating_hasAllSigns (l : Launch) (ad : Nat → Nat) (σ : St) (v1 : Nat) (v2 : Int32) (hg_v1 : gok v1) {rv : Int32} (h : f_Mating_hasAllSigns σ v1 v2 = some rv) : Rt l [] yX5_hasAllSigns cX5_hasAllSigns 5 (some .boolean) 3 65 (g_SH, ad) [.ref (ad 23), .ref (ad v1), .int v2] σ (some (.int rv)) σ := by
  refine Rt.intro (L := [some (.ref (ad 23)), some (.ref (ad v1)), some (.int v2), none, none]) (by decide +kernel) (Nat.le_of_ble_eq_true rfl) rfl (fun θ hl X hq => ?_)
  subst hl
  unfold f_Mating_hasAllSigns at h
  refine G_iconst (pc := 0) 0 X (dg dt_Mating_hasAllSigns 0 rfl) (by decide) ?_
  refine G_istore_n (pc := 1) 3 X (dg dt_Mating_hasAllSigns 1 rfl) rfl (Nat.le_of_ble_eq_true rfl) rfl ?_
  refine G_iconst (pc := 2) 0 X (dg dt_Mating_hasAllSigns 2 rfl) (by decide) ?_
  refine G_istore (pc := 3) X (dg dt_Mating_hasAllSigns 3 rfl) (Nat.le_of_ble_eq_true rfl) rfl ?_
  refine G_weak (L' := [some (.ref (ad 23)), some (.ref (ad v1)), some (.int v2), some (.int 0), some (.int 0)]) ⟨rfl, ⟨rfl, ⟨rfl, ⟨rfl, ⟨rfl, trivial⟩⟩⟩⟩⟩ ?_
  refine s_Mating_hasAllSigns_L5  X hq hg_v1 (fun v3_6 h => ?_) _ _ _ h
  refine G_iload_n (pc := 41) 3 X (dg dt_Mating_hasAllSigns 23 rfl) rfl rfl ?_
  refine G_aload_n (pc := 42) 1 X (dg dt_Mating_hasAllSigns 24 rfl) rfl rfl ?_
  obtain ⟨r_8, hc_7, h⟩ := cap_go h
  refine G_callV (pc := 43) (S := [.int v3_6]) [] nosub X  (dg dt_Mating_hasAllSigns 25 rfl) cb_Grid_allSigns cv_Grid_allSigns w_976 (s_Grid_allSigns _ ad _ _ hg_v1 hc_7) rfl ⟨Nat.le_of_ble_eq_true rfl, Nat.le_of_ble_eq_true rfl⟩ (sh_g hg_v1) rfl (Nat.le_of_ble_eq_true rfl) Rc0 ?_
  refine G_icmp_ne (pc := 46) 53 X (dg dt_Mating_hasAllSigns 26 rfl) (by decide) h (fun h => ?_) (fun h => ?_)
  · refine G_iconst (pc := 53) 0 X (dg dt_Mating_hasAllSigns 29 rfl) (by decide) ?_
    exact G_zretlp (pc := 54) X hq (dg dt_Mating_hasAllSigns 30 rfl) rfl h
  · refine G_iconst (pc := 49) 1 X (dg dt_Mating_hasAllSigns 27 rfl) (by decide) ?_
    refine G_goto (pc := 50) 54 X (dg dt_Mating_hasAllSigns 28 rfl) (by decide) ?_
    exact G_zretlp (pc := 54) X hq (dg dt_Mating_hasAllSigns 30 rfl) rfl h
set_option maxRecDepth 100000 in
set_option maxHeartbeats 4000000 in
theorem s_Mating_findTransversals_L7 {θ : Th} {ad : Nat → Nat}  {rv : Int32} {σe : St} (X : Cx θ [] cX5_findTransversals 3 "Quasigrove$Mating" 4 89)
    {v1 : Nat} (hq : Rq θ (g_SH, ad) (some .int) (some (.int rv)) σe) (hg_v1 : gok v1) {kx73 : St → Option (Int32 × St)} (hkx73 : ∀ (σ : St), kx73 σ = some (rv, σe) → G θ (0, 0) (g_SH, ad) σ 73 [some (.ref (ad 23)), none, none] []) :
    ∀ (n : Nat) (v2 : Int32) (σ : St), f_Mating_findTransversals_L7 v1 kx73 n v2 σ = some (rv, σe) → G θ (0, 0) (g_SH, ad) σ 7 [some (.ref (ad 23)), some (.ref (ad v1)), some (.int v2)] [] := by
  intro n
  induction n with
  | zero => intro v2 σ h; rw [f_Mating_findTransversals_L7] at h; cases h
  | succ n ih =>
    intro v2 σ h
    rw [f_Mating_findTransversals_L7] at h
    refine G_iload_n (pc := 7) 2 X (dg dt_Mating_findTransversals 5 rfl) rfl rfl ?_
    refine G_aload_n (pc := 8) 0 X (dg dt_Mating_findTransversals 6 rfl) rfl rfl ?_
    refine G_getR (pc := 9) 0 X (dg dt_Mating_findTransversals 7 rfl) fc_2 w_241 rfl (Nat.le_of_ble_eq_true rfl) sh_23 rfl ?_
    refine G_aload_n (pc := 12) 1 X (dg dt_Mating_findTransversals 8 rfl) rfl rfl ?_
    refine G_getIN (pc := 13) 3 X (dg dt_Mating_findTransversals 9 rfl) fc_0 w_116 rfl (Nat.le_of_ble_eq_true rfl) (sh_g hg_v1) rfl ?_
    obtain ⟨r_3, hc_2, h⟩ := cap_go h
    refine G_callV (pc := 16) (S := [.int v2]) [.int (σ v1 3)] nosub X  (dg dt_Mating_findTransversals 10 rfl) cb_Maps_amount cv_Maps_amount w_969 (s_Maps_amount _ ad _ _ hc_2) rfl ⟨Nat.le_of_ble_eq_true rfl, Nat.le_of_ble_eq_true rfl⟩ sh_6 rfl (Nat.le_of_ble_eq_true rfl) Rc0 ?_
    refine G_icmp_ge (pc := 19) 73 X (dg dt_Mating_findTransversals 11 rfl) (by decide) h (fun h => ?_) (fun h => ?_)
    · exact G_wk (hkx73 σ h) ⟨rfl, trivial⟩
    · refine G_aload_n (pc := 22) 0 X (dg dt_Mating_findTransversals 12 rfl) rfl rfl ?_
      refine G_aload_n (pc := 23) 1 X (dg dt_Mating_findTransversals 13 rfl) rfl rfl ?_
      refine G_iload_n (pc := 24) 2 X (dg dt_Mating_findTransversals 14 rfl) rfl rfl ?_
      obtain ⟨r_5, hc_4, h⟩ := cap_go h
      refine G_callV (pc := 25) (S := []) [.ref (ad v1), .int v2] nosub X  (dg dt_Mating_findTransversals 15 rfl) cb_Mating_hasAllSigns cv_Mating_hasAllSigns w_970 (s_Mating_hasAllSigns _ ad _ _ _ hg_v1 hc_4) rfl ⟨Nat.le_of_ble_eq_true rfl, Nat.le_of_ble_eq_true rfl⟩ sh_23 rfl (Nat.le_of_ble_eq_true rfl) Rc0 ?_
      refine jn_go (fun j67_6 => ∀ (σ_7 : St), j67_6 σ_7 = some (rv, σe) → G θ (0, 0) (g_SH, ad) σ_7 67 [some (.ref (ad 23)), some (.ref (ad v1)), some (.int v2)] []) h ?_ (fun j67_6 hj67_6 h => ?_)
      · intro σ_7 h
        refine G_iinc (pc := 67) (v2 + 1) X (dg dt_Mating_findTransversals 36 rfl) rfl (Nat.le_of_ble_eq_true rfl) rfl rfl ?_
        refine G_goto (pc := 70) 7 X (dg dt_Mating_findTransversals 37 rfl) (by decide) ?_
        exact G_wk (ih (v2 + 1) σ_7 h) ⟨rfl, ⟨rfl, ⟨rfl, trivial⟩⟩⟩
      refine G_if_eq (pc := 28) 67 X (dg dt_Mating_findTransversals 16 rfl) (by decide) h (fun h => ?_) (fun h => ?_)
      · exact G_wk (hj67_6 σ h) ⟨rfl, ⟨rfl, ⟨rfl, trivial⟩⟩⟩
      · refine G_aload_n (pc := 31) 0 X (dg dt_Mating_findTransversals 17 rfl) rfl rfl ?_
        refine G_getI (pc := 32) 5 X (dg dt_Mating_findTransversals 18 rfl) fc_2 w_247 rfl (Nat.le_of_ble_eq_true rfl) sh_23 rfl ?_
        refine G_if_lt (pc := 35) 67 X (dg dt_Mating_findTransversals 19 rfl) (by decide) h (fun h => ?_) (fun h => ?_)
        · exact G_wk (hj67_6 σ h) ⟨rfl, ⟨rfl, ⟨rfl, trivial⟩⟩⟩
        · refine G_aload_n (pc := 38) 0 X (dg dt_Mating_findTransversals 20 rfl) rfl rfl ?_
          refine G_getI (pc := 39) 5 X (dg dt_Mating_findTransversals 21 rfl) fc_2 w_247 rfl (Nat.le_of_ble_eq_true rfl) sh_23 rfl ?_
          refine G_bipush (pc := 42) 120 X (dg dt_Mating_findTransversals 22 rfl) (by decide) ?_
          refine G_icmp_ge (pc := 44) 67 X (dg dt_Mating_findTransversals 23 rfl) (by decide) h (fun h => ?_) (fun h => ?_)
          · exact G_wk (hj67_6 σ h) ⟨rfl, ⟨rfl, ⟨rfl, trivial⟩⟩⟩
          · refine G_aload_n (pc := 47) 0 X (dg dt_Mating_findTransversals 24 rfl) rfl rfl ?_
            refine G_getR (pc := 48) 1 X (dg dt_Mating_findTransversals 25 rfl) fc_2 w_242 rfl (Nat.le_of_ble_eq_true rfl) sh_23 rfl ?_
            refine G_aload_n (pc := 51) 0 X (dg dt_Mating_findTransversals 26 rfl) rfl rfl ?_
            refine G_getI (pc := 52) 5 X (dg dt_Mating_findTransversals 27 rfl) fc_2 w_247 rfl (Nat.le_of_ble_eq_true rfl) sh_23 rfl ?_
            refine G_iload_n (pc := 55) 2 X (dg dt_Mating_findTransversals 28 rfl) rfl rfl ?_
            refine G_iast (pc := 56) X (dg dt_Mating_findTransversals 29 rfl) sh_24 h (fun σ_8 h => ?_)
            refine G_aload_n (pc := 57) 0 X (dg dt_Mating_findTransversals 30 rfl) rfl rfl ?_
            refine G_dup (pc := 58) X (dg dt_Mating_findTransversals 31 rfl) rfl ?_
            refine G_getI (pc := 59) 5 X (dg dt_Mating_findTransversals 32 rfl) fc_2 w_247 rfl (Nat.le_of_ble_eq_true rfl) sh_23 rfl ?_
            refine G_iconst (pc := 62) 1 X (dg dt_Mating_findTransversals 33 rfl) (by decide) ?_
            refine G_iadd (pc := 63) X (dg dt_Mating_findTransversals 34 rfl) ?_
            refine G_put (pc := 64) 5 X (dg dt_Mating_findTransversals 35 rfl) fc_2 w_247 rfl (Nat.le_of_ble_eq_true rfl) rfl rfl sh_23 rfl h (fun σ_9 h => ?_)
            exact G_wk (hj67_6 σ_9 h) ⟨rfl, ⟨rfl, ⟨rfl, trivial⟩⟩⟩
set_option maxRecDepth 100000 in
set_option maxHeartbeats 4000000 in
theorem s_Mating_findTransversals (l : Launch) (ad : Nat → Nat) (σ : St) (v1 : Nat) (hg_v1 : gok v1) {rv : Int32} {σe : St} (h : f_Mating_findTransversals σ v1 = some (rv, σe)) : Rt l [] yX5_findTransversals cX5_findTransversals 3 (some .int) 4 89 (g_SH, ad) [.ref (ad 23), .ref (ad v1)] σ (some (.int rv)) σe := by
  refine Rt.intro (L := [some (.ref (ad 23)), some (.ref (ad v1)), none]) (by decide +kernel) (Nat.le_of_ble_eq_true rfl) rfl (fun θ hl X hq => ?_)
  subst hl
  unfold f_Mating_findTransversals at h
  refine G_aload_n (pc := 0) 0 X (dg dt_Mating_findTransversals 0 rfl) rfl rfl ?_
  refine G_iconst (pc := 1) 0 X (dg dt_Mating_findTransversals 1 rfl) (by decide) ?_
  refine G_put (pc := 2) 5 X (dg dt_Mating_findTransversals 2 rfl) fc_2 w_247 rfl (Nat.le_of_ble_eq_true rfl) rfl rfl sh_23 rfl h (fun σ_1 h => ?_)
  refine G_iconst (pc := 5) 0 X (dg dt_Mating_findTransversals 3 rfl) (by decide) ?_
  refine G_istore_n (pc := 6) 2 X (dg dt_Mating_findTransversals 4 rfl) rfl (Nat.le_of_ble_eq_true rfl) rfl ?_
  refine G_weak (L' := [some (.ref (ad 23)), some (.ref (ad v1)), some (.int 0)]) ⟨rfl, ⟨rfl, ⟨rfl, trivial⟩⟩⟩ ?_
  refine s_Mating_findTransversals_L7  X hq hg_v1 (fun σ_10 h => ?_) _ _ _ h
  refine G_aload_n (pc := 73) 0 X (dg dt_Mating_findTransversals 38 rfl) rfl rfl ?_
  refine G_getI (pc := 74) 5 X (dg dt_Mating_findTransversals 39 rfl) fc_2 w_247 rfl (Nat.le_of_ble_eq_true rfl) sh_23 rfl ?_
  exact G_iret (pc := 77) X hq (dg dt_Mating_findTransversals 40 rfl) h
set_option maxRecDepth 100000 in
set_option maxHeartbeats 4000000 in
theorem s_Mating_keepLower_L22 {θ : Th} {ad : Nat → Nat}  {rv : Unit} {σe : St} (X : Cx θ [] cX5_keepLower 4 "Quasigrove$Mating" 3 67)
    {v1 : Int32} {v2 : Int32} (hq : Rq θ (g_SH, ad) none none σe) {kx56 : St → Option (Unit × St)} (hkx56 : ∀ (σ : St), kx56 σ = some (rv, σe) → G θ (0, 0) (g_SH, ad) σ 56 [some (.ref (ad 23)), some (.int v1), some (.int v2), none] []) :
    ∀ (n : Nat) (v3 : Int32) (σ : St), f_Mating_keepLower_L22 v1 v2 kx56 n v3 σ = some (rv, σe) → G θ (0, 0) (g_SH, ad) σ 22 [some (.ref (ad 23)), some (.int v1), some (.int v2), some (.int v3)] [] := by
  intro n
  induction n with
  | zero => intro v3 σ h; rw [f_Mating_keepLower_L22] at h; cases h
  | succ n ih =>
    intro v3 σ h
    rw [f_Mating_keepLower_L22] at h
    refine G_iload_n (pc := 22) 3 X (dg dt_Mating_keepLower 14 rfl) rfl rfl ?_
    refine G_iload_n (pc := 23) 1 X (dg dt_Mating_keepLower 15 rfl) rfl rfl ?_
    refine G_icmp_ge (pc := 24) 56 X (dg dt_Mating_keepLower 16 rfl) (by decide) h (fun h => ?_) (fun h => ?_)
    · exact G_wk (hkx56 σ h) ⟨rfl, ⟨rfl, ⟨rfl, trivial⟩⟩⟩
    · refine G_aload_n (pc := 27) 0 X (dg dt_Mating_keepLower 17 rfl) rfl rfl ?_
      refine G_getR (pc := 28) 3 X (dg dt_Mating_keepLower 18 rfl) fc_2 w_244 rfl (Nat.le_of_ble_eq_true rfl) sh_23 rfl ?_
      refine G_iload_n (pc := 31) 3 X (dg dt_Mating_keepLower 19 rfl) rfl rfl ?_
      refine G_aload_n (pc := 32) 0 X (dg dt_Mating_keepLower 20 rfl) rfl rfl ?_
      refine G_getR (pc := 33) 0 X (dg dt_Mating_keepLower 21 rfl) fc_2 w_241 rfl (Nat.le_of_ble_eq_true rfl) sh_23 rfl ?_
      refine G_aload_n (pc := 36) 0 X (dg dt_Mating_keepLower 22 rfl) rfl rfl ?_
      refine G_getR (pc := 37) 2 X (dg dt_Mating_keepLower 23 rfl) fc_2 w_243 rfl (Nat.le_of_ble_eq_true rfl) sh_23 rfl ?_
      refine G_iload_n (pc := 40) 2 X (dg dt_Mating_keepLower 24 rfl) rfl rfl ?_
      refine G_iald (pc := 41) X (dg dt_Mating_keepLower 25 rfl) sh_25 h (fun r_4 h => ?_)
      refine G_iload_n (pc := 42) 3 X (dg dt_Mating_keepLower 26 rfl) rfl rfl ?_
      obtain ⟨r_6, hc_5, h⟩ := cap_go h
      refine G_callV (pc := 43) (S := [.int v3, .ref (ad 26)]) [.int r_4, .int v3] nosub X  (dg dt_Mating_keepLower 27 rfl) cb_Maps_imageOf cv_Maps_imageOf w_974 (s_Maps_imageOf _ ad _ _ _ hc_5) rfl ⟨Nat.le_of_ble_eq_true rfl, Nat.le_of_ble_eq_true rfl⟩ sh_6 rfl (Nat.le_of_ble_eq_true rfl) Rc0 ?_
      refine G_iload_n (pc := 46) 2 X (dg dt_Mating_keepLower 28 rfl) rfl rfl ?_
      obtain ⟨r_8, σ_9, hc_7, h⟩ := cal_go h
      refine G_callV (pc := 47) (S := []) [.int v3, .int r_6, .int v2] nosub X  (dg dt_Mating_keepLower 29 rfl) cb_Grid_set cv_Grid_set w_997 (s_Grid_set _ ad _ _ _ _ _ gk_26 hc_7) rfl ⟨Nat.le_of_ble_eq_true rfl, Nat.le_of_ble_eq_true rfl⟩ (sh_g gk_26) rfl (Nat.le_of_ble_eq_true rfl) Rc0 ?_
      refine G_iinc (pc := 50) (v3 + 1) X (dg dt_Mating_keepLower 30 rfl) rfl (Nat.le_of_ble_eq_true rfl) rfl rfl ?_
      refine G_goto (pc := 53) 22 X (dg dt_Mating_keepLower 31 rfl) (by decide) ?_
      exact G_wk (ih (v3 + 1) σ_9 h) ⟨rfl, ⟨rfl, ⟨rfl, ⟨rfl, trivial⟩⟩⟩⟩
set_option maxRecDepth 100000 in
set_option maxHeartbeats 4000000 in
theorem s_Mating_keepLower_L10 {θ : Th} {ad : Nat → Nat}  {rv : Unit} {σe : St} (X : Cx θ [] cX5_keepLower 4 "Quasigrove$Mating" 3 67)
    {v1 : Int32} (hq : Rq θ (g_SH, ad) none none σe) {kx62 : St → Option (Unit × St)} (hkx62 : ∀ (σ : St), kx62 σ = some (rv, σe) → G θ (0, 0) (g_SH, ad) σ 62 [some (.ref (ad 23)), none, none, none] []) :
    ∀ (n : Nat) (v2 : Int32) (σ : St), f_Mating_keepLower_L10 v1 kx62 n v2 σ = some (rv, σe) → G θ (0, 0) (g_SH, ad) σ 10 [some (.ref (ad 23)), some (.int v1), some (.int v2), none] [] := by
  intro n
  induction n with
  | zero => intro v2 σ h; rw [f_Mating_keepLower_L10] at h; cases h
  | succ n ih =>
    intro v2 σ h
    rw [f_Mating_keepLower_L10] at h
    refine G_iload_n (pc := 10) 2 X (dg dt_Mating_keepLower 6 rfl) rfl rfl ?_
    refine G_iload_n (pc := 11) 1 X (dg dt_Mating_keepLower 7 rfl) rfl rfl ?_
    refine G_icmp_ge (pc := 12) 62 X (dg dt_Mating_keepLower 8 rfl) (by decide) h (fun h => ?_) (fun h => ?_)
    · exact G_wk (hkx62 σ h) ⟨rfl, trivial⟩
    · refine G_iload_n (pc := 15) 2 X (dg dt_Mating_keepLower 9 rfl) rfl rfl ?_
      refine G_iconst (pc := 16) 5 X (dg dt_Mating_keepLower 10 rfl) (by decide) ?_
      refine G_icmp_ge (pc := 17) 62 X (dg dt_Mating_keepLower 11 rfl) (by decide) h (fun h => ?_) (fun h => ?_)
      · exact G_wk (hkx62 σ h) ⟨rfl, trivial⟩
      · refine G_iconst (pc := 20) 0 X (dg dt_Mating_keepLower 12 rfl) (by decide) ?_
        refine G_istore_n (pc := 21) 3 X (dg dt_Mating_keepLower 13 rfl) rfl (Nat.le_of_ble_eq_true rfl) rfl ?_
        refine G_weak (L' := [some (.ref (ad 23)), some (.int v1), some (.int v2), some (.int 0)]) ⟨rfl, ⟨rfl, ⟨rfl, ⟨rfl, trivial⟩⟩⟩⟩ ?_
        refine s_Mating_keepLower_L22  X hq  (fun σ_10 h => ?_) _ _ _ h
        refine G_iinc (pc := 56) (v2 + 1) X (dg dt_Mating_keepLower 32 rfl) rfl (Nat.le_of_ble_eq_true rfl) rfl rfl ?_
        refine G_goto (pc := 59) 10 X (dg dt_Mating_keepLower 33 rfl) (by decide) ?_
        exact G_wk (ih (v2 + 1) σ_10 h) ⟨rfl, ⟨rfl, ⟨rfl, trivial⟩⟩⟩
set_option maxRecDepth 100000 in
set_option maxHeartbeats 4000000 in
theorem s_Mating_keepLower (l : Launch) (ad : Nat → Nat) (σ : St) (v1 : Int32)  {rv : Unit} {σe : St} (h : f_Mating_keepLower σ v1 = some (rv, σe)) : Rt l [] yX5_keepLower cX5_keepLower 4 none 3 67 (g_SH, ad) [.ref (ad 23), .int v1] σ none σe := by
  refine Rt.intro (L := [some (.ref (ad 23)), some (.int v1), none, none]) (by decide +kernel) (Nat.le_of_ble_eq_true rfl) rfl (fun θ hl X hq => ?_)
  subst hl
  unfold f_Mating_keepLower at h
  refine G_aload_n (pc := 0) 0 X (dg dt_Mating_keepLower 0 rfl) rfl rfl ?_
  refine G_getR (pc := 1) 3 X (dg dt_Mating_keepLower 1 rfl) fc_2 w_244 rfl (Nat.le_of_ble_eq_true rfl) sh_23 rfl ?_
  refine G_iload_n (pc := 4) 1 X (dg dt_Mating_keepLower 2 rfl) rfl rfl ?_
  obtain ⟨r_2, σ_3, hc_1, h⟩ := cal_go h
  refine G_callV (pc := 5) (S := []) [.int v1] nosub X  (dg dt_Mating_keepLower 3 rfl) cb_Grid_clear cv_Grid_clear w_996 (s_Grid_clear _ ad _ _ _ gk_26 hc_1) rfl ⟨Nat.le_of_ble_eq_true rfl, Nat.le_of_ble_eq_true rfl⟩ (sh_g gk_26) rfl (Nat.le_of_ble_eq_true rfl) Rc0 ?_
  refine G_iconst (pc := 8) 0 X (dg dt_Mating_keepLower 4 rfl) (by decide) ?_
  refine G_istore_n (pc := 9) 2 X (dg dt_Mating_keepLower 5 rfl) rfl (Nat.le_of_ble_eq_true rfl) rfl ?_
  refine G_weak (L' := [some (.ref (ad 23)), some (.int v1), some (.int 0), none]) ⟨rfl, ⟨rfl, ⟨rfl, trivial⟩⟩⟩ ?_
  refine s_Mating_keepLower_L10  X hq  (fun σ_11 h => ?_) _ _ _ h
  refine G_aload_n (pc := 62) 0 X (dg dt_Mating_keepLower 34 rfl) rfl rfl ?_
  refine G_getI (pc := 63) 6 X (dg dt_Mating_keepLower 35 rfl) fc_2 w_248 rfl (Nat.le_of_ble_eq_true rfl) sh_23 rfl ?_
  refine jn_go (fun j94_12 => ∀ (σ_13 : St), j94_12 σ_13 = some (rv, σe) → G θ (0, 0) (g_SH, ad) σ_13 94 [some (.ref (ad 23)), none, none, none] []) h ?_ (fun j94_12 hj94_12 h => ?_)
  · intro σ_13 h
    refine G_aload_n (pc := 94) 0 X (dg dt_Mating_keepLower 48 rfl) rfl rfl ?_
    refine G_dup (pc := 95) X (dg dt_Mating_keepLower 49 rfl) rfl ?_
    refine G_getI (pc := 96) 6 X (dg dt_Mating_keepLower 50 rfl) fc_2 w_248 rfl (Nat.le_of_ble_eq_true rfl) sh_23 rfl ?_
    refine G_iconst (pc := 99) 1 X (dg dt_Mating_keepLower 51 rfl) (by decide) ?_
    refine G_iadd (pc := 100) X (dg dt_Mating_keepLower 52 rfl) ?_
    refine G_put (pc := 101) 6 X (dg dt_Mating_keepLower 53 rfl) fc_2 w_248 rfl (Nat.le_of_ble_eq_true rfl) rfl rfl sh_23 rfl h (fun σ_14 h => ?_)
    exact G_vret (pc := 104) X hq (dg dt_Mating_keepLower 54 rfl) h
  refine jn_go (fun j83_15 => j83_15 = some (rv, σe) → G θ (0, 0) (g_SH, ad) σ_11 83 [some (.ref (ad 23)), none, none, none] []) h ?_ (fun j83_15 hj83_15 h => ?_)
  · intro  h
    refine G_aload_n (pc := 83) 0 X (dg dt_Mating_keepLower 43 rfl) rfl rfl ?_
    refine G_getR (pc := 84) 4 X (dg dt_Mating_keepLower 44 rfl) fc_2 w_245 rfl (Nat.le_of_ble_eq_true rfl) sh_23 rfl ?_
    refine G_aload_n (pc := 87) 0 X (dg dt_Mating_keepLower 45 rfl) rfl rfl ?_
    refine G_getR (pc := 88) 3 X (dg dt_Mating_keepLower 46 rfl) fc_2 w_244 rfl (Nat.le_of_ble_eq_true rfl) sh_23 rfl ?_
    obtain ⟨r_17, σ_18, hc_16, h⟩ := cal_go h
    refine G_callV (pc := 91) (S := []) [.ref (ad 26)] nosub X  (dg dt_Mating_keepLower 47 rfl) cb_Grid_copy cv_Grid_copy w_1002 (s_Grid_copy _ ad _ _ _ gk_30 gk_26 hc_16) rfl ⟨Nat.le_of_ble_eq_true rfl, Nat.le_of_ble_eq_true rfl⟩ (sh_g gk_30) rfl (Nat.le_of_ble_eq_true rfl) Rc0 ?_
    exact G_wk (hj94_12 σ_18 h) ⟨rfl, trivial⟩
  refine G_if_eq (pc := 66) 83 X (dg dt_Mating_keepLower 36 rfl) (by decide) h (fun h => ?_) (fun h => ?_)
  · exact G_wk (hj83_15  h) ⟨rfl, trivial⟩
  · refine G_aload_n (pc := 69) 0 X (dg dt_Mating_keepLower 37 rfl) rfl rfl ?_
    refine G_getR (pc := 70) 3 X (dg dt_Mating_keepLower 38 rfl) fc_2 w_244 rfl (Nat.le_of_ble_eq_true rfl) sh_23 rfl ?_
    refine G_aload_n (pc := 73) 0 X (dg dt_Mating_keepLower 39 rfl) rfl rfl ?_
    refine G_getR (pc := 74) 4 X (dg dt_Mating_keepLower 40 rfl) fc_2 w_245 rfl (Nat.le_of_ble_eq_true rfl) sh_23 rfl ?_
    obtain ⟨r_20, hc_19, h⟩ := cap_go h
    refine G_callV (pc := 77) (S := []) [.ref (ad 30)] nosub X  (dg dt_Mating_keepLower 41 rfl) cb_Grid_isLowerThan cv_Grid_isLowerThan w_998 (s_Grid_isLowerThan _ ad _ _ _ gk_26 gk_30 hc_19) rfl ⟨Nat.le_of_ble_eq_true rfl, Nat.le_of_ble_eq_true rfl⟩ (sh_g gk_26) rfl (Nat.le_of_ble_eq_true rfl) Rc0 ?_
    refine G_if_eq (pc := 80) 94 X (dg dt_Mating_keepLower 42 rfl) (by decide) h (fun h => ?_) (fun h => ?_)
    · exact G_wk (hj94_12 σ_11 h) ⟨rfl, trivial⟩
    · exact G_wk (hj83_15  h) ⟨rfl, trivial⟩
set_option maxRecDepth 100000 in
set_option maxHeartbeats 4000000 in
theorem s_Mating_layFrom_L23 {θ : Th} {ad : Nat → Nat} {fr0 lo0 : Nat} (hfr0 : 4 ≤ fr0) (hlo0 : 90 ≤ lo0) {rec : St → Int32 → Int32 → Int32 → Option (Unit × St)} (hrec : ∀ (σ : St) (v1 : Int32) (v2 : Int32) (v3 : Int32)  {rv : Unit} {σe : St}, rec σ v1 v2 v3 = some (rv, σe) → Rt θ.2.1 [] yX5_layFrom cX5_layFrom 7 none fr0 lo0 (g_SH, ad) [.ref (ad 23), .int v1, .int v2, .int v3] σ none σe) {rv : Unit} {σe : St} (X : Cx θ [] cX5_layFrom 7 "Quasigrove$Mating" (fr0 + 1) (lo0 + 26))
    {v1 : Int32} {v2 : Int32} {v3 : Int32} (hq : Rq θ (g_SH, ad) none none σe)  :
    ∀ (n : Nat) (v4 : Int32) (σ : St), f_Mating_layFrom_L23 rec v1 v2 v3 n v4 σ = some (rv, σe) → G θ (0, 0) (g_SH, ad) σ 23 [some (.ref (ad 23)), some (.int v1), some (.int v2), some (.int v3), some (.int v4), none, none] [] := by
  intro n
  induction n with
  | zero => intro v4 σ h; rw [f_Mating_layFrom_L23] at h; cases h
  | succ n ih =>
    intro v4 σ h
    rw [f_Mating_layFrom_L23] at h
    refine G_iload (pc := 23) X (dg dt_Mating_layFrom 14 rfl) rfl ?_
    refine G_aload_n (pc := 25) 0 X (dg dt_Mating_layFrom 15 rfl) rfl rfl ?_
    refine G_getI (pc := 26) 5 X (dg dt_Mating_layFrom 16 rfl) fc_2 w_247 rfl (Nat.le_of_ble_eq_true rfl) sh_23 rfl ?_
    refine G_icmp_ge (pc := 29) 107 X (dg dt_Mating_layFrom 17 rfl) (by decide) h (fun h => ?_) (fun h => ?_)
    · exact G_vret (pc := 107) X hq (dg dt_Mating_layFrom 59 rfl) h
    · refine G_iload (pc := 32) X (dg dt_Mating_layFrom 18 rfl) rfl ?_
      refine G_bipush (pc := 34) 120 X (dg dt_Mating_layFrom 19 rfl) (by decide) ?_
      refine G_icmp_ge (pc := 36) 107 X (dg dt_Mating_layFrom 20 rfl) (by decide) h (fun h => ?_) (fun h => ?_)
      · exact G_vret (pc := 107) X hq (dg dt_Mating_layFrom 59 rfl) h
      · refine G_aload_n (pc := 39) 0 X (dg dt_Mating_layFrom 21 rfl) rfl rfl ?_
        refine G_getR (pc := 40) 1 X (dg dt_Mating_layFrom 22 rfl) fc_2 w_242 rfl (Nat.le_of_ble_eq_true rfl) sh_23 rfl ?_
        refine G_iload (pc := 43) X (dg dt_Mating_layFrom 23 rfl) rfl ?_
        refine G_iald (pc := 45) X (dg dt_Mating_layFrom 24 rfl) sh_24 h (fun r_5 h => ?_)
        refine G_istore (pc := 46) X (dg dt_Mating_layFrom 25 rfl) (Nat.le_of_ble_eq_true rfl) rfl ?_
        refine G_aload_n (pc := 48) 0 X (dg dt_Mating_layFrom 26 rfl) rfl rfl ?_
        refine G_getR (pc := 49) 0 X (dg dt_Mating_layFrom 27 rfl) fc_2 w_241 rfl (Nat.le_of_ble_eq_true rfl) sh_23 rfl ?_
        refine G_iload (pc := 52) X (dg dt_Mating_layFrom 28 rfl) rfl ?_
        refine G_iload_n (pc := 54) 1 X (dg dt_Mating_layFrom 29 rfl) rfl rfl ?_
        obtain ⟨r_7, hc_6, h⟩ := cap_go h
        refine G_callV (pc := 55) (S := []) [.int r_5, .int v1] nosub X  (dg dt_Mating_layFrom 30 rfl) cb_Maps_pairsOf cv_Maps_pairsOf w_1003 (s_Maps_pairsOf _ ad _ _ _ hc_6) rfl ⟨by omega, by omega⟩ sh_6 rfl (Nat.le_of_ble_eq_true rfl) Rc0 ?_
        refine G_istore (pc := 58) X (dg dt_Mating_layFrom 31 rfl) (Nat.le_of_ble_eq_true rfl) rfl ?_
        refine G_aload_n (pc := 60) 0 X (dg dt_Mating_layFrom 32 rfl) rfl rfl ?_
        refine G_getR (pc := 61) 0 X (dg dt_Mating_layFrom 33 rfl) fc_2 w_241 rfl (Nat.le_of_ble_eq_true rfl) sh_23 rfl ?_
        refine G_iload (pc := 64) X (dg dt_Mating_layFrom 34 rfl) rfl ?_
        refine G_iconst (pc := 66) 0 X (dg dt_Mating_layFrom 35 rfl) (by decide) ?_
        obtain ⟨r_9, hc_8, h⟩ := cap_go h
        refine G_callV (pc := 67) (S := []) [.int r_5, .int 0] nosub X  (dg dt_Mating_layFrom 36 rfl) cb_Maps_imageOf cv_Maps_imageOf w_974 (s_Maps_imageOf _ ad _ _ _ hc_8) rfl ⟨by omega, by omega⟩ sh_6 rfl (Nat.le_of_ble_eq_true rfl) Rc0 ?_
        refine G_iload_n (pc := 70) 2 X (dg dt_Mating_layFrom 37 rfl) rfl rfl ?_
        refine jn_go (fun j101_10 => ∀ (σ_11 : St), j101_10 σ_11 = some (rv, σe) → G θ (0, 0) (g_SH, ad) σ_11 101 [some (.ref (ad 23)), some (.int v1), some (.int v2), some (.int v3), some (.int v4), none, none] []) h ?_ (fun j101_10 hj101_10 h => ?_)
        · intro σ_11 h
          refine G_iinc (pc := 101) (v4 + 1) X (dg dt_Mating_layFrom 57 rfl) rfl (Nat.le_of_ble_eq_true rfl) rfl rfl ?_
          refine G_goto (pc := 104) 23 X (dg dt_Mating_layFrom 58 rfl) (by decide) ?_
          exact G_wk (ih (v4 + 1) σ_11 h) ⟨rfl, ⟨rfl, ⟨rfl, ⟨rfl, ⟨rfl, trivial⟩⟩⟩⟩⟩
        refine G_icmp_ne (pc := 71) 101 X (dg dt_Mating_layFrom 38 rfl) (by decide) h (fun h => ?_) (fun h => ?_)
        · exact G_wk (hj101_10 σ h) ⟨rfl, ⟨rfl, ⟨rfl, ⟨rfl, ⟨rfl, trivial⟩⟩⟩⟩⟩
        · refine G_iload (pc := 74) X (dg dt_Mating_layFrom 39 rfl) rfl ?_
          refine G_iload_n (pc := 76) 3 X (dg dt_Mating_layFrom 40 rfl) rfl rfl ?_
          refine G_iand (pc := 77) X (dg dt_Mating_layFrom 41 rfl) ?_
          refine G_if_ne (pc := 78) 101 X (dg dt_Mating_layFrom 42 rfl) (by decide) h (fun h => ?_) (fun h => ?_)
          · exact G_wk (hj101_10 σ h) ⟨rfl, ⟨rfl, ⟨rfl, ⟨rfl, ⟨rfl, trivial⟩⟩⟩⟩⟩
          · refine G_aload_n (pc := 81) 0 X (dg dt_Mating_layFrom 43 rfl) rfl rfl ?_
            refine G_getR (pc := 82) 2 X (dg dt_Mating_layFrom 44 rfl) fc_2 w_243 rfl (Nat.le_of_ble_eq_true rfl) sh_23 rfl ?_
            refine G_iload_n (pc := 85) 2 X (dg dt_Mating_layFrom 45 rfl) rfl rfl ?_
            refine G_iload (pc := 86) X (dg dt_Mating_layFrom 46 rfl) rfl ?_
            refine G_iast (pc := 88) X (dg dt_Mating_layFrom 47 rfl) sh_25 h (fun σ_12 h => ?_)
            refine G_aload_n (pc := 89) 0 X (dg dt_Mating_layFrom 48 rfl) rfl rfl ?_
            refine G_iload_n (pc := 90) 1 X (dg dt_Mating_layFrom 49 rfl) rfl rfl ?_
            refine G_iload_n (pc := 91) 2 X (dg dt_Mating_layFrom 50 rfl) rfl rfl ?_
            refine G_iconst (pc := 92) 1 X (dg dt_Mating_layFrom 51 rfl) (by decide) ?_
            refine G_iadd (pc := 93) X (dg dt_Mating_layFrom 52 rfl) ?_
            refine G_iload_n (pc := 94) 3 X (dg dt_Mating_layFrom 53 rfl) rfl rfl ?_
            refine G_iload (pc := 95) X (dg dt_Mating_layFrom 54 rfl) rfl ?_
            refine G_ior (pc := 97) X (dg dt_Mating_layFrom 55 rfl) ?_
            obtain ⟨r_14, σ_15, hc_13, h⟩ := cal_go h
            refine G_callS (pc := 98) (S := []) [.ref (ad 23), .int v1, .int (v2 + 1), .int (v3 ||| r_7)] nosub X  (dg dt_Mating_layFrom 56 rfl) cb_Mating_layFrom w_990 w_989 (hrec _ _ _ _ hc_13) rfl ⟨by omega, by omega⟩  (Nat.le_of_ble_eq_true rfl) Rc0 ?_
            exact G_wk (hj101_10 σ_15 h) ⟨rfl, ⟨rfl, ⟨rfl, ⟨rfl, ⟨rfl, trivial⟩⟩⟩⟩⟩
set_option maxRecDepth 100000 in
set_option maxHeartbeats 4000000 in
theorem sb_Mating_layFrom (l : Launch) (ad : Nat → Nat) {fr0 lo0 : Nat} (hfr0 : 4 ≤ fr0) (hlo0 : 90 ≤ lo0) {rec : St → Int32 → Int32 → Int32 → Option (Unit × St)} (hrec : ∀ (σ : St) (v1 : Int32) (v2 : Int32) (v3 : Int32)  {rv : Unit} {σe : St}, rec σ v1 v2 v3 = some (rv, σe) → Rt l [] yX5_layFrom cX5_layFrom 7 none fr0 lo0 (g_SH, ad) [.ref (ad 23), .int v1, .int v2, .int v3] σ none σe) (σ : St) (v1 : Int32) (v2 : Int32) (v3 : Int32)  {rv : Unit} {σe : St} (h : fb_Mating_layFrom rec σ v1 v2 v3 = some (rv, σe)) : Rt l [] yX5_layFrom cX5_layFrom 7 none (fr0 + 1) (lo0 + 26) (g_SH, ad) [.ref (ad 23), .int v1, .int v2, .int v3] σ none σe := by
  refine Rt.intro (L := [some (.ref (ad 23)), some (.int v1), some (.int v2), some (.int v3), none, none, none]) (by decide +kernel) (Nat.le_of_ble_eq_true rfl) rfl (fun θ hl X hq => ?_)
  subst hl
  unfold fb_Mating_layFrom at h
  refine G_iload_n (pc := 0) 2 X (dg dt_Mating_layFrom 0 rfl) rfl rfl ?_
  refine jn_go (fun j14_1 => j14_1 = some (rv, σe) → G θ (0, 0) (g_SH, ad) σ 14 [some (.ref (ad 23)), some (.int v1), none, none, none, none, none] []) h ?_ (fun j14_1 hj14_1 h => ?_)
  · intro  h
    refine G_aload_n (pc := 14) 0 X (dg dt_Mating_layFrom 8 rfl) rfl rfl ?_
    refine G_iload_n (pc := 15) 1 X (dg dt_Mating_layFrom 9 rfl) rfl rfl ?_
    obtain ⟨r_3, σ_4, hc_2, h⟩ := cal_go h
    refine G_callV (pc := 16) (S := []) [.int v1] nosub X  (dg dt_Mating_layFrom 10 rfl) cb_Mating_keepLower cv_Mating_keepLower w_992 (s_Mating_keepLower _ ad _ _ hc_2) rfl ⟨by omega, by omega⟩ sh_23 rfl (Nat.le_of_ble_eq_true rfl) Rc0 ?_
    exact G_vret (pc := 19) X hq (dg dt_Mating_layFrom 11 rfl) h
  refine G_if_lt (pc := 1) 14 X (dg dt_Mating_layFrom 1 rfl) (by decide) h (fun h => ?_) (fun h => ?_)
  · exact G_wk (hj14_1  h) ⟨rfl, ⟨rfl, trivial⟩⟩
  · refine G_iload_n (pc := 4) 2 X (dg dt_Mating_layFrom 2 rfl) rfl rfl ?_
    refine G_iload_n (pc := 5) 1 X (dg dt_Mating_layFrom 3 rfl) rfl rfl ?_
    refine G_icmp_ge (pc := 6) 14 X (dg dt_Mating_layFrom 4 rfl) (by decide) h (fun h => ?_) (fun h => ?_)
    · exact G_wk (hj14_1  h) ⟨rfl, ⟨rfl, trivial⟩⟩
    · refine G_iload_n (pc := 9) 2 X (dg dt_Mating_layFrom 5 rfl) rfl rfl ?_
      refine G_iconst (pc := 10) 5 X (dg dt_Mating_layFrom 6 rfl) (by decide) ?_
      refine G_icmp_lt (pc := 11) 20 X (dg dt_Mating_layFrom 7 rfl) (by decide) h (fun h => ?_) (fun h => ?_)
      · refine G_iconst (pc := 20) 0 X (dg dt_Mating_layFrom 12 rfl) (by decide) ?_
        refine G_istore (pc := 21) X (dg dt_Mating_layFrom 13 rfl) (Nat.le_of_ble_eq_true rfl) rfl ?_
        refine G_weak (L' := [some (.ref (ad 23)), some (.int v1), some (.int v2), some (.int v3), some (.int 0), none, none]) ⟨rfl, ⟨rfl, ⟨rfl, ⟨rfl, ⟨rfl, trivial⟩⟩⟩⟩⟩ ?_
        refine s_Mating_layFrom_L23 hfr0 hlo0 hrec X hq   _ _ _ h
      · exact G_wk (hj14_1  h) ⟨rfl, ⟨rfl, trivial⟩⟩
set_option maxRecDepth 100000 in
set_option maxHeartbeats 4000000 in
theorem s_Mating_layFrom (l : Launch) (ad : Nat → Nat) : ∀ (d : Nat) (σ : St) (v1 : Int32) (v2 : Int32) (v3 : Int32)  {rv : Unit} {σe : St}, f_Mating_layFrom d σ v1 v2 v3 = some (rv, σe) → Rt l [] yX5_layFrom cX5_layFrom 7 none (4 + 1 * d) (90 + 26 * d) (g_SH, ad) [.ref (ad 23), .int v1, .int v2, .int v3] σ none σe := by
  intro d
  induction d with
  | zero => intro σ v1 v2 v3 rv σe h; rw [f_Mating_layFrom] at h; cases h
  | succ d ih =>
    intro σ v1 v2 v3 rv σe h
    rw [f_Mating_layFrom] at h
    rw [show 4 + 1 * (d + 1) = (4 + 1 * d) + 1 by omega, show 90 + 26 * (d + 1) = (90 + 26 * d) + 26 by omega]
    exact sb_Mating_layFrom l ad (by omega) (by omega) (fun σ v1 v2 v3 _ _ h => ih σ v1 v2 v3 h) σ v1 v2 v3 h
set_option maxRecDepth 100000 in
set_option maxHeartbeats 4000000 in
theorem s_Mating_findMates (l : Launch) (ad : Nat → Nat) (σ : St) (v1 : Nat) (hg_v1 : gok v1) {rv : Int32} {σe : St} (h : f_Mating_findMates σ v1 = some (rv, σe)) : Rt l [] yX5_findMates cX5_findMates 2 (some .int) 45 1156 (g_SH, ad) [.ref (ad 23), .ref (ad v1)] σ (some (.int rv)) σe := by
  refine Rt.intro (L := [some (.ref (ad 23)), some (.ref (ad v1))]) (by decide +kernel) (Nat.le_of_ble_eq_true rfl) rfl (fun θ hl X hq => ?_)
  subst hl
  unfold f_Mating_findMates at h
  refine G_aload_n (pc := 0) 0 X (dg dt_Mating_findMates 0 rfl) rfl rfl ?_
  refine G_aload_n (pc := 1) 1 X (dg dt_Mating_findMates 1 rfl) rfl rfl ?_
  obtain ⟨r_2, σ_3, hc_1, h⟩ := cal_go h
  refine G_callV (pc := 2) (S := []) [.ref (ad v1)] nosub X  (dg dt_Mating_findMates 2 rfl) cb_Mating_findTransversals cv_Mating_findTransversals w_988 (s_Mating_findTransversals _ ad _ _ hg_v1 hc_1) rfl ⟨Nat.le_of_ble_eq_true rfl, Nat.le_of_ble_eq_true rfl⟩ sh_23 rfl (Nat.le_of_ble_eq_true rfl) Rc0 ?_
  refine G_pop (pc := 5) X (dg dt_Mating_findMates 3 rfl) rfl ?_
  refine G_aload_n (pc := 6) 0 X (dg dt_Mating_findMates 4 rfl) rfl rfl ?_
  refine G_iconst (pc := 7) 0 X (dg dt_Mating_findMates 5 rfl) (by decide) ?_
  refine G_put (pc := 8) 6 X (dg dt_Mating_findMates 6 rfl) fc_2 w_248 rfl (Nat.le_of_ble_eq_true rfl) rfl rfl sh_23 rfl h (fun σ_4 h => ?_)
  refine G_aload_n (pc := 11) 0 X (dg dt_Mating_findMates 7 rfl) rfl rfl ?_
  refine G_aload_n (pc := 12) 1 X (dg dt_Mating_findMates 8 rfl) rfl rfl ?_
  refine G_getIN (pc := 13) 3 X (dg dt_Mating_findMates 9 rfl) fc_0 w_116 rfl (Nat.le_of_ble_eq_true rfl) (sh_g hg_v1) rfl ?_
  refine G_iconst (pc := 16) 0 X (dg dt_Mating_findMates 10 rfl) (by decide) ?_
  refine G_iconst (pc := 17) 0 X (dg dt_Mating_findMates 11 rfl) (by decide) ?_
  obtain ⟨r_6, σ_7, hc_5, h⟩ := cal_go h
  refine G_callS (pc := 18) (S := []) [.ref (ad 23), .int (σ_4 v1 3), .int 0, .int 0] nosub X  (dg dt_Mating_findMates 12 rfl) cb_Mating_layFrom w_990 w_989 (s_Mating_layFrom _ ad DP _ _ _ _ hc_5) rfl ⟨Nat.le_of_ble_eq_true rfl, Nat.le_of_ble_eq_true rfl⟩  (Nat.le_of_ble_eq_true rfl) Rc0 ?_
  refine G_aload_n (pc := 21) 0 X (dg dt_Mating_findMates 13 rfl) rfl rfl ?_
  refine G_getI (pc := 22) 6 X (dg dt_Mating_findMates 14 rfl) fc_2 w_248 rfl (Nat.le_of_ble_eq_true rfl) sh_23 rfl ?_
  exact G_iret (pc := 25) X hq (dg dt_Mating_findMates 15 rfl) h
set_option maxRecDepth 100000 in
set_option maxHeartbeats 4000000 in
theorem s_Symmetry_mapSigns_L3 {θ : Th} {ad : Nat → Nat}  {rv : Unit} {σe : St} (X : Cx θ [] cX8_mapSigns 7 "Quasigrove$Symmetry" 3 65)
    {v1 : Nat} {v2 : Nat} {v3 : Int32} {v4 : Int32} (hq : Rq θ (g_SH, ad) none none σe) (hg_v1 : gok v1) (hg_v2 : gok v2) :
    ∀ (n : Nat) (v5 : Int32) (σ : St), f_Symmetry_mapSigns_L3 v1 v2 v3 v4 n v5 σ = some (rv, σe) → G θ (0, 0) (g_SH, ad) σ 3 [some (.ref (ad 18)), some (.ref (ad v1)), some (.ref (ad v2)), some (.int v3), some (.int v4), some (.int v5), none] [] := by
  intro n
  induction n with
  | zero => intro v5 σ h; rw [f_Symmetry_mapSigns_L3] at h; cases h
  | succ n ih =>
    intro v5 σ h
    rw [f_Symmetry_mapSigns_L3] at h
    refine G_iload (pc := 3) X (dg dt_Symmetry_mapSigns 2 rfl) rfl ?_
    refine G_aload_n (pc := 5) 1 X (dg dt_Symmetry_mapSigns 3 rfl) rfl rfl ?_
    refine G_getIN (pc := 6) 3 X (dg dt_Symmetry_mapSigns 4 rfl) fc_0 w_115 rfl (Nat.le_of_ble_eq_true rfl) (sh_g hg_v1) rfl ?_
    refine G_icmp_ge (pc := 9) 61 X (dg dt_Symmetry_mapSigns 5 rfl) (by decide) h (fun h => ?_) (fun h => ?_)
    · exact G_vret (pc := 61) X hq (dg dt_Symmetry_mapSigns 30 rfl) h
    · refine G_aload_n (pc := 12) 1 X (dg dt_Symmetry_mapSigns 6 rfl) rfl rfl ?_
      refine G_iload (pc := 13) X (dg dt_Symmetry_mapSigns 7 rfl) rfl ?_
      refine G_iconst (pc := 15) 0 X (dg dt_Symmetry_mapSigns 8 rfl) (by decide) ?_
      obtain ⟨r_2, hc_1, h⟩ := cap_go h
      refine G_callV (pc := 16) (S := []) [.int v5, .int 0] nosub X  (dg dt_Symmetry_mapSigns 9 rfl) cb_Grid_signAt cv_Grid_signAt w_902 (s_Grid_signAt _ ad _ _ _ _ hg_v1 hc_1) rfl ⟨Nat.le_of_ble_eq_true rfl, Nat.le_of_ble_eq_true rfl⟩ (sh_g hg_v1) rfl (Nat.le_of_ble_eq_true rfl) Rc0 ?_
      refine G_istore (pc := 19) X (dg dt_Symmetry_mapSigns 10 rfl) (Nat.le_of_ble_eq_true rfl) rfl ?_
      refine G_iload (pc := 21) X (dg dt_Symmetry_mapSigns 11 rfl) rfl ?_
      refine jn_go (fun j55_3 => ∀ (σ_4 : St), j55_3 σ_4 = some (rv, σe) → G θ (0, 0) (g_SH, ad) σ_4 55 [some (.ref (ad 18)), some (.ref (ad v1)), some (.ref (ad v2)), some (.int v3), some (.int v4), some (.int v5), none] []) h ?_ (fun j55_3 hj55_3 h => ?_)
      · intro σ_4 h
        refine G_iinc (pc := 55) (v5 + 1) X (dg dt_Symmetry_mapSigns 28 rfl) rfl (Nat.le_of_ble_eq_true rfl) rfl rfl ?_
        refine G_goto (pc := 58) 3 X (dg dt_Symmetry_mapSigns 29 rfl) (by decide) ?_
        exact G_wk (ih (v5 + 1) σ_4 h) ⟨rfl, ⟨rfl, ⟨rfl, ⟨rfl, ⟨rfl, ⟨rfl, trivial⟩⟩⟩⟩⟩⟩
      refine G_if_lt (pc := 23) 55 X (dg dt_Symmetry_mapSigns 12 rfl) (by decide) h (fun h => ?_) (fun h => ?_)
      · exact G_wk (hj55_3 σ h) ⟨rfl, ⟨rfl, ⟨rfl, ⟨rfl, ⟨rfl, ⟨rfl, trivial⟩⟩⟩⟩⟩⟩
      · refine G_iload (pc := 26) X (dg dt_Symmetry_mapSigns 13 rfl) rfl ?_
        refine G_iconst (pc := 28) 5 X (dg dt_Symmetry_mapSigns 14 rfl) (by decide) ?_
        refine G_icmp_ge (pc := 29) 55 X (dg dt_Symmetry_mapSigns 15 rfl) (by decide) h (fun h => ?_) (fun h => ?_)
        · exact G_wk (hj55_3 σ h) ⟨rfl, ⟨rfl, ⟨rfl, ⟨rfl, ⟨rfl, ⟨rfl, trivial⟩⟩⟩⟩⟩⟩
        · refine G_aload_n (pc := 32) 0 X (dg dt_Symmetry_mapSigns 16 rfl) rfl rfl ?_
          refine G_getR (pc := 33) 4 X (dg dt_Symmetry_mapSigns 17 rfl) fc_4 w_214 rfl (Nat.le_of_ble_eq_true rfl) sh_18 rfl ?_
          refine G_iload (pc := 36) X (dg dt_Symmetry_mapSigns 18 rfl) rfl ?_
          refine G_aload_n (pc := 38) 2 X (dg dt_Symmetry_mapSigns 19 rfl) rfl rfl ?_
          refine G_aload_n (pc := 39) 0 X (dg dt_Symmetry_mapSigns 20 rfl) rfl rfl ?_
          refine G_getR (pc := 40) 0 X (dg dt_Symmetry_mapSigns 21 rfl) fc_4 w_210 rfl (Nat.le_of_ble_eq_true rfl) sh_18 rfl ?_
          refine G_iload_n (pc := 43) 3 X (dg dt_Symmetry_mapSigns 22 rfl) rfl rfl ?_
          refine G_iload (pc := 44) X (dg dt_Symmetry_mapSigns 23 rfl) rfl ?_
          obtain ⟨r_6, hc_5, h⟩ := cap_go h
          refine G_callV (pc := 46) (S := [.ref (ad v2), .int r_2, .ref (ad 22)]) [.int v3, .int v5] nosub X  (dg dt_Symmetry_mapSigns 24 rfl) cb_Maps_imageOf cv_Maps_imageOf w_901 (s_Maps_imageOf _ ad _ _ _ hc_5) rfl ⟨Nat.le_of_ble_eq_true rfl, Nat.le_of_ble_eq_true rfl⟩ sh_6 rfl (Nat.le_of_ble_eq_true rfl) Rc0 ?_
          refine G_iload (pc := 49) X (dg dt_Symmetry_mapSigns 25 rfl) rfl ?_
          obtain ⟨r_8, hc_7, h⟩ := cap_go h
          refine G_callV (pc := 51) (S := [.int r_2, .ref (ad 22)]) [.int r_6, .int v4] nosub X  (dg dt_Symmetry_mapSigns 26 rfl) cb_Grid_signAt cv_Grid_signAt w_902 (s_Grid_signAt _ ad _ _ _ _ hg_v2 hc_7) rfl ⟨Nat.le_of_ble_eq_true rfl, Nat.le_of_ble_eq_true rfl⟩ (sh_g hg_v2) rfl (Nat.le_of_ble_eq_true rfl) Rc0 ?_
          refine G_iast (pc := 54) X (dg dt_Symmetry_mapSigns 27 rfl) sh_22 h (fun σ_9 h => ?_)
          exact G_wk (hj55_3 σ_9 h) ⟨rfl, ⟨rfl, ⟨rfl, ⟨rfl, ⟨rfl, ⟨rfl, trivial⟩⟩⟩⟩⟩⟩
set_option maxRecDepth 100000 in
set_option maxHeartbeats 4000000 in
theorem s_Symmetry_mapSigns (l : Launch) (ad : Nat → Nat) (σ : St) (v1 : Nat) (v2 : Nat) (v3 : Int32) (v4 : Int32) (hg_v1 : gok v1) (hg_v2 : gok v2) {rv : Unit} {σe : St} (h : f_Symmetry_mapSigns σ v1 v2 v3 v4 = some (rv, σe)) : Rt l [] yX8_mapSigns cX8_mapSigns 7 none 3 65 (g_SH, ad) [.ref (ad 18), .ref (ad v1), .ref (ad v2), .int v3, .int v4] σ none σe := by
  refine Rt.intro (L := [some (.ref (ad 18)), some (.ref (ad v1)), some (.ref (ad v2)), some (.int v3), some (.int v4), none, none]) (by decide +kernel) (Nat.le_of_ble_eq_true rfl) rfl (fun θ hl X hq => ?_)
  subst hl
  unfold f_Symmetry_mapSigns at h
  refine G_iconst (pc := 0) 0 X (dg dt_Symmetry_mapSigns 0 rfl) (by decide) ?_
  refine G_istore (pc := 1) X (dg dt_Symmetry_mapSigns 1 rfl) (Nat.le_of_ble_eq_true rfl) rfl ?_
  refine G_weak (L' := [some (.ref (ad 18)), some (.ref (ad v1)), some (.ref (ad v2)), some (.int v3), some (.int v4), some (.int 0), none]) ⟨rfl, ⟨rfl, ⟨rfl, ⟨rfl, ⟨rfl, ⟨rfl, trivial⟩⟩⟩⟩⟩⟩ ?_
  refine s_Symmetry_mapSigns_L3  X hq hg_v1 hg_v2  _ _ _ h
set_option maxRecDepth 100000 in
set_option maxHeartbeats 4000000 in
theorem s_Symmetry_mapped (l : Launch) (ad : Nat → Nat) (σ : St) (v1 : Int32)  {rv : Int32} (h : f_Symmetry_mapped σ v1 = some rv) : Rt l [] yX8_mapped cX8_mapped 2 (some .int) 0 0 (g_SH, ad) [.ref (ad 18), .int v1] σ (some (.int rv)) σ := by
  refine Rt.intro (L := [some (.ref (ad 18)), some (.int v1)]) (by decide +kernel) (Nat.le_of_ble_eq_true rfl) rfl (fun θ hl X hq => ?_)
  subst hl
  unfold f_Symmetry_mapped at h
  refine G_iload_n (pc := 0) 1 X (dg dt_Symmetry_mapped 0 rfl) rfl rfl ?_
  refine jn_go (fun j18_1 => j18_1 = some rv → G θ (0, 0) (g_SH, ad) σ 18 [none, none] []) h ?_ (fun j18_1 hj18_1 h => ?_)
  · intro  h
    refine G_iconst (pc := 18) (-1) X (dg dt_Symmetry_mapped 10 rfl) (by decide) ?_
    exact G_iretp (pc := 19) X hq (dg dt_Symmetry_mapped 11 rfl) h
  refine G_if_lt (pc := 1) 18 X (dg dt_Symmetry_mapped 1 rfl) (by decide) h (fun h => ?_) (fun h => ?_)
  · exact G_wk (hj18_1  h) trivial
  · refine G_iload_n (pc := 4) 1 X (dg dt_Symmetry_mapped 2 rfl) rfl rfl ?_
    refine G_iconst (pc := 5) 5 X (dg dt_Symmetry_mapped 3 rfl) (by decide) ?_
    refine G_icmp_ge (pc := 6) 18 X (dg dt_Symmetry_mapped 4 rfl) (by decide) h (fun h => ?_) (fun h => ?_)
    · exact G_wk (hj18_1  h) trivial
    · refine G_aload_n (pc := 9) 0 X (dg dt_Symmetry_mapped 5 rfl) rfl rfl ?_
      refine G_getR (pc := 10) 4 X (dg dt_Symmetry_mapped 6 rfl) fc_4 w_214 rfl (Nat.le_of_ble_eq_true rfl) sh_18 rfl ?_
      refine G_iload_n (pc := 13) 1 X (dg dt_Symmetry_mapped 7 rfl) rfl rfl ?_
      refine G_iald (pc := 14) X (dg dt_Symmetry_mapped 8 rfl) sh_22 h (fun r_2 h => ?_)
      refine G_goto (pc := 15) 19 X (dg dt_Symmetry_mapped 9 rfl) (by decide) ?_
      exact G_iretp (pc := 19) X hq (dg dt_Symmetry_mapped 11 rfl) h
set_option maxRecDepth 100000 in
set_option maxHeartbeats 4000000 in
theorem s_Symmetry_bringsAllColumns_L41 {θ : Th} {ad : Nat → Nat}  {rv : Int32} (X : Cx θ [] cX8_bringsAllColumns 7 "Quasigrove$Symmetry" 4 88)
    {v1 : Nat} {v2 : Nat} {v3 : Int32} {v4 : Int32} {v5 : Int32} {σ : St} (hq : Rq θ (g_SH, ad) (some .boolean) (some (.int rv)) σ) (hg_v1 : gok v1) (hg_v2 : gok v2) {kx89 : Option Int32} (hkx89 : kx89 = some rv → G θ (0, 0) (g_SH, ad) σ 89 [some (.ref (ad 18)), some (.ref (ad v1)), some (.ref (ad v2)), some (.int v3), some (.int v4), none, none] []) :
    ∀ (n : Nat) (v6 : Int32), f_Symmetry_bringsAllColumns_L41 v1 v2 v3 v4 v5 σ kx89 n v6 = some rv → G θ (0, 0) (g_SH, ad) σ 41 [some (.ref (ad 18)), some (.ref (ad v1)), some (.ref (ad v2)), some (.int v3), some (.int v4), some (.int v5), some (.int v6)] [] := by
  intro n
  induction n with
  | zero => intro v6 h; rw [f_Symmetry_bringsAllColumns_L41] at h; cases h
  | succ n ih =>
    intro v6 h
    rw [f_Symmetry_bringsAllColumns_L41] at h
    refine G_iload (pc := 41) X (dg dt_Symmetry_bringsAllColumns 22 rfl) rfl ?_
    refine G_aload_n (pc := 43) 1 X (dg dt_Symmetry_bringsAllColumns 23 rfl) rfl rfl ?_
    refine G_getIN (pc := 44) 3 X (dg dt_Symmetry_bringsAllColumns 24 rfl) fc_0 w_115 rfl (Nat.le_of_ble_eq_true rfl) (sh_g hg_v1) rfl ?_
    refine G_icmp_ge (pc := 47) 89 X (dg dt_Symmetry_bringsAllColumns 25 rfl) (by decide) h (fun h => ?_) (fun h => ?_)
    · exact G_wk (hkx89  h) ⟨rfl, ⟨rfl, ⟨rfl, ⟨rfl, ⟨rfl, trivial⟩⟩⟩⟩⟩
    · refine G_aload_n (pc := 50) 2 X (dg dt_Symmetry_bringsAllColumns 26 rfl) rfl rfl ?_
      refine G_aload_n (pc := 51) 0 X (dg dt_Symmetry_bringsAllColumns 27 rfl) rfl rfl ?_
      refine G_getR (pc := 52) 0 X (dg dt_Symmetry_bringsAllColumns 28 rfl) fc_4 w_210 rfl (Nat.le_of_ble_eq_true rfl) sh_18 rfl ?_
      refine G_iload_n (pc := 55) 3 X (dg dt_Symmetry_bringsAllColumns 29 rfl) rfl rfl ?_
      refine G_iload (pc := 56) X (dg dt_Symmetry_bringsAllColumns 30 rfl) rfl ?_
      obtain ⟨r_10, hc_9, h⟩ := cap_go h
      refine G_callV (pc := 58) (S := [.ref (ad v2)]) [.int v3, .int v6] nosub X  (dg dt_Symmetry_bringsAllColumns 31 rfl) cb_Maps_imageOf cv_Maps_imageOf w_901 (s_Maps_imageOf _ ad _ _ _ hc_9) rfl ⟨Nat.le_of_ble_eq_true rfl, Nat.le_of_ble_eq_true rfl⟩ sh_6 rfl (Nat.le_of_ble_eq_true rfl) Rc0 ?_
      refine G_iload (pc := 61) X (dg dt_Symmetry_bringsAllColumns 32 rfl) rfl ?_
      obtain ⟨r_12, hc_11, h⟩ := cap_go h
      refine G_callV (pc := 63) (S := []) [.int r_10, .int v5] nosub X  (dg dt_Symmetry_bringsAllColumns 33 rfl) cb_Grid_signAt cv_Grid_signAt w_902 (s_Grid_signAt _ ad _ _ _ _ hg_v2 hc_11) rfl ⟨Nat.le_of_ble_eq_true rfl, Nat.le_of_ble_eq_true rfl⟩ (sh_g hg_v2) rfl (Nat.le_of_ble_eq_true rfl) Rc0 ?_
      refine G_aload_n (pc := 66) 0 X (dg dt_Symmetry_bringsAllColumns 34 rfl) rfl rfl ?_
      refine G_aload_n (pc := 67) 1 X (dg dt_Symmetry_bringsAllColumns 35 rfl) rfl rfl ?_
      refine G_iload (pc := 68) X (dg dt_Symmetry_bringsAllColumns 36 rfl) rfl ?_
      refine G_iload (pc := 70) X (dg dt_Symmetry_bringsAllColumns 37 rfl) rfl ?_
      obtain ⟨r_14, hc_13, h⟩ := cap_go h
      refine G_callV (pc := 72) (S := [.ref (ad 18), .int r_12]) [.int v6, .int v4] nosub X  (dg dt_Symmetry_bringsAllColumns 38 rfl) cb_Grid_signAt cv_Grid_signAt w_902 (s_Grid_signAt _ ad _ _ _ _ hg_v1 hc_13) rfl ⟨Nat.le_of_ble_eq_true rfl, Nat.le_of_ble_eq_true rfl⟩ (sh_g hg_v1) rfl (Nat.le_of_ble_eq_true rfl) Rc0 ?_
      obtain ⟨r_16, hc_15, h⟩ := cap_go h
      refine G_callV (pc := 75) (S := [.int r_12]) [.int r_14] nosub X  (dg dt_Symmetry_bringsAllColumns 39 rfl) cb_Symmetry_mapped cv_Symmetry_mapped w_953 (s_Symmetry_mapped _ ad _ _ hc_15) rfl ⟨Nat.le_of_ble_eq_true rfl, Nat.le_of_ble_eq_true rfl⟩ sh_18 rfl (Nat.le_of_ble_eq_true rfl) Rc0 ?_
      refine G_icmp_eq (pc := 78) 83 X (dg dt_Symmetry_bringsAllColumns 40 rfl) (by decide) h (fun h => ?_) (fun h => ?_)
      · refine G_iinc (pc := 83) (v6 + 1) X (dg dt_Symmetry_bringsAllColumns 43 rfl) rfl (Nat.le_of_ble_eq_true rfl) rfl rfl ?_
        refine G_goto (pc := 86) 41 X (dg dt_Symmetry_bringsAllColumns 44 rfl) (by decide) ?_
        exact G_wk (ih (v6 + 1) h) ⟨rfl, ⟨rfl, ⟨rfl, ⟨rfl, ⟨rfl, ⟨rfl, ⟨rfl, trivial⟩⟩⟩⟩⟩⟩⟩
      · refine G_iconst (pc := 81) 0 X (dg dt_Symmetry_bringsAllColumns 41 rfl) (by decide) ?_
        exact G_zretlp (pc := 82) X hq (dg dt_Symmetry_bringsAllColumns 42 rfl) rfl h
set_option maxRecDepth 100000 in
set_option maxHeartbeats 4000000 in
theorem s_Symmetry_bringsAllColumns_L3 {θ : Th} {ad : Nat → Nat}  {rv : Int32} (X : Cx θ [] cX8_bringsAllColumns 7 "Quasigrove$Symmetry" 4 88)
    {v1 : Nat} {v2 : Nat} {v3 : Int32} {σ : St} (hq : Rq θ (g_SH, ad) (some .boolean) (some (.int rv)) σ) (hg_v1 : gok v1) (hg_v2 : gok v2) :
    ∀ (n : Nat) (v4 : Int32), f_Symmetry_bringsAllColumns_L3 v1 v2 v3 σ n v4 = some rv → G θ (0, 0) (g_SH, ad) σ 3 [some (.ref (ad 18)), some (.ref (ad v1)), some (.ref (ad v2)), some (.int v3), some (.int v4), none, none] [] := by
  intro n
  induction n with
  | zero => intro v4 h; rw [f_Symmetry_bringsAllColumns_L3] at h; cases h
  | succ n ih =>
    intro v4 h
    rw [f_Symmetry_bringsAllColumns_L3] at h
    refine G_iload (pc := 3) X (dg dt_Symmetry_bringsAllColumns 2 rfl) rfl ?_
    refine G_aload_n (pc := 5) 1 X (dg dt_Symmetry_bringsAllColumns 3 rfl) rfl rfl ?_
    refine G_getIN (pc := 6) 3 X (dg dt_Symmetry_bringsAllColumns 4 rfl) fc_0 w_115 rfl (Nat.le_of_ble_eq_true rfl) (sh_g hg_v1) rfl ?_
    refine G_icmp_ge (pc := 9) 95 X (dg dt_Symmetry_bringsAllColumns 5 rfl) (by decide) h (fun h => ?_) (fun h => ?_)
    · refine G_iconst (pc := 95) 1 X (dg dt_Symmetry_bringsAllColumns 47 rfl) (by decide) ?_
      exact G_zretlp (pc := 96) X hq (dg dt_Symmetry_bringsAllColumns 48 rfl) rfl h
    · refine G_aload_n (pc := 12) 2 X (dg dt_Symmetry_bringsAllColumns 6 rfl) rfl rfl ?_
      refine G_aload_n (pc := 13) 0 X (dg dt_Symmetry_bringsAllColumns 7 rfl) rfl rfl ?_
      refine G_getR (pc := 14) 0 X (dg dt_Symmetry_bringsAllColumns 8 rfl) fc_4 w_210 rfl (Nat.le_of_ble_eq_true rfl) sh_18 rfl ?_
      refine G_iload_n (pc := 17) 3 X (dg dt_Symmetry_bringsAllColumns 9 rfl) rfl rfl ?_
      refine G_iconst (pc := 18) 0 X (dg dt_Symmetry_bringsAllColumns 10 rfl) (by decide) ?_
      obtain ⟨r_2, hc_1, h⟩ := cap_go h
      refine G_callV (pc := 19) (S := [.ref (ad v2)]) [.int v3, .int 0] nosub X  (dg dt_Symmetry_bringsAllColumns 11 rfl) cb_Maps_imageOf cv_Maps_imageOf w_901 (s_Maps_imageOf _ ad _ _ _ hc_1) rfl ⟨Nat.le_of_ble_eq_true rfl, Nat.le_of_ble_eq_true rfl⟩ sh_6 rfl (Nat.le_of_ble_eq_true rfl) Rc0 ?_
      refine G_aload_n (pc := 22) 0 X (dg dt_Symmetry_bringsAllColumns 12 rfl) rfl rfl ?_
      refine G_aload_n (pc := 23) 1 X (dg dt_Symmetry_bringsAllColumns 13 rfl) rfl rfl ?_
      refine G_iconst (pc := 24) 0 X (dg dt_Symmetry_bringsAllColumns 14 rfl) (by decide) ?_
      refine G_iload (pc := 25) X (dg dt_Symmetry_bringsAllColumns 15 rfl) rfl ?_
      obtain ⟨r_4, hc_3, h⟩ := cap_go h
      refine G_callV (pc := 27) (S := [.ref (ad 18), .int r_2, .ref (ad v2)]) [.int 0, .int v4] nosub X  (dg dt_Symmetry_bringsAllColumns 16 rfl) cb_Grid_signAt cv_Grid_signAt w_902 (s_Grid_signAt _ ad _ _ _ _ hg_v1 hc_3) rfl ⟨Nat.le_of_ble_eq_true rfl, Nat.le_of_ble_eq_true rfl⟩ (sh_g hg_v1) rfl (Nat.le_of_ble_eq_true rfl) Rc0 ?_
      obtain ⟨r_6, hc_5, h⟩ := cap_go h
      refine G_callV (pc := 30) (S := [.int r_2, .ref (ad v2)]) [.int r_4] nosub X  (dg dt_Symmetry_bringsAllColumns 17 rfl) cb_Symmetry_mapped cv_Symmetry_mapped w_953 (s_Symmetry_mapped _ ad _ _ hc_5) rfl ⟨Nat.le_of_ble_eq_true rfl, Nat.le_of_ble_eq_true rfl⟩ sh_18 rfl (Nat.le_of_ble_eq_true rfl) Rc0 ?_
      obtain ⟨r_8, hc_7, h⟩ := cap_go h
      refine G_callV (pc := 33) (S := []) [.int r_2, .int r_6] nosub X  (dg dt_Symmetry_bringsAllColumns 18 rfl) cb_Grid_columnOf cv_Grid_columnOf w_957 (s_Grid_columnOf _ ad _ _ _ _ hg_v2 hc_7) rfl ⟨Nat.le_of_ble_eq_true rfl, Nat.le_of_ble_eq_true rfl⟩ (sh_g hg_v2) rfl (Nat.le_of_ble_eq_true rfl) Rc0 ?_
      refine G_istore (pc := 36) X (dg dt_Symmetry_bringsAllColumns 19 rfl) (Nat.le_of_ble_eq_true rfl) rfl ?_
      refine G_iconst (pc := 38) 1 X (dg dt_Symmetry_bringsAllColumns 20 rfl) (by decide) ?_
      refine G_istore (pc := 39) X (dg dt_Symmetry_bringsAllColumns 21 rfl) (Nat.le_of_ble_eq_true rfl) rfl ?_
      refine G_weak (L' := [some (.ref (ad 18)), some (.ref (ad v1)), some (.ref (ad v2)), some (.int v3), some (.int v4), some (.int r_8), some (.int 1)]) ⟨rfl, ⟨rfl, ⟨rfl, ⟨rfl, ⟨rfl, ⟨rfl, ⟨rfl, trivial⟩⟩⟩⟩⟩⟩⟩ ?_
      refine s_Symmetry_bringsAllColumns_L41  X hq hg_v1 hg_v2 (fun h => ?_) _ _ h
      refine G_iinc (pc := 89) (v4 + 1) X (dg dt_Symmetry_bringsAllColumns 45 rfl) rfl (Nat.le_of_ble_eq_true rfl) rfl rfl ?_
      refine G_goto (pc := 92) 3 X (dg dt_Symmetry_bringsAllColumns 46 rfl) (by decide) ?_
      exact G_wk (ih (v4 + 1) h) ⟨rfl, ⟨rfl, ⟨rfl, ⟨rfl, ⟨rfl, trivial⟩⟩⟩⟩⟩
set_option maxRecDepth 100000 in
set_option maxHeartbeats 4000000 in
theorem s_Symmetry_bringsAllColumns (l : Launch) (ad : Nat → Nat) (σ : St) (v1 : Nat) (v2 : Nat) (v3 : Int32) (hg_v1 : gok v1) (hg_v2 : gok v2) {rv : Int32} (h : f_Symmetry_bringsAllColumns σ v1 v2 v3 = some rv) : Rt l [] yX8_bringsAllColumns cX8_bringsAllColumns 7 (some .boolean) 4 88 (g_SH, ad) [.ref (ad 18), .ref (ad v1), .ref (ad v2), .int v3] σ (some (.int rv)) σ := by
  refine Rt.intro (L := [some (.ref (ad 18)), some (.ref (ad v1)), some (.ref (ad v2)), some (.int v3), none, none, none]) (by decide +kernel) (Nat.le_of_ble_eq_true rfl) rfl (fun θ hl X hq => ?_)
  subst hl
  unfold f_Symmetry_bringsAllColumns at h
  refine G_iconst (pc := 0) 1 X (dg dt_Symmetry_bringsAllColumns 0 rfl) (by decide) ?_
  refine G_istore (pc := 1) X (dg dt_Symmetry_bringsAllColumns 1 rfl) (Nat.le_of_ble_eq_true rfl) rfl ?_
  refine G_weak (L' := [some (.ref (ad 18)), some (.ref (ad v1)), some (.ref (ad v2)), some (.int v3), some (.int 1), none, none]) ⟨rfl, ⟨rfl, ⟨rfl, ⟨rfl, ⟨rfl, trivial⟩⟩⟩⟩⟩ ?_
  refine s_Symmetry_bringsAllColumns_L3  X hq hg_v1 hg_v2  _ _ h
set_option maxRecDepth 100000 in
set_option maxHeartbeats 4000000 in
theorem s_Symmetry_isotopiesBetween_L24 {θ : Th} {ad : Nat → Nat}  {rv : Int32} {σe : St} (X : Cx θ [] cX8_isotopiesBetween 6 "Quasigrove$Symmetry" 5 114)
    {v1 : Nat} {v2 : Nat} {v4 : Int32} (hq : Rq θ (g_SH, ad) (some .int) (some (.int rv)) σe) (hg_v1 : gok v1) (hg_v2 : gok v2) {kx63 : Int32 → St → Option (Int32 × St)} (hkx63 : ∀ (v3 : Int32) (σ : St), kx63 v3 σ = some (rv, σe) → G θ (0, 0) (g_SH, ad) σ 63 [some (.ref (ad 18)), some (.ref (ad v1)), some (.ref (ad v2)), some (.int v3), some (.int v4), none] []) :
    ∀ (n : Nat) (v3 : Int32) (v5 : Int32) (σ : St), f_Symmetry_isotopiesBetween_L24 v1 v2 v4 kx63 n v3 v5 σ = some (rv, σe) → G θ (0, 0) (g_SH, ad) σ 24 [some (.ref (ad 18)), some (.ref (ad v1)), some (.ref (ad v2)), some (.int v3), some (.int v4), some (.int v5)] [] := by
  intro n
  induction n with
  | zero => intro v3 v5 σ h; rw [f_Symmetry_isotopiesBetween_L24] at h; cases h
  | succ n ih =>
    intro v3 v5 σ h
    rw [f_Symmetry_isotopiesBetween_L24] at h
    refine G_iload (pc := 24) X (dg dt_Symmetry_isotopiesBetween 13 rfl) rfl ?_
    refine G_aload_n (pc := 26) 1 X (dg dt_Symmetry_isotopiesBetween 14 rfl) rfl rfl ?_
    refine G_getIN (pc := 27) 3 X (dg dt_Symmetry_isotopiesBetween 15 rfl) fc_0 w_115 rfl (Nat.le_of_ble_eq_true rfl) (sh_g hg_v1) rfl ?_
    refine G_icmp_ge (pc := 30) 63 X (dg dt_Symmetry_isotopiesBetween 16 rfl) (by decide) h (fun h => ?_) (fun h => ?_)
    · exact G_wk (hkx63 v3 σ h) ⟨rfl, ⟨rfl, ⟨rfl, ⟨rfl, ⟨rfl, trivial⟩⟩⟩⟩⟩
    · refine G_aload_n (pc := 33) 0 X (dg dt_Symmetry_isotopiesBetween 17 rfl) rfl rfl ?_
      refine G_aload_n (pc := 34) 1 X (dg dt_Symmetry_isotopiesBetween 18 rfl) rfl rfl ?_
      refine G_aload_n (pc := 35) 2 X (dg dt_Symmetry_isotopiesBetween 19 rfl) rfl rfl ?_
      refine G_iload (pc := 36) X (dg dt_Symmetry_isotopiesBetween 20 rfl) rfl ?_
      refine G_iload (pc := 38) X (dg dt_Symmetry_isotopiesBetween 21 rfl) rfl ?_
      obtain ⟨r_4, σ_5, hc_3, h⟩ := cal_go h
      refine G_callV (pc := 40) (S := []) [.ref (ad v1), .ref (ad v2), .int v4, .int v5] nosub X  (dg dt_Symmetry_isotopiesBetween 22 rfl) cb_Symmetry_mapSigns cv_Symmetry_mapSigns w_945 (s_Symmetry_mapSigns _ ad _ _ _ _ _ hg_v1 hg_v2 hc_3) rfl ⟨Nat.le_of_ble_eq_true rfl, Nat.le_of_ble_eq_true rfl⟩ sh_18 rfl (Nat.le_of_ble_eq_true rfl) Rc0 ?_
      refine G_aload_n (pc := 43) 0 X (dg dt_Symmetry_isotopiesBetween 23 rfl) rfl rfl ?_
      refine G_aload_n (pc := 44) 1 X (dg dt_Symmetry_isotopiesBetween 24 rfl) rfl rfl ?_
      refine G_aload_n (pc := 45) 2 X (dg dt_Symmetry_isotopiesBetween 25 rfl) rfl rfl ?_
      refine G_iload (pc := 46) X (dg dt_Symmetry_isotopiesBetween 26 rfl) rfl ?_
      obtain ⟨r_7, hc_6, h⟩ := cap_go h
      refine G_callV (pc := 48) (S := []) [.ref (ad v1), .ref (ad v2), .int v4] nosub X  (dg dt_Symmetry_isotopiesBetween 27 rfl) cb_Symmetry_bringsAllColumns cv_Symmetry_bringsAllColumns w_949 (s_Symmetry_bringsAllColumns _ ad _ _ _ _ hg_v1 hg_v2 hc_6) rfl ⟨Nat.le_of_ble_eq_true rfl, Nat.le_of_ble_eq_true rfl⟩ sh_18 rfl (Nat.le_of_ble_eq_true rfl) Rc0 ?_
      refine jn_go (fun j57_8 => ∀ (v3_9 : Int32), j57_8 v3_9 = some (rv, σe) → G θ (0, 0) (g_SH, ad) σ_5 57 [some (.ref (ad 18)), some (.ref (ad v1)), some (.ref (ad v2)), some (.int v3_9), some (.int v4), some (.int v5)] []) h ?_ (fun j57_8 hj57_8 h => ?_)
      · intro v3_9 h
        refine G_iinc (pc := 57) (v5 + 1) X (dg dt_Symmetry_isotopiesBetween 30 rfl) rfl (Nat.le_of_ble_eq_true rfl) rfl rfl ?_
        refine G_goto (pc := 60) 24 X (dg dt_Symmetry_isotopiesBetween 31 rfl) (by decide) ?_
        exact G_wk (ih v3_9 (v5 + 1) σ_5 h) ⟨rfl, ⟨rfl, ⟨rfl, ⟨rfl, ⟨rfl, ⟨rfl, trivial⟩⟩⟩⟩⟩⟩
      refine G_if_eq (pc := 51) 57 X (dg dt_Symmetry_isotopiesBetween 28 rfl) (by decide) h (fun h => ?_) (fun h => ?_)
      · exact G_wk (hj57_8 v3 h) ⟨rfl, ⟨rfl, ⟨rfl, ⟨rfl, ⟨rfl, ⟨rfl, trivial⟩⟩⟩⟩⟩⟩
      · refine G_iinc (pc := 54) (v3 + 1) X (dg dt_Symmetry_isotopiesBetween 29 rfl) rfl (Nat.le_of_ble_eq_true rfl) rfl rfl ?_
        exact G_wk (hj57_8 (v3 + 1) h) ⟨rfl, ⟨rfl, ⟨rfl, ⟨rfl, ⟨rfl, ⟨rfl, trivial⟩⟩⟩⟩⟩⟩
set_option maxRecDepth 100000 in
set_option maxHeartbeats 4000000 in
theorem s_Symmetry_isotopiesBetween_L5 {θ : Th} {ad : Nat → Nat}  {rv : Int32} {σe : St} (X : Cx θ [] cX8_isotopiesBetween 6 "Quasigrove$Symmetry" 5 114)
    {v1 : Nat} {v2 : Nat} (hq : Rq θ (g_SH, ad) (some .int) (some (.int rv)) σe) (hg_v1 : gok v1) (hg_v2 : gok v2) {kx69 : Int32 → St → Option (Int32 × St)} (hkx69 : ∀ (v3 : Int32) (σ : St), kx69 v3 σ = some (rv, σe) → G θ (0, 0) (g_SH, ad) σ 69 [none, none, none, some (.int v3), none, none] []) :
    ∀ (n : Nat) (v3 : Int32) (v4 : Int32) (σ : St), f_Symmetry_isotopiesBetween_L5 v1 v2 kx69 n v3 v4 σ = some (rv, σe) → G θ (0, 0) (g_SH, ad) σ 5 [some (.ref (ad 18)), some (.ref (ad v1)), some (.ref (ad v2)), some (.int v3), some (.int v4), none] [] := by
  intro n
  induction n with
  | zero => intro v3 v4 σ h; rw [f_Symmetry_isotopiesBetween_L5] at h; cases h
  | succ n ih =>
    intro v3 v4 σ h
    rw [f_Symmetry_isotopiesBetween_L5] at h
    refine G_iload (pc := 5) X (dg dt_Symmetry_isotopiesBetween 4 rfl) rfl ?_
    refine G_aload_n (pc := 7) 0 X (dg dt_Symmetry_isotopiesBetween 5 rfl) rfl rfl ?_
    refine G_getR (pc := 8) 0 X (dg dt_Symmetry_isotopiesBetween 6 rfl) fc_4 w_210 rfl (Nat.le_of_ble_eq_true rfl) sh_18 rfl ?_
    refine G_aload_n (pc := 11) 1 X (dg dt_Symmetry_isotopiesBetween 7 rfl) rfl rfl ?_
    refine G_getIN (pc := 12) 3 X (dg dt_Symmetry_isotopiesBetween 8 rfl) fc_0 w_115 rfl (Nat.le_of_ble_eq_true rfl) (sh_g hg_v1) rfl ?_
    obtain ⟨r_2, hc_1, h⟩ := cap_go h
    refine G_callV (pc := 15) (S := [.int v4]) [.int (σ v1 3)] nosub X  (dg dt_Symmetry_isotopiesBetween 9 rfl) cb_Maps_amount cv_Maps_amount w_896 (s_Maps_amount _ ad _ _ hc_1) rfl ⟨Nat.le_of_ble_eq_true rfl, Nat.le_of_ble_eq_true rfl⟩ sh_6 rfl (Nat.le_of_ble_eq_true rfl) Rc0 ?_
    refine G_icmp_ge (pc := 18) 69 X (dg dt_Symmetry_isotopiesBetween 10 rfl) (by decide) h (fun h => ?_) (fun h => ?_)
    · exact G_wk (hkx69 v3 σ h) ⟨rfl, trivial⟩
    · refine G_iconst (pc := 21) 0 X (dg dt_Symmetry_isotopiesBetween 11 rfl) (by decide) ?_
      refine G_istore (pc := 22) X (dg dt_Symmetry_isotopiesBetween 12 rfl) (Nat.le_of_ble_eq_true rfl) rfl ?_
      refine G_weak (L' := [some (.ref (ad 18)), some (.ref (ad v1)), some (.ref (ad v2)), some (.int v3), some (.int v4), some (.int 0)]) ⟨rfl, ⟨rfl, ⟨rfl, ⟨rfl, ⟨rfl, ⟨rfl, trivial⟩⟩⟩⟩⟩⟩ ?_
      refine s_Symmetry_isotopiesBetween_L24  X hq hg_v1 hg_v2 (fun v3_10 σ_11 h => ?_) _ _ _ _ h
      refine G_iinc (pc := 63) (v4 + 1) X (dg dt_Symmetry_isotopiesBetween 32 rfl) rfl (Nat.le_of_ble_eq_true rfl) rfl rfl ?_
      refine G_goto (pc := 66) 5 X (dg dt_Symmetry_isotopiesBetween 33 rfl) (by decide) ?_
      exact G_wk (ih v3_10 (v4 + 1) σ_11 h) ⟨rfl, ⟨rfl, ⟨rfl, ⟨rfl, ⟨rfl, trivial⟩⟩⟩⟩⟩
set_option maxRecDepth 100000 in
set_option maxHeartbeats 4000000 in
theorem s_Symmetry_isotopiesBetween (l : Launch) (ad : Nat → Nat) (σ : St) (v1 : Nat) (v2 : Nat) (hg_v1 : gok v1) (hg_v2 : gok v2) {rv : Int32} {σe : St} (h : f_Symmetry_isotopiesBetween σ v1 v2 = some (rv, σe)) : Rt l [] yX8_isotopiesBetween cX8_isotopiesBetween 6 (some .int) 5 114 (g_SH, ad) [.ref (ad 18), .ref (ad v1), .ref (ad v2)] σ (some (.int rv)) σe := by
  refine Rt.intro (L := [some (.ref (ad 18)), some (.ref (ad v1)), some (.ref (ad v2)), none, none, none]) (by decide +kernel) (Nat.le_of_ble_eq_true rfl) rfl (fun θ hl X hq => ?_)
  subst hl
  unfold f_Symmetry_isotopiesBetween at h
  refine G_iconst (pc := 0) 0 X (dg dt_Symmetry_isotopiesBetween 0 rfl) (by decide) ?_
  refine G_istore_n (pc := 1) 3 X (dg dt_Symmetry_isotopiesBetween 1 rfl) rfl (Nat.le_of_ble_eq_true rfl) rfl ?_
  refine G_iconst (pc := 2) 0 X (dg dt_Symmetry_isotopiesBetween 2 rfl) (by decide) ?_
  refine G_istore (pc := 3) X (dg dt_Symmetry_isotopiesBetween 3 rfl) (Nat.le_of_ble_eq_true rfl) rfl ?_
  refine G_weak (L' := [some (.ref (ad 18)), some (.ref (ad v1)), some (.ref (ad v2)), some (.int 0), some (.int 0), none]) ⟨rfl, ⟨rfl, ⟨rfl, ⟨rfl, ⟨rfl, trivial⟩⟩⟩⟩⟩ ?_
  refine s_Symmetry_isotopiesBetween_L5  X hq hg_v1 hg_v2 (fun v3_12 σ_13 h => ?_) _ _ _ _ h
  refine G_iload_n (pc := 69) 3 X (dg dt_Symmetry_isotopiesBetween 34 rfl) rfl rfl ?_
  exact G_iret (pc := 70) X hq (dg dt_Symmetry_isotopiesBetween 35 rfl) h
set_option maxRecDepth 100000 in
set_option maxHeartbeats 4000000 in
theorem s_Symmetry_keepsProducts_L13 {θ : Th} {ad : Nat → Nat}  {rv : Int32} (X : Cx θ [] cX8_keepsProducts 6 "Quasigrove$Symmetry" 3 65)
    {v1 : Nat} {v2 : Int32} {v3 : Int32} {σ : St} (hq : Rq θ (g_SH, ad) (some .boolean) (some (.int rv)) σ) (hg_v1 : gok v1) {kx75 : Option Int32} (hkx75 : kx75 = some rv → G θ (0, 0) (g_SH, ad) σ 75 [some (.ref (ad 18)), some (.ref (ad v1)), some (.int v2), some (.int v3), none, none] []) :
    ∀ (n : Nat) (v4 : Int32), f_Symmetry_keepsProducts_L13 v1 v2 v3 σ kx75 n v4 = some rv → G θ (0, 0) (g_SH, ad) σ 13 [some (.ref (ad 18)), some (.ref (ad v1)), some (.int v2), some (.int v3), some (.int v4), none] [] := by
  intro n
  induction n with
  | zero => intro v4 h; rw [f_Symmetry_keepsProducts_L13] at h; cases h
  | succ n ih =>
    intro v4 h
    rw [f_Symmetry_keepsProducts_L13] at h
    refine G_iload (pc := 13) X (dg dt_Symmetry_keepsProducts 8 rfl) rfl ?_
    refine G_aload_n (pc := 15) 1 X (dg dt_Symmetry_keepsProducts 9 rfl) rfl rfl ?_
    refine G_getIN (pc := 16) 3 X (dg dt_Symmetry_keepsProducts 10 rfl) fc_0 w_115 rfl (Nat.le_of_ble_eq_true rfl) (sh_g hg_v1) rfl ?_
    refine G_icmp_ge (pc := 19) 75 X (dg dt_Symmetry_keepsProducts 11 rfl) (by decide) h (fun h => ?_) (fun h => ?_)
    · exact G_wk (hkx75  h) ⟨rfl, ⟨rfl, ⟨rfl, ⟨rfl, trivial⟩⟩⟩⟩
    · refine G_aload_n (pc := 22) 1 X (dg dt_Symmetry_keepsProducts 12 rfl) rfl rfl ?_
      refine G_aload_n (pc := 23) 0 X (dg dt_Symmetry_keepsProducts 13 rfl) rfl rfl ?_
      refine G_getR (pc := 24) 0 X (dg dt_Symmetry_keepsProducts 14 rfl) fc_4 w_210 rfl (Nat.le_of_ble_eq_true rfl) sh_18 rfl ?_
      refine G_iload_n (pc := 27) 2 X (dg dt_Symmetry_keepsProducts 15 rfl) rfl rfl ?_
      refine G_iload_n (pc := 28) 3 X (dg dt_Symmetry_keepsProducts 16 rfl) rfl rfl ?_
      obtain ⟨r_2, hc_1, h⟩ := cap_go h
      refine G_callV (pc := 29) (S := [.ref (ad v1)]) [.int v2, .int v3] nosub X  (dg dt_Symmetry_keepsProducts 17 rfl) cb_Maps_imageOf cv_Maps_imageOf w_901 (s_Maps_imageOf _ ad _ _ _ hc_1) rfl ⟨Nat.le_of_ble_eq_true rfl, Nat.le_of_ble_eq_true rfl⟩ sh_6 rfl (Nat.le_of_ble_eq_true rfl) Rc0 ?_
      refine G_aload_n (pc := 32) 0 X (dg dt_Symmetry_keepsProducts 18 rfl) rfl rfl ?_
      refine G_getR (pc := 33) 0 X (dg dt_Symmetry_keepsProducts 19 rfl) fc_4 w_210 rfl (Nat.le_of_ble_eq_true rfl) sh_18 rfl ?_
      refine G_iload_n (pc := 36) 2 X (dg dt_Symmetry_keepsProducts 20 rfl) rfl rfl ?_
      refine G_iload (pc := 37) X (dg dt_Symmetry_keepsProducts 21 rfl) rfl ?_
      obtain ⟨r_4, hc_3, h⟩ := cap_go h
      refine G_callV (pc := 39) (S := [.int r_2, .ref (ad v1)]) [.int v2, .int v4] nosub X  (dg dt_Symmetry_keepsProducts 22 rfl) cb_Maps_imageOf cv_Maps_imageOf w_901 (s_Maps_imageOf _ ad _ _ _ hc_3) rfl ⟨Nat.le_of_ble_eq_true rfl, Nat.le_of_ble_eq_true rfl⟩ sh_6 rfl (Nat.le_of_ble_eq_true rfl) Rc0 ?_
      obtain ⟨r_6, hc_5, h⟩ := cap_go h
      refine G_callV (pc := 42) (S := []) [.int r_2, .int r_4] nosub X  (dg dt_Symmetry_keepsProducts 23 rfl) cb_Grid_signAt cv_Grid_signAt w_902 (s_Grid_signAt _ ad _ _ _ _ hg_v1 hc_5) rfl ⟨Nat.le_of_ble_eq_true rfl, Nat.le_of_ble_eq_true rfl⟩ (sh_g hg_v1) rfl (Nat.le_of_ble_eq_true rfl) Rc0 ?_
      refine G_istore (pc := 45) X (dg dt_Symmetry_keepsProducts 24 rfl) (Nat.le_of_ble_eq_true rfl) rfl ?_
      refine G_aload_n (pc := 47) 0 X (dg dt_Symmetry_keepsProducts 25 rfl) rfl rfl ?_
      refine G_getR (pc := 48) 0 X (dg dt_Symmetry_keepsProducts 26 rfl) fc_4 w_210 rfl (Nat.le_of_ble_eq_true rfl) sh_18 rfl ?_
      refine G_iload_n (pc := 51) 2 X (dg dt_Symmetry_keepsProducts 27 rfl) rfl rfl ?_
      refine G_aload_n (pc := 52) 1 X (dg dt_Symmetry_keepsProducts 28 rfl) rfl rfl ?_
      refine G_iload_n (pc := 53) 3 X (dg dt_Symmetry_keepsProducts 29 rfl) rfl rfl ?_
      refine G_iload (pc := 54) X (dg dt_Symmetry_keepsProducts 30 rfl) rfl ?_
      obtain ⟨r_8, hc_7, h⟩ := cap_go h
      refine G_callV (pc := 56) (S := [.int v2, .ref (ad 6)]) [.int v3, .int v4] nosub X  (dg dt_Symmetry_keepsProducts 31 rfl) cb_Grid_signAt cv_Grid_signAt w_902 (s_Grid_signAt _ ad _ _ _ _ hg_v1 hc_7) rfl ⟨Nat.le_of_ble_eq_true rfl, Nat.le_of_ble_eq_true rfl⟩ (sh_g hg_v1) rfl (Nat.le_of_ble_eq_true rfl) Rc0 ?_
      obtain ⟨r_10, hc_9, h⟩ := cap_go h
      refine G_callV (pc := 59) (S := []) [.int v2, .int r_8] nosub X  (dg dt_Symmetry_keepsProducts 32 rfl) cb_Maps_imageOf cv_Maps_imageOf w_901 (s_Maps_imageOf _ ad _ _ _ hc_9) rfl ⟨Nat.le_of_ble_eq_true rfl, Nat.le_of_ble_eq_true rfl⟩ sh_6 rfl (Nat.le_of_ble_eq_true rfl) Rc0 ?_
      refine G_iload (pc := 62) X (dg dt_Symmetry_keepsProducts 33 rfl) rfl ?_
      refine G_icmp_eq (pc := 64) 69 X (dg dt_Symmetry_keepsProducts 34 rfl) (by decide) h (fun h => ?_) (fun h => ?_)
      · refine G_iinc (pc := 69) (v4 + 1) X (dg dt_Symmetry_keepsProducts 37 rfl) rfl (Nat.le_of_ble_eq_true rfl) rfl rfl ?_
        refine G_goto (pc := 72) 13 X (dg dt_Symmetry_keepsProducts 38 rfl) (by decide) ?_
        exact G_wk (ih (v4 + 1) h) ⟨rfl, ⟨rfl, ⟨rfl, ⟨rfl, ⟨rfl, trivial⟩⟩⟩⟩⟩
      · refine G_iconst (pc := 67) 0 X (dg dt_Symmetry_keepsProducts 35 rfl) (by decide) ?_
        exact G_zretlp (pc := 68) X hq (dg dt_Symmetry_keepsProducts 36 rfl) rfl h
set_option maxRecDepth 100000 in
set_option maxHeartbeats 4000000 in
theorem s_Symmetry_keepsProducts_L2 {θ : Th} {ad : Nat → Nat}  {rv : Int32} (X : Cx θ [] cX8_keepsProducts 6 "Quasigrove$Symmetry" 3 65)
    {v1 : Nat} {v2 : Int32} {σ : St} (hq : Rq θ (g_SH, ad) (some .boolean) (some (.int rv)) σ) (hg_v1 : gok v1) :
    ∀ (n : Nat) (v3 : Int32), f_Symmetry_keepsProducts_L2 v1 v2 σ n v3 = some rv → G θ (0, 0) (g_SH, ad) σ 2 [some (.ref (ad 18)), some (.ref (ad v1)), some (.int v2), some (.int v3), none, none] [] := by
  intro n
  induction n with
  | zero => intro v3 h; rw [f_Symmetry_keepsProducts_L2] at h; cases h
  | succ n ih =>
    intro v3 h
    rw [f_Symmetry_keepsProducts_L2] at h
    refine G_iload_n (pc := 2) 3 X (dg dt_Symmetry_keepsProducts 2 rfl) rfl rfl ?_
    refine G_aload_n (pc := 3) 1 X (dg dt_Symmetry_keepsProducts 3 rfl) rfl rfl ?_
    refine G_getIN (pc := 4) 3 X (dg dt_Symmetry_keepsProducts 4 rfl) fc_0 w_115 rfl (Nat.le_of_ble_eq_true rfl) (sh_g hg_v1) rfl ?_
    refine G_icmp_ge (pc := 7) 81 X (dg dt_Symmetry_keepsProducts 5 rfl) (by decide) h (fun h => ?_) (fun h => ?_)
    · refine G_iconst (pc := 81) 1 X (dg dt_Symmetry_keepsProducts 41 rfl) (by decide) ?_
      exact G_zretlp (pc := 82) X hq (dg dt_Symmetry_keepsProducts 42 rfl) rfl h
    · refine G_iconst (pc := 10) 0 X (dg dt_Symmetry_keepsProducts 6 rfl) (by decide) ?_
      refine G_istore (pc := 11) X (dg dt_Symmetry_keepsProducts 7 rfl) (Nat.le_of_ble_eq_true rfl) rfl ?_
      refine G_weak (L' := [some (.ref (ad 18)), some (.ref (ad v1)), some (.int v2), some (.int v3), some (.int 0), none]) ⟨rfl, ⟨rfl, ⟨rfl, ⟨rfl, ⟨rfl, trivial⟩⟩⟩⟩⟩ ?_
      refine s_Symmetry_keepsProducts_L13  X hq hg_v1 (fun h => ?_) _ _ h
      refine G_iinc (pc := 75) (v3 + 1) X (dg dt_Symmetry_keepsProducts 39 rfl) rfl (Nat.le_of_ble_eq_true rfl) rfl rfl ?_
      refine G_goto (pc := 78) 2 X (dg dt_Symmetry_keepsProducts 40 rfl) (by decide) ?_
      exact G_wk (ih (v3 + 1) h) ⟨rfl, ⟨rfl, ⟨rfl, ⟨rfl, trivial⟩⟩⟩⟩
set_option maxRecDepth 100000 in
set_option maxHeartbeats 4000000 in
theorem s_Symmetry_keepsProducts (l : Launch) (ad : Nat → Nat) (σ : St) (v1 : Nat) (v2 : Int32) (hg_v1 : gok v1) {rv : Int32} (h : f_Symmetry_keepsProducts σ v1 v2 = some rv) : Rt l [] yX8_keepsProducts cX8_keepsProducts 6 (some .boolean) 3 65 (g_SH, ad) [.ref (ad 18), .ref (ad v1), .int v2] σ (some (.int rv)) σ := by
  refine Rt.intro (L := [some (.ref (ad 18)), some (.ref (ad v1)), some (.int v2), none, none, none]) (by decide +kernel) (Nat.le_of_ble_eq_true rfl) rfl (fun θ hl X hq => ?_)
  subst hl
  unfold f_Symmetry_keepsProducts at h
  refine G_iconst (pc := 0) 0 X (dg dt_Symmetry_keepsProducts 0 rfl) (by decide) ?_
  refine G_istore_n (pc := 1) 3 X (dg dt_Symmetry_keepsProducts 1 rfl) rfl (Nat.le_of_ble_eq_true rfl) rfl ?_
  refine G_weak (L' := [some (.ref (ad 18)), some (.ref (ad v1)), some (.int v2), some (.int 0), none, none]) ⟨rfl, ⟨rfl, ⟨rfl, ⟨rfl, trivial⟩⟩⟩⟩ ?_
  refine s_Symmetry_keepsProducts_L2  X hq hg_v1  _ _ h
set_option maxRecDepth 100000 in
set_option maxHeartbeats 4000000 in
theorem s_Symmetry_automorphisms_L4 {θ : Th} {ad : Nat → Nat}  {rv : Int32} (X : Cx θ [] cX8_automorphisms 4 "Quasigrove$Symmetry" 4 90)
    {v1 : Nat} {σ : St} (hq : Rq θ (g_SH, ad) (some .int) (some (.int rv)) σ) (hg_v1 : gok v1) {kx37 : Int32 → Option Int32} (hkx37 : ∀ (v2 : Int32), kx37 v2 = some rv → G θ (0, 0) (g_SH, ad) σ 37 [none, none, some (.int v2), none] []) :
    ∀ (n : Nat) (v2 : Int32) (v3 : Int32), f_Symmetry_automorphisms_L4 v1 σ kx37 n v2 v3 = some rv → G θ (0, 0) (g_SH, ad) σ 4 [some (.ref (ad 18)), some (.ref (ad v1)), some (.int v2), some (.int v3)] [] := by
  intro n
  induction n with
  | zero => intro v2 v3 h; rw [f_Symmetry_automorphisms_L4] at h; cases h
  | succ n ih =>
    intro v2 v3 h
    rw [f_Symmetry_automorphisms_L4] at h
    refine G_iload_n (pc := 4) 3 X (dg dt_Symmetry_automorphisms 4 rfl) rfl rfl ?_
    refine G_aload_n (pc := 5) 0 X (dg dt_Symmetry_automorphisms 5 rfl) rfl rfl ?_
    refine G_getR (pc := 6) 0 X (dg dt_Symmetry_automorphisms 6 rfl) fc_4 w_210 rfl (Nat.le_of_ble_eq_true rfl) sh_18 rfl ?_
    refine G_aload_n (pc := 9) 1 X (dg dt_Symmetry_automorphisms 7 rfl) rfl rfl ?_
    refine G_getIN (pc := 10) 3 X (dg dt_Symmetry_automorphisms 8 rfl) fc_0 w_115 rfl (Nat.le_of_ble_eq_true rfl) (sh_g hg_v1) rfl ?_
    obtain ⟨r_2, hc_1, h⟩ := cap_go h
    refine G_callV (pc := 13) (S := [.int v3]) [.int (σ v1 3)] nosub X  (dg dt_Symmetry_automorphisms 9 rfl) cb_Maps_amount cv_Maps_amount w_896 (s_Maps_amount _ ad _ _ hc_1) rfl ⟨Nat.le_of_ble_eq_true rfl, Nat.le_of_ble_eq_true rfl⟩ sh_6 rfl (Nat.le_of_ble_eq_true rfl) Rc0 ?_
    refine G_icmp_ge (pc := 16) 37 X (dg dt_Symmetry_automorphisms 10 rfl) (by decide) h (fun h => ?_) (fun h => ?_)
    · exact G_wk (hkx37 v2 h) ⟨rfl, trivial⟩
    · refine G_aload_n (pc := 19) 0 X (dg dt_Symmetry_automorphisms 11 rfl) rfl rfl ?_
      refine G_aload_n (pc := 20) 1 X (dg dt_Symmetry_automorphisms 12 rfl) rfl rfl ?_
      refine G_iload_n (pc := 21) 3 X (dg dt_Symmetry_automorphisms 13 rfl) rfl rfl ?_
      obtain ⟨r_4, hc_3, h⟩ := cap_go h
      refine G_callV (pc := 22) (S := []) [.ref (ad v1), .int v3] nosub X  (dg dt_Symmetry_automorphisms 14 rfl) cb_Symmetry_keepsProducts cv_Symmetry_keepsProducts w_897 (s_Symmetry_keepsProducts _ ad _ _ _ hg_v1 hc_3) rfl ⟨Nat.le_of_ble_eq_true rfl, Nat.le_of_ble_eq_true rfl⟩ sh_18 rfl (Nat.le_of_ble_eq_true rfl) Rc0 ?_
      refine jn_go (fun j31_5 => ∀ (v2_6 : Int32), j31_5 v2_6 = some rv → G θ (0, 0) (g_SH, ad) σ 31 [some (.ref (ad 18)), some (.ref (ad v1)), some (.int v2_6), some (.int v3)] []) h ?_ (fun j31_5 hj31_5 h => ?_)
      · intro v2_6 h
        refine G_iinc (pc := 31) (v3 + 1) X (dg dt_Symmetry_automorphisms 17 rfl) rfl (Nat.le_of_ble_eq_true rfl) rfl rfl ?_
        refine G_goto (pc := 34) 4 X (dg dt_Symmetry_automorphisms 18 rfl) (by decide) ?_
        exact G_wk (ih v2_6 (v3 + 1) h) ⟨rfl, ⟨rfl, ⟨rfl, ⟨rfl, trivial⟩⟩⟩⟩
      refine G_if_eq (pc := 25) 31 X (dg dt_Symmetry_automorphisms 15 rfl) (by decide) h (fun h => ?_) (fun h => ?_)
      · exact G_wk (hj31_5 v2 h) ⟨rfl, ⟨rfl, ⟨rfl, ⟨rfl, trivial⟩⟩⟩⟩
      · refine G_iinc (pc := 28) (v2 + 1) X (dg dt_Symmetry_automorphisms 16 rfl) rfl (Nat.le_of_ble_eq_true rfl) rfl rfl ?_
        exact G_wk (hj31_5 (v2 + 1) h) ⟨rfl, ⟨rfl, ⟨rfl, ⟨rfl, trivial⟩⟩⟩⟩
set_option maxRecDepth 100000 in
set_option maxHeartbeats 4000000 in
theorem s_Symmetry_automorphisms (l : Launch) (ad : Nat → Nat) (σ : St) (v1 : Nat) (hg_v1 : gok v1) {rv : Int32} (h : f_Symmetry_automorphisms σ v1 = some rv) : Rt l [] yX8_automorphisms cX8_automorphisms 4 (some .int) 4 90 (g_SH, ad) [.ref (ad 18), .ref (ad v1)] σ (some (.int rv)) σ := by
  refine Rt.intro (L := [some (.ref (ad 18)), some (.ref (ad v1)), none, none]) (by decide +kernel) (Nat.le_of_ble_eq_true rfl) rfl (fun θ hl X hq => ?_)
  subst hl
  unfold f_Symmetry_automorphisms at h
  refine G_iconst (pc := 0) 0 X (dg dt_Symmetry_automorphisms 0 rfl) (by decide) ?_
  refine G_istore_n (pc := 1) 2 X (dg dt_Symmetry_automorphisms 1 rfl) rfl (Nat.le_of_ble_eq_true rfl) rfl ?_
  refine G_iconst (pc := 2) 0 X (dg dt_Symmetry_automorphisms 2 rfl) (by decide) ?_
  refine G_istore_n (pc := 3) 3 X (dg dt_Symmetry_automorphisms 3 rfl) rfl (Nat.le_of_ble_eq_true rfl) rfl ?_
  refine G_weak (L' := [some (.ref (ad 18)), some (.ref (ad v1)), some (.int 0), some (.int 0)]) ⟨rfl, ⟨rfl, ⟨rfl, ⟨rfl, trivial⟩⟩⟩⟩ ?_
  refine s_Symmetry_automorphisms_L4  X hq hg_v1 (fun v2_7 h => ?_) _ _ _ h
  refine G_iload_n (pc := 37) 2 X (dg dt_Symmetry_automorphisms 19 rfl) rfl rfl ?_
  exact G_iretp (pc := 38) X hq (dg dt_Symmetry_automorphisms 20 rfl) h
set_option maxRecDepth 100000 in
set_option maxHeartbeats 4000000 in
theorem s_Symmetry_rowMap_L2 {θ : Th} {ad : Nat → Nat}  {rv : Int32} {σe : St} (X : Cx θ [] cX8_rowMap 4 "Quasigrove$Symmetry" 3 65)
    {v1 : Nat} {v2 : Int32} (hq : Rq θ (g_SH, ad) (some .int) (some (.int rv)) σe) (hg_v1 : gok v1) {kx30 : St → Option (Int32 × St)} (hkx30 : ∀ (σ : St), kx30 σ = some (rv, σe) → G θ (0, 0) (g_SH, ad) σ 30 [some (.ref (ad 18)), some (.ref (ad v1)), none, none] []) :
    ∀ (n : Nat) (v3 : Int32) (σ : St), f_Symmetry_rowMap_L2 v1 v2 kx30 n v3 σ = some (rv, σe) → G θ (0, 0) (g_SH, ad) σ 2 [some (.ref (ad 18)), some (.ref (ad v1)), some (.int v2), some (.int v3)] [] := by
  intro n
  induction n with
  | zero => intro v3 σ h; rw [f_Symmetry_rowMap_L2] at h; cases h
  | succ n ih =>
    intro v3 σ h
    rw [f_Symmetry_rowMap_L2] at h
    refine G_iload_n (pc := 2) 3 X (dg dt_Symmetry_rowMap 2 rfl) rfl rfl ?_
    refine G_aload_n (pc := 3) 1 X (dg dt_Symmetry_rowMap 3 rfl) rfl rfl ?_
    refine G_getIN (pc := 4) 3 X (dg dt_Symmetry_rowMap 4 rfl) fc_0 w_115 rfl (Nat.le_of_ble_eq_true rfl) (sh_g hg_v1) rfl ?_
    refine G_icmp_ge (pc := 7) 30 X (dg dt_Symmetry_rowMap 5 rfl) (by decide) h (fun h => ?_) (fun h => ?_)
    · exact G_wk (hkx30 σ h) ⟨rfl, ⟨rfl, trivial⟩⟩
    · refine G_aload_n (pc := 10) 0 X (dg dt_Symmetry_rowMap 6 rfl) rfl rfl ?_
      refine G_getR (pc := 11) 0 X (dg dt_Symmetry_rowMap 7 rfl) fc_4 w_210 rfl (Nat.le_of_ble_eq_true rfl) sh_18 rfl ?_
      refine G_iload_n (pc := 14) 3 X (dg dt_Symmetry_rowMap 8 rfl) rfl rfl ?_
      refine G_aload_n (pc := 15) 1 X (dg dt_Symmetry_rowMap 9 rfl) rfl rfl ?_
      refine G_iload_n (pc := 16) 2 X (dg dt_Symmetry_rowMap 10 rfl) rfl rfl ?_
      refine G_iload_n (pc := 17) 3 X (dg dt_Symmetry_rowMap 11 rfl) rfl rfl ?_
      obtain ⟨r_2, hc_1, h⟩ := cap_go h
      refine G_callV (pc := 18) (S := [.int v3, .ref (ad 6)]) [.int v2, .int v3] nosub X  (dg dt_Symmetry_rowMap 12 rfl) cb_Grid_signAt cv_Grid_signAt w_902 (s_Grid_signAt _ ad _ _ _ _ hg_v1 hc_1) rfl ⟨Nat.le_of_ble_eq_true rfl, Nat.le_of_ble_eq_true rfl⟩ (sh_g hg_v1) rfl (Nat.le_of_ble_eq_true rfl) Rc0 ?_
      obtain ⟨r_4, σ_5, hc_3, h⟩ := cal_go h
      refine G_callV (pc := 21) (S := []) [.int v3, .int r_2] nosub X  (dg dt_Symmetry_rowMap 13 rfl) cb_Maps_write cv_Maps_write w_911 (s_Maps_write _ ad _ _ _ hc_3) rfl ⟨Nat.le_of_ble_eq_true rfl, Nat.le_of_ble_eq_true rfl⟩ sh_6 rfl (Nat.le_of_ble_eq_true rfl) Rc0 ?_
      refine G_iinc (pc := 24) (v3 + 1) X (dg dt_Symmetry_rowMap 14 rfl) rfl (Nat.le_of_ble_eq_true rfl) rfl rfl ?_
      refine G_goto (pc := 27) 2 X (dg dt_Symmetry_rowMap 15 rfl) (by decide) ?_
      exact G_wk (ih (v3 + 1) σ_5 h) ⟨rfl, ⟨rfl, ⟨rfl, ⟨rfl, trivial⟩⟩⟩⟩
set_option maxRecDepth 100000 in
set_option maxHeartbeats 4000000 in
theorem s_Symmetry_rowMap (l : Launch) (ad : Nat → Nat) (σ : St) (v1 : Nat) (v2 : Int32) (hg_v1 : gok v1) {rv : Int32} {σe : St} (h : f_Symmetry_rowMap σ v1 v2 = some (rv, σe)) : Rt l [] yX8_rowMap cX8_rowMap 4 (some .int) 3 65 (g_SH, ad) [.ref (ad 18), .ref (ad v1), .int v2] σ (some (.int rv)) σe := by
  refine Rt.intro (L := [some (.ref (ad 18)), some (.ref (ad v1)), some (.int v2), none]) (by decide +kernel) (Nat.le_of_ble_eq_true rfl) rfl (fun θ hl X hq => ?_)
  subst hl
  unfold f_Symmetry_rowMap at h
  refine G_iconst (pc := 0) 0 X (dg dt_Symmetry_rowMap 0 rfl) (by decide) ?_
  refine G_istore_n (pc := 1) 3 X (dg dt_Symmetry_rowMap 1 rfl) rfl (Nat.le_of_ble_eq_true rfl) rfl ?_
  refine G_weak (L' := [some (.ref (ad 18)), some (.ref (ad v1)), some (.int v2), some (.int 0)]) ⟨rfl, ⟨rfl, ⟨rfl, ⟨rfl, trivial⟩⟩⟩⟩ ?_
  refine s_Symmetry_rowMap_L2  X hq hg_v1 (fun σ_6 h => ?_) _ _ _ h
  refine G_aload_n (pc := 30) 0 X (dg dt_Symmetry_rowMap 16 rfl) rfl rfl ?_
  refine G_getR (pc := 31) 0 X (dg dt_Symmetry_rowMap 17 rfl) fc_4 w_210 rfl (Nat.le_of_ble_eq_true rfl) sh_18 rfl ?_
  refine G_aload_n (pc := 34) 1 X (dg dt_Symmetry_rowMap 18 rfl) rfl rfl ?_
  refine G_getIN (pc := 35) 3 X (dg dt_Symmetry_rowMap 19 rfl) fc_0 w_115 rfl (Nat.le_of_ble_eq_true rfl) (sh_g hg_v1) rfl ?_
  obtain ⟨r_8, hc_7, h⟩ := cap_go h
  refine G_callV (pc := 38) (S := []) [.int (σ_6 v1 3)] nosub X  (dg dt_Symmetry_rowMap 20 rfl) cb_Maps_numberOfDraft cv_Maps_numberOfDraft w_912 (s_Maps_numberOfDraft _ ad _ _ hc_7) rfl ⟨Nat.le_of_ble_eq_true rfl, Nat.le_of_ble_eq_true rfl⟩ sh_6 rfl (Nat.le_of_ble_eq_true rfl) Rc0 ?_
  exact G_iret (pc := 41) X hq (dg dt_Symmetry_rowMap 21 rfl) h
set_option maxRecDepth 100000 in
set_option maxHeartbeats 4000000 in
theorem s_Symmetry_addMaker (l : Launch) (ad : Nat → Nat) (σ : St) (v1 : Int32)  {rv : Unit} {σe : St} (h : f_Symmetry_addMaker σ v1 = some (rv, σe)) : Rt l [] yX8_addMaker cX8_addMaker 2 none 0 0 (g_SH, ad) [.ref (ad 18), .int v1] σ none σe := by
  refine Rt.intro (L := [some (.ref (ad 18)), some (.int v1)]) (by decide +kernel) (Nat.le_of_ble_eq_true rfl) rfl (fun θ hl X hq => ?_)
  subst hl
  unfold f_Symmetry_addMaker at h
  refine G_aload_n (pc := 0) 0 X (dg dt_Symmetry_addMaker 0 rfl) rfl rfl ?_
  refine G_getI (pc := 1) 5 X (dg dt_Symmetry_addMaker 1 rfl) fc_4 w_215 rfl (Nat.le_of_ble_eq_true rfl) sh_18 rfl ?_
  refine G_if_lt (pc := 4) 39 X (dg dt_Symmetry_addMaker 2 rfl) (by decide) h (fun h => ?_) (fun h => ?_)
  · exact G_vret (pc := 39) X hq (dg dt_Symmetry_addMaker 21 rfl) h
  · refine G_aload_n (pc := 7) 0 X (dg dt_Symmetry_addMaker 3 rfl) rfl rfl ?_
    refine G_getI (pc := 8) 5 X (dg dt_Symmetry_addMaker 4 rfl) fc_4 w_215 rfl (Nat.le_of_ble_eq_true rfl) sh_18 rfl ?_
    refine G_aload_n (pc := 11) 0 X (dg dt_Symmetry_addMaker 5 rfl) rfl rfl ?_
    refine G_getR (pc := 12) 1 X (dg dt_Symmetry_addMaker 6 rfl) fc_4 w_211 rfl (Nat.le_of_ble_eq_true rfl) sh_18 rfl ?_
    refine G_alen (pc := 15) 10 X (dg dt_Symmetry_addMaker 7 rfl) sh_19 (by decide) (by decide) ?_
    refine G_icmp_ge (pc := 16) 39 X (dg dt_Symmetry_addMaker 8 rfl) (by decide) h (fun h => ?_) (fun h => ?_)
    · exact G_vret (pc := 39) X hq (dg dt_Symmetry_addMaker 21 rfl) h
    · refine G_aload_n (pc := 19) 0 X (dg dt_Symmetry_addMaker 9 rfl) rfl rfl ?_
      refine G_getR (pc := 20) 1 X (dg dt_Symmetry_addMaker 10 rfl) fc_4 w_211 rfl (Nat.le_of_ble_eq_true rfl) sh_18 rfl ?_
      refine G_aload_n (pc := 23) 0 X (dg dt_Symmetry_addMaker 11 rfl) rfl rfl ?_
      refine G_getI (pc := 24) 5 X (dg dt_Symmetry_addMaker 12 rfl) fc_4 w_215 rfl (Nat.le_of_ble_eq_true rfl) sh_18 rfl ?_
      refine G_iload_n (pc := 27) 1 X (dg dt_Symmetry_addMaker 13 rfl) rfl rfl ?_
      refine G_iast (pc := 28) X (dg dt_Symmetry_addMaker 14 rfl) sh_19 h (fun σ_1 h => ?_)
      refine G_aload_n (pc := 29) 0 X (dg dt_Symmetry_addMaker 15 rfl) rfl rfl ?_
      refine G_dup (pc := 30) X (dg dt_Symmetry_addMaker 16 rfl) rfl ?_
      refine G_getI (pc := 31) 5 X (dg dt_Symmetry_addMaker 17 rfl) fc_4 w_215 rfl (Nat.le_of_ble_eq_true rfl) sh_18 rfl ?_
      refine G_iconst (pc := 34) 1 X (dg dt_Symmetry_addMaker 18 rfl) (by decide) ?_
      refine G_iadd (pc := 35) X (dg dt_Symmetry_addMaker 19 rfl) ?_
      refine G_put (pc := 36) 5 X (dg dt_Symmetry_addMaker 20 rfl) fc_4 w_215 rfl (Nat.le_of_ble_eq_true rfl) rfl rfl sh_18 rfl h (fun σ_2 h => ?_)
      exact G_vret (pc := 39) X hq (dg dt_Symmetry_addMaker 21 rfl) h
set_option maxRecDepth 100000 in
set_option maxHeartbeats 4000000 in
theorem s_Symmetry_columnMap_L2 {θ : Th} {ad : Nat → Nat}  {rv : Int32} {σe : St} (X : Cx θ [] cX8_columnMap 4 "Quasigrove$Symmetry" 3 65)
    {v1 : Nat} {v2 : Int32} (hq : Rq θ (g_SH, ad) (some .int) (some (.int rv)) σe) (hg_v1 : gok v1) {kx30 : St → Option (Int32 × St)} (hkx30 : ∀ (σ : St), kx30 σ = some (rv, σe) → G θ (0, 0) (g_SH, ad) σ 30 [some (.ref (ad 18)), some (.ref (ad v1)), none, none] []) :
    ∀ (n : Nat) (v3 : Int32) (σ : St), f_Symmetry_columnMap_L2 v1 v2 kx30 n v3 σ = some (rv, σe) → G θ (0, 0) (g_SH, ad) σ 2 [some (.ref (ad 18)), some (.ref (ad v1)), some (.int v2), some (.int v3)] [] := by
  intro n
  induction n with
  | zero => intro v3 σ h; rw [f_Symmetry_columnMap_L2] at h; cases h
  | succ n ih =>
    intro v3 σ h
    rw [f_Symmetry_columnMap_L2] at h
    refine G_iload_n (pc := 2) 3 X (dg dt_Symmetry_columnMap 2 rfl) rfl rfl ?_
    refine G_aload_n (pc := 3) 1 X (dg dt_Symmetry_columnMap 3 rfl) rfl rfl ?_
    refine G_getIN (pc := 4) 3 X (dg dt_Symmetry_columnMap 4 rfl) fc_0 w_115 rfl (Nat.le_of_ble_eq_true rfl) (sh_g hg_v1) rfl ?_
    refine G_icmp_ge (pc := 7) 30 X (dg dt_Symmetry_columnMap 5 rfl) (by decide) h (fun h => ?_) (fun h => ?_)
    · exact G_wk (hkx30 σ h) ⟨rfl, ⟨rfl, trivial⟩⟩
    · refine G_aload_n (pc := 10) 0 X (dg dt_Symmetry_columnMap 6 rfl) rfl rfl ?_
      refine G_getR (pc := 11) 0 X (dg dt_Symmetry_columnMap 7 rfl) fc_4 w_210 rfl (Nat.le_of_ble_eq_true rfl) sh_18 rfl ?_
      refine G_iload_n (pc := 14) 3 X (dg dt_Symmetry_columnMap 8 rfl) rfl rfl ?_
      refine G_aload_n (pc := 15) 1 X (dg dt_Symmetry_columnMap 9 rfl) rfl rfl ?_
      refine G_iload_n (pc := 16) 3 X (dg dt_Symmetry_columnMap 10 rfl) rfl rfl ?_
      refine G_iload_n (pc := 17) 2 X (dg dt_Symmetry_columnMap 11 rfl) rfl rfl ?_
      obtain ⟨r_2, hc_1, h⟩ := cap_go h
      refine G_callV (pc := 18) (S := [.int v3, .ref (ad 6)]) [.int v3, .int v2] nosub X  (dg dt_Symmetry_columnMap 12 rfl) cb_Grid_signAt cv_Grid_signAt w_902 (s_Grid_signAt _ ad _ _ _ _ hg_v1 hc_1) rfl ⟨Nat.le_of_ble_eq_true rfl, Nat.le_of_ble_eq_true rfl⟩ (sh_g hg_v1) rfl (Nat.le_of_ble_eq_true rfl) Rc0 ?_
      obtain ⟨r_4, σ_5, hc_3, h⟩ := cal_go h
      refine G_callV (pc := 21) (S := []) [.int v3, .int r_2] nosub X  (dg dt_Symmetry_columnMap 13 rfl) cb_Maps_write cv_Maps_write w_911 (s_Maps_write _ ad _ _ _ hc_3) rfl ⟨Nat.le_of_ble_eq_true rfl, Nat.le_of_ble_eq_true rfl⟩ sh_6 rfl (Nat.le_of_ble_eq_true rfl) Rc0 ?_
      refine G_iinc (pc := 24) (v3 + 1) X (dg dt_Symmetry_columnMap 14 rfl) rfl (Nat.le_of_ble_eq_true rfl) rfl rfl ?_
      refine G_goto (pc := 27) 2 X (dg dt_Symmetry_columnMap 15 rfl) (by decide) ?_
      exact G_wk (ih (v3 + 1) σ_5 h) ⟨rfl, ⟨rfl, ⟨rfl, ⟨rfl, trivial⟩⟩⟩⟩
set_option maxRecDepth 100000 in
set_option maxHeartbeats 4000000 in
theorem s_Symmetry_columnMap (l : Launch) (ad : Nat → Nat) (σ : St) (v1 : Nat) (v2 : Int32) (hg_v1 : gok v1) {rv : Int32} {σe : St} (h : f_Symmetry_columnMap σ v1 v2 = some (rv, σe)) : Rt l [] yX8_columnMap cX8_columnMap 4 (some .int) 3 65 (g_SH, ad) [.ref (ad 18), .ref (ad v1), .int v2] σ (some (.int rv)) σe := by
  refine Rt.intro (L := [some (.ref (ad 18)), some (.ref (ad v1)), some (.int v2), none]) (by decide +kernel) (Nat.le_of_ble_eq_true rfl) rfl (fun θ hl X hq => ?_)
  subst hl
  unfold f_Symmetry_columnMap at h
  refine G_iconst (pc := 0) 0 X (dg dt_Symmetry_columnMap 0 rfl) (by decide) ?_
  refine G_istore_n (pc := 1) 3 X (dg dt_Symmetry_columnMap 1 rfl) rfl (Nat.le_of_ble_eq_true rfl) rfl ?_
  refine G_weak (L' := [some (.ref (ad 18)), some (.ref (ad v1)), some (.int v2), some (.int 0)]) ⟨rfl, ⟨rfl, ⟨rfl, ⟨rfl, trivial⟩⟩⟩⟩ ?_
  refine s_Symmetry_columnMap_L2  X hq hg_v1 (fun σ_6 h => ?_) _ _ _ h
  refine G_aload_n (pc := 30) 0 X (dg dt_Symmetry_columnMap 16 rfl) rfl rfl ?_
  refine G_getR (pc := 31) 0 X (dg dt_Symmetry_columnMap 17 rfl) fc_4 w_210 rfl (Nat.le_of_ble_eq_true rfl) sh_18 rfl ?_
  refine G_aload_n (pc := 34) 1 X (dg dt_Symmetry_columnMap 18 rfl) rfl rfl ?_
  refine G_getIN (pc := 35) 3 X (dg dt_Symmetry_columnMap 19 rfl) fc_0 w_115 rfl (Nat.le_of_ble_eq_true rfl) (sh_g hg_v1) rfl ?_
  obtain ⟨r_8, hc_7, h⟩ := cap_go h
  refine G_callV (pc := 38) (S := []) [.int (σ_6 v1 3)] nosub X  (dg dt_Symmetry_columnMap 20 rfl) cb_Maps_numberOfDraft cv_Maps_numberOfDraft w_912 (s_Maps_numberOfDraft _ ad _ _ hc_7) rfl ⟨Nat.le_of_ble_eq_true rfl, Nat.le_of_ble_eq_true rfl⟩ sh_6 rfl (Nat.le_of_ble_eq_true rfl) Rc0 ?_
  exact G_iret (pc := 41) X hq (dg dt_Symmetry_columnMap 21 rfl) h
set_option maxRecDepth 100000 in
set_option maxHeartbeats 4000000 in
theorem s_Symmetry_clearMembers_L7 {θ : Th} {ad : Nat → Nat}  {rv : Unit} {σe : St} (X : Cx θ [] cX8_clearMembers 2 "Quasigrove$Symmetry" 0 0)
     (hq : Rq θ (g_SH, ad) none none σe)  :
    ∀ (n : Nat) (v1 : Int32) (σ : St), f_Symmetry_clearMembers_L7 n v1 σ = some (rv, σe) → G θ (0, 0) (g_SH, ad) σ 7 [some (.ref (ad 18)), some (.int v1)] [] := by
  intro n
  induction n with
  | zero => intro v1 σ h; rw [f_Symmetry_clearMembers_L7] at h; cases h
  | succ n ih =>
    intro v1 σ h
    rw [f_Symmetry_clearMembers_L7] at h
    refine G_iload_n (pc := 7) 1 X (dg dt_Symmetry_clearMembers 5 rfl) rfl rfl ?_
    refine G_bipush (pc := 8) 120 X (dg dt_Symmetry_clearMembers 6 rfl) (by decide) ?_
    refine G_icmp_ge (pc := 10) 26 X (dg dt_Symmetry_clearMembers 7 rfl) (by decide) h (fun h => ?_) (fun h => ?_)
    · exact G_vret (pc := 26) X hq (dg dt_Symmetry_clearMembers 15 rfl) h
    · refine G_aload_n (pc := 13) 0 X (dg dt_Symmetry_clearMembers 8 rfl) rfl rfl ?_
      refine G_getR (pc := 14) 3 X (dg dt_Symmetry_clearMembers 9 rfl) fc_4 w_213 rfl (Nat.le_of_ble_eq_true rfl) sh_18 rfl ?_
      refine G_iload_n (pc := 17) 1 X (dg dt_Symmetry_clearMembers 10 rfl) rfl rfl ?_
      refine G_iconst (pc := 18) 0 X (dg dt_Symmetry_clearMembers 11 rfl) (by decide) ?_
      refine G_zast (pc := 19) X (dg dt_Symmetry_clearMembers 12 rfl) sh_21 h (fun σ_2 h => ?_)
      refine G_iinc (pc := 20) (v1 + 1) X (dg dt_Symmetry_clearMembers 13 rfl) rfl (Nat.le_of_ble_eq_true rfl) rfl rfl ?_
      refine G_goto (pc := 23) 7 X (dg dt_Symmetry_clearMembers 14 rfl) (by decide) ?_
      exact G_wk (ih (v1 + 1) σ_2 h) ⟨rfl, ⟨rfl, trivial⟩⟩
set_option maxRecDepth 100000 in
set_option maxHeartbeats 4000000 in
theorem s_Symmetry_clearMembers (l : Launch) (ad : Nat → Nat) (σ : St)   {rv : Unit} {σe : St} (h : f_Symmetry_clearMembers σ = some (rv, σe)) : Rt l [] yX8_clearMembers cX8_clearMembers 2 none 0 0 (g_SH, ad) [.ref (ad 18)] σ none σe := by
  refine Rt.intro (L := [some (.ref (ad 18)), none]) (by decide +kernel) (Nat.le_of_ble_eq_true rfl) rfl (fun θ hl X hq => ?_)
  subst hl
  unfold f_Symmetry_clearMembers at h
  refine G_aload_n (pc := 0) 0 X (dg dt_Symmetry_clearMembers 0 rfl) rfl rfl ?_
  refine G_iconst (pc := 1) 0 X (dg dt_Symmetry_clearMembers 1 rfl) (by decide) ?_
  refine G_put (pc := 2) 6 X (dg dt_Symmetry_clearMembers 2 rfl) fc_4 w_216 rfl (Nat.le_of_ble_eq_true rfl) rfl rfl sh_18 rfl h (fun σ_1 h => ?_)
  refine G_iconst (pc := 5) 0 X (dg dt_Symmetry_clearMembers 3 rfl) (by decide) ?_
  refine G_istore_n (pc := 6) 1 X (dg dt_Symmetry_clearMembers 4 rfl) rfl (Nat.le_of_ble_eq_true rfl) rfl ?_
  refine G_weak (L' := [some (.ref (ad 18)), some (.int 0)]) ⟨rfl, ⟨rfl, trivial⟩⟩ ?_
  refine s_Symmetry_clearMembers_L7  X hq   _ _ _ h
set_option maxRecDepth 100000 in
set_option maxHeartbeats 4000000 in
theorem s_Symmetry_addMember (l : Launch) (ad : Nat → Nat) (σ : St) (v1 : Int32)  {rv : Unit} {σe : St} (h : f_Symmetry_addMember σ v1 = some (rv, σe)) : Rt l [] yX8_addMember cX8_addMember 2 none 0 0 (g_SH, ad) [.ref (ad 18), .int v1] σ none σe := by
  refine Rt.intro (L := [some (.ref (ad 18)), some (.int v1)]) (by decide +kernel) (Nat.le_of_ble_eq_true rfl) rfl (fun θ hl X hq => ?_)
  subst hl
  unfold f_Symmetry_addMember at h
  refine G_iload_n (pc := 0) 1 X (dg dt_Symmetry_addMember 0 rfl) rfl rfl ?_
  refine G_if_lt (pc := 1) 19 X (dg dt_Symmetry_addMember 1 rfl) (by decide) h (fun h => ?_) (fun h => ?_)
  · exact G_vret (pc := 19) X hq (dg dt_Symmetry_addMember 10 rfl) h
  · refine G_iload_n (pc := 4) 1 X (dg dt_Symmetry_addMember 2 rfl) rfl rfl ?_
    refine G_bipush (pc := 5) 120 X (dg dt_Symmetry_addMember 3 rfl) (by decide) ?_
    refine G_icmp_ge (pc := 7) 19 X (dg dt_Symmetry_addMember 4 rfl) (by decide) h (fun h => ?_) (fun h => ?_)
    · exact G_vret (pc := 19) X hq (dg dt_Symmetry_addMember 10 rfl) h
    · refine G_aload_n (pc := 10) 0 X (dg dt_Symmetry_addMember 5 rfl) rfl rfl ?_
      refine G_getR (pc := 11) 3 X (dg dt_Symmetry_addMember 6 rfl) fc_4 w_213 rfl (Nat.le_of_ble_eq_true rfl) sh_18 rfl ?_
      refine G_iload_n (pc := 14) 1 X (dg dt_Symmetry_addMember 7 rfl) rfl rfl ?_
      refine G_zald (pc := 15) X (dg dt_Symmetry_addMember 8 rfl) sh_21 h (fun r_1 h => ?_)
      refine G_if_eq (pc := 16) 20 X (dg dt_Symmetry_addMember 9 rfl) (by decide) h (fun h => ?_) (fun h => ?_)
      · refine G_aload_n (pc := 20) 0 X (dg dt_Symmetry_addMember 11 rfl) rfl rfl ?_
        refine G_getI (pc := 21) 6 X (dg dt_Symmetry_addMember 12 rfl) fc_4 w_216 rfl (Nat.le_of_ble_eq_true rfl) sh_18 rfl ?_
        refine G_if_lt (pc := 24) 63 X (dg dt_Symmetry_addMember 13 rfl) (by decide) h (fun h => ?_) (fun h => ?_)
        · exact G_vret (pc := 63) X hq (dg dt_Symmetry_addMember 35 rfl) h
        · refine G_aload_n (pc := 27) 0 X (dg dt_Symmetry_addMember 14 rfl) rfl rfl ?_
          refine G_getI (pc := 28) 6 X (dg dt_Symmetry_addMember 15 rfl) fc_4 w_216 rfl (Nat.le_of_ble_eq_true rfl) sh_18 rfl ?_
          refine G_bipush (pc := 31) 120 X (dg dt_Symmetry_addMember 16 rfl) (by decide) ?_
          refine G_icmp_ge (pc := 33) 63 X (dg dt_Symmetry_addMember 17 rfl) (by decide) h (fun h => ?_) (fun h => ?_)
          · exact G_vret (pc := 63) X hq (dg dt_Symmetry_addMember 35 rfl) h
          · refine G_aload_n (pc := 36) 0 X (dg dt_Symmetry_addMember 18 rfl) rfl rfl ?_
            refine G_getR (pc := 37) 3 X (dg dt_Symmetry_addMember 19 rfl) fc_4 w_213 rfl (Nat.le_of_ble_eq_true rfl) sh_18 rfl ?_
            refine G_iload_n (pc := 40) 1 X (dg dt_Symmetry_addMember 20 rfl) rfl rfl ?_
            refine G_iconst (pc := 41) 1 X (dg dt_Symmetry_addMember 21 rfl) (by decide) ?_
            refine G_zast (pc := 42) X (dg dt_Symmetry_addMember 22 rfl) sh_21 h (fun σ_2 h => ?_)
            refine G_aload_n (pc := 43) 0 X (dg dt_Symmetry_addMember 23 rfl) rfl rfl ?_
            refine G_getR (pc := 44) 2 X (dg dt_Symmetry_addMember 24 rfl) fc_4 w_212 rfl (Nat.le_of_ble_eq_true rfl) sh_18 rfl ?_
            refine G_aload_n (pc := 47) 0 X (dg dt_Symmetry_addMember 25 rfl) rfl rfl ?_
            refine G_getI (pc := 48) 6 X (dg dt_Symmetry_addMember 26 rfl) fc_4 w_216 rfl (Nat.le_of_ble_eq_true rfl) sh_18 rfl ?_
            refine G_iload_n (pc := 51) 1 X (dg dt_Symmetry_addMember 27 rfl) rfl rfl ?_
            refine G_iast (pc := 52) X (dg dt_Symmetry_addMember 28 rfl) sh_20 h (fun σ_3 h => ?_)
            refine G_aload_n (pc := 53) 0 X (dg dt_Symmetry_addMember 29 rfl) rfl rfl ?_
            refine G_dup (pc := 54) X (dg dt_Symmetry_addMember 30 rfl) rfl ?_
            refine G_getI (pc := 55) 6 X (dg dt_Symmetry_addMember 31 rfl) fc_4 w_216 rfl (Nat.le_of_ble_eq_true rfl) sh_18 rfl ?_
            refine G_iconst (pc := 58) 1 X (dg dt_Symmetry_addMember 32 rfl) (by decide) ?_
            refine G_iadd (pc := 59) X (dg dt_Symmetry_addMember 33 rfl) ?_
            refine G_put (pc := 60) 6 X (dg dt_Symmetry_addMember 34 rfl) fc_4 w_216 rfl (Nat.le_of_ble_eq_true rfl) rfl rfl sh_18 rfl h (fun σ_4 h => ?_)
            exact G_vret (pc := 63) X hq (dg dt_Symmetry_addMember 35 rfl) h
      · exact G_vret (pc := 19) X hq (dg dt_Symmetry_addMember 10 rfl) h
set_option maxRecDepth 100000 in
set_option maxHeartbeats 4000000 in
theorem s_Symmetry_groupSize_L8 {θ : Th} {ad : Nat → Nat}  {rv : Int32} {σe : St} (X : Cx θ [] cX8_groupSize 6 "Quasigrove$Symmetry" 4 88)
    {v1 : Nat} {v2 : Int32} {v3 : Int32} (hq : Rq θ (g_SH, ad) (some .int) (some (.int rv)) σe) (hg_v1 : gok v1) {kx53 : St → Option (Int32 × St)} (hkx53 : ∀ (σ : St), kx53 σ = some (rv, σe) → G θ (0, 0) (g_SH, ad) σ 53 [some (.ref (ad 18)), some (.ref (ad v1)), none, none, none, none] []) :
    ∀ (n : Nat) (v4 : Int32) (σ : St), f_Symmetry_groupSize_L8 v1 v2 v3 kx53 n v4 σ = some (rv, σe) → G θ (0, 0) (g_SH, ad) σ 8 [some (.ref (ad 18)), some (.ref (ad v1)), some (.int v2), some (.int v3), some (.int v4), none] [] := by
  intro n
  induction n with
  | zero => intro v4 σ h; rw [f_Symmetry_groupSize_L8] at h; cases h
  | succ n ih =>
    intro v4 σ h
    rw [f_Symmetry_groupSize_L8] at h
    refine G_iload (pc := 8) X (dg dt_Symmetry_groupSize 5 rfl) rfl ?_
    refine G_aload_n (pc := 10) 1 X (dg dt_Symmetry_groupSize 6 rfl) rfl rfl ?_
    refine G_getIN (pc := 11) 3 X (dg dt_Symmetry_groupSize 7 rfl) fc_0 w_115 rfl (Nat.le_of_ble_eq_true rfl) (sh_g hg_v1) rfl ?_
    refine G_icmp_ge (pc := 14) 53 X (dg dt_Symmetry_groupSize 8 rfl) (by decide) h (fun h => ?_) (fun h => ?_)
    · exact G_wk (hkx53 σ h) ⟨rfl, ⟨rfl, trivial⟩⟩
    · refine G_iload_n (pc := 17) 2 X (dg dt_Symmetry_groupSize 9 rfl) rfl rfl ?_
      refine jn_go (fun j32_2 => ∀ (σ_3 : St), j32_2 σ_3 = some (rv, σe) → G θ (0, 0) (g_SH, ad) σ_3 32 [some (.ref (ad 18)), some (.ref (ad v1)), some (.int v2), some (.int v3), some (.int v4), none] []) h ?_ (fun j32_2 hj32_2 h => ?_)
      · intro σ_3 h
        refine G_iload_n (pc := 32) 3 X (dg dt_Symmetry_groupSize 17 rfl) rfl rfl ?_
        refine jn_go (fun j47_4 => ∀ (σ_5 : St), j47_4 σ_5 = some (rv, σe) → G θ (0, 0) (g_SH, ad) σ_5 47 [some (.ref (ad 18)), some (.ref (ad v1)), some (.int v2), some (.int v3), some (.int v4), none] []) h ?_ (fun j47_4 hj47_4 h => ?_)
        · intro σ_5 h
          refine G_iinc (pc := 47) (v4 + 1) X (dg dt_Symmetry_groupSize 25 rfl) rfl (Nat.le_of_ble_eq_true rfl) rfl rfl ?_
          refine G_goto (pc := 50) 8 X (dg dt_Symmetry_groupSize 26 rfl) (by decide) ?_
          exact G_wk (ih (v4 + 1) σ_5 h) ⟨rfl, ⟨rfl, ⟨rfl, ⟨rfl, ⟨rfl, trivial⟩⟩⟩⟩⟩
        refine G_if_eq (pc := 33) 47 X (dg dt_Symmetry_groupSize 18 rfl) (by decide) h (fun h => ?_) (fun h => ?_)
        · exact G_wk (hj47_4 σ_3 h) ⟨rfl, ⟨rfl, ⟨rfl, ⟨rfl, ⟨rfl, trivial⟩⟩⟩⟩⟩
        · refine G_aload_n (pc := 36) 0 X (dg dt_Symmetry_groupSize 19 rfl) rfl rfl ?_
          refine G_aload_n (pc := 37) 0 X (dg dt_Symmetry_groupSize 20 rfl) rfl rfl ?_
          refine G_aload_n (pc := 38) 1 X (dg dt_Symmetry_groupSize 21 rfl) rfl rfl ?_
          refine G_iload (pc := 39) X (dg dt_Symmetry_groupSize 22 rfl) rfl ?_
          obtain ⟨r_7, σ_8, hc_6, h⟩ := cal_go h
          refine G_callV (pc := 41) (S := [.ref (ad 18)]) [.ref (ad v1), .int v4] nosub X  (dg dt_Symmetry_groupSize 23 rfl) cb_Symmetry_columnMap cv_Symmetry_columnMap w_917 (s_Symmetry_columnMap _ ad _ _ _ hg_v1 hc_6) rfl ⟨Nat.le_of_ble_eq_true rfl, Nat.le_of_ble_eq_true rfl⟩ sh_18 rfl (Nat.le_of_ble_eq_true rfl) Rc0 ?_
          obtain ⟨r_10, σ_11, hc_9, h⟩ := cal_go h
          refine G_callV (pc := 44) (S := []) [.int r_7] nosub X  (dg dt_Symmetry_groupSize 24 rfl) cb_Symmetry_addMaker cv_Symmetry_addMaker w_913 (s_Symmetry_addMaker _ ad _ _ hc_9) rfl ⟨Nat.le_of_ble_eq_true rfl, Nat.le_of_ble_eq_true rfl⟩ sh_18 rfl (Nat.le_of_ble_eq_true rfl) Rc0 ?_
          exact G_wk (hj47_4 σ_11 h) ⟨rfl, ⟨rfl, ⟨rfl, ⟨rfl, ⟨rfl, trivial⟩⟩⟩⟩⟩
      refine G_if_eq (pc := 18) 32 X (dg dt_Symmetry_groupSize 10 rfl) (by decide) h (fun h => ?_) (fun h => ?_)
      · exact G_wk (hj32_2 σ h) ⟨rfl, ⟨rfl, ⟨rfl, ⟨rfl, ⟨rfl, trivial⟩⟩⟩⟩⟩
      · refine G_aload_n (pc := 21) 0 X (dg dt_Symmetry_groupSize 11 rfl) rfl rfl ?_
        refine G_aload_n (pc := 22) 0 X (dg dt_Symmetry_groupSize 12 rfl) rfl rfl ?_
        refine G_aload_n (pc := 23) 1 X (dg dt_Symmetry_groupSize 13 rfl) rfl rfl ?_
        refine G_iload (pc := 24) X (dg dt_Symmetry_groupSize 14 rfl) rfl ?_
        obtain ⟨r_13, σ_14, hc_12, h⟩ := cal_go h
        refine G_callV (pc := 26) (S := [.ref (ad 18)]) [.ref (ad v1), .int v4] nosub X  (dg dt_Symmetry_groupSize 15 rfl) cb_Symmetry_rowMap cv_Symmetry_rowMap w_907 (s_Symmetry_rowMap _ ad _ _ _ hg_v1 hc_12) rfl ⟨Nat.le_of_ble_eq_true rfl, Nat.le_of_ble_eq_true rfl⟩ sh_18 rfl (Nat.le_of_ble_eq_true rfl) Rc0 ?_
        obtain ⟨r_16, σ_17, hc_15, h⟩ := cal_go h
        refine G_callV (pc := 29) (S := []) [.int r_13] nosub X  (dg dt_Symmetry_groupSize 16 rfl) cb_Symmetry_addMaker cv_Symmetry_addMaker w_913 (s_Symmetry_addMaker _ ad _ _ hc_15) rfl ⟨Nat.le_of_ble_eq_true rfl, Nat.le_of_ble_eq_true rfl⟩ sh_18 rfl (Nat.le_of_ble_eq_true rfl) Rc0 ?_
        exact G_wk (hj32_2 σ_17 h) ⟨rfl, ⟨rfl, ⟨rfl, ⟨rfl, ⟨rfl, trivial⟩⟩⟩⟩⟩
set_option maxRecDepth 100000 in
set_option maxHeartbeats 4000000 in
theorem s_Symmetry_groupSize_L84 {θ : Th} {ad : Nat → Nat}  {rv : Int32} {σe : St} (X : Cx θ [] cX8_groupSize 6 "Quasigrove$Symmetry" 4 88)
    {v1 : Nat} {v4 : Int32} (hq : Rq θ (g_SH, ad) (some .int) (some (.int rv)) σe) (hg_v1 : gok v1) {kx138 : St → Option (Int32 × St)} (hkx138 : ∀ (σ : St), kx138 σ = some (rv, σe) → G θ (0, 0) (g_SH, ad) σ 138 [some (.ref (ad 18)), some (.ref (ad v1)), none, none, some (.int v4), none] []) :
    ∀ (n : Nat) (v5 : Int32) (σ : St), f_Symmetry_groupSize_L84 v1 v4 kx138 n v5 σ = some (rv, σe) → G θ (0, 0) (g_SH, ad) σ 84 [some (.ref (ad 18)), some (.ref (ad v1)), none, none, some (.int v4), some (.int v5)] [] := by
  intro n
  induction n with
  | zero => intro v5 σ h; rw [f_Symmetry_groupSize_L84] at h; cases h
  | succ n ih =>
    intro v5 σ h
    rw [f_Symmetry_groupSize_L84] at h
    refine G_iload (pc := 84) X (dg dt_Symmetry_groupSize 43 rfl) rfl ?_
    refine G_aload_n (pc := 86) 0 X (dg dt_Symmetry_groupSize 44 rfl) rfl rfl ?_
    refine G_getI (pc := 87) 5 X (dg dt_Symmetry_groupSize 45 rfl) fc_4 w_215 rfl (Nat.le_of_ble_eq_true rfl) sh_18 rfl ?_
    refine G_icmp_ge (pc := 90) 138 X (dg dt_Symmetry_groupSize 46 rfl) (by decide) h (fun h => ?_) (fun h => ?_)
    · exact G_wk (hkx138 σ h) ⟨rfl, ⟨rfl, ⟨rfl, trivial⟩⟩⟩
    · refine G_iload (pc := 93) X (dg dt_Symmetry_groupSize 47 rfl) rfl ?_
      refine G_aload_n (pc := 95) 0 X (dg dt_Symmetry_groupSize 48 rfl) rfl rfl ?_
      refine G_getR (pc := 96) 1 X (dg dt_Symmetry_groupSize 49 rfl) fc_4 w_211 rfl (Nat.le_of_ble_eq_true rfl) sh_18 rfl ?_
      refine G_alen (pc := 99) 10 X (dg dt_Symmetry_groupSize 50 rfl) sh_19 (by decide) (by decide) ?_
      refine G_icmp_ge (pc := 100) 138 X (dg dt_Symmetry_groupSize 51 rfl) (by decide) h (fun h => ?_) (fun h => ?_)
      · exact G_wk (hkx138 σ h) ⟨rfl, ⟨rfl, ⟨rfl, trivial⟩⟩⟩
      · refine G_aload_n (pc := 103) 0 X (dg dt_Symmetry_groupSize 52 rfl) rfl rfl ?_
        refine G_aload_n (pc := 104) 0 X (dg dt_Symmetry_groupSize 53 rfl) rfl rfl ?_
        refine G_getR (pc := 105) 0 X (dg dt_Symmetry_groupSize 54 rfl) fc_4 w_210 rfl (Nat.le_of_ble_eq_true rfl) sh_18 rfl ?_
        refine G_aload_n (pc := 108) 0 X (dg dt_Symmetry_groupSize 55 rfl) rfl rfl ?_
        refine G_getR (pc := 109) 2 X (dg dt_Symmetry_groupSize 56 rfl) fc_4 w_212 rfl (Nat.le_of_ble_eq_true rfl) sh_18 rfl ?_
        refine G_iload (pc := 112) X (dg dt_Symmetry_groupSize 57 rfl) rfl ?_
        refine G_iald (pc := 114) X (dg dt_Symmetry_groupSize 58 rfl) sh_20 h (fun r_25 h => ?_)
        refine G_aload_n (pc := 115) 0 X (dg dt_Symmetry_groupSize 59 rfl) rfl rfl ?_
        refine G_getR (pc := 116) 1 X (dg dt_Symmetry_groupSize 60 rfl) fc_4 w_211 rfl (Nat.le_of_ble_eq_true rfl) sh_18 rfl ?_
        refine G_iload (pc := 119) X (dg dt_Symmetry_groupSize 61 rfl) rfl ?_
        refine G_iald (pc := 121) X (dg dt_Symmetry_groupSize 62 rfl) sh_19 h (fun r_26 h => ?_)
        refine G_aload_n (pc := 122) 1 X (dg dt_Symmetry_groupSize 63 rfl) rfl rfl ?_
        refine G_getIN (pc := 123) 3 X (dg dt_Symmetry_groupSize 64 rfl) fc_0 w_115 rfl (Nat.le_of_ble_eq_true rfl) (sh_g hg_v1) rfl ?_
        obtain ⟨r_28, σ_29, hc_27, h⟩ := cal_go h
        refine G_callV (pc := 126) (S := [.ref (ad 18)]) [.int r_25, .int r_26, .int (σ v1 3)] nosub X  (dg dt_Symmetry_groupSize 65 rfl) cb_Maps_oneBehindOther cv_Maps_oneBehindOther w_929 (s_Maps_oneBehindOther _ ad _ _ _ _ hc_27) rfl ⟨Nat.le_of_ble_eq_true rfl, Nat.le_of_ble_eq_true rfl⟩ sh_6 rfl (Nat.le_of_ble_eq_true rfl) Rc0 ?_
        obtain ⟨r_31, σ_32, hc_30, h⟩ := cal_go h
        refine G_callV (pc := 129) (S := []) [.int r_28] nosub X  (dg dt_Symmetry_groupSize 66 rfl) cb_Symmetry_addMember cv_Symmetry_addMember w_925 (s_Symmetry_addMember _ ad _ _ hc_30) rfl ⟨Nat.le_of_ble_eq_true rfl, Nat.le_of_ble_eq_true rfl⟩ sh_18 rfl (Nat.le_of_ble_eq_true rfl) Rc0 ?_
        refine G_iinc (pc := 132) (v5 + 1) X (dg dt_Symmetry_groupSize 67 rfl) rfl (Nat.le_of_ble_eq_true rfl) rfl rfl ?_
        refine G_goto (pc := 135) 84 X (dg dt_Symmetry_groupSize 68 rfl) (by decide) ?_
        exact G_wk (ih (v5 + 1) σ_32 h) ⟨rfl, ⟨rfl, ⟨rfl, ⟨rfl, trivial⟩⟩⟩⟩
set_option maxRecDepth 100000 in
set_option maxHeartbeats 4000000 in
theorem s_Symmetry_groupSize_L65 {θ : Th} {ad : Nat → Nat}  {rv : Int32} {σe : St} (X : Cx θ [] cX8_groupSize 6 "Quasigrove$Symmetry" 4 88)
    {v1 : Nat} (hq : Rq θ (g_SH, ad) (some .int) (some (.int rv)) σe) (hg_v1 : gok v1) {kx144 : St → Option (Int32 × St)} (hkx144 : ∀ (σ : St), kx144 σ = some (rv, σe) → G θ (0, 0) (g_SH, ad) σ 144 [some (.ref (ad 18)), none, none, none, none, none] []) :
    ∀ (n : Nat) (v4 : Int32) (σ : St), f_Symmetry_groupSize_L65 v1 kx144 n v4 σ = some (rv, σe) → G θ (0, 0) (g_SH, ad) σ 65 [some (.ref (ad 18)), some (.ref (ad v1)), none, none, some (.int v4), none] [] := by
  intro n
  induction n with
  | zero => intro v4 σ h; rw [f_Symmetry_groupSize_L65] at h; cases h
  | succ n ih =>
    intro v4 σ h
    rw [f_Symmetry_groupSize_L65] at h
    refine G_iload (pc := 65) X (dg dt_Symmetry_groupSize 34 rfl) rfl ?_
    refine G_aload_n (pc := 67) 0 X (dg dt_Symmetry_groupSize 35 rfl) rfl rfl ?_
    refine G_getI (pc := 68) 6 X (dg dt_Symmetry_groupSize 36 rfl) fc_4 w_216 rfl (Nat.le_of_ble_eq_true rfl) sh_18 rfl ?_
    refine G_icmp_ge (pc := 71) 144 X (dg dt_Symmetry_groupSize 37 rfl) (by decide) h (fun h => ?_) (fun h => ?_)
    · exact G_wk (hkx144 σ h) ⟨rfl, trivial⟩
    · refine G_iload (pc := 74) X (dg dt_Symmetry_groupSize 38 rfl) rfl ?_
      refine G_bipush (pc := 76) 120 X (dg dt_Symmetry_groupSize 39 rfl) (by decide) ?_
      refine G_icmp_ge (pc := 78) 144 X (dg dt_Symmetry_groupSize 40 rfl) (by decide) h (fun h => ?_) (fun h => ?_)
      · exact G_wk (hkx144 σ h) ⟨rfl, trivial⟩
      · refine G_iconst (pc := 81) 0 X (dg dt_Symmetry_groupSize 41 rfl) (by decide) ?_
        refine G_istore (pc := 82) X (dg dt_Symmetry_groupSize 42 rfl) (Nat.le_of_ble_eq_true rfl) rfl ?_
        refine G_weak (L' := [some (.ref (ad 18)), some (.ref (ad v1)), none, none, some (.int v4), some (.int 0)]) ⟨rfl, ⟨rfl, ⟨rfl, ⟨rfl, trivial⟩⟩⟩⟩ ?_
        refine s_Symmetry_groupSize_L84  X hq hg_v1 (fun σ_33 h => ?_) _ _ _ h
        refine G_iinc (pc := 138) (v4 + 1) X (dg dt_Symmetry_groupSize 69 rfl) rfl (Nat.le_of_ble_eq_true rfl) rfl rfl ?_
        refine G_goto (pc := 141) 65 X (dg dt_Symmetry_groupSize 70 rfl) (by decide) ?_
        exact G_wk (ih (v4 + 1) σ_33 h) ⟨rfl, ⟨rfl, ⟨rfl, trivial⟩⟩⟩
set_option maxRecDepth 100000 in
set_option maxHeartbeats 4000000 in
theorem s_Symmetry_groupSize (l : Launch) (ad : Nat → Nat) (σ : St) (v1 : Nat) (v2 : Int32) (v3 : Int32) (hg_v1 : gok v1) {rv : Int32} {σe : St} (h : f_Symmetry_groupSize σ v1 v2 v3 = some (rv, σe)) : Rt l [] yX8_groupSize cX8_groupSize 6 (some .int) 4 88 (g_SH, ad) [.ref (ad 18), .ref (ad v1), .int v2, .int v3] σ (some (.int rv)) σe := by
  refine Rt.intro (L := [some (.ref (ad 18)), some (.ref (ad v1)), some (.int v2), some (.int v3), none, none]) (by decide +kernel) (Nat.le_of_ble_eq_true rfl) rfl (fun θ hl X hq => ?_)
  subst hl
  unfold f_Symmetry_groupSize at h
  refine G_aload_n (pc := 0) 0 X (dg dt_Symmetry_groupSize 0 rfl) rfl rfl ?_
  refine G_iconst (pc := 1) 0 X (dg dt_Symmetry_groupSize 1 rfl) (by decide) ?_
  refine G_put (pc := 2) 5 X (dg dt_Symmetry_groupSize 2 rfl) fc_4 w_215 rfl (Nat.le_of_ble_eq_true rfl) rfl rfl sh_18 rfl h (fun σ_1 h => ?_)
  refine G_iconst (pc := 5) 0 X (dg dt_Symmetry_groupSize 3 rfl) (by decide) ?_
  refine G_istore (pc := 6) X (dg dt_Symmetry_groupSize 4 rfl) (Nat.le_of_ble_eq_true rfl) rfl ?_
  refine G_weak (L' := [some (.ref (ad 18)), some (.ref (ad v1)), some (.int v2), some (.int v3), some (.int 0), none]) ⟨rfl, ⟨rfl, ⟨rfl, ⟨rfl, ⟨rfl, trivial⟩⟩⟩⟩⟩ ?_
  refine s_Symmetry_groupSize_L8  X hq hg_v1 (fun σ_18 h => ?_) _ _ _ h
  refine G_aload_n (pc := 53) 0 X (dg dt_Symmetry_groupSize 27 rfl) rfl rfl ?_
  obtain ⟨r_20, σ_21, hc_19, h⟩ := cal_go h
  refine G_callV (pc := 54) (S := []) [] nosub X  (dg dt_Symmetry_groupSize 28 rfl) cb_Symmetry_clearMembers cv_Symmetry_clearMembers w_921 (s_Symmetry_clearMembers _ ad _ hc_19) rfl ⟨Nat.le_of_ble_eq_true rfl, Nat.le_of_ble_eq_true rfl⟩ sh_18 rfl (Nat.le_of_ble_eq_true rfl) Rc0 ?_
  refine G_aload_n (pc := 57) 0 X (dg dt_Symmetry_groupSize 29 rfl) rfl rfl ?_
  refine G_iconst (pc := 58) 0 X (dg dt_Symmetry_groupSize 30 rfl) (by decide) ?_
  obtain ⟨r_23, σ_24, hc_22, h⟩ := cal_go h
  refine G_callV (pc := 59) (S := []) [.int 0] nosub X  (dg dt_Symmetry_groupSize 31 rfl) cb_Symmetry_addMember cv_Symmetry_addMember w_925 (s_Symmetry_addMember _ ad _ _ hc_22) rfl ⟨Nat.le_of_ble_eq_true rfl, Nat.le_of_ble_eq_true rfl⟩ sh_18 rfl (Nat.le_of_ble_eq_true rfl) Rc0 ?_
  refine G_iconst (pc := 62) 0 X (dg dt_Symmetry_groupSize 32 rfl) (by decide) ?_
  refine G_istore (pc := 63) X (dg dt_Symmetry_groupSize 33 rfl) (Nat.le_of_ble_eq_true rfl) rfl ?_
  refine G_weak (L' := [some (.ref (ad 18)), some (.ref (ad v1)), none, none, some (.int 0), none]) ⟨rfl, ⟨rfl, ⟨rfl, trivial⟩⟩⟩ ?_
  refine s_Symmetry_groupSize_L65  X hq hg_v1 (fun σ_34 h => ?_) _ _ _ h
  refine G_aload_n (pc := 144) 0 X (dg dt_Symmetry_groupSize 71 rfl) rfl rfl ?_
  refine G_getI (pc := 145) 6 X (dg dt_Symmetry_groupSize 72 rfl) fc_4 w_216 rfl (Nat.le_of_ble_eq_true rfl) sh_18 rfl ?_
  exact G_iret (pc := 148) X hq (dg dt_Symmetry_groupSize 73 rfl) h
set_option maxRecDepth 100000 in
set_option maxHeartbeats 4000000 in
theorem s_Telling_keep_L9 {θ : Th} {ad : Nat → Nat}  {rv : Unit} {σe : St} (X : Cx θ [] cX10_keep 5 "Quasigrove$Telling" 0 0)
    {v1 : Int32} (hq : Rq θ (g_SH, ad) none none σe) {kx74 : Int32 → St → Option (Unit × St)} (hkx74 : ∀ (v2 : Int32) (σ : St), kx74 v2 σ = some (rv, σe) → G θ (0, 0) (g_SH, ad) σ 74 [some (.ref (ad 16)), some (.int v1), some (.int v2), none, none] []) :
    ∀ (n : Nat) (v2 : Int32) (v3 : Int32) (σ : St), f_Telling_keep_L9 v1 kx74 n v2 v3 σ = some (rv, σe) → G θ (0, 0) (g_SH, ad) σ 9 [some (.ref (ad 16)), some (.int v1), some (.int v2), some (.int v3), none] [] := by
  intro n
  induction n with
  | zero => intro v2 v3 σ h; rw [f_Telling_keep_L9] at h; cases h
  | succ n ih =>
    intro v2 v3 σ h
    rw [f_Telling_keep_L9] at h
    refine G_iload_n (pc := 9) 3 X (dg dt_Telling_keep 7 rfl) rfl rfl ?_
    refine G_aload_n (pc := 10) 0 X (dg dt_Telling_keep 8 rfl) rfl rfl ?_
    refine G_getI (pc := 11) 2 X (dg dt_Telling_keep 9 rfl) fc_6 w_196 rfl (Nat.le_of_ble_eq_true rfl) sh_16 rfl ?_
    refine G_icmp_ge (pc := 14) 74 X (dg dt_Telling_keep 10 rfl) (by decide) h (fun h => ?_) (fun h => ?_)
    · exact G_wk (hkx74 v2 σ h) ⟨rfl, ⟨rfl, ⟨rfl, trivial⟩⟩⟩
    · refine G_iload_n (pc := 17) 3 X (dg dt_Telling_keep 11 rfl) rfl rfl ?_
      refine G_sipush (pc := 18) 576 X (dg dt_Telling_keep 12 rfl) (by decide) ?_
      refine G_icmp_ge (pc := 21) 74 X (dg dt_Telling_keep 13 rfl) (by decide) h (fun h => ?_) (fun h => ?_)
      · exact G_wk (hkx74 v2 σ h) ⟨rfl, ⟨rfl, ⟨rfl, trivial⟩⟩⟩
      · refine G_aload_n (pc := 24) 0 X (dg dt_Telling_keep 14 rfl) rfl rfl ?_
        refine G_getR (pc := 25) 1 X (dg dt_Telling_keep 15 rfl) fc_6 w_195 rfl (Nat.le_of_ble_eq_true rfl) sh_16 rfl ?_
        refine G_iload_n (pc := 28) 3 X (dg dt_Telling_keep 16 rfl) rfl rfl ?_
        refine G_iald (pc := 29) X (dg dt_Telling_keep 17 rfl) sh_17 h (fun r_1 h => ?_)
        refine G_istore (pc := 30) X (dg dt_Telling_keep 18 rfl) (Nat.le_of_ble_eq_true rfl) rfl ?_
        refine G_iload (pc := 32) X (dg dt_Telling_keep 19 rfl) rfl ?_
        refine G_iload_n (pc := 34) 1 X (dg dt_Telling_keep 20 rfl) rfl rfl ?_
        refine G_iand (pc := 35) X (dg dt_Telling_keep 21 rfl) ?_
        refine G_iload (pc := 36) X (dg dt_Telling_keep 22 rfl) rfl ?_
        refine G_icmp_ne (pc := 38) 42 X (dg dt_Telling_keep 23 rfl) (by decide) h (fun h => ?_) (fun h => ?_)
        · refine G_iload (pc := 42) X (dg dt_Telling_keep 25 rfl) rfl ?_
          refine G_iload_n (pc := 44) 1 X (dg dt_Telling_keep 26 rfl) rfl rfl ?_
          refine G_iand (pc := 45) X (dg dt_Telling_keep 27 rfl) ?_
          refine G_iload_n (pc := 46) 1 X (dg dt_Telling_keep 28 rfl) rfl rfl ?_
          refine jn_go (fun j68_2 => ∀ (v2_3 : Int32) (σ_4 : St), j68_2 v2_3 σ_4 = some (rv, σe) → G θ (0, 0) (g_SH, ad) σ_4 68 [some (.ref (ad 16)), some (.int v1), some (.int v2_3), some (.int v3), none] []) h ?_ (fun j68_2 hj68_2 h => ?_)
          · intro v2_3 σ_4 h
            refine G_iinc (pc := 68) (v3 + 1) X (dg dt_Telling_keep 39 rfl) rfl (Nat.le_of_ble_eq_true rfl) rfl rfl ?_
            refine G_goto (pc := 71) 9 X (dg dt_Telling_keep 40 rfl) (by decide) ?_
            exact G_wk (ih v2_3 (v3 + 1) σ_4 h) ⟨rfl, ⟨rfl, ⟨rfl, ⟨rfl, trivial⟩⟩⟩⟩
          refine G_icmp_eq (pc := 47) 68 X (dg dt_Telling_keep 29 rfl) (by decide) h (fun h => ?_) (fun h => ?_)
          · exact G_wk (hj68_2 v2 σ h) ⟨rfl, ⟨rfl, ⟨rfl, ⟨rfl, trivial⟩⟩⟩⟩
          · refine G_iload_n (pc := 50) 2 X (dg dt_Telling_keep 30 rfl) rfl rfl ?_
            refine G_sipush (pc := 51) 576 X (dg dt_Telling_keep 31 rfl) (by decide) ?_
            refine G_icmp_ge (pc := 54) 68 X (dg dt_Telling_keep 32 rfl) (by decide) h (fun h => ?_) (fun h => ?_)
            · exact G_wk (hj68_2 v2 σ h) ⟨rfl, ⟨rfl, ⟨rfl, ⟨rfl, trivial⟩⟩⟩⟩
            · refine G_aload_n (pc := 57) 0 X (dg dt_Telling_keep 33 rfl) rfl rfl ?_
              refine G_getR (pc := 58) 1 X (dg dt_Telling_keep 34 rfl) fc_6 w_195 rfl (Nat.le_of_ble_eq_true rfl) sh_16 rfl ?_
              refine G_iload_n (pc := 61) 2 X (dg dt_Telling_keep 35 rfl) rfl rfl ?_
              refine G_iload (pc := 62) X (dg dt_Telling_keep 36 rfl) rfl ?_
              refine G_iast (pc := 64) X (dg dt_Telling_keep 37 rfl) sh_17 h (fun σ_5 h => ?_)
              refine G_iinc (pc := 65) (v2 + 1) X (dg dt_Telling_keep 38 rfl) rfl (Nat.le_of_ble_eq_true rfl) rfl rfl ?_
              exact G_wk (hj68_2 (v2 + 1) σ_5 h) ⟨rfl, ⟨rfl, ⟨rfl, ⟨rfl, trivial⟩⟩⟩⟩
        · exact G_vret (pc := 41) X hq (dg dt_Telling_keep 24 rfl) h
set_option maxRecDepth 100000 in
set_option maxHeartbeats 4000000 in
theorem s_Telling_keep (l : Launch) (ad : Nat → Nat) (σ : St) (v1 : Int32)  {rv : Unit} {σe : St} (h : f_Telling_keep σ v1 = some (rv, σe)) : Rt l [] yX10_keep cX10_keep 5 none 0 0 (g_SH, ad) [.ref (ad 16), .int v1] σ none σe := by
  refine Rt.intro (L := [some (.ref (ad 16)), some (.int v1), none, none, none]) (by decide +kernel) (Nat.le_of_ble_eq_true rfl) rfl (fun θ hl X hq => ?_)
  subst hl
  unfold f_Telling_keep at h
  refine G_iload_n (pc := 0) 1 X (dg dt_Telling_keep 0 rfl) rfl rfl ?_
  refine G_if_ne (pc := 1) 5 X (dg dt_Telling_keep 1 rfl) (by decide) h (fun h => ?_) (fun h => ?_)
  · refine G_iconst (pc := 5) 0 X (dg dt_Telling_keep 3 rfl) (by decide) ?_
    refine G_istore_n (pc := 6) 2 X (dg dt_Telling_keep 4 rfl) rfl (Nat.le_of_ble_eq_true rfl) rfl ?_
    refine G_iconst (pc := 7) 0 X (dg dt_Telling_keep 5 rfl) (by decide) ?_
    refine G_istore_n (pc := 8) 3 X (dg dt_Telling_keep 6 rfl) rfl (Nat.le_of_ble_eq_true rfl) rfl ?_
    refine G_weak (L' := [some (.ref (ad 16)), some (.int v1), some (.int 0), some (.int 0), none]) ⟨rfl, ⟨rfl, ⟨rfl, ⟨rfl, trivial⟩⟩⟩⟩ ?_
    refine s_Telling_keep_L9  X hq  (fun v2_6 σ_7 h => ?_) _ _ _ _ h
    refine G_iload_n (pc := 74) 2 X (dg dt_Telling_keep 41 rfl) rfl rfl ?_
    refine G_sipush (pc := 75) 576 X (dg dt_Telling_keep 42 rfl) (by decide) ?_
    refine G_icmp_ge (pc := 78) 95 X (dg dt_Telling_keep 43 rfl) (by decide) h (fun h => ?_) (fun h => ?_)
    · exact G_vret (pc := 95) X hq (dg dt_Telling_keep 54 rfl) h
    · refine G_aload_n (pc := 81) 0 X (dg dt_Telling_keep 44 rfl) rfl rfl ?_
      refine G_getR (pc := 82) 1 X (dg dt_Telling_keep 45 rfl) fc_6 w_195 rfl (Nat.le_of_ble_eq_true rfl) sh_16 rfl ?_
      refine G_iload_n (pc := 85) 2 X (dg dt_Telling_keep 46 rfl) rfl rfl ?_
      refine G_iload_n (pc := 86) 1 X (dg dt_Telling_keep 47 rfl) rfl rfl ?_
      refine G_iast (pc := 87) X (dg dt_Telling_keep 48 rfl) sh_17 h (fun σ_8 h => ?_)
      refine G_aload_n (pc := 88) 0 X (dg dt_Telling_keep 49 rfl) rfl rfl ?_
      refine G_iload_n (pc := 89) 2 X (dg dt_Telling_keep 50 rfl) rfl rfl ?_
      refine G_iconst (pc := 90) 1 X (dg dt_Telling_keep 51 rfl) (by decide) ?_
      refine G_iadd (pc := 91) X (dg dt_Telling_keep 52 rfl) ?_
      refine G_put (pc := 92) 2 X (dg dt_Telling_keep 53 rfl) fc_6 w_196 rfl (Nat.le_of_ble_eq_true rfl) rfl rfl sh_16 rfl h (fun σ_9 h => ?_)
      exact G_vret (pc := 95) X hq (dg dt_Telling_keep 54 rfl) h
  · exact G_vret (pc := 4) X hq (dg dt_Telling_keep 2 rfl) h
set_option maxRecDepth 100000 in
set_option maxHeartbeats 4000000 in
theorem s_Telling_unlike_L6 {θ : Th} {ad : Nat → Nat}  {rv : Int32} (X : Cx θ [] cX10_unlike 6 "Quasigrove$Telling" 3 65)
    {v1 : Nat} {v2 : Int32} {v3 : Int32} {σ : St} (hq : Rq θ (g_SH, ad) (some .int) (some (.int rv)) σ) (hg_v1 : gok v1) {kx57 : Int32 → Option Int32} (hkx57 : ∀ (v4 : Int32), kx57 v4 = some rv → G θ (0, 0) (g_SH, ad) σ 57 [none, none, none, none, some (.int v4), none] []) :
    ∀ (n : Nat) (v4 : Int32) (v5 : Int32), f_Telling_unlike_L6 v1 v2 v3 σ kx57 n v4 v5 = some rv → G θ (0, 0) (g_SH, ad) σ 6 [some (.ref (ad 16)), some (.ref (ad v1)), some (.int v2), some (.int v3), some (.int v4), some (.int v5)] [] := by
  intro n
  induction n with
  | zero => intro v4 v5 h; rw [f_Telling_unlike_L6] at h; cases h
  | succ n ih =>
    intro v4 v5 h
    rw [f_Telling_unlike_L6] at h
    refine G_iload (pc := 6) X (dg dt_Telling_unlike 4 rfl) rfl ?_
    refine G_aload_n (pc := 8) 1 X (dg dt_Telling_unlike 5 rfl) rfl rfl ?_
    refine G_getIN (pc := 9) 3 X (dg dt_Telling_unlike 6 rfl) fc_0 w_112 rfl (Nat.le_of_ble_eq_true rfl) (sh_g hg_v1) rfl ?_
    refine G_icmp_ge (pc := 12) 57 X (dg dt_Telling_unlike 7 rfl) (by decide) h (fun h => ?_) (fun h => ?_)
    · exact G_wk (hkx57 v4 h) ⟨rfl, trivial⟩
    · refine G_aload_n (pc := 15) 1 X (dg dt_Telling_unlike 8 rfl) rfl rfl ?_
      refine G_iload_n (pc := 16) 2 X (dg dt_Telling_unlike 9 rfl) rfl rfl ?_
      refine G_iload (pc := 17) X (dg dt_Telling_unlike 10 rfl) rfl ?_
      obtain ⟨r_2, hc_1, h⟩ := cap_go h
      refine G_callV (pc := 19) (S := []) [.int v2, .int v5] nosub X  (dg dt_Telling_unlike 11 rfl) cb_Grid_signAt cv_Grid_signAt w_780 (s_Grid_signAt _ ad _ _ _ _ hg_v1 hc_1) rfl ⟨Nat.le_of_ble_eq_true rfl, Nat.le_of_ble_eq_true rfl⟩ (sh_g hg_v1) rfl (Nat.le_of_ble_eq_true rfl) Rc0 ?_
      refine G_aload_n (pc := 22) 0 X (dg dt_Telling_unlike 12 rfl) rfl rfl ?_
      refine G_getR (pc := 23) 0 X (dg dt_Telling_unlike 13 rfl) fc_6 w_194 rfl (Nat.le_of_ble_eq_true rfl) sh_16 rfl ?_
      refine G_iload_n (pc := 26) 3 X (dg dt_Telling_unlike 14 rfl) rfl rfl ?_
      refine G_iload (pc := 27) X (dg dt_Telling_unlike 15 rfl) rfl ?_
      obtain ⟨r_4, hc_3, h⟩ := cap_go h
      refine G_callV (pc := 29) (S := [.int r_2]) [.int v3, .int v5] nosub X  (dg dt_Telling_unlike 16 rfl) cb_Maps_imageOf cv_Maps_imageOf w_781 (s_Maps_imageOf _ ad _ _ _ hc_3) rfl ⟨Nat.le_of_ble_eq_true rfl, Nat.le_of_ble_eq_true rfl⟩ sh_6 rfl (Nat.le_of_ble_eq_true rfl) Rc0 ?_
      refine jn_go (fun j51_5 => ∀ (v4_6 : Int32), j51_5 v4_6 = some rv → G θ (0, 0) (g_SH, ad) σ 51 [some (.ref (ad 16)), some (.ref (ad v1)), some (.int v2), some (.int v3), some (.int v4_6), some (.int v5)] []) h ?_ (fun j51_5 hj51_5 h => ?_)
      · intro v4_6 h
        refine G_iinc (pc := 51) (v5 + 1) X (dg dt_Telling_unlike 29 rfl) rfl (Nat.le_of_ble_eq_true rfl) rfl rfl ?_
        refine G_goto (pc := 54) 6 X (dg dt_Telling_unlike 30 rfl) (by decide) ?_
        exact G_wk (ih v4_6 (v5 + 1) h) ⟨rfl, ⟨rfl, ⟨rfl, ⟨rfl, ⟨rfl, ⟨rfl, trivial⟩⟩⟩⟩⟩⟩
      refine G_icmp_eq (pc := 32) 51 X (dg dt_Telling_unlike 17 rfl) (by decide) h (fun h => ?_) (fun h => ?_)
      · exact G_wk (hj51_5 v4 h) ⟨rfl, ⟨rfl, ⟨rfl, ⟨rfl, ⟨rfl, ⟨rfl, trivial⟩⟩⟩⟩⟩⟩
      · refine G_iload (pc := 35) X (dg dt_Telling_unlike 18 rfl) rfl ?_
        refine G_iconst (pc := 37) 1 X (dg dt_Telling_unlike 19 rfl) (by decide) ?_
        refine G_aload_n (pc := 38) 1 X (dg dt_Telling_unlike 20 rfl) rfl rfl ?_
        refine G_getIN (pc := 39) 3 X (dg dt_Telling_unlike 21 rfl) fc_0 w_112 rfl (Nat.le_of_ble_eq_true rfl) (sh_g hg_v1) rfl ?_
        refine G_iload_n (pc := 42) 2 X (dg dt_Telling_unlike 22 rfl) rfl rfl ?_
        refine G_imul (pc := 43) X (dg dt_Telling_unlike 23 rfl) ?_
        refine G_iload (pc := 44) X (dg dt_Telling_unlike 24 rfl) rfl ?_
        refine G_iadd (pc := 46) X (dg dt_Telling_unlike 25 rfl) ?_
        refine G_ishl (pc := 47) X (dg dt_Telling_unlike 26 rfl) ?_
        refine G_ior (pc := 48) X (dg dt_Telling_unlike 27 rfl) ?_
        refine G_istore_lt (pc := 49) X (dg dt_Telling_unlike 28 rfl) (Nat.le_of_ble_eq_true rfl) rfl h (fun v4_7 h => ?_)
        exact G_wk (hj51_5 v4_7 h) ⟨rfl, ⟨rfl, ⟨rfl, ⟨rfl, ⟨rfl, ⟨rfl, trivial⟩⟩⟩⟩⟩⟩
set_option maxRecDepth 100000 in
set_option maxHeartbeats 4000000 in
theorem s_Telling_unlike (l : Launch) (ad : Nat → Nat) (σ : St) (v1 : Nat) (v2 : Int32) (v3 : Int32) (hg_v1 : gok v1) {rv : Int32} (h : f_Telling_unlike σ v1 v2 v3 = some rv) : Rt l [] yX10_unlike cX10_unlike 6 (some .int) 3 65 (g_SH, ad) [.ref (ad 16), .ref (ad v1), .int v2, .int v3] σ (some (.int rv)) σ := by
  refine Rt.intro (L := [some (.ref (ad 16)), some (.ref (ad v1)), some (.int v2), some (.int v3), none, none]) (by decide +kernel) (Nat.le_of_ble_eq_true rfl) rfl (fun θ hl X hq => ?_)
  subst hl
  unfold f_Telling_unlike at h
  refine G_iconst (pc := 0) 0 X (dg dt_Telling_unlike 0 rfl) (by decide) ?_
  refine G_istore (pc := 1) X (dg dt_Telling_unlike 1 rfl) (Nat.le_of_ble_eq_true rfl) rfl ?_
  refine G_iconst (pc := 3) 0 X (dg dt_Telling_unlike 2 rfl) (by decide) ?_
  refine G_istore (pc := 4) X (dg dt_Telling_unlike 3 rfl) (Nat.le_of_ble_eq_true rfl) rfl ?_
  refine G_weak (L' := [some (.ref (ad 16)), some (.ref (ad v1)), some (.int v2), some (.int v3), some (.int 0), some (.int 0)]) ⟨rfl, ⟨rfl, ⟨rfl, ⟨rfl, ⟨rfl, ⟨rfl, trivial⟩⟩⟩⟩⟩⟩ ?_
  refine s_Telling_unlike_L6  X hq hg_v1 (fun v4_8 h => ?_) _ _ _ h
  refine G_iload (pc := 57) X (dg dt_Telling_unlike 31 rfl) rfl ?_
  exact G_iretp (pc := 59) X hq (dg dt_Telling_unlike 32 rfl) h
set_option maxRecDepth 100000 in
set_option maxHeartbeats 4000000 in
theorem s_Telling_gather_L18 {θ : Th} {ad : Nat → Nat} {fr0 lo0 : Nat} (hfr0 : 4 ≤ fr0) (hlo0 : 90 ≤ lo0) {rec : St → Nat → Int32 → Int32 → Int32 → Option (Unit × St)} (hrec : ∀ (σ : St) (v1 : Nat) (v2 : Int32) (v3 : Int32) (v4 : Int32) (hg_v1 : gok v1) {rv : Unit} {σe : St}, rec σ v1 v2 v3 v4 = some (rv, σe) → Rt θ.2.1 [] yX10_gather cX10_gather 7 none fr0 lo0 (g_SH, ad) [.ref (ad 16), .ref (ad v1), .int v2, .int v3, .int v4] σ none σe) {rv : Unit} {σe : St} (X : Cx θ [] cX10_gather 7 "Quasigrove$Telling" (fr0 + 1) (lo0 + 26))
    {v1 : Nat} {v2 : Int32} {v3 : Int32} {v4 : Int32} (hq : Rq θ (g_SH, ad) none none σe) (hg_v1 : gok v1) :
    ∀ (n : Nat) (v5 : Int32) (σ : St), f_Telling_gather_L18 rec v1 v2 v3 v4 n v5 σ = some (rv, σe) → G θ (0, 0) (g_SH, ad) σ 18 [some (.ref (ad 16)), some (.ref (ad v1)), some (.int v2), some (.int v3), some (.int v4), some (.int v5), none] [] := by
  intro n
  induction n with
  | zero => intro v5 σ h; rw [f_Telling_gather_L18] at h; cases h
  | succ n ih =>
    intro v5 σ h
    rw [f_Telling_gather_L18] at h
    refine G_iload (pc := 18) X (dg dt_Telling_gather 10 rfl) rfl ?_
    refine G_aload_n (pc := 20) 0 X (dg dt_Telling_gather 11 rfl) rfl rfl ?_
    refine G_getR (pc := 21) 0 X (dg dt_Telling_gather 12 rfl) fc_6 w_194 rfl (Nat.le_of_ble_eq_true rfl) sh_16 rfl ?_
    refine G_aload_n (pc := 24) 1 X (dg dt_Telling_gather 13 rfl) rfl rfl ?_
    refine G_getIN (pc := 25) 3 X (dg dt_Telling_gather 14 rfl) fc_0 w_112 rfl (Nat.le_of_ble_eq_true rfl) (sh_g hg_v1) rfl ?_
    obtain ⟨r_2, hc_1, h⟩ := cap_go h
    refine G_callV (pc := 28) (S := [.int v5]) [.int (σ v1 3)] nosub X  (dg dt_Telling_gather 15 rfl) cb_Maps_amount cv_Maps_amount w_774 (s_Maps_amount _ ad _ _ hc_1) rfl ⟨by omega, by omega⟩ sh_6 rfl (Nat.le_of_ble_eq_true rfl) Rc0 ?_
    refine G_icmp_ge (pc := 31) 85 X (dg dt_Telling_gather 16 rfl) (by decide) h (fun h => ?_) (fun h => ?_)
    · exact G_vret (pc := 85) X hq (dg dt_Telling_gather 46 rfl) h
    · refine G_aload_n (pc := 34) 0 X (dg dt_Telling_gather 17 rfl) rfl rfl ?_
      refine G_getR (pc := 35) 0 X (dg dt_Telling_gather 18 rfl) fc_6 w_194 rfl (Nat.le_of_ble_eq_true rfl) sh_16 rfl ?_
      refine G_iload (pc := 38) X (dg dt_Telling_gather 19 rfl) rfl ?_
      refine G_aload_n (pc := 40) 1 X (dg dt_Telling_gather 20 rfl) rfl rfl ?_
      refine G_getIN (pc := 41) 3 X (dg dt_Telling_gather 21 rfl) fc_0 w_112 rfl (Nat.le_of_ble_eq_true rfl) (sh_g hg_v1) rfl ?_
      obtain ⟨r_4, hc_3, h⟩ := cap_go h
      refine G_callV (pc := 44) (S := []) [.int v5, .int (σ v1 3)] nosub X  (dg dt_Telling_gather 22 rfl) cb_Maps_pairsOf cv_Maps_pairsOf w_775 (s_Maps_pairsOf _ ad _ _ _ hc_3) rfl ⟨by omega, by omega⟩ sh_6 rfl (Nat.le_of_ble_eq_true rfl) Rc0 ?_
      refine G_istore (pc := 47) X (dg dt_Telling_gather 23 rfl) (Nat.le_of_ble_eq_true rfl) rfl ?_
      refine G_iload (pc := 49) X (dg dt_Telling_gather 24 rfl) rfl ?_
      refine G_iload_n (pc := 51) 3 X (dg dt_Telling_gather 25 rfl) rfl rfl ?_
      refine G_iand (pc := 52) X (dg dt_Telling_gather 26 rfl) ?_
      refine jn_go (fun j79_5 => ∀ (σ_6 : St), j79_5 σ_6 = some (rv, σe) → G θ (0, 0) (g_SH, ad) σ_6 79 [some (.ref (ad 16)), some (.ref (ad v1)), some (.int v2), some (.int v3), some (.int v4), some (.int v5), none] []) h ?_ (fun j79_5 hj79_5 h => ?_)
      · intro σ_6 h
        refine G_iinc (pc := 79) (v5 + 1) X (dg dt_Telling_gather 44 rfl) rfl (Nat.le_of_ble_eq_true rfl) rfl rfl ?_
        refine G_goto (pc := 82) 18 X (dg dt_Telling_gather 45 rfl) (by decide) ?_
        exact G_wk (ih (v5 + 1) σ_6 h) ⟨rfl, ⟨rfl, ⟨rfl, ⟨rfl, ⟨rfl, ⟨rfl, trivial⟩⟩⟩⟩⟩⟩
      refine G_if_ne (pc := 53) 79 X (dg dt_Telling_gather 27 rfl) (by decide) h (fun h => ?_) (fun h => ?_)
      · exact G_wk (hj79_5 σ h) ⟨rfl, ⟨rfl, ⟨rfl, ⟨rfl, ⟨rfl, ⟨rfl, trivial⟩⟩⟩⟩⟩⟩
      · refine G_aload_n (pc := 56) 0 X (dg dt_Telling_gather 28 rfl) rfl rfl ?_
        refine G_aload_n (pc := 57) 1 X (dg dt_Telling_gather 29 rfl) rfl rfl ?_
        refine G_iload_n (pc := 58) 2 X (dg dt_Telling_gather 30 rfl) rfl rfl ?_
        refine G_iconst (pc := 59) 1 X (dg dt_Telling_gather 31 rfl) (by decide) ?_
        refine G_iadd (pc := 60) X (dg dt_Telling_gather 32 rfl) ?_
        refine G_iload_n (pc := 61) 3 X (dg dt_Telling_gather 33 rfl) rfl rfl ?_
        refine G_iload (pc := 62) X (dg dt_Telling_gather 34 rfl) rfl ?_
        refine G_ior (pc := 64) X (dg dt_Telling_gather 35 rfl) ?_
        refine G_iload (pc := 65) X (dg dt_Telling_gather 36 rfl) rfl ?_
        refine G_aload_n (pc := 67) 0 X (dg dt_Telling_gather 37 rfl) rfl rfl ?_
        refine G_aload_n (pc := 68) 1 X (dg dt_Telling_gather 38 rfl) rfl rfl ?_
        refine G_iload_n (pc := 69) 2 X (dg dt_Telling_gather 39 rfl) rfl rfl ?_
        refine G_iload (pc := 70) X (dg dt_Telling_gather 40 rfl) rfl ?_
        obtain ⟨r_8, hc_7, h⟩ := cap_go h
        refine G_callV (pc := 72) (S := [.int v4, .int (v3 ||| r_4), .int (v2 + 1), .ref (ad v1), .ref (ad 16)]) [.ref (ad v1), .int v2, .int v5] nosub X  (dg dt_Telling_gather 41 rfl) cb_Telling_unlike cv_Telling_unlike w_776 (s_Telling_unlike _ ad _ _ _ _ hg_v1 hc_7) rfl ⟨by omega, by omega⟩ sh_16 rfl (Nat.le_of_ble_eq_true rfl) Rc0 ?_
        refine G_ior (pc := 75) X (dg dt_Telling_gather 42 rfl) ?_
        obtain ⟨r_10, σ_11, hc_9, h⟩ := cal_go h
        refine G_callS (pc := 76) (S := []) [.ref (ad 16), .ref (ad v1), .int (v2 + 1), .int (v3 ||| r_4), .int (v4 ||| r_8)] nosub X  (dg dt_Telling_gather 43 rfl) cb_Telling_gather w_768 w_767 (hrec _ _ _ _ _ hg_v1 hc_9) rfl ⟨by omega, by omega⟩  (Nat.le_of_ble_eq_true rfl) Rc0 ?_
        exact G_wk (hj79_5 σ_11 h) ⟨rfl, ⟨rfl, ⟨rfl, ⟨rfl, ⟨rfl, ⟨rfl, trivial⟩⟩⟩⟩⟩⟩
set_option maxRecDepth 100000 in
set_option maxHeartbeats 4000000 in
theorem sb_Telling_gather (l : Launch) (ad : Nat → Nat) {fr0 lo0 : Nat} (hfr0 : 4 ≤ fr0) (hlo0 : 90 ≤ lo0) {rec : St → Nat → Int32 → Int32 → Int32 → Option (Unit × St)} (hrec : ∀ (σ : St) (v1 : Nat) (v2 : Int32) (v3 : Int32) (v4 : Int32) (hg_v1 : gok v1) {rv : Unit} {σe : St}, rec σ v1 v2 v3 v4 = some (rv, σe) → Rt l [] yX10_gather cX10_gather 7 none fr0 lo0 (g_SH, ad) [.ref (ad 16), .ref (ad v1), .int v2, .int v3, .int v4] σ none σe) (σ : St) (v1 : Nat) (v2 : Int32) (v3 : Int32) (v4 : Int32) (hg_v1 : gok v1) {rv : Unit} {σe : St} (h : fb_Telling_gather rec σ v1 v2 v3 v4 = some (rv, σe)) : Rt l [] yX10_gather cX10_gather 7 none (fr0 + 1) (lo0 + 26) (g_SH, ad) [.ref (ad 16), .ref (ad v1), .int v2, .int v3, .int v4] σ none σe := by
  refine Rt.intro (L := [some (.ref (ad 16)), some (.ref (ad v1)), some (.int v2), some (.int v3), some (.int v4), none, none]) (by decide +kernel) (Nat.le_of_ble_eq_true rfl) rfl (fun θ hl X hq => ?_)
  subst hl
  unfold fb_Telling_gather at h
  refine G_iload_n (pc := 0) 2 X (dg dt_Telling_gather 0 rfl) rfl rfl ?_
  refine G_aload_n (pc := 1) 1 X (dg dt_Telling_gather 1 rfl) rfl rfl ?_
  refine G_getIN (pc := 2) 3 X (dg dt_Telling_gather 2 rfl) fc_0 w_112 rfl (Nat.le_of_ble_eq_true rfl) (sh_g hg_v1) rfl ?_
  refine G_icmp_lt (pc := 5) 15 X (dg dt_Telling_gather 3 rfl) (by decide) h (fun h => ?_) (fun h => ?_)
  · refine G_iconst (pc := 15) 0 X (dg dt_Telling_gather 8 rfl) (by decide) ?_
    refine G_istore (pc := 16) X (dg dt_Telling_gather 9 rfl) (Nat.le_of_ble_eq_true rfl) rfl ?_
    refine G_weak (L' := [some (.ref (ad 16)), some (.ref (ad v1)), some (.int v2), some (.int v3), some (.int v4), some (.int 0), none]) ⟨rfl, ⟨rfl, ⟨rfl, ⟨rfl, ⟨rfl, ⟨rfl, trivial⟩⟩⟩⟩⟩⟩ ?_
    refine s_Telling_gather_L18 hfr0 hlo0 hrec X hq hg_v1  _ _ _ h
  · refine G_aload_n (pc := 8) 0 X (dg dt_Telling_gather 4 rfl) rfl rfl ?_
    refine G_iload (pc := 9) X (dg dt_Telling_gather 5 rfl) rfl ?_
    obtain ⟨r_13, σ_14, hc_12, h⟩ := cal_go h
    refine G_callV (pc := 11) (S := []) [.int v4] nosub X  (dg dt_Telling_gather 6 rfl) cb_Telling_keep cv_Telling_keep w_770 (s_Telling_keep _ ad _ _ hc_12) rfl ⟨by omega, by omega⟩ sh_16 rfl (Nat.le_of_ble_eq_true rfl) Rc0 ?_
    exact G_vret (pc := 14) X hq (dg dt_Telling_gather 7 rfl) h
set_option maxRecDepth 100000 in
set_option maxHeartbeats 4000000 in
theorem s_Telling_gather (l : Launch) (ad : Nat → Nat) : ∀ (d : Nat) (σ : St) (v1 : Nat) (v2 : Int32) (v3 : Int32) (v4 : Int32) (hg_v1 : gok v1) {rv : Unit} {σe : St}, f_Telling_gather d σ v1 v2 v3 v4 = some (rv, σe) → Rt l [] yX10_gather cX10_gather 7 none (4 + 1 * d) (90 + 26 * d) (g_SH, ad) [.ref (ad 16), .ref (ad v1), .int v2, .int v3, .int v4] σ none σe := by
  intro d
  induction d with
  | zero => intro σ v1 v2 v3 v4 hg_v1 rv σe h; rw [f_Telling_gather] at h; cases h
  | succ d ih =>
    intro σ v1 v2 v3 v4 hg_v1 rv σe h
    rw [f_Telling_gather] at h
    rw [show 4 + 1 * (d + 1) = (4 + 1 * d) + 1 by omega, show 90 + 26 * (d + 1) = (90 + 26 * d) + 26 by omega]
    exact sb_Telling_gather l ad (by omega) (by omega) (fun σ v1 v2 v3 v4 hg_v1 _ _ h => ih σ v1 v2 v3 v4 hg_v1 h) σ v1 v2 v3 v4 hg_v1 h
set_option maxRecDepth 100000 in
set_option maxHeartbeats 4000000 in
theorem s_Telling_meetsAll_L2 {θ : Th} {ad : Nat → Nat}  {rv : Int32} (X : Cx θ [] cX10_meetsAll 3 "Quasigrove$Telling" 0 0)
    {v1 : Int32} {σ : St} (hq : Rq θ (g_SH, ad) (some .boolean) (some (.int rv)) σ)  :
    ∀ (n : Nat) (v2 : Int32), f_Telling_meetsAll_L2 v1 σ n v2 = some rv → G θ (0, 0) (g_SH, ad) σ 2 [some (.ref (ad 16)), some (.int v1), some (.int v2)] [] := by
  intro n
  induction n with
  | zero => intro v2 h; rw [f_Telling_meetsAll_L2] at h; cases h
  | succ n ih =>
    intro v2 h
    rw [f_Telling_meetsAll_L2] at h
    refine G_iload_n (pc := 2) 2 X (dg dt_Telling_meetsAll 2 rfl) rfl rfl ?_
    refine G_aload_n (pc := 3) 0 X (dg dt_Telling_meetsAll 3 rfl) rfl rfl ?_
    refine G_getI (pc := 4) 2 X (dg dt_Telling_meetsAll 4 rfl) fc_6 w_196 rfl (Nat.le_of_ble_eq_true rfl) sh_16 rfl ?_
    refine G_icmp_ge (pc := 7) 36 X (dg dt_Telling_meetsAll 5 rfl) (by decide) h (fun h => ?_) (fun h => ?_)
    · refine G_iconst (pc := 36) 1 X (dg dt_Telling_meetsAll 20 rfl) (by decide) ?_
      exact G_zretlp (pc := 37) X hq (dg dt_Telling_meetsAll 21 rfl) rfl h
    · refine G_iload_n (pc := 10) 2 X (dg dt_Telling_meetsAll 6 rfl) rfl rfl ?_
      refine G_sipush (pc := 11) 576 X (dg dt_Telling_meetsAll 7 rfl) (by decide) ?_
      refine G_icmp_ge (pc := 14) 36 X (dg dt_Telling_meetsAll 8 rfl) (by decide) h (fun h => ?_) (fun h => ?_)
      · refine G_iconst (pc := 36) 1 X (dg dt_Telling_meetsAll 20 rfl) (by decide) ?_
        exact G_zretlp (pc := 37) X hq (dg dt_Telling_meetsAll 21 rfl) rfl h
      · refine G_aload_n (pc := 17) 0 X (dg dt_Telling_meetsAll 9 rfl) rfl rfl ?_
        refine G_getR (pc := 18) 1 X (dg dt_Telling_meetsAll 10 rfl) fc_6 w_195 rfl (Nat.le_of_ble_eq_true rfl) sh_16 rfl ?_
        refine G_iload_n (pc := 21) 2 X (dg dt_Telling_meetsAll 11 rfl) rfl rfl ?_
        refine G_iald (pc := 22) X (dg dt_Telling_meetsAll 12 rfl) sh_17 h (fun r_1 h => ?_)
        refine G_iload_n (pc := 23) 1 X (dg dt_Telling_meetsAll 13 rfl) rfl rfl ?_
        refine G_iand (pc := 24) X (dg dt_Telling_meetsAll 14 rfl) ?_
        refine G_if_ne (pc := 25) 30 X (dg dt_Telling_meetsAll 15 rfl) (by decide) h (fun h => ?_) (fun h => ?_)
        · refine G_iinc (pc := 30) (v2 + 1) X (dg dt_Telling_meetsAll 18 rfl) rfl (Nat.le_of_ble_eq_true rfl) rfl rfl ?_
          refine G_goto (pc := 33) 2 X (dg dt_Telling_meetsAll 19 rfl) (by decide) ?_
          exact G_wk (ih (v2 + 1) h) ⟨rfl, ⟨rfl, ⟨rfl, trivial⟩⟩⟩
        · refine G_iconst (pc := 28) 0 X (dg dt_Telling_meetsAll 16 rfl) (by decide) ?_
          exact G_zretlp (pc := 29) X hq (dg dt_Telling_meetsAll 17 rfl) rfl h
set_option maxRecDepth 100000 in
set_option maxHeartbeats 4000000 in
theorem s_Telling_meetsAll (l : Launch) (ad : Nat → Nat) (σ : St) (v1 : Int32)  {rv : Int32} (h : f_Telling_meetsAll σ v1 = some rv) : Rt l [] yX10_meetsAll cX10_meetsAll 3 (some .boolean) 0 0 (g_SH, ad) [.ref (ad 16), .int v1] σ (some (.int rv)) σ := by
  refine Rt.intro (L := [some (.ref (ad 16)), some (.int v1), none]) (by decide +kernel) (Nat.le_of_ble_eq_true rfl) rfl (fun θ hl X hq => ?_)
  subst hl
  unfold f_Telling_meetsAll at h
  refine G_iconst (pc := 0) 0 X (dg dt_Telling_meetsAll 0 rfl) (by decide) ?_
  refine G_istore_n (pc := 1) 2 X (dg dt_Telling_meetsAll 1 rfl) rfl (Nat.le_of_ble_eq_true rfl) rfl ?_
  refine G_weak (L' := [some (.ref (ad 16)), some (.int v1), some (.int 0)]) ⟨rfl, ⟨rfl, ⟨rfl, trivial⟩⟩⟩ ?_
  refine s_Telling_meetsAll_L2  X hq   _ _ h
set_option maxRecDepth 100000 in
set_option maxHeartbeats 4000000 in
theorem s_Telling_someMeet_L14 {θ : Th} {ad : Nat → Nat} {fr0 lo0 : Nat} (hfr0 : 1 ≤ fr0) (hlo0 : 22 ≤ lo0) {rec : St → Int32 → Int32 → Int32 → Int32 → Option Int32} (hrec : ∀ (σ : St) (v1 : Int32) (v2 : Int32) (v3 : Int32) (v4 : Int32)  {rv : Int32}, rec σ v1 v2 v3 v4 = some rv → Rt θ.2.1 [] yX10_someMeet cX10_someMeet 6 (some .boolean) fr0 lo0 (g_SH, ad) [.ref (ad 16), .int v1, .int v2, .int v3, .int v4] σ (some (.int rv)) σ) {rv : Int32} (X : Cx θ [] cX10_someMeet 6 "Quasigrove$Telling" (fr0 + 1) (lo0 + 25))
    {v1 : Int32} {v3 : Int32} {v4 : Int32} {σ : St} (hq : Rq θ (g_SH, ad) (some .boolean) (some (.int rv)) σ)  :
    ∀ (n : Nat) (v5 : Int32), f_Telling_someMeet_L14 rec v1 v3 v4 σ n v5 = some rv → G θ (0, 0) (g_SH, ad) σ 14 [some (.ref (ad 16)), some (.int v1), none, some (.int v3), some (.int v4), some (.int v5)] [] := by
  intro n
  induction n with
  | zero => intro v5 h; rw [f_Telling_someMeet_L14] at h; cases h
  | succ n ih =>
    intro v5 h
    rw [f_Telling_someMeet_L14] at h
    refine G_iload (pc := 14) X (dg dt_Telling_someMeet 8 rfl) rfl ?_
    refine G_iload_n (pc := 16) 1 X (dg dt_Telling_someMeet 9 rfl) rfl rfl ?_
    refine G_icmp_ge (pc := 17) 50 X (dg dt_Telling_someMeet 10 rfl) (by decide) h (fun h => ?_) (fun h => ?_)
    · refine G_iconst (pc := 50) 0 X (dg dt_Telling_someMeet 30 rfl) (by decide) ?_
      exact G_zretlp (pc := 51) X hq (dg dt_Telling_someMeet 31 rfl) rfl h
    · refine G_aload_n (pc := 20) 0 X (dg dt_Telling_someMeet 11 rfl) rfl rfl ?_
      refine G_iload_n (pc := 21) 1 X (dg dt_Telling_someMeet 12 rfl) rfl rfl ?_
      refine G_iload (pc := 22) X (dg dt_Telling_someMeet 13 rfl) rfl ?_
      refine G_iconst (pc := 24) 1 X (dg dt_Telling_someMeet 14 rfl) (by decide) ?_
      refine G_iadd (pc := 25) X (dg dt_Telling_someMeet 15 rfl) ?_
      refine G_iload_n (pc := 26) 3 X (dg dt_Telling_someMeet 16 rfl) rfl rfl ?_
      refine G_iconst (pc := 27) 1 X (dg dt_Telling_someMeet 17 rfl) (by decide) ?_
      refine G_iload (pc := 28) X (dg dt_Telling_someMeet 18 rfl) rfl ?_
      refine G_ishl (pc := 30) X (dg dt_Telling_someMeet 19 rfl) ?_
      refine G_ior (pc := 31) X (dg dt_Telling_someMeet 20 rfl) ?_
      refine G_iload (pc := 32) X (dg dt_Telling_someMeet 21 rfl) rfl ?_
      refine G_iconst (pc := 34) 1 X (dg dt_Telling_someMeet 22 rfl) (by decide) ?_
      refine G_isub (pc := 35) X (dg dt_Telling_someMeet 23 rfl) ?_
      obtain ⟨r_2, hc_1, h⟩ := cap_go h
      refine G_callS (pc := 36) (S := []) [.ref (ad 16), .int v1, .int (v5 + 1), .int (v3 ||| (1 <<< (v5 &&& 31))), .int (v4 - 1)] nosub X  (dg dt_Telling_someMeet 24 rfl) cb_Telling_someMeet w_783 w_782 (hrec _ _ _ _ _ hc_1) rfl ⟨by omega, by omega⟩  (Nat.le_of_ble_eq_true rfl) Rc0 ?_
      refine G_if_eq (pc := 39) 44 X (dg dt_Telling_someMeet 25 rfl) (by decide) h (fun h => ?_) (fun h => ?_)
      · refine G_iinc (pc := 44) (v5 + 1) X (dg dt_Telling_someMeet 28 rfl) rfl (Nat.le_of_ble_eq_true rfl) rfl rfl ?_
        refine G_goto (pc := 47) 14 X (dg dt_Telling_someMeet 29 rfl) (by decide) ?_
        exact G_wk (ih (v5 + 1) h) ⟨rfl, ⟨rfl, ⟨rfl, ⟨rfl, ⟨rfl, trivial⟩⟩⟩⟩⟩
      · refine G_iconst (pc := 42) 1 X (dg dt_Telling_someMeet 26 rfl) (by decide) ?_
        exact G_zretlp (pc := 43) X hq (dg dt_Telling_someMeet 27 rfl) rfl h
set_option maxRecDepth 100000 in
set_option maxHeartbeats 4000000 in
theorem sb_Telling_someMeet (l : Launch) (ad : Nat → Nat) {fr0 lo0 : Nat} (hfr0 : 1 ≤ fr0) (hlo0 : 22 ≤ lo0) {rec : St → Int32 → Int32 → Int32 → Int32 → Option Int32} (hrec : ∀ (σ : St) (v1 : Int32) (v2 : Int32) (v3 : Int32) (v4 : Int32)  {rv : Int32}, rec σ v1 v2 v3 v4 = some rv → Rt l [] yX10_someMeet cX10_someMeet 6 (some .boolean) fr0 lo0 (g_SH, ad) [.ref (ad 16), .int v1, .int v2, .int v3, .int v4] σ (some (.int rv)) σ) (σ : St) (v1 : Int32) (v2 : Int32) (v3 : Int32) (v4 : Int32)  {rv : Int32} (h : fb_Telling_someMeet rec σ v1 v2 v3 v4 = some rv) : Rt l [] yX10_someMeet cX10_someMeet 6 (some .boolean) (fr0 + 1) (lo0 + 25) (g_SH, ad) [.ref (ad 16), .int v1, .int v2, .int v3, .int v4] σ (some (.int rv)) σ := by
  refine Rt.intro (L := [some (.ref (ad 16)), some (.int v1), some (.int v2), some (.int v3), some (.int v4), none]) (by decide +kernel) (Nat.le_of_ble_eq_true rfl) rfl (fun θ hl X hq => ?_)
  subst hl
  unfold fb_Telling_someMeet at h
  refine G_iload (pc := 0) X (dg dt_Telling_someMeet 0 rfl) rfl ?_
  refine G_if_gt (pc := 2) 11 X (dg dt_Telling_someMeet 1 rfl) (by decide) h (fun h => ?_) (fun h => ?_)
  · refine G_iload_n (pc := 11) 2 X (dg dt_Telling_someMeet 6 rfl) rfl rfl ?_
    refine G_istore (pc := 12) X (dg dt_Telling_someMeet 7 rfl) (Nat.le_of_ble_eq_true rfl) rfl ?_
    refine G_weak (L' := [some (.ref (ad 16)), some (.int v1), none, some (.int v3), some (.int v4), some (.int v2)]) ⟨rfl, ⟨rfl, ⟨rfl, ⟨rfl, ⟨rfl, trivial⟩⟩⟩⟩⟩ ?_
    refine s_Telling_someMeet_L14 hfr0 hlo0 hrec X hq   _ _ h
  · refine G_aload_n (pc := 5) 0 X (dg dt_Telling_someMeet 2 rfl) rfl rfl ?_
    refine G_iload_n (pc := 6) 3 X (dg dt_Telling_someMeet 3 rfl) rfl rfl ?_
    obtain ⟨r_4, hc_3, h⟩ := cap_go h
    refine G_callV (pc := 7) (S := []) [.int v3] nosub X  (dg dt_Telling_someMeet 4 rfl) cb_Telling_meetsAll cv_Telling_meetsAll w_785 (s_Telling_meetsAll _ ad _ _ hc_3) rfl ⟨by omega, by omega⟩ sh_16 rfl (Nat.le_of_ble_eq_true rfl) Rc0 ?_
    exact G_zretp (pc := 10) X hq (dg dt_Telling_someMeet 5 rfl) h
set_option maxRecDepth 100000 in
set_option maxHeartbeats 4000000 in
theorem s_Telling_someMeet (l : Launch) (ad : Nat → Nat) : ∀ (d : Nat) (σ : St) (v1 : Int32) (v2 : Int32) (v3 : Int32) (v4 : Int32)  {rv : Int32}, f_Telling_someMeet d σ v1 v2 v3 v4 = some rv → Rt l [] yX10_someMeet cX10_someMeet 6 (some .boolean) (1 + 1 * d) (22 + 25 * d) (g_SH, ad) [.ref (ad 16), .int v1, .int v2, .int v3, .int v4] σ (some (.int rv)) σ := by
  intro d
  induction d with
  | zero => intro σ v1 v2 v3 v4 rv h; rw [f_Telling_someMeet] at h; cases h
  | succ d ih =>
    intro σ v1 v2 v3 v4 rv h
    rw [f_Telling_someMeet] at h
    rw [show 1 + 1 * (d + 1) = (1 + 1 * d) + 1 by omega, show 22 + 25 * (d + 1) = (22 + 25 * d) + 25 by omega]
    exact sb_Telling_someMeet l ad (by omega) (by omega) (fun σ v1 v2 v3 v4 _ h => ih σ v1 v2 v3 v4 h) σ v1 v2 v3 v4 h
set_option maxRecDepth 100000 in
set_option maxHeartbeats 4000000 in
theorem s_Telling_fewestCells_L25 {θ : Th} {ad : Nat → Nat}  {rv : Int32} {σe : St} (X : Cx θ [] cX10_fewestCells 4 "Quasigrove$Telling" 45 1156)
    {v2 : Int32} {σ : St} (hq : Rq θ (g_SH, ad) (some .int) (some (.int rv)) σe) {kx41 : Int32 → Option (Int32 × St)} (hkx41 : ∀ (v3 : Int32), kx41 v3 = some (rv, σe) → G θ (0, 0) (g_SH, ad) σ 41 [none, none, none, some (.int v3)] []) {kx49 : Option (Int32 × St)} (hkx49 : kx49 = some (rv, σe) → G θ (0, 0) (g_SH, ad) σ 49 [none, none, some (.int v2), none] []) :
    ∀ (n : Nat) (v3 : Int32), f_Telling_fewestCells_L25 v2 σ kx41 kx49 n v3 = some (rv, σe) → G θ (0, 0) (g_SH, ad) σ 25 [some (.ref (ad 16)), none, some (.int v2), some (.int v3)] [] := by
  intro n
  induction n with
  | zero => intro v3 h; rw [f_Telling_fewestCells_L25] at h; cases h
  | succ n ih =>
    intro v3 h
    rw [f_Telling_fewestCells_L25] at h
    refine G_iload_n (pc := 25) 3 X (dg dt_Telling_fewestCells 17 rfl) rfl rfl ?_
    refine G_iload_n (pc := 26) 2 X (dg dt_Telling_fewestCells 18 rfl) rfl rfl ?_
    refine G_icmp_ge (pc := 27) 49 X (dg dt_Telling_fewestCells 19 rfl) (by decide) h (fun h => ?_) (fun h => ?_)
    · exact G_wk (hkx49  h) ⟨rfl, trivial⟩
    · refine G_aload_n (pc := 30) 0 X (dg dt_Telling_fewestCells 20 rfl) rfl rfl ?_
      refine G_iload_n (pc := 31) 2 X (dg dt_Telling_fewestCells 21 rfl) rfl rfl ?_
      refine G_iconst (pc := 32) 0 X (dg dt_Telling_fewestCells 22 rfl) (by decide) ?_
      refine G_iconst (pc := 33) 0 X (dg dt_Telling_fewestCells 23 rfl) (by decide) ?_
      refine G_iload_n (pc := 34) 3 X (dg dt_Telling_fewestCells 24 rfl) rfl rfl ?_
      obtain ⟨r_7, hc_6, h⟩ := cap_go h
      refine G_callS (pc := 35) (S := []) [.ref (ad 16), .int v2, .int 0, .int 0, .int v3] nosub X  (dg dt_Telling_fewestCells 25 rfl) cb_Telling_someMeet w_783 w_782 (s_Telling_someMeet _ ad DP _ _ _ _ _ hc_6) rfl ⟨Nat.le_of_ble_eq_true rfl, Nat.le_of_ble_eq_true rfl⟩  (Nat.le_of_ble_eq_true rfl) Rc0 ?_
      refine G_if_eq (pc := 38) 43 X (dg dt_Telling_fewestCells 26 rfl) (by decide) h (fun h => ?_) (fun h => ?_)
      · refine G_iinc (pc := 43) (v3 + 1) X (dg dt_Telling_fewestCells 29 rfl) rfl (Nat.le_of_ble_eq_true rfl) rfl rfl ?_
        refine G_goto (pc := 46) 25 X (dg dt_Telling_fewestCells 30 rfl) (by decide) ?_
        exact G_wk (ih (v3 + 1) h) ⟨rfl, ⟨rfl, ⟨rfl, trivial⟩⟩⟩
      · exact G_wk (hkx41 v3 h) ⟨rfl, trivial⟩
set_option maxRecDepth 100000 in
set_option maxHeartbeats 4000000 in
theorem s_Telling_fewestCells (l : Launch) (ad : Nat → Nat) (σ : St) (v1 : Nat) (hg_v1 : gok v1) {rv : Int32} {σe : St} (h : f_Telling_fewestCells σ v1 = some (rv, σe)) : Rt l [] yX10_fewestCells cX10_fewestCells 4 (some .int) 45 1156 (g_SH, ad) [.ref (ad 16), .ref (ad v1)] σ (some (.int rv)) σe := by
  refine Rt.intro (L := [some (.ref (ad 16)), some (.ref (ad v1)), none, none]) (by decide +kernel) (Nat.le_of_ble_eq_true rfl) rfl (fun θ hl X hq => ?_)
  subst hl
  unfold f_Telling_fewestCells at h
  refine G_aload_n (pc := 0) 1 X (dg dt_Telling_fewestCells 0 rfl) rfl rfl ?_
  refine G_getIN (pc := 1) 3 X (dg dt_Telling_fewestCells 1 rfl) fc_0 w_112 rfl (Nat.le_of_ble_eq_true rfl) (sh_g hg_v1) rfl ?_
  refine G_aload_n (pc := 4) 1 X (dg dt_Telling_fewestCells 2 rfl) rfl rfl ?_
  refine G_getIN (pc := 5) 3 X (dg dt_Telling_fewestCells 3 rfl) fc_0 w_112 rfl (Nat.le_of_ble_eq_true rfl) (sh_g hg_v1) rfl ?_
  refine G_imul (pc := 8) X (dg dt_Telling_fewestCells 4 rfl) ?_
  refine G_istore_n_lt (pc := 9) 2 X (dg dt_Telling_fewestCells 5 rfl) rfl (Nat.le_of_ble_eq_true rfl) rfl h (fun v2_1 h => ?_)
  refine G_aload_n (pc := 10) 0 X (dg dt_Telling_fewestCells 6 rfl) rfl rfl ?_
  refine G_iconst (pc := 11) 0 X (dg dt_Telling_fewestCells 7 rfl) (by decide) ?_
  refine G_put (pc := 12) 2 X (dg dt_Telling_fewestCells 8 rfl) fc_6 w_196 rfl (Nat.le_of_ble_eq_true rfl) rfl rfl sh_16 rfl h (fun σ_2 h => ?_)
  refine G_aload_n (pc := 15) 0 X (dg dt_Telling_fewestCells 9 rfl) rfl rfl ?_
  refine G_aload_n (pc := 16) 1 X (dg dt_Telling_fewestCells 10 rfl) rfl rfl ?_
  refine G_iconst (pc := 17) 0 X (dg dt_Telling_fewestCells 11 rfl) (by decide) ?_
  refine G_iconst (pc := 18) 0 X (dg dt_Telling_fewestCells 12 rfl) (by decide) ?_
  refine G_iconst (pc := 19) 0 X (dg dt_Telling_fewestCells 13 rfl) (by decide) ?_
  obtain ⟨r_4, σ_5, hc_3, h⟩ := cal_go h
  refine G_callS (pc := 20) (S := []) [.ref (ad 16), .ref (ad v1), .int 0, .int 0, .int 0] nosub X  (dg dt_Telling_fewestCells 14 rfl) cb_Telling_gather w_768 w_767 (s_Telling_gather _ ad DP _ _ _ _ _ hg_v1 hc_3) rfl ⟨Nat.le_of_ble_eq_true rfl, Nat.le_of_ble_eq_true rfl⟩  (Nat.le_of_ble_eq_true rfl) Rc0 ?_
  refine G_iconst (pc := 23) 0 X (dg dt_Telling_fewestCells 15 rfl) (by decide) ?_
  refine G_istore_n (pc := 24) 3 X (dg dt_Telling_fewestCells 16 rfl) rfl (Nat.le_of_ble_eq_true rfl) rfl ?_
  refine G_weak (L' := [some (.ref (ad 16)), none, some (.int v2_1), some (.int 0)]) ⟨rfl, ⟨rfl, ⟨rfl, trivial⟩⟩⟩ ?_
  refine s_Telling_fewestCells_L25  X hq  (fun v3_8 h => ?_) (fun h => ?_) _ _ h
  · refine G_iload_n (pc := 41) 3 X (dg dt_Telling_fewestCells 27 rfl) rfl rfl ?_
    exact G_iret (pc := 42) X hq (dg dt_Telling_fewestCells 28 rfl) h
  · refine G_iload_n (pc := 49) 2 X (dg dt_Telling_fewestCells 31 rfl) rfl rfl ?_
    exact G_iret (pc := 50) X hq (dg dt_Telling_fewestCells 32 rfl) h
set_option maxRecDepth 100000 in
set_option maxHeartbeats 4000000 in
theorem s_Filling_isAloneInRow_L3 {θ : Th} {ad : Nat → Nat}  {rv : Int32} (X : Cx θ [] cX0_isAloneInRow 5 "Quasigrove$Filling" 3 65)
    {v0 : Nat} {v1 : Int32} {v2 : Int32} {v3 : Int32} {σ : St} (hq : Rq θ (g_SH, ad) (some .boolean) (some (.int rv)) σ) (hg_v0 : gok v0) :
    ∀ (n : Nat) (v4 : Int32), f_Filling_isAloneInRow_L3 v0 v1 v2 v3 σ n v4 = some rv → G θ (0, 0) (g_SH, ad) σ 3 [some (.ref (ad v0)), some (.int v1), some (.int v2), some (.int v3), some (.int v4)] [] := by
  intro n
  induction n with
  | zero => intro v4 h; rw [f_Filling_isAloneInRow_L3] at h; cases h
  | succ n ih =>
    intro v4 h
    rw [f_Filling_isAloneInRow_L3] at h
    refine G_iload (pc := 3) X (dg dt_Filling_isAloneInRow 2 rfl) rfl ?_
    refine G_aload_n (pc := 5) 0 X (dg dt_Filling_isAloneInRow 3 rfl) rfl rfl ?_
    refine G_getIN (pc := 6) 3 X (dg dt_Filling_isAloneInRow 4 rfl) fc_0 w_117 rfl (Nat.le_of_ble_eq_true rfl) (sh_g hg_v0) rfl ?_
    refine G_icmp_ge (pc := 9) 40 X (dg dt_Filling_isAloneInRow 5 rfl) (by decide) h (fun h => ?_) (fun h => ?_)
    · refine G_iconst (pc := 40) 1 X (dg dt_Filling_isAloneInRow 20 rfl) (by decide) ?_
      exact G_zretlp (pc := 41) X hq (dg dt_Filling_isAloneInRow 21 rfl) rfl h
    · refine G_iload (pc := 12) X (dg dt_Filling_isAloneInRow 6 rfl) rfl ?_
      refine G_iload_n (pc := 14) 2 X (dg dt_Filling_isAloneInRow 7 rfl) rfl rfl ?_
      refine jn_go (fun j34_1 => j34_1 = some rv → G θ (0, 0) (g_SH, ad) σ 34 [some (.ref (ad v0)), some (.int v1), some (.int v2), some (.int v3), some (.int v4)] []) h ?_ (fun j34_1 hj34_1 h => ?_)
      · intro  h
        refine G_iinc (pc := 34) (v4 + 1) X (dg dt_Filling_isAloneInRow 18 rfl) rfl (Nat.le_of_ble_eq_true rfl) rfl rfl ?_
        refine G_goto (pc := 37) 3 X (dg dt_Filling_isAloneInRow 19 rfl) (by decide) ?_
        exact G_wk (ih (v4 + 1) h) ⟨rfl, ⟨rfl, ⟨rfl, ⟨rfl, ⟨rfl, trivial⟩⟩⟩⟩⟩
      refine G_icmp_eq (pc := 15) 34 X (dg dt_Filling_isAloneInRow 8 rfl) (by decide) h (fun h => ?_) (fun h => ?_)
      · exact G_wk (hj34_1  h) ⟨rfl, ⟨rfl, ⟨rfl, ⟨rfl, ⟨rfl, trivial⟩⟩⟩⟩⟩
      · refine G_aload_n (pc := 18) 0 X (dg dt_Filling_isAloneInRow 9 rfl) rfl rfl ?_
        refine G_iload_n (pc := 19) 1 X (dg dt_Filling_isAloneInRow 10 rfl) rfl rfl ?_
        refine G_iload (pc := 20) X (dg dt_Filling_isAloneInRow 11 rfl) rfl ?_
        obtain ⟨r_3, hc_2, h⟩ := cap_go h
        refine G_callV (pc := 22) (S := []) [.int v1, .int v4] nosub X  (dg dt_Filling_isAloneInRow 12 rfl) cb_Grid_optionsAt cv_Grid_optionsAt w_643 (s_Grid_optionsAt _ ad _ _ _ _ hg_v0 hc_2) rfl ⟨Nat.le_of_ble_eq_true rfl, Nat.le_of_ble_eq_true rfl⟩ (sh_g hg_v0) rfl (Nat.le_of_ble_eq_true rfl) Rc0 ?_
        refine G_iload_n (pc := 25) 3 X (dg dt_Filling_isAloneInRow 13 rfl) rfl rfl ?_
        obtain ⟨r_5, hc_4, h⟩ := cap_go h
        refine G_callSN (pc := 26) (S := []) [.int r_3, .int v3] nosub X  (dg dt_Filling_isAloneInRow 14 rfl) cb_Q_isIn w_496 w_651 (s_Q_isIn _ ad _ _ _ hc_4) rfl ⟨Nat.le_of_ble_eq_true rfl, Nat.le_of_ble_eq_true rfl⟩  (Nat.le_of_ble_eq_true rfl) Rc0 ?_
        refine G_if_eq (pc := 29) 34 X (dg dt_Filling_isAloneInRow 15 rfl) (by decide) h (fun h => ?_) (fun h => ?_)
        · exact G_wk (hj34_1  h) ⟨rfl, ⟨rfl, ⟨rfl, ⟨rfl, ⟨rfl, trivial⟩⟩⟩⟩⟩
        · refine G_iconst (pc := 32) 0 X (dg dt_Filling_isAloneInRow 16 rfl) (by decide) ?_
          exact G_zretlp (pc := 33) X hq (dg dt_Filling_isAloneInRow 17 rfl) rfl h
set_option maxRecDepth 100000 in
set_option maxHeartbeats 4000000 in
theorem s_Filling_isAloneInRow (l : Launch) (ad : Nat → Nat) (σ : St) (v0 : Nat) (v1 : Int32) (v2 : Int32) (v3 : Int32) (hg_v0 : gok v0) {rv : Int32} (h : f_Filling_isAloneInRow σ v0 v1 v2 v3 = some rv) : Rt l [] yX0_isAloneInRow cX0_isAloneInRow 5 (some .boolean) 3 65 (g_SH, ad) [.ref (ad v0), .int v1, .int v2, .int v3] σ (some (.int rv)) σ := by
  refine Rt.intro (L := [some (.ref (ad v0)), some (.int v1), some (.int v2), some (.int v3), none]) (by decide +kernel) (Nat.le_of_ble_eq_true rfl) rfl (fun θ hl X hq => ?_)
  subst hl
  unfold f_Filling_isAloneInRow at h
  refine G_iconst (pc := 0) 0 X (dg dt_Filling_isAloneInRow 0 rfl) (by decide) ?_
  refine G_istore (pc := 1) X (dg dt_Filling_isAloneInRow 1 rfl) (Nat.le_of_ble_eq_true rfl) rfl ?_
  refine G_weak (L' := [some (.ref (ad v0)), some (.int v1), some (.int v2), some (.int v3), some (.int 0)]) ⟨rfl, ⟨rfl, ⟨rfl, ⟨rfl, ⟨rfl, trivial⟩⟩⟩⟩⟩ ?_
  refine s_Filling_isAloneInRow_L3  X hq hg_v0  _ _ h
set_option maxRecDepth 100000 in
set_option maxHeartbeats 4000000 in
theorem s_Filling_isAloneInColumn_L3 {θ : Th} {ad : Nat → Nat}  {rv : Int32} (X : Cx θ [] cX0_isAloneInColumn 5 "Quasigrove$Filling" 3 65)
    {v0 : Nat} {v1 : Int32} {v2 : Int32} {v3 : Int32} {σ : St} (hq : Rq θ (g_SH, ad) (some .boolean) (some (.int rv)) σ) (hg_v0 : gok v0) :
    ∀ (n : Nat) (v4 : Int32), f_Filling_isAloneInColumn_L3 v0 v1 v2 v3 σ n v4 = some rv → G θ (0, 0) (g_SH, ad) σ 3 [some (.ref (ad v0)), some (.int v1), some (.int v2), some (.int v3), some (.int v4)] [] := by
  intro n
  induction n with
  | zero => intro v4 h; rw [f_Filling_isAloneInColumn_L3] at h; cases h
  | succ n ih =>
    intro v4 h
    rw [f_Filling_isAloneInColumn_L3] at h
    refine G_iload (pc := 3) X (dg dt_Filling_isAloneInColumn 2 rfl) rfl ?_
    refine G_aload_n (pc := 5) 0 X (dg dt_Filling_isAloneInColumn 3 rfl) rfl rfl ?_
    refine G_getIN (pc := 6) 3 X (dg dt_Filling_isAloneInColumn 4 rfl) fc_0 w_117 rfl (Nat.le_of_ble_eq_true rfl) (sh_g hg_v0) rfl ?_
    refine G_icmp_ge (pc := 9) 40 X (dg dt_Filling_isAloneInColumn 5 rfl) (by decide) h (fun h => ?_) (fun h => ?_)
    · refine G_iconst (pc := 40) 1 X (dg dt_Filling_isAloneInColumn 20 rfl) (by decide) ?_
      exact G_zretlp (pc := 41) X hq (dg dt_Filling_isAloneInColumn 21 rfl) rfl h
    · refine G_iload (pc := 12) X (dg dt_Filling_isAloneInColumn 6 rfl) rfl ?_
      refine G_iload_n (pc := 14) 1 X (dg dt_Filling_isAloneInColumn 7 rfl) rfl rfl ?_
      refine jn_go (fun j34_1 => j34_1 = some rv → G θ (0, 0) (g_SH, ad) σ 34 [some (.ref (ad v0)), some (.int v1), some (.int v2), some (.int v3), some (.int v4)] []) h ?_ (fun j34_1 hj34_1 h => ?_)
      · intro  h
        refine G_iinc (pc := 34) (v4 + 1) X (dg dt_Filling_isAloneInColumn 18 rfl) rfl (Nat.le_of_ble_eq_true rfl) rfl rfl ?_
        refine G_goto (pc := 37) 3 X (dg dt_Filling_isAloneInColumn 19 rfl) (by decide) ?_
        exact G_wk (ih (v4 + 1) h) ⟨rfl, ⟨rfl, ⟨rfl, ⟨rfl, ⟨rfl, trivial⟩⟩⟩⟩⟩
      refine G_icmp_eq (pc := 15) 34 X (dg dt_Filling_isAloneInColumn 8 rfl) (by decide) h (fun h => ?_) (fun h => ?_)
      · exact G_wk (hj34_1  h) ⟨rfl, ⟨rfl, ⟨rfl, ⟨rfl, ⟨rfl, trivial⟩⟩⟩⟩⟩
      · refine G_aload_n (pc := 18) 0 X (dg dt_Filling_isAloneInColumn 9 rfl) rfl rfl ?_
        refine G_iload (pc := 19) X (dg dt_Filling_isAloneInColumn 10 rfl) rfl ?_
        refine G_iload_n (pc := 21) 2 X (dg dt_Filling_isAloneInColumn 11 rfl) rfl rfl ?_
        obtain ⟨r_3, hc_2, h⟩ := cap_go h
        refine G_callV (pc := 22) (S := []) [.int v4, .int v2] nosub X  (dg dt_Filling_isAloneInColumn 12 rfl) cb_Grid_optionsAt cv_Grid_optionsAt w_643 (s_Grid_optionsAt _ ad _ _ _ _ hg_v0 hc_2) rfl ⟨Nat.le_of_ble_eq_true rfl, Nat.le_of_ble_eq_true rfl⟩ (sh_g hg_v0) rfl (Nat.le_of_ble_eq_true rfl) Rc0 ?_
        refine G_iload_n (pc := 25) 3 X (dg dt_Filling_isAloneInColumn 13 rfl) rfl rfl ?_
        obtain ⟨r_5, hc_4, h⟩ := cap_go h
        refine G_callSN (pc := 26) (S := []) [.int r_3, .int v3] nosub X  (dg dt_Filling_isAloneInColumn 14 rfl) cb_Q_isIn w_496 w_651 (s_Q_isIn _ ad _ _ _ hc_4) rfl ⟨Nat.le_of_ble_eq_true rfl, Nat.le_of_ble_eq_true rfl⟩  (Nat.le_of_ble_eq_true rfl) Rc0 ?_
        refine G_if_eq (pc := 29) 34 X (dg dt_Filling_isAloneInColumn 15 rfl) (by decide) h (fun h => ?_) (fun h => ?_)
        · exact G_wk (hj34_1  h) ⟨rfl, ⟨rfl, ⟨rfl, ⟨rfl, ⟨rfl, trivial⟩⟩⟩⟩⟩
        · refine G_iconst (pc := 32) 0 X (dg dt_Filling_isAloneInColumn 16 rfl) (by decide) ?_
          exact G_zretlp (pc := 33) X hq (dg dt_Filling_isAloneInColumn 17 rfl) rfl h
set_option maxRecDepth 100000 in
set_option maxHeartbeats 4000000 in
theorem s_Filling_isAloneInColumn (l : Launch) (ad : Nat → Nat) (σ : St) (v0 : Nat) (v1 : Int32) (v2 : Int32) (v3 : Int32) (hg_v0 : gok v0) {rv : Int32} (h : f_Filling_isAloneInColumn σ v0 v1 v2 v3 = some rv) : Rt l [] yX0_isAloneInColumn cX0_isAloneInColumn 5 (some .boolean) 3 65 (g_SH, ad) [.ref (ad v0), .int v1, .int v2, .int v3] σ (some (.int rv)) σ := by
  refine Rt.intro (L := [some (.ref (ad v0)), some (.int v1), some (.int v2), some (.int v3), none]) (by decide +kernel) (Nat.le_of_ble_eq_true rfl) rfl (fun θ hl X hq => ?_)
  subst hl
  unfold f_Filling_isAloneInColumn at h
  refine G_iconst (pc := 0) 0 X (dg dt_Filling_isAloneInColumn 0 rfl) (by decide) ?_
  refine G_istore (pc := 1) X (dg dt_Filling_isAloneInColumn 1 rfl) (Nat.le_of_ble_eq_true rfl) rfl ?_
  refine G_weak (L' := [some (.ref (ad v0)), some (.int v1), some (.int v2), some (.int v3), some (.int 0)]) ⟨rfl, ⟨rfl, ⟨rfl, ⟨rfl, ⟨rfl, trivial⟩⟩⟩⟩⟩ ?_
  refine s_Filling_isAloneInColumn_L3  X hq hg_v0  _ _ h
set_option maxRecDepth 100000 in
set_option maxHeartbeats 4000000 in
theorem s_Filling_isForced (l : Launch) (ad : Nat → Nat) (σ : St) (v0 : Nat) (v1 : Int32) (v2 : Int32) (v3 : Int32) (hg_v0 : gok v0) {rv : Int32} (h : f_Filling_isForced σ v0 v1 v2 v3 = some rv) : Rt l [] yX0_isForced cX0_isForced 5 (some .boolean) 4 89 (g_SH, ad) [.ref (ad v0), .int v1, .int v2, .int v3] σ (some (.int rv)) σ := by
  refine Rt.intro (L := [some (.ref (ad v0)), some (.int v1), some (.int v2), some (.int v3), none]) (by decide +kernel) (Nat.le_of_ble_eq_true rfl) rfl (fun θ hl X hq => ?_)
  subst hl
  unfold f_Filling_isForced at h
  refine G_aload_n (pc := 0) 0 X (dg dt_Filling_isForced 0 rfl) rfl rfl ?_
  refine G_iload_n (pc := 1) 1 X (dg dt_Filling_isForced 1 rfl) rfl rfl ?_
  refine G_iload_n (pc := 2) 2 X (dg dt_Filling_isForced 2 rfl) rfl rfl ?_
  obtain ⟨r_2, hc_1, h⟩ := cap_go h
  refine G_callV (pc := 3) (S := []) [.int v1, .int v2] nosub X  (dg dt_Filling_isForced 3 rfl) cb_Grid_optionsAt cv_Grid_optionsAt w_643 (s_Grid_optionsAt _ ad _ _ _ _ hg_v0 hc_1) rfl ⟨Nat.le_of_ble_eq_true rfl, Nat.le_of_ble_eq_true rfl⟩ (sh_g hg_v0) rfl (Nat.le_of_ble_eq_true rfl) Rc0 ?_
  refine G_istore (pc := 6) X (dg dt_Filling_isForced 4 rfl) (Nat.le_of_ble_eq_true rfl) rfl ?_
  refine G_iload (pc := 8) X (dg dt_Filling_isForced 5 rfl) rfl ?_
  refine G_iload_n (pc := 10) 3 X (dg dt_Filling_isForced 6 rfl) rfl rfl ?_
  obtain ⟨r_4, hc_3, h⟩ := cap_go h
  refine G_callSN (pc := 11) (S := []) [.int r_2, .int v3] nosub X  (dg dt_Filling_isForced 7 rfl) cb_Q_isIn w_496 w_651 (s_Q_isIn _ ad _ _ _ hc_3) rfl ⟨Nat.le_of_ble_eq_true rfl, Nat.le_of_ble_eq_true rfl⟩  (Nat.le_of_ble_eq_true rfl) Rc0 ?_
  refine jn_go (fun j49_5 => j49_5 = some rv → G θ (0, 0) (g_SH, ad) σ 49 [none, none, none, none, none] []) h ?_ (fun j49_5 hj49_5 h => ?_)
  · intro  h
    refine G_iconst (pc := 49) 0 X (dg dt_Filling_isForced 28 rfl) (by decide) ?_
    exact G_zretlp (pc := 50) X hq (dg dt_Filling_isForced 29 rfl) rfl h
  refine G_if_eq (pc := 14) 49 X (dg dt_Filling_isForced 8 rfl) (by decide) h (fun h => ?_) (fun h => ?_)
  · exact G_wk (hj49_5  h) trivial
  · refine G_iload (pc := 17) X (dg dt_Filling_isForced 9 rfl) rfl ?_
    refine G_iconst (pc := 19) 1 X (dg dt_Filling_isForced 10 rfl) (by decide) ?_
    refine G_iload_n (pc := 20) 3 X (dg dt_Filling_isForced 11 rfl) rfl rfl ?_
    refine G_ishl (pc := 21) X (dg dt_Filling_isForced 12 rfl) ?_
    refine jn_go (fun j45_6 => j45_6 = some rv → G θ (0, 0) (g_SH, ad) σ 45 [none, none, none, none, none] []) h ?_ (fun j45_6 hj45_6 h => ?_)
    · intro  h
      refine G_iconst (pc := 45) 1 X (dg dt_Filling_isForced 26 rfl) (by decide) ?_
      refine G_goto (pc := 46) 50 X (dg dt_Filling_isForced 27 rfl) (by decide) ?_
      exact G_zretlp (pc := 50) X hq (dg dt_Filling_isForced 29 rfl) rfl h
    refine G_icmp_eq (pc := 22) 45 X (dg dt_Filling_isForced 13 rfl) (by decide) h (fun h => ?_) (fun h => ?_)
    · exact G_wk (hj45_6  h) trivial
    · refine G_aload_n (pc := 25) 0 X (dg dt_Filling_isForced 14 rfl) rfl rfl ?_
      refine G_iload_n (pc := 26) 1 X (dg dt_Filling_isForced 15 rfl) rfl rfl ?_
      refine G_iload_n (pc := 27) 2 X (dg dt_Filling_isForced 16 rfl) rfl rfl ?_
      refine G_iload_n (pc := 28) 3 X (dg dt_Filling_isForced 17 rfl) rfl rfl ?_
      obtain ⟨r_8, hc_7, h⟩ := cap_go h
      refine G_callS (pc := 29) (S := []) [.ref (ad v0), .int v1, .int v2, .int v3] nosub X  (dg dt_Filling_isForced 18 rfl) cb_Filling_isAloneInRow w_722 w_721 (s_Filling_isAloneInRow _ ad _ _ _ _ _ hg_v0 hc_7) rfl ⟨Nat.le_of_ble_eq_true rfl, Nat.le_of_ble_eq_true rfl⟩  (Nat.le_of_ble_eq_true rfl) Rc0 ?_
      refine G_if_ne (pc := 32) 45 X (dg dt_Filling_isForced 19 rfl) (by decide) h (fun h => ?_) (fun h => ?_)
      · exact G_wk (hj45_6  h) trivial
      · refine G_aload_n (pc := 35) 0 X (dg dt_Filling_isForced 20 rfl) rfl rfl ?_
        refine G_iload_n (pc := 36) 1 X (dg dt_Filling_isForced 21 rfl) rfl rfl ?_
        refine G_iload_n (pc := 37) 2 X (dg dt_Filling_isForced 22 rfl) rfl rfl ?_
        refine G_iload_n (pc := 38) 3 X (dg dt_Filling_isForced 23 rfl) rfl rfl ?_
        obtain ⟨r_10, hc_9, h⟩ := cap_go h
        refine G_callS (pc := 39) (S := []) [.ref (ad v0), .int v1, .int v2, .int v3] nosub X  (dg dt_Filling_isForced 24 rfl) cb_Filling_isAloneInColumn w_725 w_724 (s_Filling_isAloneInColumn _ ad _ _ _ _ _ hg_v0 hc_9) rfl ⟨Nat.le_of_ble_eq_true rfl, Nat.le_of_ble_eq_true rfl⟩  (Nat.le_of_ble_eq_true rfl) Rc0 ?_
        refine G_if_eq (pc := 42) 49 X (dg dt_Filling_isForced 25 rfl) (by decide) h (fun h => ?_) (fun h => ?_)
        · exact G_wk (hj49_5  h) trivial
        · exact G_wk (hj45_6  h) trivial
set_option maxRecDepth 100000 in
set_option maxHeartbeats 4000000 in
theorem s_Filling_firstForced_L22 {θ : Th} {ad : Nat → Nat}  {rv : Int32} (X : Cx θ [] cX0_firstForced 4 "Quasigrove$Filling" 5 113)
    {v0 : Nat} {v1 : Int32} {v2 : Int32} {σ : St} (hq : Rq θ (g_SH, ad) (some .int) (some (.int rv)) σ) (hg_v0 : gok v0) {kx40 : Int32 → Option Int32} (hkx40 : ∀ (v3 : Int32), kx40 v3 = some rv → G θ (0, 0) (g_SH, ad) σ 40 [none, some (.int v1), some (.int v2), some (.int v3)] []) {kx53 : Option Int32} (hkx53 : kx53 = some rv → G θ (0, 0) (g_SH, ad) σ 53 [some (.ref (ad v0)), some (.int v1), some (.int v2), none] []) :
    ∀ (n : Nat) (v3 : Int32), f_Filling_firstForced_L22 v0 v1 v2 σ kx40 kx53 n v3 = some rv → G θ (0, 0) (g_SH, ad) σ 22 [some (.ref (ad v0)), some (.int v1), some (.int v2), some (.int v3)] [] := by
  intro n
  induction n with
  | zero => intro v3 h; rw [f_Filling_firstForced_L22] at h; cases h
  | succ n ih =>
    intro v3 h
    rw [f_Filling_firstForced_L22] at h
    refine G_iload_n (pc := 22) 3 X (dg dt_Filling_firstForced 14 rfl) rfl rfl ?_
    refine G_aload_n (pc := 23) 0 X (dg dt_Filling_firstForced 15 rfl) rfl rfl ?_
    refine G_getIN (pc := 24) 3 X (dg dt_Filling_firstForced 16 rfl) fc_0 w_117 rfl (Nat.le_of_ble_eq_true rfl) (sh_g hg_v0) rfl ?_
    refine G_icmp_ge (pc := 27) 53 X (dg dt_Filling_firstForced 17 rfl) (by decide) h (fun h => ?_) (fun h => ?_)
    · exact G_wk (hkx53  h) ⟨rfl, ⟨rfl, ⟨rfl, trivial⟩⟩⟩
    · refine G_aload_n (pc := 30) 0 X (dg dt_Filling_firstForced 18 rfl) rfl rfl ?_
      refine G_iload_n (pc := 31) 1 X (dg dt_Filling_firstForced 19 rfl) rfl rfl ?_
      refine G_iload_n (pc := 32) 2 X (dg dt_Filling_firstForced 20 rfl) rfl rfl ?_
      refine G_iload_n (pc := 33) 3 X (dg dt_Filling_firstForced 21 rfl) rfl rfl ?_
      obtain ⟨r_2, hc_1, h⟩ := cap_go h
      refine G_callS (pc := 34) (S := []) [.ref (ad v0), .int v1, .int v2, .int v3] nosub X  (dg dt_Filling_firstForced 22 rfl) cb_Filling_isForced w_719 w_718 (s_Filling_isForced _ ad _ _ _ _ _ hg_v0 hc_1) rfl ⟨Nat.le_of_ble_eq_true rfl, Nat.le_of_ble_eq_true rfl⟩  (Nat.le_of_ble_eq_true rfl) Rc0 ?_
      refine G_if_eq (pc := 37) 47 X (dg dt_Filling_firstForced 23 rfl) (by decide) h (fun h => ?_) (fun h => ?_)
      · refine G_iinc (pc := 47) (v3 + 1) X (dg dt_Filling_firstForced 29 rfl) rfl (Nat.le_of_ble_eq_true rfl) rfl rfl ?_
        refine G_goto (pc := 50) 22 X (dg dt_Filling_firstForced 30 rfl) (by decide) ?_
        exact G_wk (ih (v3 + 1) h) ⟨rfl, ⟨rfl, ⟨rfl, ⟨rfl, trivial⟩⟩⟩⟩
      · exact G_wk (hkx40 v3 h) ⟨rfl, ⟨rfl, ⟨rfl, trivial⟩⟩⟩
set_option maxRecDepth 100000 in
set_option maxHeartbeats 4000000 in
theorem s_Filling_firstForced_L12 {θ : Th} {ad : Nat → Nat}  {rv : Int32} (X : Cx θ [] cX0_firstForced 4 "Quasigrove$Filling" 5 113)
    {v0 : Nat} {v1 : Int32} {σ : St} (hq : Rq θ (g_SH, ad) (some .int) (some (.int rv)) σ) (hg_v0 : gok v0) {kx40 : Int32 → Int32 → Option Int32} (hkx40 : ∀ (v2 : Int32) (v3 : Int32), kx40 v2 v3 = some rv → G θ (0, 0) (g_SH, ad) σ 40 [none, some (.int v1), some (.int v2), some (.int v3)] []) {kx59 : Option Int32} (hkx59 : kx59 = some rv → G θ (0, 0) (g_SH, ad) σ 59 [some (.ref (ad v0)), some (.int v1), none, none] []) :
    ∀ (n : Nat) (v2 : Int32), f_Filling_firstForced_L12 v0 v1 σ kx40 kx59 n v2 = some rv → G θ (0, 0) (g_SH, ad) σ 12 [some (.ref (ad v0)), some (.int v1), some (.int v2), none] [] := by
  intro n
  induction n with
  | zero => intro v2 h; rw [f_Filling_firstForced_L12] at h; cases h
  | succ n ih =>
    intro v2 h
    rw [f_Filling_firstForced_L12] at h
    refine G_iload_n (pc := 12) 2 X (dg dt_Filling_firstForced 8 rfl) rfl rfl ?_
    refine G_aload_n (pc := 13) 0 X (dg dt_Filling_firstForced 9 rfl) rfl rfl ?_
    refine G_getIN (pc := 14) 3 X (dg dt_Filling_firstForced 10 rfl) fc_0 w_117 rfl (Nat.le_of_ble_eq_true rfl) (sh_g hg_v0) rfl ?_
    refine G_icmp_ge (pc := 17) 59 X (dg dt_Filling_firstForced 11 rfl) (by decide) h (fun h => ?_) (fun h => ?_)
    · exact G_wk (hkx59  h) ⟨rfl, ⟨rfl, trivial⟩⟩
    · refine G_iconst (pc := 20) 0 X (dg dt_Filling_firstForced 12 rfl) (by decide) ?_
      refine G_istore_n (pc := 21) 3 X (dg dt_Filling_firstForced 13 rfl) rfl (Nat.le_of_ble_eq_true rfl) rfl ?_
      refine G_weak (L' := [some (.ref (ad v0)), some (.int v1), some (.int v2), some (.int 0)]) ⟨rfl, ⟨rfl, ⟨rfl, ⟨rfl, trivial⟩⟩⟩⟩ ?_
      refine s_Filling_firstForced_L22  X hq hg_v0 (fun v3_3 h => ?_) (fun h => ?_) _ _ h
      · exact G_wk (hkx40 v2 v3_3 h) ⟨rfl, ⟨rfl, ⟨rfl, trivial⟩⟩⟩
      · refine G_iinc (pc := 53) (v2 + 1) X (dg dt_Filling_firstForced 31 rfl) rfl (Nat.le_of_ble_eq_true rfl) rfl rfl ?_
        refine G_goto (pc := 56) 12 X (dg dt_Filling_firstForced 32 rfl) (by decide) ?_
        exact G_wk (ih (v2 + 1) h) ⟨rfl, ⟨rfl, ⟨rfl, trivial⟩⟩⟩
set_option maxRecDepth 100000 in
set_option maxHeartbeats 4000000 in
theorem s_Filling_firstForced_L2 {θ : Th} {ad : Nat → Nat}  {rv : Int32} (X : Cx θ [] cX0_firstForced 4 "Quasigrove$Filling" 5 113)
    {v0 : Nat} {σ : St} (hq : Rq θ (g_SH, ad) (some .int) (some (.int rv)) σ) (hg_v0 : gok v0) {kx40 : Int32 → Int32 → Int32 → Option Int32} (hkx40 : ∀ (v1 : Int32) (v2 : Int32) (v3 : Int32), kx40 v1 v2 v3 = some rv → G θ (0, 0) (g_SH, ad) σ 40 [none, some (.int v1), some (.int v2), some (.int v3)] []) :
    ∀ (n : Nat) (v1 : Int32), f_Filling_firstForced_L2 v0 σ kx40 n v1 = some rv → G θ (0, 0) (g_SH, ad) σ 2 [some (.ref (ad v0)), some (.int v1), none, none] [] := by
  intro n
  induction n with
  | zero => intro v1 h; rw [f_Filling_firstForced_L2] at h; cases h
  | succ n ih =>
    intro v1 h
    rw [f_Filling_firstForced_L2] at h
    refine G_iload_n (pc := 2) 1 X (dg dt_Filling_firstForced 2 rfl) rfl rfl ?_
    refine G_aload_n (pc := 3) 0 X (dg dt_Filling_firstForced 3 rfl) rfl rfl ?_
    refine G_getIN (pc := 4) 3 X (dg dt_Filling_firstForced 4 rfl) fc_0 w_117 rfl (Nat.le_of_ble_eq_true rfl) (sh_g hg_v0) rfl ?_
    refine G_icmp_ge (pc := 7) 65 X (dg dt_Filling_firstForced 5 rfl) (by decide) h (fun h => ?_) (fun h => ?_)
    · refine G_iconst (pc := 65) (-1) X (dg dt_Filling_firstForced 35 rfl) (by decide) ?_
      exact G_iretp (pc := 66) X hq (dg dt_Filling_firstForced 36 rfl) h
    · refine G_iconst (pc := 10) 0 X (dg dt_Filling_firstForced 6 rfl) (by decide) ?_
      refine G_istore_n (pc := 11) 2 X (dg dt_Filling_firstForced 7 rfl) rfl (Nat.le_of_ble_eq_true rfl) rfl ?_
      refine G_weak (L' := [some (.ref (ad v0)), some (.int v1), some (.int 0), none]) ⟨rfl, ⟨rfl, ⟨rfl, trivial⟩⟩⟩ ?_
      refine s_Filling_firstForced_L12  X hq hg_v0 (fun v2_4 v3_5 h => ?_) (fun h => ?_) _ _ h
      · exact G_wk (hkx40 v1 v2_4 v3_5 h) ⟨rfl, ⟨rfl, ⟨rfl, trivial⟩⟩⟩
      · refine G_iinc (pc := 59) (v1 + 1) X (dg dt_Filling_firstForced 33 rfl) rfl (Nat.le_of_ble_eq_true rfl) rfl rfl ?_
        refine G_goto (pc := 62) 2 X (dg dt_Filling_firstForced 34 rfl) (by decide) ?_
        exact G_wk (ih (v1 + 1) h) ⟨rfl, ⟨rfl, trivial⟩⟩
set_option maxRecDepth 100000 in
set_option maxHeartbeats 4000000 in
theorem s_Filling_firstForced (l : Launch) (ad : Nat → Nat) (σ : St) (v0 : Nat) (hg_v0 : gok v0) {rv : Int32} (h : f_Filling_firstForced σ v0 = some rv) : Rt l [] yX0_firstForced cX0_firstForced 4 (some .int) 5 113 (g_SH, ad) [.ref (ad v0)] σ (some (.int rv)) σ := by
  refine Rt.intro (L := [some (.ref (ad v0)), none, none, none]) (by decide +kernel) (Nat.le_of_ble_eq_true rfl) rfl (fun θ hl X hq => ?_)
  subst hl
  unfold f_Filling_firstForced at h
  refine G_iconst (pc := 0) 0 X (dg dt_Filling_firstForced 0 rfl) (by decide) ?_
  refine G_istore_n (pc := 1) 1 X (dg dt_Filling_firstForced 1 rfl) rfl (Nat.le_of_ble_eq_true rfl) rfl ?_
  refine G_weak (L' := [some (.ref (ad v0)), some (.int 0), none, none]) ⟨rfl, ⟨rfl, trivial⟩⟩ ?_
  refine s_Filling_firstForced_L2  X hq hg_v0 (fun v1_6 v2_7 v3_8 h => ?_) _ _ h
  refine G_iload_n (pc := 40) 1 X (dg dt_Filling_firstForced 24 rfl) rfl rfl ?_
  refine G_iload_n (pc := 41) 2 X (dg dt_Filling_firstForced 25 rfl) rfl rfl ?_
  refine G_iload_n (pc := 42) 3 X (dg dt_Filling_firstForced 26 rfl) rfl rfl ?_
  obtain ⟨r_10, hc_9, h⟩ := cap_go h
  refine G_callS (pc := 43) (S := []) [.int v1_6, .int v2_7, .int v3_8] nosub X  (dg dt_Filling_firstForced 27 rfl) cb_Move_packed w_728 w_727 (s_Move_packed _ ad _ _ _ _ hc_9) rfl ⟨Nat.le_of_ble_eq_true rfl, Nat.le_of_ble_eq_true rfl⟩  (Nat.le_of_ble_eq_true rfl) Rc0 ?_
  exact G_iretp (pc := 46) X hq (dg dt_Filling_firstForced 28 rfl) h
set_option maxRecDepth 100000 in
set_option maxHeartbeats 4000000 in
theorem s_Filling_fillForced_L7 {θ : Th} {ad : Nat → Nat}  {rv : Int32} {σe : St} (X : Cx θ [] cX0_fillForced 3 "Quasigrove$Filling" 6 136)
    {v0 : Nat} (hq : Rq θ (g_SH, ad) (some .int) (some (.int rv)) σe) (hg_v0 : gok v0) {kx45 : Int32 → St → Option (Int32 × St)} (hkx45 : ∀ (v1 : Int32) (σ : St), kx45 v1 σ = some (rv, σe) → G θ (0, 0) (g_SH, ad) σ 45 [none, some (.int v1), none] []) :
    ∀ (n : Nat) (v1 : Int32) (v2 : Int32) (σ : St), f_Filling_fillForced_L7 v0 kx45 n v1 v2 σ = some (rv, σe) → G θ (0, 0) (g_SH, ad) σ 7 [some (.ref (ad v0)), some (.int v1), some (.int v2)] [] := by
  intro n
  induction n with
  | zero => intro v1 v2 σ h; rw [f_Filling_fillForced_L7] at h; cases h
  | succ n ih =>
    intro v1 v2 σ h
    rw [f_Filling_fillForced_L7] at h
    refine G_iload_n (pc := 7) 2 X (dg dt_Filling_fillForced 5 rfl) rfl rfl ?_
    refine G_iconst (pc := 8) (-1) X (dg dt_Filling_fillForced 6 rfl) (by decide) ?_
    refine G_icmp_eq (pc := 9) 45 X (dg dt_Filling_fillForced 7 rfl) (by decide) h (fun h => ?_) (fun h => ?_)
    · exact G_wk (hkx45 v1 σ h) ⟨rfl, trivial⟩
    · refine G_iload_n (pc := 12) 1 X (dg dt_Filling_fillForced 8 rfl) rfl rfl ?_
      refine G_bipush (pc := 13) 25 X (dg dt_Filling_fillForced 9 rfl) (by decide) ?_
      refine G_icmp_ge (pc := 15) 45 X (dg dt_Filling_fillForced 10 rfl) (by decide) h (fun h => ?_) (fun h => ?_)
      · exact G_wk (hkx45 v1 σ h) ⟨rfl, trivial⟩
      · refine G_aload_n (pc := 18) 0 X (dg dt_Filling_fillForced 11 rfl) rfl rfl ?_
        refine G_iload_n (pc := 19) 2 X (dg dt_Filling_fillForced 12 rfl) rfl rfl ?_
        obtain ⟨r_4, hc_3, h⟩ := cap_go h
        refine G_callS (pc := 20) (S := [.ref (ad v0)]) [.int v2] nosub X  (dg dt_Filling_fillForced 13 rfl) cb_Move_row w_734 w_753 (s_Move_row _ ad _ _ hc_3) rfl ⟨Nat.le_of_ble_eq_true rfl, Nat.le_of_ble_eq_true rfl⟩  (Nat.le_of_ble_eq_true rfl) Rc0 ?_
        refine G_iload_n (pc := 23) 2 X (dg dt_Filling_fillForced 14 rfl) rfl rfl ?_
        obtain ⟨r_6, hc_5, h⟩ := cap_go h
        refine G_callS (pc := 24) (S := [.int r_4, .ref (ad v0)]) [.int v2] nosub X  (dg dt_Filling_fillForced 15 rfl) cb_Move_column w_737 w_754 (s_Move_column _ ad _ _ hc_5) rfl ⟨Nat.le_of_ble_eq_true rfl, Nat.le_of_ble_eq_true rfl⟩  (Nat.le_of_ble_eq_true rfl) Rc0 ?_
        refine G_iload_n (pc := 27) 2 X (dg dt_Filling_fillForced 16 rfl) rfl rfl ?_
        obtain ⟨r_8, hc_7, h⟩ := cap_go h
        refine G_callS (pc := 28) (S := [.int r_6, .int r_4, .ref (ad v0)]) [.int v2] nosub X  (dg dt_Filling_fillForced 17 rfl) cb_Move_sign w_740 w_755 (s_Move_sign _ ad _ _ hc_7) rfl ⟨Nat.le_of_ble_eq_true rfl, Nat.le_of_ble_eq_true rfl⟩  (Nat.le_of_ble_eq_true rfl) Rc0 ?_
        obtain ⟨r_10, σ_11, hc_9, h⟩ := cal_go h
        refine G_callV (pc := 31) (S := []) [.int r_4, .int r_6, .int r_8] nosub X  (dg dt_Filling_fillForced 18 rfl) cb_Grid_set cv_Grid_set w_652 (s_Grid_set _ ad _ _ _ _ _ hg_v0 hc_9) rfl ⟨Nat.le_of_ble_eq_true rfl, Nat.le_of_ble_eq_true rfl⟩ (sh_g hg_v0) rfl (Nat.le_of_ble_eq_true rfl) Rc0 ?_
        refine G_iinc (pc := 34) (v1 + 1) X (dg dt_Filling_fillForced 19 rfl) rfl (Nat.le_of_ble_eq_true rfl) rfl rfl ?_
        refine G_aload_n (pc := 37) 0 X (dg dt_Filling_fillForced 20 rfl) rfl rfl ?_
        obtain ⟨r_13, hc_12, h⟩ := cap_go h
        refine G_callS (pc := 38) (S := []) [.ref (ad v0)] nosub X  (dg dt_Filling_fillForced 21 rfl) cb_Filling_firstForced w_716 w_752 (s_Filling_firstForced _ ad _ _ hg_v0 hc_12) rfl ⟨Nat.le_of_ble_eq_true rfl, Nat.le_of_ble_eq_true rfl⟩  (Nat.le_of_ble_eq_true rfl) Rc0 ?_
        refine G_istore_n (pc := 41) 2 X (dg dt_Filling_fillForced 22 rfl) rfl (Nat.le_of_ble_eq_true rfl) rfl ?_
        refine G_goto (pc := 42) 7 X (dg dt_Filling_fillForced 23 rfl) (by decide) ?_
        exact G_wk (ih (v1 + 1) r_13 σ_11 h) ⟨rfl, ⟨rfl, ⟨rfl, trivial⟩⟩⟩
set_option maxRecDepth 100000 in
set_option maxHeartbeats 4000000 in
theorem s_Filling_fillForced (l : Launch) (ad : Nat → Nat) (σ : St) (v0 : Nat) (hg_v0 : gok v0) {rv : Int32} {σe : St} (h : f_Filling_fillForced σ v0 = some (rv, σe)) : Rt l [] yX0_fillForced cX0_fillForced 3 (some .int) 6 136 (g_SH, ad) [.ref (ad v0)] σ (some (.int rv)) σe := by
  refine Rt.intro (L := [some (.ref (ad v0)), none, none]) (by decide +kernel) (Nat.le_of_ble_eq_true rfl) rfl (fun θ hl X hq => ?_)
  subst hl
  unfold f_Filling_fillForced at h
  refine G_iconst (pc := 0) 0 X (dg dt_Filling_fillForced 0 rfl) (by decide) ?_
  refine G_istore_n (pc := 1) 1 X (dg dt_Filling_fillForced 1 rfl) rfl (Nat.le_of_ble_eq_true rfl) rfl ?_
  refine G_aload_n (pc := 2) 0 X (dg dt_Filling_fillForced 2 rfl) rfl rfl ?_
  obtain ⟨r_2, hc_1, h⟩ := cap_go h
  refine G_callS (pc := 3) (S := []) [.ref (ad v0)] nosub X  (dg dt_Filling_fillForced 3 rfl) cb_Filling_firstForced w_716 w_752 (s_Filling_firstForced _ ad _ _ hg_v0 hc_1) rfl ⟨Nat.le_of_ble_eq_true rfl, Nat.le_of_ble_eq_true rfl⟩  (Nat.le_of_ble_eq_true rfl) Rc0 ?_
  refine G_istore_n (pc := 6) 2 X (dg dt_Filling_fillForced 4 rfl) rfl (Nat.le_of_ble_eq_true rfl) rfl ?_
  refine G_weak (L' := [some (.ref (ad v0)), some (.int 0), some (.int r_2)]) ⟨rfl, ⟨rfl, ⟨rfl, trivial⟩⟩⟩ ?_
  refine s_Filling_fillForced_L7  X hq hg_v0 (fun v1_14 σ_15 h => ?_) _ _ _ _ h
  refine G_iload_n (pc := 45) 1 X (dg dt_Filling_fillForced 24 rfl) rfl rfl ?_
  exact G_iret (pc := 46) X hq (dg dt_Filling_fillForced 25 rfl) h
set_option maxRecDepth 100000 in
set_option maxHeartbeats 4000000 in
theorem s_Filling_tightestCell_L18 {θ : Th} {ad : Nat → Nat}  {rv : Int32} (X : Cx θ [] cX0_tightestCell 6 "Quasigrove$Filling" 3 65)
    {v0 : Nat} {v3 : Int32} {σ : St} (hq : Rq θ (g_SH, ad) (some .int) (some (.int rv)) σ) (hg_v0 : gok v0) {kx72 : Int32 → Int32 → Option Int32} (hkx72 : ∀ (v1 : Int32) (v2 : Int32), kx72 v1 v2 = some rv → G θ (0, 0) (g_SH, ad) σ 72 [some (.ref (ad v0)), some (.int v1), some (.int v2), some (.int v3), none, none] []) :
    ∀ (n : Nat) (v1 : Int32) (v2 : Int32) (v4 : Int32), f_Filling_tightestCell_L18 v0 v3 σ kx72 n v1 v2 v4 = some rv → G θ (0, 0) (g_SH, ad) σ 18 [some (.ref (ad v0)), some (.int v1), some (.int v2), some (.int v3), some (.int v4), none] [] := by
  intro n
  induction n with
  | zero => intro v1 v2 v4 h; rw [f_Filling_tightestCell_L18] at h; cases h
  | succ n ih =>
    intro v1 v2 v4 h
    rw [f_Filling_tightestCell_L18] at h
    refine G_iload (pc := 18) X (dg dt_Filling_tightestCell 12 rfl) rfl ?_
    refine G_aload_n (pc := 20) 0 X (dg dt_Filling_tightestCell 13 rfl) rfl rfl ?_
    refine G_getIN (pc := 21) 3 X (dg dt_Filling_tightestCell 14 rfl) fc_0 w_117 rfl (Nat.le_of_ble_eq_true rfl) (sh_g hg_v0) rfl ?_
    refine G_icmp_ge (pc := 24) 72 X (dg dt_Filling_tightestCell 15 rfl) (by decide) h (fun h => ?_) (fun h => ?_)
    · exact G_wk (hkx72 v1 v2 h) ⟨rfl, ⟨rfl, ⟨rfl, ⟨rfl, trivial⟩⟩⟩⟩
    · refine G_aload_n (pc := 27) 0 X (dg dt_Filling_tightestCell 16 rfl) rfl rfl ?_
      refine G_iload_n (pc := 28) 3 X (dg dt_Filling_tightestCell 17 rfl) rfl rfl ?_
      refine G_iload (pc := 29) X (dg dt_Filling_tightestCell 18 rfl) rfl ?_
      obtain ⟨r_2, hc_1, h⟩ := cap_go h
      refine G_callV (pc := 31) (S := []) [.int v3, .int v4] nosub X  (dg dt_Filling_tightestCell 19 rfl) cb_Grid_optionsAt cv_Grid_optionsAt w_643 (s_Grid_optionsAt _ ad _ _ _ _ hg_v0 hc_1) rfl ⟨Nat.le_of_ble_eq_true rfl, Nat.le_of_ble_eq_true rfl⟩ (sh_g hg_v0) rfl (Nat.le_of_ble_eq_true rfl) Rc0 ?_
      obtain ⟨r_4, hc_3, h⟩ := cap_go h
      refine G_callS (pc := 34) (S := []) [.int r_2] nosub X  (dg dt_Filling_tightestCell 20 rfl) cb_Int_bitCount w_645 w_644 (s_Int_bitCount _ ad _ _ hc_3) rfl ⟨Nat.le_of_ble_eq_true rfl, Nat.le_of_ble_eq_true rfl⟩  (Nat.le_of_ble_eq_true rfl) Rc0 ?_
      refine G_istore (pc := 37) X (dg dt_Filling_tightestCell 21 rfl) (Nat.le_of_ble_eq_true rfl) rfl ?_
      refine G_iload (pc := 39) X (dg dt_Filling_tightestCell 22 rfl) rfl ?_
      refine G_iload_n (pc := 41) 2 X (dg dt_Filling_tightestCell 23 rfl) rfl rfl ?_
      refine jn_go (fun j66_5 => ∀ (v1_6 : Int32) (v2_7 : Int32), j66_5 v1_6 v2_7 = some rv → G θ (0, 0) (g_SH, ad) σ 66 [some (.ref (ad v0)), some (.int v1_6), some (.int v2_7), some (.int v3), some (.int v4), none] []) h ?_ (fun j66_5 hj66_5 h => ?_)
      · intro v1_6 v2_7 h
        refine G_iinc (pc := 66) (v4 + 1) X (dg dt_Filling_tightestCell 39 rfl) rfl (Nat.le_of_ble_eq_true rfl) rfl rfl ?_
        refine G_goto (pc := 69) 18 X (dg dt_Filling_tightestCell 40 rfl) (by decide) ?_
        exact G_wk (ih v1_6 v2_7 (v4 + 1) h) ⟨rfl, ⟨rfl, ⟨rfl, ⟨rfl, ⟨rfl, trivial⟩⟩⟩⟩⟩
      refine G_icmp_ge (pc := 42) 66 X (dg dt_Filling_tightestCell 24 rfl) (by decide) h (fun h => ?_) (fun h => ?_)
      · exact G_wk (hj66_5 v1 v2 h) ⟨rfl, ⟨rfl, ⟨rfl, ⟨rfl, ⟨rfl, trivial⟩⟩⟩⟩⟩
      · refine G_aload_n (pc := 45) 0 X (dg dt_Filling_tightestCell 25 rfl) rfl rfl ?_
        refine G_iload_n (pc := 46) 3 X (dg dt_Filling_tightestCell 26 rfl) rfl rfl ?_
        refine G_iload (pc := 47) X (dg dt_Filling_tightestCell 27 rfl) rfl ?_
        obtain ⟨r_9, hc_8, h⟩ := cap_go h
        refine G_callV (pc := 49) (S := []) [.int v3, .int v4] nosub X  (dg dt_Filling_tightestCell 28 rfl) cb_Grid_signAt cv_Grid_signAt w_650 (s_Grid_signAt _ ad _ _ _ _ hg_v0 hc_8) rfl ⟨Nat.le_of_ble_eq_true rfl, Nat.le_of_ble_eq_true rfl⟩ (sh_g hg_v0) rfl (Nat.le_of_ble_eq_true rfl) Rc0 ?_
        refine G_iconst (pc := 52) (-1) X (dg dt_Filling_tightestCell 29 rfl) (by decide) ?_
        refine G_icmp_ne (pc := 53) 66 X (dg dt_Filling_tightestCell 30 rfl) (by decide) h (fun h => ?_) (fun h => ?_)
        · exact G_wk (hj66_5 v1 v2 h) ⟨rfl, ⟨rfl, ⟨rfl, ⟨rfl, ⟨rfl, trivial⟩⟩⟩⟩⟩
        · refine G_iconst (pc := 56) 5 X (dg dt_Filling_tightestCell 31 rfl) (by decide) ?_
          refine G_iload_n (pc := 57) 3 X (dg dt_Filling_tightestCell 32 rfl) rfl rfl ?_
          refine G_imul (pc := 58) X (dg dt_Filling_tightestCell 33 rfl) ?_
          refine G_iload (pc := 59) X (dg dt_Filling_tightestCell 34 rfl) rfl ?_
          refine G_iadd (pc := 61) X (dg dt_Filling_tightestCell 35 rfl) ?_
          refine G_istore_n_lt (pc := 62) 1 X (dg dt_Filling_tightestCell 36 rfl) rfl (Nat.le_of_ble_eq_true rfl) rfl h (fun v1_10 h => ?_)
          refine G_iload (pc := 63) X (dg dt_Filling_tightestCell 37 rfl) rfl ?_
          refine G_istore_n (pc := 65) 2 X (dg dt_Filling_tightestCell 38 rfl) rfl (Nat.le_of_ble_eq_true rfl) rfl ?_
          exact G_wk (hj66_5 v1_10 r_4 h) ⟨rfl, ⟨rfl, ⟨rfl, ⟨rfl, ⟨rfl, trivial⟩⟩⟩⟩⟩
set_option maxRecDepth 100000 in
set_option maxHeartbeats 4000000 in
theorem s_Filling_tightestCell_L7 {θ : Th} {ad : Nat → Nat}  {rv : Int32} (X : Cx θ [] cX0_tightestCell 6 "Quasigrove$Filling" 3 65)
    {v0 : Nat} {σ : St} (hq : Rq θ (g_SH, ad) (some .int) (some (.int rv)) σ) (hg_v0 : gok v0) {kx78 : Int32 → Option Int32} (hkx78 : ∀ (v1 : Int32), kx78 v1 = some rv → G θ (0, 0) (g_SH, ad) σ 78 [none, some (.int v1), none, none, none, none] []) :
    ∀ (n : Nat) (v1 : Int32) (v2 : Int32) (v3 : Int32), f_Filling_tightestCell_L7 v0 σ kx78 n v1 v2 v3 = some rv → G θ (0, 0) (g_SH, ad) σ 7 [some (.ref (ad v0)), some (.int v1), some (.int v2), some (.int v3), none, none] [] := by
  intro n
  induction n with
  | zero => intro v1 v2 v3 h; rw [f_Filling_tightestCell_L7] at h; cases h
  | succ n ih =>
    intro v1 v2 v3 h
    rw [f_Filling_tightestCell_L7] at h
    refine G_iload_n (pc := 7) 3 X (dg dt_Filling_tightestCell 6 rfl) rfl rfl ?_
    refine G_aload_n (pc := 8) 0 X (dg dt_Filling_tightestCell 7 rfl) rfl rfl ?_
    refine G_getIN (pc := 9) 3 X (dg dt_Filling_tightestCell 8 rfl) fc_0 w_117 rfl (Nat.le_of_ble_eq_true rfl) (sh_g hg_v0) rfl ?_
    refine G_icmp_ge (pc := 12) 78 X (dg dt_Filling_tightestCell 9 rfl) (by decide) h (fun h => ?_) (fun h => ?_)
    · exact G_wk (hkx78 v1 h) ⟨rfl, trivial⟩
    · refine G_iconst (pc := 15) 0 X (dg dt_Filling_tightestCell 10 rfl) (by decide) ?_
      refine G_istore (pc := 16) X (dg dt_Filling_tightestCell 11 rfl) (Nat.le_of_ble_eq_true rfl) rfl ?_
      refine G_weak (L' := [some (.ref (ad v0)), some (.int v1), some (.int v2), some (.int v3), some (.int 0), none]) ⟨rfl, ⟨rfl, ⟨rfl, ⟨rfl, ⟨rfl, trivial⟩⟩⟩⟩⟩ ?_
      refine s_Filling_tightestCell_L18  X hq hg_v0 (fun v1_11 v2_12 h => ?_) _ _ _ _ h
      refine G_iinc (pc := 72) (v3 + 1) X (dg dt_Filling_tightestCell 41 rfl) rfl (Nat.le_of_ble_eq_true rfl) rfl rfl ?_
      refine G_goto (pc := 75) 7 X (dg dt_Filling_tightestCell 42 rfl) (by decide) ?_
      exact G_wk (ih v1_11 v2_12 (v3 + 1) h) ⟨rfl, ⟨rfl, ⟨rfl, ⟨rfl, trivial⟩⟩⟩⟩
set_option maxRecDepth 100000 in
set_option maxHeartbeats 4000000 in
theorem s_Filling_tightestCell (l : Launch) (ad : Nat → Nat) (σ : St) (v0 : Nat) (hg_v0 : gok v0) {rv : Int32} (h : f_Filling_tightestCell σ v0 = some rv) : Rt l [] yX0_tightestCell cX0_tightestCell 6 (some .int) 3 65 (g_SH, ad) [.ref (ad v0)] σ (some (.int rv)) σ := by
  refine Rt.intro (L := [some (.ref (ad v0)), none, none, none, none, none]) (by decide +kernel) (Nat.le_of_ble_eq_true rfl) rfl (fun θ hl X hq => ?_)
  subst hl
  unfold f_Filling_tightestCell at h
  refine G_iconst (pc := 0) (-1) X (dg dt_Filling_tightestCell 0 rfl) (by decide) ?_
  refine G_istore_n (pc := 1) 1 X (dg dt_Filling_tightestCell 1 rfl) rfl (Nat.le_of_ble_eq_true rfl) rfl ?_
  refine G_bipush (pc := 2) 6 X (dg dt_Filling_tightestCell 2 rfl) (by decide) ?_
  refine G_istore_n (pc := 4) 2 X (dg dt_Filling_tightestCell 3 rfl) rfl (Nat.le_of_ble_eq_true rfl) rfl ?_
  refine G_iconst (pc := 5) 0 X (dg dt_Filling_tightestCell 4 rfl) (by decide) ?_
  refine G_istore_n (pc := 6) 3 X (dg dt_Filling_tightestCell 5 rfl) rfl (Nat.le_of_ble_eq_true rfl) rfl ?_
  refine G_weak (L' := [some (.ref (ad v0)), some (.int (-1)), some (.int 6), some (.int 0), none, none]) ⟨rfl, ⟨rfl, ⟨rfl, ⟨rfl, trivial⟩⟩⟩⟩ ?_
  refine s_Filling_tightestCell_L7  X hq hg_v0 (fun v1_13 h => ?_) _ _ _ _ h
  refine G_iload_n (pc := 78) 1 X (dg dt_Filling_tightestCell 43 rfl) rfl rfl ?_
  exact G_iretp (pc := 79) X hq (dg dt_Filling_tightestCell 44 rfl) h
set_option maxRecDepth 100000 in
set_option maxHeartbeats 4000000 in
theorem s_Filling_squaresFrom_L46 {θ : Th} {ad : Nat → Nat} {fr0 lo0 : Nat} (hfr0 : 4 ≤ fr0) (hlo0 : 90 ≤ lo0) {rec : St → Nat → Int32 → Int32 → Option (Int32 × St)} (hrec : ∀ (σ : St) (v0 : Nat) (v1 : Int32) (v2 : Int32) (hg_v0 : gok v0) {rv : Int32} {σe : St}, rec σ v0 v1 v2 = some (rv, σe) → Rt θ.2.1 [] yX0_squaresFrom cX0_squaresFrom 9 (some .int) fr0 lo0 (g_SH, ad) [.ref (ad v0), .int v1, .int v2] σ (some (.int rv)) σe) {rv : Int32} {σe : St} (X : Cx θ [] cX0_squaresFrom 9 "Quasigrove$Filling" (fr0 + 1) (lo0 + 28))
    {v0 : Nat} {v1 : Int32} {v2 : Int32} {v4 : Int32} {v5 : Int32} {v6 : Int32} (hq : Rq θ (g_SH, ad) (some .int) (some (.int rv)) σe) (hg_v0 : gok v0) {kx112 : Int32 → St → Option (Int32 × St)} (hkx112 : ∀ (v7 : Int32) (σ : St), kx112 v7 σ = some (rv, σe) → G θ (0, 0) (g_SH, ad) σ 112 [none, none, none, none, none, none, none, some (.int v7), none] []) :
    ∀ (n : Nat) (v7 : Int32) (v8 : Int32) (σ : St), f_Filling_squaresFrom_L46 rec v0 v1 v2 v4 v5 v6 kx112 n v7 v8 σ = some (rv, σe) → G θ (0, 0) (g_SH, ad) σ 46 [some (.ref (ad v0)), some (.int v1), some (.int v2), none, some (.int v4), some (.int v5), some (.int v6), some (.int v7), some (.int v8)] [] := by
  intro n
  induction n with
  | zero => intro v7 v8 σ h; rw [f_Filling_squaresFrom_L46] at h; cases h
  | succ n ih =>
    intro v7 v8 σ h
    rw [f_Filling_squaresFrom_L46] at h
    refine G_iload (pc := 46) X (dg dt_Filling_squaresFrom 30 rfl) rfl ?_
    refine G_aload_n (pc := 48) 0 X (dg dt_Filling_squaresFrom 31 rfl) rfl rfl ?_
    refine G_getIN (pc := 49) 3 X (dg dt_Filling_squaresFrom 32 rfl) fc_0 w_117 rfl (Nat.le_of_ble_eq_true rfl) (sh_g hg_v0) rfl ?_
    refine G_icmp_ge (pc := 52) 112 X (dg dt_Filling_squaresFrom 33 rfl) (by decide) h (fun h => ?_) (fun h => ?_)
    · exact G_wk (hkx112 v7 σ h) ⟨rfl, trivial⟩
    · refine G_iload (pc := 55) X (dg dt_Filling_squaresFrom 34 rfl) rfl ?_
      refine G_iload_n (pc := 57) 1 X (dg dt_Filling_squaresFrom 35 rfl) rfl rfl ?_
      refine G_icmp_ge (pc := 58) 112 X (dg dt_Filling_squaresFrom 36 rfl) (by decide) h (fun h => ?_) (fun h => ?_)
      · exact G_wk (hkx112 v7 σ h) ⟨rfl, trivial⟩
      · refine G_iload (pc := 61) X (dg dt_Filling_squaresFrom 37 rfl) rfl ?_
        refine G_iload (pc := 63) X (dg dt_Filling_squaresFrom 38 rfl) rfl ?_
        obtain ⟨r_8, hc_7, h⟩ := cap_go h
        refine G_callSN (pc := 65) (S := []) [.int v6, .int v8] nosub X  (dg dt_Filling_squaresFrom 39 rfl) cb_Q_isIn w_496 w_651 (s_Q_isIn _ ad _ _ _ hc_7) rfl ⟨by omega, by omega⟩  (Nat.le_of_ble_eq_true rfl) Rc0 ?_
        refine jn_go (fun j106_9 => ∀ (v7_10 : Int32) (σ_11 : St), j106_9 v7_10 σ_11 = some (rv, σe) → G θ (0, 0) (g_SH, ad) σ_11 106 [some (.ref (ad v0)), some (.int v1), some (.int v2), none, some (.int v4), some (.int v5), some (.int v6), some (.int v7_10), some (.int v8)] []) h ?_ (fun j106_9 hj106_9 h => ?_)
        · intro v7_10 σ_11 h
          refine G_iinc (pc := 106) (v8 + 1) X (dg dt_Filling_squaresFrom 62 rfl) rfl (Nat.le_of_ble_eq_true rfl) rfl rfl ?_
          refine G_goto (pc := 109) 46 X (dg dt_Filling_squaresFrom 63 rfl) (by decide) ?_
          exact G_wk (ih v7_10 (v8 + 1) σ_11 h) ⟨rfl, ⟨rfl, ⟨rfl, ⟨rfl, ⟨rfl, ⟨rfl, ⟨rfl, ⟨rfl, trivial⟩⟩⟩⟩⟩⟩⟩⟩
        refine G_if_eq (pc := 68) 106 X (dg dt_Filling_squaresFrom 40 rfl) (by decide) h (fun h => ?_) (fun h => ?_)
        · exact G_wk (hj106_9 v7 σ h) ⟨rfl, ⟨rfl, ⟨rfl, ⟨rfl, ⟨rfl, ⟨rfl, ⟨rfl, ⟨rfl, trivial⟩⟩⟩⟩⟩⟩⟩⟩
        · refine G_aload_n (pc := 71) 0 X (dg dt_Filling_squaresFrom 41 rfl) rfl rfl ?_
          refine G_iload (pc := 72) X (dg dt_Filling_squaresFrom 42 rfl) rfl ?_
          refine G_iload (pc := 74) X (dg dt_Filling_squaresFrom 43 rfl) rfl ?_
          refine G_iload (pc := 76) X (dg dt_Filling_squaresFrom 44 rfl) rfl ?_
          obtain ⟨r_13, σ_14, hc_12, h⟩ := cal_go h
          refine G_callV (pc := 78) (S := []) [.int v4, .int v5, .int v8] nosub X  (dg dt_Filling_squaresFrom 45 rfl) cb_Grid_set cv_Grid_set w_652 (s_Grid_set _ ad _ _ _ _ _ hg_v0 hc_12) rfl ⟨by omega, by omega⟩ (sh_g hg_v0) rfl (Nat.le_of_ble_eq_true rfl) Rc0 ?_
          refine G_iload (pc := 81) X (dg dt_Filling_squaresFrom 46 rfl) rfl ?_
          refine G_aload_n (pc := 83) 0 X (dg dt_Filling_squaresFrom 47 rfl) rfl rfl ?_
          refine G_iload_n (pc := 84) 1 X (dg dt_Filling_squaresFrom 48 rfl) rfl rfl ?_
          refine G_iload (pc := 85) X (dg dt_Filling_squaresFrom 49 rfl) rfl ?_
          refine G_isub (pc := 87) X (dg dt_Filling_squaresFrom 50 rfl) ?_
          refine G_iload_n (pc := 88) 2 X (dg dt_Filling_squaresFrom 51 rfl) rfl rfl ?_
          refine G_iconst (pc := 89) 1 X (dg dt_Filling_squaresFrom 52 rfl) (by decide) ?_
          refine G_iadd (pc := 90) X (dg dt_Filling_squaresFrom 53 rfl) ?_
          obtain ⟨r_16, σ_17, hc_15, h⟩ := cal_go h
          refine G_callS (pc := 91) (S := [.int v7]) [.ref (ad v0), .int (v1 - v7), .int (v2 + 1)] nosub X  (dg dt_Filling_squaresFrom 54 rfl) cb_Filling_squaresFrom w_638 w_637 (hrec _ _ _ _ hg_v0 hc_15) rfl ⟨by omega, by omega⟩  (Nat.le_of_ble_eq_true rfl) Rc0 ?_
          refine G_iadd (pc := 94) X (dg dt_Filling_squaresFrom 55 rfl) ?_
          refine G_istore (pc := 95) X (dg dt_Filling_squaresFrom 56 rfl) (Nat.le_of_ble_eq_true rfl) rfl ?_
          refine G_aload_n (pc := 97) 0 X (dg dt_Filling_squaresFrom 57 rfl) rfl rfl ?_
          refine G_iload (pc := 98) X (dg dt_Filling_squaresFrom 58 rfl) rfl ?_
          refine G_iload (pc := 100) X (dg dt_Filling_squaresFrom 59 rfl) rfl ?_
          refine G_iconst (pc := 102) (-1) X (dg dt_Filling_squaresFrom 60 rfl) (by decide) ?_
          obtain ⟨r_19, σ_20, hc_18, h⟩ := cal_go h
          refine G_callV (pc := 103) (S := []) [.int v4, .int v5, .int (-1)] nosub X  (dg dt_Filling_squaresFrom 61 rfl) cb_Grid_set cv_Grid_set w_652 (s_Grid_set _ ad _ _ _ _ _ hg_v0 hc_18) rfl ⟨by omega, by omega⟩ (sh_g hg_v0) rfl (Nat.le_of_ble_eq_true rfl) Rc0 ?_
          exact G_wk (hj106_9 (v7 + r_16) σ_20 h) ⟨rfl, ⟨rfl, ⟨rfl, ⟨rfl, ⟨rfl, ⟨rfl, ⟨rfl, ⟨rfl, trivial⟩⟩⟩⟩⟩⟩⟩⟩
set_option maxRecDepth 100000 in
set_option maxHeartbeats 4000000 in
theorem sb_Filling_squaresFrom (l : Launch) (ad : Nat → Nat) {fr0 lo0 : Nat} (hfr0 : 4 ≤ fr0) (hlo0 : 90 ≤ lo0) {rec : St → Nat → Int32 → Int32 → Option (Int32 × St)} (hrec : ∀ (σ : St) (v0 : Nat) (v1 : Int32) (v2 : Int32) (hg_v0 : gok v0) {rv : Int32} {σe : St}, rec σ v0 v1 v2 = some (rv, σe) → Rt l [] yX0_squaresFrom cX0_squaresFrom 9 (some .int) fr0 lo0 (g_SH, ad) [.ref (ad v0), .int v1, .int v2] σ (some (.int rv)) σe) (σ : St) (v0 : Nat) (v1 : Int32) (v2 : Int32) (hg_v0 : gok v0) {rv : Int32} {σe : St} (h : fb_Filling_squaresFrom rec σ v0 v1 v2 = some (rv, σe)) : Rt l [] yX0_squaresFrom cX0_squaresFrom 9 (some .int) (fr0 + 1) (lo0 + 28) (g_SH, ad) [.ref (ad v0), .int v1, .int v2] σ (some (.int rv)) σe := by
  refine Rt.intro (L := [some (.ref (ad v0)), some (.int v1), some (.int v2), none, none, none, none, none, none]) (by decide +kernel) (Nat.le_of_ble_eq_true rfl) rfl (fun θ hl X hq => ?_)
  subst hl
  unfold fb_Filling_squaresFrom at h
  refine G_aload_n (pc := 0) 0 X (dg dt_Filling_squaresFrom 0 rfl) rfl rfl ?_
  obtain ⟨r_2, hc_1, h⟩ := cap_go h
  refine G_callS (pc := 1) (S := []) [.ref (ad v0)] nosub X  (dg dt_Filling_squaresFrom 1 rfl) cb_Filling_tightestCell w_641 w_640 (s_Filling_tightestCell _ ad _ _ hg_v0 hc_1) rfl ⟨by omega, by omega⟩  (Nat.le_of_ble_eq_true rfl) Rc0 ?_
  refine G_istore_n (pc := 4) 3 X (dg dt_Filling_squaresFrom 2 rfl) rfl (Nat.le_of_ble_eq_true rfl) rfl ?_
  refine G_iload_n (pc := 5) 3 X (dg dt_Filling_squaresFrom 3 rfl) rfl rfl ?_
  refine G_iconst (pc := 6) (-1) X (dg dt_Filling_squaresFrom 4 rfl) (by decide) ?_
  refine G_icmp_ne (pc := 7) 12 X (dg dt_Filling_squaresFrom 5 rfl) (by decide) h (fun h => ?_) (fun h => ?_)
  · refine G_iload_n (pc := 12) 2 X (dg dt_Filling_squaresFrom 8 rfl) rfl rfl ?_
    refine G_bipush (pc := 13) 25 X (dg dt_Filling_squaresFrom 9 rfl) (by decide) ?_
    refine G_icmp_lt (pc := 15) 20 X (dg dt_Filling_squaresFrom 10 rfl) (by decide) h (fun h => ?_) (fun h => ?_)
    · refine G_iload_n (pc := 20) 3 X (dg dt_Filling_squaresFrom 13 rfl) rfl rfl ?_
      refine G_iconst (pc := 21) 5 X (dg dt_Filling_squaresFrom 14 rfl) (by decide) ?_
      refine G_idiv (pc := 22) X (dg dt_Filling_squaresFrom 15 rfl) h (fun q_3 h => ?_)
      refine G_istore (pc := 23) X (dg dt_Filling_squaresFrom 16 rfl) (Nat.le_of_ble_eq_true rfl) rfl ?_
      refine G_iload_n (pc := 25) 3 X (dg dt_Filling_squaresFrom 17 rfl) rfl rfl ?_
      refine G_iconst (pc := 26) 5 X (dg dt_Filling_squaresFrom 18 rfl) (by decide) ?_
      refine G_irem (pc := 27) X (dg dt_Filling_squaresFrom 19 rfl) h (fun q_4 h => ?_)
      refine G_istore (pc := 28) X (dg dt_Filling_squaresFrom 20 rfl) (Nat.le_of_ble_eq_true rfl) rfl ?_
      refine G_aload_n (pc := 30) 0 X (dg dt_Filling_squaresFrom 21 rfl) rfl rfl ?_
      refine G_iload (pc := 31) X (dg dt_Filling_squaresFrom 22 rfl) rfl ?_
      refine G_iload (pc := 33) X (dg dt_Filling_squaresFrom 23 rfl) rfl ?_
      obtain ⟨r_6, hc_5, h⟩ := cap_go h
      refine G_callV (pc := 35) (S := []) [.int q_3, .int q_4] nosub X  (dg dt_Filling_squaresFrom 24 rfl) cb_Grid_optionsAt cv_Grid_optionsAt w_643 (s_Grid_optionsAt _ ad _ _ _ _ hg_v0 hc_5) rfl ⟨by omega, by omega⟩ (sh_g hg_v0) rfl (Nat.le_of_ble_eq_true rfl) Rc0 ?_
      refine G_istore (pc := 38) X (dg dt_Filling_squaresFrom 25 rfl) (Nat.le_of_ble_eq_true rfl) rfl ?_
      refine G_iconst (pc := 40) 0 X (dg dt_Filling_squaresFrom 26 rfl) (by decide) ?_
      refine G_istore (pc := 41) X (dg dt_Filling_squaresFrom 27 rfl) (Nat.le_of_ble_eq_true rfl) rfl ?_
      refine G_iconst (pc := 43) 0 X (dg dt_Filling_squaresFrom 28 rfl) (by decide) ?_
      refine G_istore (pc := 44) X (dg dt_Filling_squaresFrom 29 rfl) (Nat.le_of_ble_eq_true rfl) rfl ?_
      refine G_weak (L' := [some (.ref (ad v0)), some (.int v1), some (.int v2), none, some (.int q_3), some (.int q_4), some (.int r_6), some (.int 0), some (.int 0)]) ⟨rfl, ⟨rfl, ⟨rfl, ⟨rfl, ⟨rfl, ⟨rfl, ⟨rfl, ⟨rfl, trivial⟩⟩⟩⟩⟩⟩⟩⟩ ?_
      refine s_Filling_squaresFrom_L46 hfr0 hlo0 hrec X hq hg_v0 (fun v7_21 σ_22 h => ?_) _ _ _ _ h
      refine G_iload (pc := 112) X (dg dt_Filling_squaresFrom 64 rfl) rfl ?_
      exact G_iret (pc := 114) X hq (dg dt_Filling_squaresFrom 65 rfl) h
    · refine G_iconst (pc := 18) 0 X (dg dt_Filling_squaresFrom 11 rfl) (by decide) ?_
      exact G_iret (pc := 19) X hq (dg dt_Filling_squaresFrom 12 rfl) h
  · refine G_iconst (pc := 10) 1 X (dg dt_Filling_squaresFrom 6 rfl) (by decide) ?_
    exact G_iret (pc := 11) X hq (dg dt_Filling_squaresFrom 7 rfl) h
set_option maxRecDepth 100000 in
set_option maxHeartbeats 4000000 in
theorem s_Filling_squaresFrom (l : Launch) (ad : Nat → Nat) : ∀ (d : Nat) (σ : St) (v0 : Nat) (v1 : Int32) (v2 : Int32) (hg_v0 : gok v0) {rv : Int32} {σe : St}, f_Filling_squaresFrom d σ v0 v1 v2 = some (rv, σe) → Rt l [] yX0_squaresFrom cX0_squaresFrom 9 (some .int) (4 + 1 * d) (90 + 28 * d) (g_SH, ad) [.ref (ad v0), .int v1, .int v2] σ (some (.int rv)) σe := by
  intro d
  induction d with
  | zero => intro σ v0 v1 v2 hg_v0 rv σe h; rw [f_Filling_squaresFrom] at h; cases h
  | succ d ih =>
    intro σ v0 v1 v2 hg_v0 rv σe h
    rw [f_Filling_squaresFrom] at h
    rw [show 4 + 1 * (d + 1) = (4 + 1 * d) + 1 by omega, show 90 + 28 * (d + 1) = (90 + 28 * d) + 28 by omega]
    exact sb_Filling_squaresFrom l ad (by omega) (by omega) (fun σ v0 v1 v2 hg_v0 _ _ h => ih σ v0 v1 v2 hg_v0 h) σ v0 v1 v2 hg_v0 h
set_option maxRecDepth 100000 in
set_option maxHeartbeats 4000000 in
theorem s_Filling_squares (l : Launch) (ad : Nat → Nat) (σ : St) (v0 : Nat) (v1 : Int32) (hg_v0 : gok v0) {rv : Int32} {σe : St} (h : f_Filling_squares σ v0 v1 = some (rv, σe)) : Rt l [] yX0_squares cX0_squares 2 (some .int) 45 1238 (g_SH, ad) [.ref (ad v0), .int v1] σ (some (.int rv)) σe := by
  refine Rt.intro (L := [some (.ref (ad v0)), some (.int v1)]) (by decide +kernel) (Nat.le_of_ble_eq_true rfl) rfl (fun θ hl X hq => ?_)
  subst hl
  unfold f_Filling_squares at h
  refine G_aload_n (pc := 0) 0 X (dg dt_Filling_squares 0 rfl) rfl rfl ?_
  refine G_iload_n (pc := 1) 1 X (dg dt_Filling_squares 1 rfl) rfl rfl ?_
  refine G_iconst (pc := 2) 0 X (dg dt_Filling_squares 2 rfl) (by decide) ?_
  obtain ⟨r_2, σ_3, hc_1, h⟩ := cal_go h
  refine G_callS (pc := 3) (S := []) [.ref (ad v0), .int v1, .int 0] nosub X  (dg dt_Filling_squares 3 rfl) cb_Filling_squaresFrom w_638 w_637 (s_Filling_squaresFrom _ ad DP _ _ _ _ hg_v0 hc_1) rfl ⟨Nat.le_of_ble_eq_true rfl, Nat.le_of_ble_eq_true rfl⟩  (Nat.le_of_ble_eq_true rfl) Rc0 ?_
  exact G_iret (pc := 6) X hq (dg dt_Filling_squares 4 rfl) h
set_option maxRecDepth 100000 in
set_option maxHeartbeats 4000000 in
theorem s_Filling_setLowest_L10 {θ : Th} {ad : Nat → Nat}  {rv : Unit} {σe : St} (X : Cx θ [] cX0_setLowest 5 "Quasigrove$Filling" 45 1238)
    {v0 : Nat} {v1 : Int32} {v2 : Int32} {v3 : Int32} (hq : Rq θ (g_SH, ad) none none σe) (hg_v0 : gok v0) :
    ∀ (n : Nat) (v4 : Int32) (σ : St), f_Filling_setLowest_L10 v0 v1 v2 v3 n v4 σ = some (rv, σe) → G θ (0, 0) (g_SH, ad) σ 10 [some (.ref (ad v0)), some (.int v1), some (.int v2), some (.int v3), some (.int v4)] [] := by
  intro n
  induction n with
  | zero => intro v4 σ h; rw [f_Filling_setLowest_L10] at h; cases h
  | succ n ih =>
    intro v4 σ h
    rw [f_Filling_setLowest_L10] at h
    refine G_iload (pc := 10) X (dg dt_Filling_setLowest 7 rfl) rfl ?_
    refine G_aload_n (pc := 12) 0 X (dg dt_Filling_setLowest 8 rfl) rfl rfl ?_
    refine G_getIN (pc := 13) 3 X (dg dt_Filling_setLowest 9 rfl) fc_0 w_117 rfl (Nat.le_of_ble_eq_true rfl) (sh_g hg_v0) rfl ?_
    refine G_icmp_ge (pc := 16) 60 X (dg dt_Filling_setLowest 10 rfl) (by decide) h (fun h => ?_) (fun h => ?_)
    · exact G_vret (pc := 60) X hq (dg dt_Filling_setLowest 34 rfl) h
    · refine G_iload_n (pc := 19) 3 X (dg dt_Filling_setLowest 11 rfl) rfl rfl ?_
      refine G_iload (pc := 20) X (dg dt_Filling_setLowest 12 rfl) rfl ?_
      obtain ⟨r_4, hc_3, h⟩ := cap_go h
      refine G_callSN (pc := 22) (S := []) [.int v3, .int v4] nosub X  (dg dt_Filling_setLowest 13 rfl) cb_Q_isIn w_496 w_651 (s_Q_isIn _ ad _ _ _ hc_3) rfl ⟨Nat.le_of_ble_eq_true rfl, Nat.le_of_ble_eq_true rfl⟩  (Nat.le_of_ble_eq_true rfl) Rc0 ?_
      refine jn_go (fun j54_5 => ∀ (σ_6 : St), j54_5 σ_6 = some (rv, σe) → G θ (0, 0) (g_SH, ad) σ_6 54 [some (.ref (ad v0)), some (.int v1), some (.int v2), some (.int v3), some (.int v4)] []) h ?_ (fun j54_5 hj54_5 h => ?_)
      · intro σ_6 h
        refine G_iinc (pc := 54) (v4 + 1) X (dg dt_Filling_setLowest 32 rfl) rfl (Nat.le_of_ble_eq_true rfl) rfl rfl ?_
        refine G_goto (pc := 57) 10 X (dg dt_Filling_setLowest 33 rfl) (by decide) ?_
        exact G_wk (ih (v4 + 1) σ_6 h) ⟨rfl, ⟨rfl, ⟨rfl, ⟨rfl, ⟨rfl, trivial⟩⟩⟩⟩⟩
      refine G_if_eq (pc := 25) 54 X (dg dt_Filling_setLowest 14 rfl) (by decide) h (fun h => ?_) (fun h => ?_)
      · exact G_wk (hj54_5 σ h) ⟨rfl, ⟨rfl, ⟨rfl, ⟨rfl, ⟨rfl, trivial⟩⟩⟩⟩⟩
      · refine G_aload_n (pc := 28) 0 X (dg dt_Filling_setLowest 15 rfl) rfl rfl ?_
        refine G_iload_n (pc := 29) 1 X (dg dt_Filling_setLowest 16 rfl) rfl rfl ?_
        refine G_iload_n (pc := 30) 2 X (dg dt_Filling_setLowest 17 rfl) rfl rfl ?_
        refine G_iload (pc := 31) X (dg dt_Filling_setLowest 18 rfl) rfl ?_
        obtain ⟨r_8, σ_9, hc_7, h⟩ := cal_go h
        refine G_callV (pc := 33) (S := []) [.int v1, .int v2, .int v4] nosub X  (dg dt_Filling_setLowest 19 rfl) cb_Grid_set cv_Grid_set w_652 (s_Grid_set _ ad _ _ _ _ _ hg_v0 hc_7) rfl ⟨Nat.le_of_ble_eq_true rfl, Nat.le_of_ble_eq_true rfl⟩ (sh_g hg_v0) rfl (Nat.le_of_ble_eq_true rfl) Rc0 ?_
        refine G_aload_n (pc := 36) 0 X (dg dt_Filling_setLowest 20 rfl) rfl rfl ?_
        refine G_iconst (pc := 37) 1 X (dg dt_Filling_setLowest 21 rfl) (by decide) ?_
        refine G_iconst (pc := 38) 0 X (dg dt_Filling_setLowest 22 rfl) (by decide) ?_
        obtain ⟨r_11, σ_12, hc_10, h⟩ := cal_go h
        refine G_callS (pc := 39) (S := []) [.ref (ad v0), .int 1, .int 0] nosub X  (dg dt_Filling_setLowest 23 rfl) cb_Filling_squaresFrom w_638 w_637 (s_Filling_squaresFrom _ ad DP _ _ _ _ hg_v0 hc_10) rfl ⟨Nat.le_of_ble_eq_true rfl, Nat.le_of_ble_eq_true rfl⟩  (Nat.le_of_ble_eq_true rfl) Rc0 ?_
        refine G_iconst (pc := 42) 1 X (dg dt_Filling_setLowest 24 rfl) (by decide) ?_
        refine G_icmp_ne (pc := 43) 47 X (dg dt_Filling_setLowest 25 rfl) (by decide) h (fun h => ?_) (fun h => ?_)
        · refine G_aload_n (pc := 47) 0 X (dg dt_Filling_setLowest 27 rfl) rfl rfl ?_
          refine G_iload_n (pc := 48) 1 X (dg dt_Filling_setLowest 28 rfl) rfl rfl ?_
          refine G_iload_n (pc := 49) 2 X (dg dt_Filling_setLowest 29 rfl) rfl rfl ?_
          refine G_iconst (pc := 50) (-1) X (dg dt_Filling_setLowest 30 rfl) (by decide) ?_
          obtain ⟨r_14, σ_15, hc_13, h⟩ := cal_go h
          refine G_callV (pc := 51) (S := []) [.int v1, .int v2, .int (-1)] nosub X  (dg dt_Filling_setLowest 31 rfl) cb_Grid_set cv_Grid_set w_652 (s_Grid_set _ ad _ _ _ _ _ hg_v0 hc_13) rfl ⟨Nat.le_of_ble_eq_true rfl, Nat.le_of_ble_eq_true rfl⟩ (sh_g hg_v0) rfl (Nat.le_of_ble_eq_true rfl) Rc0 ?_
          exact G_wk (hj54_5 σ_15 h) ⟨rfl, ⟨rfl, ⟨rfl, ⟨rfl, ⟨rfl, trivial⟩⟩⟩⟩⟩
        · exact G_vret (pc := 46) X hq (dg dt_Filling_setLowest 26 rfl) h
set_option maxRecDepth 100000 in
set_option maxHeartbeats 4000000 in
theorem s_Filling_setLowest (l : Launch) (ad : Nat → Nat) (σ : St) (v0 : Nat) (v1 : Int32) (v2 : Int32) (hg_v0 : gok v0) {rv : Unit} {σe : St} (h : f_Filling_setLowest σ v0 v1 v2 = some (rv, σe)) : Rt l [] yX0_setLowest cX0_setLowest 5 none 45 1238 (g_SH, ad) [.ref (ad v0), .int v1, .int v2] σ none σe := by
  refine Rt.intro (L := [some (.ref (ad v0)), some (.int v1), some (.int v2), none, none]) (by decide +kernel) (Nat.le_of_ble_eq_true rfl) rfl (fun θ hl X hq => ?_)
  subst hl
  unfold f_Filling_setLowest at h
  refine G_aload_n (pc := 0) 0 X (dg dt_Filling_setLowest 0 rfl) rfl rfl ?_
  refine G_iload_n (pc := 1) 1 X (dg dt_Filling_setLowest 1 rfl) rfl rfl ?_
  refine G_iload_n (pc := 2) 2 X (dg dt_Filling_setLowest 2 rfl) rfl rfl ?_
  obtain ⟨r_2, hc_1, h⟩ := cap_go h
  refine G_callV (pc := 3) (S := []) [.int v1, .int v2] nosub X  (dg dt_Filling_setLowest 3 rfl) cb_Grid_optionsAt cv_Grid_optionsAt w_643 (s_Grid_optionsAt _ ad _ _ _ _ hg_v0 hc_1) rfl ⟨Nat.le_of_ble_eq_true rfl, Nat.le_of_ble_eq_true rfl⟩ (sh_g hg_v0) rfl (Nat.le_of_ble_eq_true rfl) Rc0 ?_
  refine G_istore_n (pc := 6) 3 X (dg dt_Filling_setLowest 4 rfl) rfl (Nat.le_of_ble_eq_true rfl) rfl ?_
  refine G_iconst (pc := 7) 0 X (dg dt_Filling_setLowest 5 rfl) (by decide) ?_
  refine G_istore (pc := 8) X (dg dt_Filling_setLowest 6 rfl) (Nat.le_of_ble_eq_true rfl) rfl ?_
  refine G_weak (L' := [some (.ref (ad v0)), some (.int v1), some (.int v2), some (.int r_2), some (.int 0)]) ⟨rfl, ⟨rfl, ⟨rfl, ⟨rfl, ⟨rfl, trivial⟩⟩⟩⟩⟩ ?_
  refine s_Filling_setLowest_L10  X hq hg_v0  _ _ _ h
set_option maxRecDepth 100000 in
set_option maxHeartbeats 4000000 in
theorem s_Filling_makeLowest_L12 {θ : Th} {ad : Nat → Nat}  {rv : Unit} {σe : St} (X : Cx θ [] cX0_makeLowest 3 "Quasigrove$Filling" 46 1262)
    {v0 : Nat} {v1 : Int32} (hq : Rq θ (g_SH, ad) none none σe) (hg_v0 : gok v0) {kx32 : St → Option (Unit × St)} (hkx32 : ∀ (σ : St), kx32 σ = some (rv, σe) → G θ (0, 0) (g_SH, ad) σ 32 [some (.ref (ad v0)), some (.int v1), none] []) :
    ∀ (n : Nat) (v2 : Int32) (σ : St), f_Filling_makeLowest_L12 v0 v1 kx32 n v2 σ = some (rv, σe) → G θ (0, 0) (g_SH, ad) σ 12 [some (.ref (ad v0)), some (.int v1), some (.int v2)] [] := by
  intro n
  induction n with
  | zero => intro v2 σ h; rw [f_Filling_makeLowest_L12] at h; cases h
  | succ n ih =>
    intro v2 σ h
    rw [f_Filling_makeLowest_L12] at h
    refine G_iload_n (pc := 12) 2 X (dg dt_Filling_makeLowest 8 rfl) rfl rfl ?_
    refine G_aload_n (pc := 13) 0 X (dg dt_Filling_makeLowest 9 rfl) rfl rfl ?_
    refine G_getIN (pc := 14) 3 X (dg dt_Filling_makeLowest 10 rfl) fc_0 w_117 rfl (Nat.le_of_ble_eq_true rfl) (sh_g hg_v0) rfl ?_
    refine G_icmp_ge (pc := 17) 32 X (dg dt_Filling_makeLowest 11 rfl) (by decide) h (fun h => ?_) (fun h => ?_)
    · exact G_wk (hkx32 σ h) ⟨rfl, ⟨rfl, trivial⟩⟩
    · refine G_aload_n (pc := 20) 0 X (dg dt_Filling_makeLowest 12 rfl) rfl rfl ?_
      refine G_iload_n (pc := 21) 1 X (dg dt_Filling_makeLowest 13 rfl) rfl rfl ?_
      refine G_iload_n (pc := 22) 2 X (dg dt_Filling_makeLowest 14 rfl) rfl rfl ?_
      obtain ⟨r_2, σ_3, hc_1, h⟩ := cal_go h
      refine G_callS (pc := 23) (S := []) [.ref (ad v0), .int v1, .int v2] nosub X  (dg dt_Filling_makeLowest 15 rfl) cb_Filling_setLowest w_706 w_705 (s_Filling_setLowest _ ad _ _ _ _ hg_v0 hc_1) rfl ⟨Nat.le_of_ble_eq_true rfl, Nat.le_of_ble_eq_true rfl⟩  (Nat.le_of_ble_eq_true rfl) Rc0 ?_
      refine G_iinc (pc := 26) (v2 + 1) X (dg dt_Filling_makeLowest 16 rfl) rfl (Nat.le_of_ble_eq_true rfl) rfl rfl ?_
      refine G_goto (pc := 29) 12 X (dg dt_Filling_makeLowest 17 rfl) (by decide) ?_
      exact G_wk (ih (v2 + 1) σ_3 h) ⟨rfl, ⟨rfl, ⟨rfl, trivial⟩⟩⟩
set_option maxRecDepth 100000 in
set_option maxHeartbeats 4000000 in
theorem s_Filling_makeLowest_L2 {θ : Th} {ad : Nat → Nat}  {rv : Unit} {σe : St} (X : Cx θ [] cX0_makeLowest 3 "Quasigrove$Filling" 46 1262)
    {v0 : Nat} (hq : Rq θ (g_SH, ad) none none σe) (hg_v0 : gok v0) :
    ∀ (n : Nat) (v1 : Int32) (σ : St), f_Filling_makeLowest_L2 v0 n v1 σ = some (rv, σe) → G θ (0, 0) (g_SH, ad) σ 2 [some (.ref (ad v0)), some (.int v1), none] [] := by
  intro n
  induction n with
  | zero => intro v1 σ h; rw [f_Filling_makeLowest_L2] at h; cases h
  | succ n ih =>
    intro v1 σ h
    rw [f_Filling_makeLowest_L2] at h
    refine G_iload_n (pc := 2) 1 X (dg dt_Filling_makeLowest 2 rfl) rfl rfl ?_
    refine G_aload_n (pc := 3) 0 X (dg dt_Filling_makeLowest 3 rfl) rfl rfl ?_
    refine G_getIN (pc := 4) 3 X (dg dt_Filling_makeLowest 4 rfl) fc_0 w_117 rfl (Nat.le_of_ble_eq_true rfl) (sh_g hg_v0) rfl ?_
    refine G_icmp_ge (pc := 7) 38 X (dg dt_Filling_makeLowest 5 rfl) (by decide) h (fun h => ?_) (fun h => ?_)
    · exact G_vret (pc := 38) X hq (dg dt_Filling_makeLowest 20 rfl) h
    · refine G_iconst (pc := 10) 0 X (dg dt_Filling_makeLowest 6 rfl) (by decide) ?_
      refine G_istore_n (pc := 11) 2 X (dg dt_Filling_makeLowest 7 rfl) rfl (Nat.le_of_ble_eq_true rfl) rfl ?_
      refine G_weak (L' := [some (.ref (ad v0)), some (.int v1), some (.int 0)]) ⟨rfl, ⟨rfl, ⟨rfl, trivial⟩⟩⟩ ?_
      refine s_Filling_makeLowest_L12  X hq hg_v0 (fun σ_4 h => ?_) _ _ _ h
      refine G_iinc (pc := 32) (v1 + 1) X (dg dt_Filling_makeLowest 18 rfl) rfl (Nat.le_of_ble_eq_true rfl) rfl rfl ?_
      refine G_goto (pc := 35) 2 X (dg dt_Filling_makeLowest 19 rfl) (by decide) ?_
      exact G_wk (ih (v1 + 1) σ_4 h) ⟨rfl, ⟨rfl, trivial⟩⟩
set_option maxRecDepth 100000 in
set_option maxHeartbeats 4000000 in
theorem s_Filling_makeLowest (l : Launch) (ad : Nat → Nat) (σ : St) (v0 : Nat) (hg_v0 : gok v0) {rv : Unit} {σe : St} (h : f_Filling_makeLowest σ v0 = some (rv, σe)) : Rt l [] yX0_makeLowest cX0_makeLowest 3 none 46 1262 (g_SH, ad) [.ref (ad v0)] σ none σe := by
  refine Rt.intro (L := [some (.ref (ad v0)), none, none]) (by decide +kernel) (Nat.le_of_ble_eq_true rfl) rfl (fun θ hl X hq => ?_)
  subst hl
  unfold f_Filling_makeLowest at h
  refine G_iconst (pc := 0) 0 X (dg dt_Filling_makeLowest 0 rfl) (by decide) ?_
  refine G_istore_n (pc := 1) 1 X (dg dt_Filling_makeLowest 1 rfl) rfl (Nat.le_of_ble_eq_true rfl) rfl ?_
  refine G_weak (L' := [some (.ref (ad v0)), some (.int 0), none]) ⟨rfl, ⟨rfl, trivial⟩⟩ ?_
  refine s_Filling_makeLowest_L2  X hq hg_v0  _ _ _ h
set_option maxRecDepth 100000 in
set_option maxHeartbeats 4000000 in
theorem s_RowFilling_pairsAllowed_L4 {θ : Th} {ad : Nat → Nat}  {rv : Int32} (X : Cx θ [] cX7_pairsAllowed 6 "Quasigrove$RowFilling" 3 65)
    {v0 : Nat} {v1 : Int32} {σ : St} (hq : Rq θ (g_SH, ad) (some .int) (some (.int rv)) σ) (hg_v0 : gok v0) {kx56 : Int32 → Option Int32} (hkx56 : ∀ (v2 : Int32), kx56 v2 = some rv → G θ (0, 0) (g_SH, ad) σ 56 [none, none, some (.int v2), none, none, none] []) :
    ∀ (n : Nat) (v2 : Int32) (v3 : Int32), f_RowFilling_pairsAllowed_L4 v0 v1 σ kx56 n v2 v3 = some rv → G θ (0, 0) (g_SH, ad) σ 4 [some (.ref (ad v0)), some (.int v1), some (.int v2), some (.int v3), none, none] [] := by
  intro n
  induction n with
  | zero => intro v2 v3 h; rw [f_RowFilling_pairsAllowed_L4] at h; cases h
  | succ n ih =>
    intro v2 v3 h
    rw [f_RowFilling_pairsAllowed_L4] at h
    refine G_iload_n (pc := 4) 3 X (dg dt_RowFilling_pairsAllowed 4 rfl) rfl rfl ?_
    refine G_aload_n (pc := 5) 0 X (dg dt_RowFilling_pairsAllowed 5 rfl) rfl rfl ?_
    refine G_getIN (pc := 6) 3 X (dg dt_RowFilling_pairsAllowed 6 rfl) fc_0 w_113 rfl (Nat.le_of_ble_eq_true rfl) (sh_g hg_v0) rfl ?_
    refine G_icmp_ge (pc := 9) 56 X (dg dt_RowFilling_pairsAllowed 7 rfl) (by decide) h (fun h => ?_) (fun h => ?_)
    · exact G_wk (hkx56 v2 h) ⟨rfl, trivial⟩
    · refine G_aload_n (pc := 12) 0 X (dg dt_RowFilling_pairsAllowed 8 rfl) rfl rfl ?_
      refine G_iload_n (pc := 13) 1 X (dg dt_RowFilling_pairsAllowed 9 rfl) rfl rfl ?_
      refine G_iload_n (pc := 14) 3 X (dg dt_RowFilling_pairsAllowed 10 rfl) rfl rfl ?_
      obtain ⟨r_2, hc_1, h⟩ := cap_go h
      refine G_callV (pc := 15) (S := []) [.int v1, .int v3] nosub X  (dg dt_RowFilling_pairsAllowed 11 rfl) cb_Grid_signAt cv_Grid_signAt w_667 (s_Grid_signAt _ ad _ _ _ _ hg_v0 hc_1) rfl ⟨Nat.le_of_ble_eq_true rfl, Nat.le_of_ble_eq_true rfl⟩ (sh_g hg_v0) rfl (Nat.le_of_ble_eq_true rfl) Rc0 ?_
      refine G_istore (pc := 18) X (dg dt_RowFilling_pairsAllowed 12 rfl) (Nat.le_of_ble_eq_true rfl) rfl ?_
      refine G_iload (pc := 20) X (dg dt_RowFilling_pairsAllowed 13 rfl) rfl ?_
      refine G_iconst (pc := 22) (-1) X (dg dt_RowFilling_pairsAllowed 14 rfl) (by decide) ?_
      refine jn_go (fun j39_3 => ∀ (s_4 : Int32), j39_3 s_4 = some rv → G θ (0, 0) (g_SH, ad) σ 39 [some (.ref (ad v0)), some (.int v1), some (.int v2), some (.int v3), none, none] [.int s_4]) h ?_ (fun j39_3 hj39_3 h => ?_)
      · intro s_4 h
        refine G_istore (pc := 39) X (dg dt_RowFilling_pairsAllowed 24 rfl) (Nat.le_of_ble_eq_true rfl) rfl ?_
        refine G_iload_n (pc := 41) 2 X (dg dt_RowFilling_pairsAllowed 25 rfl) rfl rfl ?_
        refine G_iload (pc := 42) X (dg dt_RowFilling_pairsAllowed 26 rfl) rfl ?_
        refine G_iconst (pc := 44) 5 X (dg dt_RowFilling_pairsAllowed 27 rfl) (by decide) ?_
        refine G_iload_n (pc := 45) 3 X (dg dt_RowFilling_pairsAllowed 28 rfl) rfl rfl ?_
        refine G_imul (pc := 46) X (dg dt_RowFilling_pairsAllowed 29 rfl) ?_
        refine G_ishl (pc := 47) X (dg dt_RowFilling_pairsAllowed 30 rfl) ?_
        refine G_ior (pc := 48) X (dg dt_RowFilling_pairsAllowed 31 rfl) ?_
        refine G_istore_n_lt (pc := 49) 2 X (dg dt_RowFilling_pairsAllowed 32 rfl) rfl (Nat.le_of_ble_eq_true rfl) rfl h (fun v2_5 h => ?_)
        refine G_iinc (pc := 50) (v3 + 1) X (dg dt_RowFilling_pairsAllowed 33 rfl) rfl (Nat.le_of_ble_eq_true rfl) rfl rfl ?_
        refine G_goto (pc := 53) 4 X (dg dt_RowFilling_pairsAllowed 34 rfl) (by decide) ?_
        exact G_wk (ih v2_5 (v3 + 1) h) ⟨rfl, ⟨rfl, ⟨rfl, ⟨rfl, trivial⟩⟩⟩⟩
      refine G_icmp_ne (pc := 23) 35 X (dg dt_RowFilling_pairsAllowed 15 rfl) (by decide) h (fun h => ?_) (fun h => ?_)
      · refine G_iconst (pc := 35) 1 X (dg dt_RowFilling_pairsAllowed 21 rfl) (by decide) ?_
        refine G_iload (pc := 36) X (dg dt_RowFilling_pairsAllowed 22 rfl) rfl ?_
        refine G_ishl (pc := 38) X (dg dt_RowFilling_pairsAllowed 23 rfl) ?_
        exact G_wk (hj39_3 (1 <<< (r_2 &&& 31)) h) ⟨rfl, ⟨rfl, ⟨rfl, ⟨rfl, trivial⟩⟩⟩⟩
      · refine G_aload_n (pc := 26) 0 X (dg dt_RowFilling_pairsAllowed 16 rfl) rfl rfl ?_
        refine G_iload_n (pc := 27) 1 X (dg dt_RowFilling_pairsAllowed 17 rfl) rfl rfl ?_
        refine G_iload_n (pc := 28) 3 X (dg dt_RowFilling_pairsAllowed 18 rfl) rfl rfl ?_
        obtain ⟨r_7, hc_6, h⟩ := cap_go h
        refine G_callV (pc := 29) (S := []) [.int v1, .int v3] nosub X  (dg dt_RowFilling_pairsAllowed 19 rfl) cb_Grid_optionsAt cv_Grid_optionsAt w_668 (s_Grid_optionsAt _ ad _ _ _ _ hg_v0 hc_6) rfl ⟨Nat.le_of_ble_eq_true rfl, Nat.le_of_ble_eq_true rfl⟩ (sh_g hg_v0) rfl (Nat.le_of_ble_eq_true rfl) Rc0 ?_
        refine G_goto (pc := 32) 39 X (dg dt_RowFilling_pairsAllowed 20 rfl) (by decide) ?_
        exact G_wk (hj39_3 r_7 h) ⟨rfl, ⟨rfl, ⟨rfl, ⟨rfl, trivial⟩⟩⟩⟩
set_option maxRecDepth 100000 in
set_option maxHeartbeats 4000000 in
theorem s_RowFilling_pairsAllowed (l : Launch) (ad : Nat → Nat) (σ : St) (v0 : Nat) (v1 : Int32) (hg_v0 : gok v0) {rv : Int32} (h : f_RowFilling_pairsAllowed σ v0 v1 = some rv) : Rt l [] yX7_pairsAllowed cX7_pairsAllowed 6 (some .int) 3 65 (g_SH, ad) [.ref (ad v0), .int v1] σ (some (.int rv)) σ := by
  refine Rt.intro (L := [some (.ref (ad v0)), some (.int v1), none, none, none, none]) (by decide +kernel) (Nat.le_of_ble_eq_true rfl) rfl (fun θ hl X hq => ?_)
  subst hl
  unfold f_RowFilling_pairsAllowed at h
  refine G_iconst (pc := 0) 0 X (dg dt_RowFilling_pairsAllowed 0 rfl) (by decide) ?_
  refine G_istore_n (pc := 1) 2 X (dg dt_RowFilling_pairsAllowed 1 rfl) rfl (Nat.le_of_ble_eq_true rfl) rfl ?_
  refine G_iconst (pc := 2) 0 X (dg dt_RowFilling_pairsAllowed 2 rfl) (by decide) ?_
  refine G_istore_n (pc := 3) 3 X (dg dt_RowFilling_pairsAllowed 3 rfl) rfl (Nat.le_of_ble_eq_true rfl) rfl ?_
  refine G_weak (L' := [some (.ref (ad v0)), some (.int v1), some (.int 0), some (.int 0), none, none]) ⟨rfl, ⟨rfl, ⟨rfl, ⟨rfl, trivial⟩⟩⟩⟩ ?_
  refine s_RowFilling_pairsAllowed_L4  X hq hg_v0 (fun v2_8 h => ?_) _ _ _ h
  refine G_iload_n (pc := 56) 2 X (dg dt_RowFilling_pairsAllowed 35 rfl) rfl rfl ?_
  exact G_iretp (pc := 57) X hq (dg dt_RowFilling_pairsAllowed 36 rfl) h
set_option maxRecDepth 100000 in
set_option maxHeartbeats 4000000 in
theorem s_RowFilling_fits (l : Launch) (ad : Nat → Nat) (σ : St) (v1 : Int32) (v2 : Int32) (v3 : Int32)  {rv : Int32} (h : f_RowFilling_fits σ v1 v2 v3 = some rv) : Rt l [] yX7_fits cX7_fits 4 (some .boolean) 0 0 (g_SH, ad) [.ref (ad 14), .int v1, .int v2, .int v3] σ (some (.int rv)) σ := by
  refine Rt.intro (L := [some (.ref (ad 14)), some (.int v1), some (.int v2), some (.int v3)]) (by decide +kernel) (Nat.le_of_ble_eq_true rfl) rfl (fun θ hl X hq => ?_)
  subst hl
  unfold f_RowFilling_fits at h
  refine G_iload_n (pc := 0) 1 X (dg dt_RowFilling_fits 0 rfl) rfl rfl ?_
  refine jn_go (fun j30_1 => j30_1 = some rv → G θ (0, 0) (g_SH, ad) σ 30 [none, none, none, none] []) h ?_ (fun j30_1 hj30_1 h => ?_)
  · intro  h
    refine G_iconst (pc := 30) 0 X (dg dt_RowFilling_fits 20 rfl) (by decide) ?_
    exact G_zretlp (pc := 31) X hq (dg dt_RowFilling_fits 21 rfl) rfl h
  refine G_if_lt (pc := 1) 30 X (dg dt_RowFilling_fits 1 rfl) (by decide) h (fun h => ?_) (fun h => ?_)
  · exact G_wk (hj30_1  h) trivial
  · refine G_iload_n (pc := 4) 1 X (dg dt_RowFilling_fits 2 rfl) rfl rfl ?_
    refine G_iconst (pc := 5) 5 X (dg dt_RowFilling_fits 3 rfl) (by decide) ?_
    refine G_icmp_ge (pc := 6) 30 X (dg dt_RowFilling_fits 4 rfl) (by decide) h (fun h => ?_) (fun h => ?_)
    · exact G_wk (hj30_1  h) trivial
    · refine G_iload_n (pc := 9) 2 X (dg dt_RowFilling_fits 5 rfl) rfl rfl ?_
      refine G_aload_n (pc := 10) 0 X (dg dt_RowFilling_fits 6 rfl) rfl rfl ?_
      refine G_getR (pc := 11) 1 X (dg dt_RowFilling_fits 7 rfl) fc_3 w_182 rfl (Nat.le_of_ble_eq_true rfl) sh_14 rfl ?_
      refine G_iload_n (pc := 14) 1 X (dg dt_RowFilling_fits 8 rfl) rfl rfl ?_
      refine G_iald (pc := 15) X (dg dt_RowFilling_fits 9 rfl) sh_15 h (fun r_2 h => ?_)
      refine G_iload_n (pc := 16) 3 X (dg dt_RowFilling_fits 10 rfl) rfl rfl ?_
      refine G_iconst (pc := 17) (-1) X (dg dt_RowFilling_fits 11 rfl) (by decide) ?_
      refine G_ixor (pc := 18) X (dg dt_RowFilling_fits 12 rfl) ?_
      refine G_iand (pc := 19) X (dg dt_RowFilling_fits 13 rfl) ?_
      refine G_iconst (pc := 20) (-1) X (dg dt_RowFilling_fits 14 rfl) (by decide) ?_
      refine G_ixor (pc := 21) X (dg dt_RowFilling_fits 15 rfl) ?_
      refine G_iand (pc := 22) X (dg dt_RowFilling_fits 16 rfl) ?_
      refine G_if_ne (pc := 23) 30 X (dg dt_RowFilling_fits 17 rfl) (by decide) h (fun h => ?_) (fun h => ?_)
      · exact G_wk (hj30_1  h) trivial
      · refine G_iconst (pc := 26) 1 X (dg dt_RowFilling_fits 18 rfl) (by decide) ?_
        refine G_goto (pc := 27) 31 X (dg dt_RowFilling_fits 19 rfl) (by decide) ?_
        exact G_zretlp (pc := 31) X hq (dg dt_RowFilling_fits 21 rfl) rfl h
set_option maxRecDepth 100000 in
set_option maxHeartbeats 4000000 in
theorem s_RowFilling_mapsThatFit_L6 {θ : Th} {ad : Nat → Nat}  {rv : Int32} (X : Cx θ [] cX7_mapsThatFit 6 "Quasigrove$RowFilling" 1 23)
    {v1 : Int32} {v2 : Int32} {v3 : Int32} {σ : St} (hq : Rq θ (g_SH, ad) (some .int) (some (.int rv)) σ) {kx47 : Int32 → Option Int32} (hkx47 : ∀ (v4 : Int32), kx47 v4 = some rv → G θ (0, 0) (g_SH, ad) σ 47 [none, none, none, none, some (.int v4), none] []) :
    ∀ (n : Nat) (v4 : Int32) (v5 : Int32), f_RowFilling_mapsThatFit_L6 v1 v2 v3 σ kx47 n v4 v5 = some rv → G θ (0, 0) (g_SH, ad) σ 6 [some (.ref (ad 14)), some (.int v1), some (.int v2), some (.int v3), some (.int v4), some (.int v5)] [] := by
  intro n
  induction n with
  | zero => intro v4 v5 h; rw [f_RowFilling_mapsThatFit_L6] at h; cases h
  | succ n ih =>
    intro v4 v5 h
    rw [f_RowFilling_mapsThatFit_L6] at h
    refine G_iload (pc := 6) X (dg dt_RowFilling_mapsThatFit 4 rfl) rfl ?_
    refine G_aload_n (pc := 8) 0 X (dg dt_RowFilling_mapsThatFit 5 rfl) rfl rfl ?_
    refine G_getR (pc := 9) 0 X (dg dt_RowFilling_mapsThatFit 6 rfl) fc_3 w_181 rfl (Nat.le_of_ble_eq_true rfl) sh_14 rfl ?_
    refine G_iload_n (pc := 12) 1 X (dg dt_RowFilling_mapsThatFit 7 rfl) rfl rfl ?_
    obtain ⟨r_2, hc_1, h⟩ := cap_go h
    refine G_callV (pc := 13) (S := [.int v5]) [.int v1] nosub X  (dg dt_RowFilling_mapsThatFit 8 rfl) cb_Maps_amount cv_Maps_amount w_682 (s_Maps_amount _ ad _ _ hc_1) rfl ⟨Nat.le_of_ble_eq_true rfl, Nat.le_of_ble_eq_true rfl⟩ sh_6 rfl (Nat.le_of_ble_eq_true rfl) Rc0 ?_
    refine G_icmp_ge (pc := 16) 47 X (dg dt_RowFilling_mapsThatFit 9 rfl) (by decide) h (fun h => ?_) (fun h => ?_)
    · exact G_wk (hkx47 v4 h) ⟨rfl, trivial⟩
    · refine G_aload_n (pc := 19) 0 X (dg dt_RowFilling_mapsThatFit 10 rfl) rfl rfl ?_
      refine G_iload_n (pc := 20) 2 X (dg dt_RowFilling_mapsThatFit 11 rfl) rfl rfl ?_
      refine G_aload_n (pc := 21) 0 X (dg dt_RowFilling_mapsThatFit 12 rfl) rfl rfl ?_
      refine G_getR (pc := 22) 0 X (dg dt_RowFilling_mapsThatFit 13 rfl) fc_3 w_181 rfl (Nat.le_of_ble_eq_true rfl) sh_14 rfl ?_
      refine G_iload (pc := 25) X (dg dt_RowFilling_mapsThatFit 14 rfl) rfl ?_
      refine G_iload_n (pc := 27) 1 X (dg dt_RowFilling_mapsThatFit 15 rfl) rfl rfl ?_
      obtain ⟨r_4, hc_3, h⟩ := cap_go h
      refine G_callV (pc := 28) (S := [.int v2, .ref (ad 14)]) [.int v5, .int v1] nosub X  (dg dt_RowFilling_mapsThatFit 16 rfl) cb_Maps_pairsOf cv_Maps_pairsOf w_686 (s_Maps_pairsOf _ ad _ _ _ hc_3) rfl ⟨Nat.le_of_ble_eq_true rfl, Nat.le_of_ble_eq_true rfl⟩ sh_6 rfl (Nat.le_of_ble_eq_true rfl) Rc0 ?_
      refine G_iload_n (pc := 31) 3 X (dg dt_RowFilling_mapsThatFit 17 rfl) rfl rfl ?_
      obtain ⟨r_6, hc_5, h⟩ := cap_go h
      refine G_callV (pc := 32) (S := []) [.int v2, .int r_4, .int v3] nosub X  (dg dt_RowFilling_mapsThatFit 18 rfl) cb_RowFilling_fits cv_RowFilling_fits w_690 (s_RowFilling_fits _ ad _ _ _ _ hc_5) rfl ⟨Nat.le_of_ble_eq_true rfl, Nat.le_of_ble_eq_true rfl⟩ sh_14 rfl (Nat.le_of_ble_eq_true rfl) Rc0 ?_
      refine jn_go (fun j41_7 => ∀ (v4_8 : Int32), j41_7 v4_8 = some rv → G θ (0, 0) (g_SH, ad) σ 41 [some (.ref (ad 14)), some (.int v1), some (.int v2), some (.int v3), some (.int v4_8), some (.int v5)] []) h ?_ (fun j41_7 hj41_7 h => ?_)
      · intro v4_8 h
        refine G_iinc (pc := 41) (v5 + 1) X (dg dt_RowFilling_mapsThatFit 21 rfl) rfl (Nat.le_of_ble_eq_true rfl) rfl rfl ?_
        refine G_goto (pc := 44) 6 X (dg dt_RowFilling_mapsThatFit 22 rfl) (by decide) ?_
        exact G_wk (ih v4_8 (v5 + 1) h) ⟨rfl, ⟨rfl, ⟨rfl, ⟨rfl, ⟨rfl, ⟨rfl, trivial⟩⟩⟩⟩⟩⟩
      refine G_if_eq (pc := 35) 41 X (dg dt_RowFilling_mapsThatFit 19 rfl) (by decide) h (fun h => ?_) (fun h => ?_)
      · exact G_wk (hj41_7 v4 h) ⟨rfl, ⟨rfl, ⟨rfl, ⟨rfl, ⟨rfl, ⟨rfl, trivial⟩⟩⟩⟩⟩⟩
      · refine G_iinc (pc := 38) (v4 + 1) X (dg dt_RowFilling_mapsThatFit 20 rfl) rfl (Nat.le_of_ble_eq_true rfl) rfl rfl ?_
        exact G_wk (hj41_7 (v4 + 1) h) ⟨rfl, ⟨rfl, ⟨rfl, ⟨rfl, ⟨rfl, ⟨rfl, trivial⟩⟩⟩⟩⟩⟩
set_option maxRecDepth 100000 in
set_option maxHeartbeats 4000000 in
theorem s_RowFilling_mapsThatFit (l : Launch) (ad : Nat → Nat) (σ : St) (v1 : Int32) (v2 : Int32) (v3 : Int32)  {rv : Int32} (h : f_RowFilling_mapsThatFit σ v1 v2 v3 = some rv) : Rt l [] yX7_mapsThatFit cX7_mapsThatFit 6 (some .int) 1 23 (g_SH, ad) [.ref (ad 14), .int v1, .int v2, .int v3] σ (some (.int rv)) σ := by
  refine Rt.intro (L := [some (.ref (ad 14)), some (.int v1), some (.int v2), some (.int v3), none, none]) (by decide +kernel) (Nat.le_of_ble_eq_true rfl) rfl (fun θ hl X hq => ?_)
  subst hl
  unfold f_RowFilling_mapsThatFit at h
  refine G_iconst (pc := 0) 0 X (dg dt_RowFilling_mapsThatFit 0 rfl) (by decide) ?_
  refine G_istore (pc := 1) X (dg dt_RowFilling_mapsThatFit 1 rfl) (Nat.le_of_ble_eq_true rfl) rfl ?_
  refine G_iconst (pc := 3) 0 X (dg dt_RowFilling_mapsThatFit 2 rfl) (by decide) ?_
  refine G_istore (pc := 4) X (dg dt_RowFilling_mapsThatFit 3 rfl) (Nat.le_of_ble_eq_true rfl) rfl ?_
  refine G_weak (L' := [some (.ref (ad 14)), some (.int v1), some (.int v2), some (.int v3), some (.int 0), some (.int 0)]) ⟨rfl, ⟨rfl, ⟨rfl, ⟨rfl, ⟨rfl, ⟨rfl, trivial⟩⟩⟩⟩⟩⟩ ?_
  refine s_RowFilling_mapsThatFit_L6  X hq  (fun v4_9 h => ?_) _ _ _ h
  refine G_iload (pc := 47) X (dg dt_RowFilling_mapsThatFit 23 rfl) rfl ?_
  exact G_iretp (pc := 49) X hq (dg dt_RowFilling_mapsThatFit 24 rfl) h
set_option maxRecDepth 100000 in
set_option maxHeartbeats 4000000 in
theorem s_RowFilling_tightestRow_L10 {θ : Th} {ad : Nat → Nat}  {rv : Int32} (X : Cx θ [] cX7_tightestRow 8 "Quasigrove$RowFilling" 2 48)
    {v1 : Int32} {v2 : Int32} {v3 : Int32} {σ : St} (hq : Rq θ (g_SH, ad) (some .int) (some (.int rv)) σ) {kx61 : Int32 → Option Int32} (hkx61 : ∀ (v4 : Int32), kx61 v4 = some rv → G θ (0, 0) (g_SH, ad) σ 61 [none, none, none, none, some (.int v4), none, none, none] []) :
    ∀ (n : Nat) (v4 : Int32) (v5 : Int32) (v6 : Int32), f_RowFilling_tightestRow_L10 v1 v2 v3 σ kx61 n v4 v5 v6 = some rv → G θ (0, 0) (g_SH, ad) σ 10 [some (.ref (ad 14)), some (.int v1), some (.int v2), some (.int v3), some (.int v4), some (.int v5), some (.int v6), none] [] := by
  intro n
  induction n with
  | zero => intro v4 v5 v6 h; rw [f_RowFilling_tightestRow_L10] at h; cases h
  | succ n ih =>
    intro v4 v5 v6 h
    rw [f_RowFilling_tightestRow_L10] at h
    refine G_iload (pc := 10) X (dg dt_RowFilling_tightestRow 6 rfl) rfl ?_
    refine G_iload_n (pc := 12) 1 X (dg dt_RowFilling_tightestRow 7 rfl) rfl rfl ?_
    refine G_icmp_ge (pc := 13) 61 X (dg dt_RowFilling_tightestRow 8 rfl) (by decide) h (fun h => ?_) (fun h => ?_)
    · exact G_wk (hkx61 v4 h) ⟨rfl, trivial⟩
    · refine G_iload_n (pc := 16) 2 X (dg dt_RowFilling_tightestRow 9 rfl) rfl rfl ?_
      refine G_iload (pc := 17) X (dg dt_RowFilling_tightestRow 10 rfl) rfl ?_
      obtain ⟨r_2, hc_1, h⟩ := cap_go h
      refine G_callSN (pc := 19) (S := []) [.int v2, .int v6] nosub X  (dg dt_RowFilling_tightestRow 11 rfl) cb_Q_isIn w_496 w_677 (s_Q_isIn _ ad _ _ _ hc_1) rfl ⟨Nat.le_of_ble_eq_true rfl, Nat.le_of_ble_eq_true rfl⟩  (Nat.le_of_ble_eq_true rfl) Rc0 ?_
      refine jn_go (fun j38_3 => ∀ (s_4 : Int32), j38_3 s_4 = some rv → G θ (0, 0) (g_SH, ad) σ 38 [some (.ref (ad 14)), some (.int v1), some (.int v2), some (.int v3), some (.int v4), some (.int v5), some (.int v6), none] [.int s_4]) h ?_ (fun j38_3 hj38_3 h => ?_)
      · intro s_4 h
        refine G_istore (pc := 38) X (dg dt_RowFilling_tightestRow 20 rfl) (Nat.le_of_ble_eq_true rfl) rfl ?_
        refine G_iload (pc := 40) X (dg dt_RowFilling_tightestRow 21 rfl) rfl ?_
        refine G_iload (pc := 42) X (dg dt_RowFilling_tightestRow 22 rfl) rfl ?_
        refine jn_go (fun j55_5 => ∀ (v4_6 : Int32) (v5_7 : Int32), j55_5 v4_6 v5_7 = some rv → G θ (0, 0) (g_SH, ad) σ 55 [some (.ref (ad 14)), some (.int v1), some (.int v2), some (.int v3), some (.int v4_6), some (.int v5_7), some (.int v6), none] []) h ?_ (fun j55_5 hj55_5 h => ?_)
        · intro v4_6 v5_7 h
          refine G_iinc (pc := 55) (v6 + 1) X (dg dt_RowFilling_tightestRow 28 rfl) rfl (Nat.le_of_ble_eq_true rfl) rfl rfl ?_
          refine G_goto (pc := 58) 10 X (dg dt_RowFilling_tightestRow 29 rfl) (by decide) ?_
          exact G_wk (ih v4_6 v5_7 (v6 + 1) h) ⟨rfl, ⟨rfl, ⟨rfl, ⟨rfl, ⟨rfl, ⟨rfl, ⟨rfl, trivial⟩⟩⟩⟩⟩⟩⟩
        refine G_icmp_ge (pc := 44) 55 X (dg dt_RowFilling_tightestRow 23 rfl) (by decide) h (fun h => ?_) (fun h => ?_)
        · exact G_wk (hj55_5 v4 v5 h) ⟨rfl, ⟨rfl, ⟨rfl, ⟨rfl, ⟨rfl, ⟨rfl, ⟨rfl, trivial⟩⟩⟩⟩⟩⟩⟩
        · refine G_iload (pc := 47) X (dg dt_RowFilling_tightestRow 24 rfl) rfl ?_
          refine G_istore (pc := 49) X (dg dt_RowFilling_tightestRow 25 rfl) (Nat.le_of_ble_eq_true rfl) rfl ?_
          refine G_iload (pc := 51) X (dg dt_RowFilling_tightestRow 26 rfl) rfl ?_
          refine G_istore (pc := 53) X (dg dt_RowFilling_tightestRow 27 rfl) (Nat.le_of_ble_eq_true rfl) rfl ?_
          exact G_wk (hj55_5 v6 s_4 h) ⟨rfl, ⟨rfl, ⟨rfl, ⟨rfl, ⟨rfl, ⟨rfl, ⟨rfl, trivial⟩⟩⟩⟩⟩⟩⟩
      refine G_if_eq (pc := 22) 36 X (dg dt_RowFilling_tightestRow 12 rfl) (by decide) h (fun h => ?_) (fun h => ?_)
      · refine G_iload (pc := 36) X (dg dt_RowFilling_tightestRow 19 rfl) rfl ?_
        exact G_wk (hj38_3 v5 h) ⟨rfl, ⟨rfl, ⟨rfl, ⟨rfl, ⟨rfl, ⟨rfl, ⟨rfl, trivial⟩⟩⟩⟩⟩⟩⟩
      · refine G_aload_n (pc := 25) 0 X (dg dt_RowFilling_tightestRow 13 rfl) rfl rfl ?_
        refine G_iload_n (pc := 26) 1 X (dg dt_RowFilling_tightestRow 14 rfl) rfl rfl ?_
        refine G_iload (pc := 27) X (dg dt_RowFilling_tightestRow 15 rfl) rfl ?_
        refine G_iload_n (pc := 29) 3 X (dg dt_RowFilling_tightestRow 16 rfl) rfl rfl ?_
        obtain ⟨r_9, hc_8, h⟩ := cap_go h
        refine G_callV (pc := 30) (S := []) [.int v1, .int v6, .int v3] nosub X  (dg dt_RowFilling_tightestRow 17 rfl) cb_RowFilling_mapsThatFit cv_RowFilling_mapsThatFit w_678 (s_RowFilling_mapsThatFit _ ad _ _ _ _ hc_8) rfl ⟨Nat.le_of_ble_eq_true rfl, Nat.le_of_ble_eq_true rfl⟩ sh_14 rfl (Nat.le_of_ble_eq_true rfl) Rc0 ?_
        refine G_goto (pc := 33) 38 X (dg dt_RowFilling_tightestRow 18 rfl) (by decide) ?_
        exact G_wk (hj38_3 r_9 h) ⟨rfl, ⟨rfl, ⟨rfl, ⟨rfl, ⟨rfl, ⟨rfl, ⟨rfl, trivial⟩⟩⟩⟩⟩⟩⟩
set_option maxRecDepth 100000 in
set_option maxHeartbeats 4000000 in
theorem s_RowFilling_tightestRow (l : Launch) (ad : Nat → Nat) (σ : St) (v1 : Int32) (v2 : Int32) (v3 : Int32)  {rv : Int32} (h : f_RowFilling_tightestRow σ v1 v2 v3 = some rv) : Rt l [] yX7_tightestRow cX7_tightestRow 8 (some .int) 2 48 (g_SH, ad) [.ref (ad 14), .int v1, .int v2, .int v3] σ (some (.int rv)) σ := by
  refine Rt.intro (L := [some (.ref (ad 14)), some (.int v1), some (.int v2), some (.int v3), none, none, none, none]) (by decide +kernel) (Nat.le_of_ble_eq_true rfl) rfl (fun θ hl X hq => ?_)
  subst hl
  unfold f_RowFilling_tightestRow at h
  refine G_iconst (pc := 0) (-1) X (dg dt_RowFilling_tightestRow 0 rfl) (by decide) ?_
  refine G_istore (pc := 1) X (dg dt_RowFilling_tightestRow 1 rfl) (Nat.le_of_ble_eq_true rfl) rfl ?_
  refine G_bipush (pc := 3) 121 X (dg dt_RowFilling_tightestRow 2 rfl) (by decide) ?_
  refine G_istore (pc := 5) X (dg dt_RowFilling_tightestRow 3 rfl) (Nat.le_of_ble_eq_true rfl) rfl ?_
  refine G_iconst (pc := 7) 0 X (dg dt_RowFilling_tightestRow 4 rfl) (by decide) ?_
  refine G_istore (pc := 8) X (dg dt_RowFilling_tightestRow 5 rfl) (Nat.le_of_ble_eq_true rfl) rfl ?_
  refine G_weak (L' := [some (.ref (ad 14)), some (.int v1), some (.int v2), some (.int v3), some (.int (-1)), some (.int 121), some (.int 0), none]) ⟨rfl, ⟨rfl, ⟨rfl, ⟨rfl, ⟨rfl, ⟨rfl, ⟨rfl, trivial⟩⟩⟩⟩⟩⟩⟩ ?_
  refine s_RowFilling_tightestRow_L10  X hq  (fun v4_10 h => ?_) _ _ _ _ h
  refine G_iload (pc := 61) X (dg dt_RowFilling_tightestRow 30 rfl) rfl ?_
  exact G_iretp (pc := 63) X hq (dg dt_RowFilling_tightestRow 31 rfl) h
set_option maxRecDepth 100000 in
set_option maxHeartbeats 4000000 in
theorem s_RowFilling_squaresFrom_L35 {θ : Th} {ad : Nat → Nat} {fr0 lo0 : Nat} (hfr0 : 3 ≤ fr0) (hlo0 : 75 ≤ lo0) {rec : St → Int32 → Int32 → Int32 → Int32 → Int32 → Option Int32} (hrec : ∀ (σ : St) (v1 : Int32) (v2 : Int32) (v3 : Int32) (v4 : Int32) (v5 : Int32)  {rv : Int32}, rec σ v1 v2 v3 v4 v5 = some rv → Rt θ.2.1 [] yX7_squaresFrom cX7_squaresFrom 11 (some .int) fr0 lo0 (g_SH, ad) [.ref (ad 14), .int v1, .int v2, .int v3, .int v4, .int v5] σ (some (.int rv)) σ) {rv : Int32} (X : Cx θ [] cX7_squaresFrom 11 "Quasigrove$RowFilling" (fr0 + 1) (lo0 + 30))
    {v1 : Int32} {v2 : Int32} {v3 : Int32} {v4 : Int32} {v5 : Int32} {v6 : Int32} {σ : St} (hq : Rq θ (g_SH, ad) (some .int) (some (.int rv)) σ) {kx120 : Int32 → Option Int32} (hkx120 : ∀ (v7 : Int32), kx120 v7 = some rv → G θ (0, 0) (g_SH, ad) σ 120 [none, none, none, none, none, none, none, some (.int v7), none, none, none] []) :
    ∀ (n : Nat) (v7 : Int32) (v8 : Int32), f_RowFilling_squaresFrom_L35 rec v1 v2 v3 v4 v5 v6 σ kx120 n v7 v8 = some rv → G θ (0, 0) (g_SH, ad) σ 35 [some (.ref (ad 14)), some (.int v1), some (.int v2), some (.int v3), some (.int v4), some (.int v5), some (.int v6), some (.int v7), some (.int v8), none, none] [] := by
  intro n
  induction n with
  | zero => intro v7 v8 h; rw [f_RowFilling_squaresFrom_L35] at h; cases h
  | succ n ih =>
    intro v7 v8 h
    rw [f_RowFilling_squaresFrom_L35] at h
    refine G_iload (pc := 35) X (dg dt_RowFilling_squaresFrom 22 rfl) rfl ?_
    refine G_aload_n (pc := 37) 0 X (dg dt_RowFilling_squaresFrom 23 rfl) rfl rfl ?_
    refine G_getR (pc := 38) 0 X (dg dt_RowFilling_squaresFrom 24 rfl) fc_3 w_181 rfl (Nat.le_of_ble_eq_true rfl) sh_14 rfl ?_
    refine G_iload_n (pc := 41) 1 X (dg dt_RowFilling_squaresFrom 25 rfl) rfl rfl ?_
    obtain ⟨r_4, hc_3, h⟩ := cap_go h
    refine G_callV (pc := 42) (S := [.int v8]) [.int v1] nosub X  (dg dt_RowFilling_squaresFrom 26 rfl) cb_Maps_amount cv_Maps_amount w_682 (s_Maps_amount _ ad _ _ hc_3) rfl ⟨by omega, by omega⟩ sh_6 rfl (Nat.le_of_ble_eq_true rfl) Rc0 ?_
    refine G_icmp_ge (pc := 45) 120 X (dg dt_RowFilling_squaresFrom 27 rfl) (by decide) h (fun h => ?_) (fun h => ?_)
    · exact G_wk (hkx120 v7 h) ⟨rfl, trivial⟩
    · refine G_iload (pc := 48) X (dg dt_RowFilling_squaresFrom 28 rfl) rfl ?_
      refine G_iload (pc := 50) X (dg dt_RowFilling_squaresFrom 29 rfl) rfl ?_
      refine G_icmp_ge (pc := 52) 120 X (dg dt_RowFilling_squaresFrom 30 rfl) (by decide) h (fun h => ?_) (fun h => ?_)
      · exact G_wk (hkx120 v7 h) ⟨rfl, trivial⟩
      · refine G_aload_n (pc := 55) 0 X (dg dt_RowFilling_squaresFrom 31 rfl) rfl rfl ?_
        refine G_getR (pc := 56) 0 X (dg dt_RowFilling_squaresFrom 32 rfl) fc_3 w_181 rfl (Nat.le_of_ble_eq_true rfl) sh_14 rfl ?_
        refine G_iload (pc := 59) X (dg dt_RowFilling_squaresFrom 33 rfl) rfl ?_
        refine G_iload_n (pc := 61) 1 X (dg dt_RowFilling_squaresFrom 34 rfl) rfl rfl ?_
        obtain ⟨r_6, hc_5, h⟩ := cap_go h
        refine G_callV (pc := 62) (S := []) [.int v8, .int v1] nosub X  (dg dt_RowFilling_squaresFrom 35 rfl) cb_Maps_pairsOf cv_Maps_pairsOf w_686 (s_Maps_pairsOf _ ad _ _ _ hc_5) rfl ⟨by omega, by omega⟩ sh_6 rfl (Nat.le_of_ble_eq_true rfl) Rc0 ?_
        refine G_istore (pc := 65) X (dg dt_RowFilling_squaresFrom 36 rfl) (Nat.le_of_ble_eq_true rfl) rfl ?_
        refine G_aload_n (pc := 67) 0 X (dg dt_RowFilling_squaresFrom 37 rfl) rfl rfl ?_
        refine G_iload (pc := 68) X (dg dt_RowFilling_squaresFrom 38 rfl) rfl ?_
        refine G_iload (pc := 70) X (dg dt_RowFilling_squaresFrom 39 rfl) rfl ?_
        refine G_iload_n (pc := 72) 3 X (dg dt_RowFilling_squaresFrom 40 rfl) rfl rfl ?_
        obtain ⟨r_8, hc_7, h⟩ := cap_go h
        refine G_callV (pc := 73) (S := []) [.int v6, .int r_6, .int v3] nosub X  (dg dt_RowFilling_squaresFrom 41 rfl) cb_RowFilling_fits cv_RowFilling_fits w_690 (s_RowFilling_fits _ ad _ _ _ _ hc_7) rfl ⟨by omega, by omega⟩ sh_14 rfl (Nat.le_of_ble_eq_true rfl) Rc0 ?_
        refine jn_go (fun j114_9 => ∀ (v7_10 : Int32), j114_9 v7_10 = some rv → G θ (0, 0) (g_SH, ad) σ 114 [some (.ref (ad 14)), some (.int v1), some (.int v2), some (.int v3), some (.int v4), some (.int v5), some (.int v6), some (.int v7_10), some (.int v8), none, none] []) h ?_ (fun j114_9 hj114_9 h => ?_)
        · intro v7_10 h
          refine G_iinc (pc := 114) (v8 + 1) X (dg dt_RowFilling_squaresFrom 67 rfl) rfl (Nat.le_of_ble_eq_true rfl) rfl rfl ?_
          refine G_goto (pc := 117) 35 X (dg dt_RowFilling_squaresFrom 68 rfl) (by decide) ?_
          exact G_wk (ih v7_10 (v8 + 1) h) ⟨rfl, ⟨rfl, ⟨rfl, ⟨rfl, ⟨rfl, ⟨rfl, ⟨rfl, ⟨rfl, ⟨rfl, trivial⟩⟩⟩⟩⟩⟩⟩⟩⟩
        refine G_if_eq (pc := 76) 114 X (dg dt_RowFilling_squaresFrom 42 rfl) (by decide) h (fun h => ?_) (fun h => ?_)
        · exact G_wk (hj114_9 v7 h) ⟨rfl, ⟨rfl, ⟨rfl, ⟨rfl, ⟨rfl, ⟨rfl, ⟨rfl, ⟨rfl, ⟨rfl, trivial⟩⟩⟩⟩⟩⟩⟩⟩⟩
        · refine G_iload_n (pc := 79) 2 X (dg dt_RowFilling_squaresFrom 43 rfl) rfl rfl ?_
          refine G_iconst (pc := 80) 1 X (dg dt_RowFilling_squaresFrom 44 rfl) (by decide) ?_
          refine G_iload (pc := 81) X (dg dt_RowFilling_squaresFrom 45 rfl) rfl ?_
          refine G_ishl (pc := 83) X (dg dt_RowFilling_squaresFrom 46 rfl) ?_
          refine G_iconst (pc := 84) (-1) X (dg dt_RowFilling_squaresFrom 47 rfl) (by decide) ?_
          refine G_ixor (pc := 85) X (dg dt_RowFilling_squaresFrom 48 rfl) ?_
          refine G_iand (pc := 86) X (dg dt_RowFilling_squaresFrom 49 rfl) ?_
          refine G_istore_lt (pc := 87) X (dg dt_RowFilling_squaresFrom 50 rfl) (Nat.le_of_ble_eq_true rfl) rfl h (fun v10_11 h => ?_)
          refine G_iload (pc := 89) X (dg dt_RowFilling_squaresFrom 51 rfl) rfl ?_
          refine G_aload_n (pc := 91) 0 X (dg dt_RowFilling_squaresFrom 52 rfl) rfl rfl ?_
          refine G_iload_n (pc := 92) 1 X (dg dt_RowFilling_squaresFrom 53 rfl) rfl rfl ?_
          refine G_iload (pc := 93) X (dg dt_RowFilling_squaresFrom 54 rfl) rfl ?_
          refine G_iload_n (pc := 95) 3 X (dg dt_RowFilling_squaresFrom 55 rfl) rfl rfl ?_
          refine G_iload (pc := 96) X (dg dt_RowFilling_squaresFrom 56 rfl) rfl ?_
          refine G_ior (pc := 98) X (dg dt_RowFilling_squaresFrom 57 rfl) ?_
          refine G_iload (pc := 99) X (dg dt_RowFilling_squaresFrom 58 rfl) rfl ?_
          refine G_iload (pc := 101) X (dg dt_RowFilling_squaresFrom 59 rfl) rfl ?_
          refine G_isub (pc := 103) X (dg dt_RowFilling_squaresFrom 60 rfl) ?_
          refine G_iload (pc := 104) X (dg dt_RowFilling_squaresFrom 61 rfl) rfl ?_
          refine G_iconst (pc := 106) 1 X (dg dt_RowFilling_squaresFrom 62 rfl) (by decide) ?_
          refine G_iadd (pc := 107) X (dg dt_RowFilling_squaresFrom 63 rfl) ?_
          obtain ⟨r_13, hc_12, h⟩ := cap_go h
          refine G_callS (pc := 108) (S := [.int v7]) [.ref (ad 14), .int v1, .int v10_11, .int (v3 ||| r_6), .int (v4 - v7), .int (v5 + 1)] nosub X  (dg dt_RowFilling_squaresFrom 64 rfl) cb_RowFilling_squaresFrom w_671 w_670 (hrec _ _ _ _ _ _ hc_12) rfl ⟨by omega, by omega⟩  (Nat.le_of_ble_eq_true rfl) Rc0 ?_
          refine G_iadd (pc := 111) X (dg dt_RowFilling_squaresFrom 65 rfl) ?_
          refine G_istore (pc := 112) X (dg dt_RowFilling_squaresFrom 66 rfl) (Nat.le_of_ble_eq_true rfl) rfl ?_
          exact G_wk (hj114_9 (v7 + r_13) h) ⟨rfl, ⟨rfl, ⟨rfl, ⟨rfl, ⟨rfl, ⟨rfl, ⟨rfl, ⟨rfl, ⟨rfl, trivial⟩⟩⟩⟩⟩⟩⟩⟩⟩
set_option maxRecDepth 100000 in
set_option maxHeartbeats 4000000 in
theorem sb_RowFilling_squaresFrom (l : Launch) (ad : Nat → Nat) {fr0 lo0 : Nat} (hfr0 : 3 ≤ fr0) (hlo0 : 75 ≤ lo0) {rec : St → Int32 → Int32 → Int32 → Int32 → Int32 → Option Int32} (hrec : ∀ (σ : St) (v1 : Int32) (v2 : Int32) (v3 : Int32) (v4 : Int32) (v5 : Int32)  {rv : Int32}, rec σ v1 v2 v3 v4 v5 = some rv → Rt l [] yX7_squaresFrom cX7_squaresFrom 11 (some .int) fr0 lo0 (g_SH, ad) [.ref (ad 14), .int v1, .int v2, .int v3, .int v4, .int v5] σ (some (.int rv)) σ) (σ : St) (v1 : Int32) (v2 : Int32) (v3 : Int32) (v4 : Int32) (v5 : Int32)  {rv : Int32} (h : fb_RowFilling_squaresFrom rec σ v1 v2 v3 v4 v5 = some rv) : Rt l [] yX7_squaresFrom cX7_squaresFrom 11 (some .int) (fr0 + 1) (lo0 + 30) (g_SH, ad) [.ref (ad 14), .int v1, .int v2, .int v3, .int v4, .int v5] σ (some (.int rv)) σ := by
  refine Rt.intro (L := [some (.ref (ad 14)), some (.int v1), some (.int v2), some (.int v3), some (.int v4), some (.int v5), none, none, none, none, none]) (by decide +kernel) (Nat.le_of_ble_eq_true rfl) rfl (fun θ hl X hq => ?_)
  subst hl
  unfold fb_RowFilling_squaresFrom at h
  refine G_iload_n (pc := 0) 2 X (dg dt_RowFilling_squaresFrom 0 rfl) rfl rfl ?_
  refine G_if_ne (pc := 1) 6 X (dg dt_RowFilling_squaresFrom 1 rfl) (by decide) h (fun h => ?_) (fun h => ?_)
  · refine G_aload_n (pc := 6) 0 X (dg dt_RowFilling_squaresFrom 4 rfl) rfl rfl ?_
    refine G_iload_n (pc := 7) 1 X (dg dt_RowFilling_squaresFrom 5 rfl) rfl rfl ?_
    refine G_iload_n (pc := 8) 2 X (dg dt_RowFilling_squaresFrom 6 rfl) rfl rfl ?_
    refine G_iload_n (pc := 9) 3 X (dg dt_RowFilling_squaresFrom 7 rfl) rfl rfl ?_
    obtain ⟨r_2, hc_1, h⟩ := cap_go h
    refine G_callV (pc := 10) (S := []) [.int v1, .int v2, .int v3] nosub X  (dg dt_RowFilling_squaresFrom 8 rfl) cb_RowFilling_tightestRow cv_RowFilling_tightestRow w_673 (s_RowFilling_tightestRow _ ad _ _ _ _ hc_1) rfl ⟨by omega, by omega⟩ sh_14 rfl (Nat.le_of_ble_eq_true rfl) Rc0 ?_
    refine G_istore (pc := 13) X (dg dt_RowFilling_squaresFrom 9 rfl) (Nat.le_of_ble_eq_true rfl) rfl ?_
    refine G_iload (pc := 15) X (dg dt_RowFilling_squaresFrom 10 rfl) rfl ?_
    refine G_iconst (pc := 17) (-1) X (dg dt_RowFilling_squaresFrom 11 rfl) (by decide) ?_
    refine G_icmp_eq (pc := 18) 27 X (dg dt_RowFilling_squaresFrom 12 rfl) (by decide) h (fun h => ?_) (fun h => ?_)
    · refine G_iconst (pc := 27) 0 X (dg dt_RowFilling_squaresFrom 16 rfl) (by decide) ?_
      exact G_iretp (pc := 28) X hq (dg dt_RowFilling_squaresFrom 17 rfl) h
    · refine G_iload (pc := 21) X (dg dt_RowFilling_squaresFrom 13 rfl) rfl ?_
      refine G_iconst (pc := 23) 5 X (dg dt_RowFilling_squaresFrom 14 rfl) (by decide) ?_
      refine G_icmp_lt (pc := 24) 29 X (dg dt_RowFilling_squaresFrom 15 rfl) (by decide) h (fun h => ?_) (fun h => ?_)
      · refine G_iconst (pc := 29) 0 X (dg dt_RowFilling_squaresFrom 18 rfl) (by decide) ?_
        refine G_istore (pc := 30) X (dg dt_RowFilling_squaresFrom 19 rfl) (Nat.le_of_ble_eq_true rfl) rfl ?_
        refine G_iconst (pc := 32) 0 X (dg dt_RowFilling_squaresFrom 20 rfl) (by decide) ?_
        refine G_istore (pc := 33) X (dg dt_RowFilling_squaresFrom 21 rfl) (Nat.le_of_ble_eq_true rfl) rfl ?_
        refine G_weak (L' := [some (.ref (ad 14)), some (.int v1), some (.int v2), some (.int v3), some (.int v4), some (.int v5), some (.int r_2), some (.int 0), some (.int 0), none, none]) ⟨rfl, ⟨rfl, ⟨rfl, ⟨rfl, ⟨rfl, ⟨rfl, ⟨rfl, ⟨rfl, ⟨rfl, trivial⟩⟩⟩⟩⟩⟩⟩⟩⟩ ?_
        refine s_RowFilling_squaresFrom_L35 hfr0 hlo0 hrec X hq  (fun v7_14 h => ?_) _ _ _ h
        refine G_iload (pc := 120) X (dg dt_RowFilling_squaresFrom 69 rfl) rfl ?_
        exact G_iretp (pc := 122) X hq (dg dt_RowFilling_squaresFrom 70 rfl) h
      · refine G_iconst (pc := 27) 0 X (dg dt_RowFilling_squaresFrom 16 rfl) (by decide) ?_
        exact G_iretp (pc := 28) X hq (dg dt_RowFilling_squaresFrom 17 rfl) h
  · refine G_iconst (pc := 4) 1 X (dg dt_RowFilling_squaresFrom 2 rfl) (by decide) ?_
    exact G_iretp (pc := 5) X hq (dg dt_RowFilling_squaresFrom 3 rfl) h
set_option maxRecDepth 100000 in
set_option maxHeartbeats 4000000 in
theorem s_RowFilling_squaresFrom (l : Launch) (ad : Nat → Nat) : ∀ (d : Nat) (σ : St) (v1 : Int32) (v2 : Int32) (v3 : Int32) (v4 : Int32) (v5 : Int32)  {rv : Int32}, f_RowFilling_squaresFrom d σ v1 v2 v3 v4 v5 = some rv → Rt l [] yX7_squaresFrom cX7_squaresFrom 11 (some .int) (3 + 1 * d) (75 + 30 * d) (g_SH, ad) [.ref (ad 14), .int v1, .int v2, .int v3, .int v4, .int v5] σ (some (.int rv)) σ := by
  intro d
  induction d with
  | zero => intro σ v1 v2 v3 v4 v5 rv h; rw [f_RowFilling_squaresFrom] at h; cases h
  | succ d ih =>
    intro σ v1 v2 v3 v4 v5 rv h
    rw [f_RowFilling_squaresFrom] at h
    rw [show 3 + 1 * (d + 1) = (3 + 1 * d) + 1 by omega, show 75 + 30 * (d + 1) = (75 + 30 * d) + 30 by omega]
    exact sb_RowFilling_squaresFrom l ad (by omega) (by omega) (fun σ v1 v2 v3 v4 v5 _ h => ih σ v1 v2 v3 v4 v5 h) σ v1 v2 v3 v4 v5 h
set_option maxRecDepth 100000 in
set_option maxHeartbeats 4000000 in
theorem s_RowFilling_squares_L2 {θ : Th} {ad : Nat → Nat}  {rv : Int32} {σe : St} (X : Cx θ [] cX7_squares 4 "Quasigrove$RowFilling" 44 1305)
    {v1 : Nat} {v2 : Int32} (hq : Rq θ (g_SH, ad) (some .int) (some (.int rv)) σe) (hg_v1 : gok v1) {kx32 : St → Option (Int32 × St)} (hkx32 : ∀ (σ : St), kx32 σ = some (rv, σe) → G θ (0, 0) (g_SH, ad) σ 32 [some (.ref (ad 14)), some (.ref (ad v1)), some (.int v2), none] []) :
    ∀ (n : Nat) (v3 : Int32) (σ : St), f_RowFilling_squares_L2 v1 v2 kx32 n v3 σ = some (rv, σe) → G θ (0, 0) (g_SH, ad) σ 2 [some (.ref (ad 14)), some (.ref (ad v1)), some (.int v2), some (.int v3)] [] := by
  intro n
  induction n with
  | zero => intro v3 σ h; rw [f_RowFilling_squares_L2] at h; cases h
  | succ n ih =>
    intro v3 σ h
    rw [f_RowFilling_squares_L2] at h
    refine G_iload_n (pc := 2) 3 X (dg dt_RowFilling_squares 2 rfl) rfl rfl ?_
    refine G_aload_n (pc := 3) 1 X (dg dt_RowFilling_squares 3 rfl) rfl rfl ?_
    refine G_getIN (pc := 4) 3 X (dg dt_RowFilling_squares 4 rfl) fc_0 w_113 rfl (Nat.le_of_ble_eq_true rfl) (sh_g hg_v1) rfl ?_
    refine G_icmp_ge (pc := 7) 32 X (dg dt_RowFilling_squares 5 rfl) (by decide) h (fun h => ?_) (fun h => ?_)
    · exact G_wk (hkx32 σ h) ⟨rfl, ⟨rfl, ⟨rfl, trivial⟩⟩⟩
    · refine G_iload_n (pc := 10) 3 X (dg dt_RowFilling_squares 6 rfl) rfl rfl ?_
      refine G_iconst (pc := 11) 5 X (dg dt_RowFilling_squares 7 rfl) (by decide) ?_
      refine G_icmp_ge (pc := 12) 32 X (dg dt_RowFilling_squares 8 rfl) (by decide) h (fun h => ?_) (fun h => ?_)
      · exact G_wk (hkx32 σ h) ⟨rfl, ⟨rfl, ⟨rfl, trivial⟩⟩⟩
      · refine G_aload_n (pc := 15) 0 X (dg dt_RowFilling_squares 9 rfl) rfl rfl ?_
        refine G_getR (pc := 16) 1 X (dg dt_RowFilling_squares 10 rfl) fc_3 w_182 rfl (Nat.le_of_ble_eq_true rfl) sh_14 rfl ?_
        refine G_iload_n (pc := 19) 3 X (dg dt_RowFilling_squares 11 rfl) rfl rfl ?_
        refine G_aload_n (pc := 20) 1 X (dg dt_RowFilling_squares 12 rfl) rfl rfl ?_
        refine G_iload_n (pc := 21) 3 X (dg dt_RowFilling_squares 13 rfl) rfl rfl ?_
        obtain ⟨r_2, hc_1, h⟩ := cap_go h
        refine G_callS (pc := 22) (S := [.int v3, .ref (ad 15)]) [.ref (ad v1), .int v3] nosub X  (dg dt_RowFilling_squares 14 rfl) cb_RowFilling_pairsAllowed w_665 w_664 (s_RowFilling_pairsAllowed _ ad _ _ _ hg_v1 hc_1) rfl ⟨Nat.le_of_ble_eq_true rfl, Nat.le_of_ble_eq_true rfl⟩  (Nat.le_of_ble_eq_true rfl) Rc0 ?_
        refine G_iast (pc := 25) X (dg dt_RowFilling_squares 15 rfl) sh_15 h (fun σ_3 h => ?_)
        refine G_iinc (pc := 26) (v3 + 1) X (dg dt_RowFilling_squares 16 rfl) rfl (Nat.le_of_ble_eq_true rfl) rfl rfl ?_
        refine G_goto (pc := 29) 2 X (dg dt_RowFilling_squares 17 rfl) (by decide) ?_
        exact G_wk (ih (v3 + 1) σ_3 h) ⟨rfl, ⟨rfl, ⟨rfl, ⟨rfl, trivial⟩⟩⟩⟩
set_option maxRecDepth 100000 in
set_option maxHeartbeats 4000000 in
theorem s_RowFilling_squares (l : Launch) (ad : Nat → Nat) (σ : St) (v1 : Nat) (v2 : Int32) (hg_v1 : gok v1) {rv : Int32} {σe : St} (h : f_RowFilling_squares σ v1 v2 = some (rv, σe)) : Rt l [] yX7_squares cX7_squares 4 (some .int) 44 1305 (g_SH, ad) [.ref (ad 14), .ref (ad v1), .int v2] σ (some (.int rv)) σe := by
  refine Rt.intro (L := [some (.ref (ad 14)), some (.ref (ad v1)), some (.int v2), none]) (by decide +kernel) (Nat.le_of_ble_eq_true rfl) rfl (fun θ hl X hq => ?_)
  subst hl
  unfold f_RowFilling_squares at h
  refine G_iconst (pc := 0) 0 X (dg dt_RowFilling_squares 0 rfl) (by decide) ?_
  refine G_istore_n (pc := 1) 3 X (dg dt_RowFilling_squares 1 rfl) rfl (Nat.le_of_ble_eq_true rfl) rfl ?_
  refine G_weak (L' := [some (.ref (ad 14)), some (.ref (ad v1)), some (.int v2), some (.int 0)]) ⟨rfl, ⟨rfl, ⟨rfl, ⟨rfl, trivial⟩⟩⟩⟩ ?_
  refine s_RowFilling_squares_L2  X hq hg_v1 (fun σ_4 h => ?_) _ _ _ h
  refine G_aload_n (pc := 32) 0 X (dg dt_RowFilling_squares 18 rfl) rfl rfl ?_
  refine G_aload_n (pc := 33) 1 X (dg dt_RowFilling_squares 19 rfl) rfl rfl ?_
  refine G_getIN (pc := 34) 3 X (dg dt_RowFilling_squares 20 rfl) fc_0 w_113 rfl (Nat.le_of_ble_eq_true rfl) (sh_g hg_v1) rfl ?_
  refine G_aload_n (pc := 37) 1 X (dg dt_RowFilling_squares 21 rfl) rfl rfl ?_
  obtain ⟨r_6, hc_5, h⟩ := cap_go h
  refine G_callV (pc := 38) (S := [.int (σ_4 v1 3), .ref (ad 14)]) [] nosub X  (dg dt_RowFilling_squares 22 rfl) cb_Grid_allSigns cv_Grid_allSigns w_669 (s_Grid_allSigns _ ad _ _ hg_v1 hc_5) rfl ⟨Nat.le_of_ble_eq_true rfl, Nat.le_of_ble_eq_true rfl⟩ (sh_g hg_v1) rfl (Nat.le_of_ble_eq_true rfl) Rc0 ?_
  refine G_iconst (pc := 41) 0 X (dg dt_RowFilling_squares 23 rfl) (by decide) ?_
  refine G_iload_n (pc := 42) 2 X (dg dt_RowFilling_squares 24 rfl) rfl rfl ?_
  refine G_iconst (pc := 43) 0 X (dg dt_RowFilling_squares 25 rfl) (by decide) ?_
  obtain ⟨r_8, hc_7, h⟩ := cap_go h
  refine G_callS (pc := 44) (S := []) [.ref (ad 14), .int (σ_4 v1 3), .int r_6, .int 0, .int v2, .int 0] nosub X  (dg dt_RowFilling_squares 26 rfl) cb_RowFilling_squaresFrom w_671 w_670 (s_RowFilling_squaresFrom _ ad DP _ _ _ _ _ _ hc_7) rfl ⟨Nat.le_of_ble_eq_true rfl, Nat.le_of_ble_eq_true rfl⟩  (Nat.le_of_ble_eq_true rfl) Rc0 ?_
  exact G_iret (pc := 47) X hq (dg dt_RowFilling_squares 27 rfl) h
