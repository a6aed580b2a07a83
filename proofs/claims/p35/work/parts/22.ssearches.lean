set_option maxRecDepth 100000 in
set_option maxHeartbeats 4000000 in
theorem s_Filling_isAloneInRow_L3 {θ : Th} {ad : Nat → Nat}  {rv : Int32} (X : Cx θ [] cX0_isAloneInRow 5 "Quasigrove$Filling" 3 65)
    {v0 : Nat} {v1 : Int32} {v2 : Int32} {v3 : Int32} {σ : St} (hq : Rq θ (g_SH, ad) (some .boolean) (some (.int rv)) σ) (hg_v0 : gok v0) :
    ∀ (n : Nat) (v4 : Int32), f_Filling_isAloneInRow_L3 v0 v1 v2 v3 σ n v4 = some rv → G θ (0, 0) (g_SH, ad) σ 3 [some (.ref (ad v0)), some (.int v1), some (.int v2), some (.int v3), some (.int v4)] [] := by
  intro n
  induction n with
  | zero => intro v4 h; rw [f_Filling_isAloneInRow_L3] at h; cases h
  | succ n ih =>
    intro v4 h
    rw [f_Filling_isAloneInRow_L3] at h
    refine G_iload (pc := 3) X (dg dt_Filling_isAloneInRow 2 rfl) rfl ?_
    refine G_aload_n (pc := 5) 0 X (dg dt_Filling_isAloneInRow 3 rfl) rfl rfl ?_
    refine G_getIN (pc := 6) 3 X (dg dt_Filling_isAloneInRow 4 rfl) fc_0 w_44 rfl (Nat.le_of_ble_eq_true rfl) (sh_g hg_v0) rfl ?_
    refine G_icmp_ge (pc := 9) 40 X (dg dt_Filling_isAloneInRow 5 rfl) (by decide) h (fun h => ?_) (fun h => ?_)
    · refine G_iconst (pc := 40) 1 X (dg dt_Filling_isAloneInRow 20 rfl) (by decide) ?_
      exact G_zretlp (pc := 41) X hq (dg dt_Filling_isAloneInRow 21 rfl) rfl h
    · refine G_iload (pc := 12) X (dg dt_Filling_isAloneInRow 6 rfl) rfl ?_
      refine G_iload_n (pc := 14) 2 X (dg dt_Filling_isAloneInRow 7 rfl) rfl rfl ?_
      refine jn_go (fun j34_1 => j34_1 = some rv → G θ (0, 0) (g_SH, ad) σ 34 [some (.ref (ad v0)), some (.int v1), some (.int v2), some (.int v3), some (.int v4)] []) h ?_ (fun j34_1 hj34_1 h => ?_)
      · intro  h
        refine G_iinc (pc := 34) (v4 + 1) X (dg dt_Filling_isAloneInRow 18 rfl) rfl (Nat.le_of_ble_eq_true rfl) rfl rfl ?_
        refine G_goto (pc := 37) 3 X (dg dt_Filling_isAloneInRow 19 rfl) (by decide) ?_
        exact G_wk (ih (v4 + 1) h) ⟨rfl, ⟨rfl, ⟨rfl, ⟨rfl, ⟨rfl, trivial⟩⟩⟩⟩⟩
      refine G_icmp_eq (pc := 15) 34 X (dg dt_Filling_isAloneInRow 8 rfl) (by decide) h (fun h => ?_) (fun h => ?_)
      · exact G_wk (hj34_1  h) ⟨rfl, ⟨rfl, ⟨rfl, ⟨rfl, ⟨rfl, trivial⟩⟩⟩⟩⟩
      · refine G_aload_n (pc := 18) 0 X (dg dt_Filling_isAloneInRow 9 rfl) rfl rfl ?_
        refine G_iload_n (pc := 19) 1 X (dg dt_Filling_isAloneInRow 10 rfl) rfl rfl ?_
        refine G_iload (pc := 20) X (dg dt_Filling_isAloneInRow 11 rfl) rfl ?_
        obtain ⟨r_3, hc_2, h⟩ := cap_go h
        refine G_callV (pc := 22) (S := []) [.int v1, .int v4] nosub X  (dg dt_Filling_isAloneInRow 12 rfl) cb_Grid_optionsAt cv_Grid_optionsAt w_420 (s_Grid_optionsAt _ ad _ _ _ _ hg_v0 hc_2) rfl ⟨Nat.le_of_ble_eq_true rfl, Nat.le_of_ble_eq_true rfl⟩ (sh_g hg_v0) rfl (Nat.le_of_ble_eq_true rfl) Rc0 ?_
        refine G_iload_n (pc := 25) 3 X (dg dt_Filling_isAloneInRow 13 rfl) rfl rfl ?_
        obtain ⟨r_5, hc_4, h⟩ := cap_go h
        refine G_callSN (pc := 26) (S := []) [.int r_3, .int v3] nosub X  (dg dt_Filling_isAloneInRow 14 rfl) cb_Q_isIn w_422 w_421 (s_Q_isIn _ ad _ _ _ hc_4) rfl ⟨Nat.le_of_ble_eq_true rfl, Nat.le_of_ble_eq_true rfl⟩  (Nat.le_of_ble_eq_true rfl) Rc0 ?_
        refine G_if_eq (pc := 29) 34 X (dg dt_Filling_isAloneInRow 15 rfl) (by decide) h (fun h => ?_) (fun h => ?_)
        · exact G_wk (hj34_1  h) ⟨rfl, ⟨rfl, ⟨rfl, ⟨rfl, ⟨rfl, trivial⟩⟩⟩⟩⟩
        · refine G_iconst (pc := 32) 0 X (dg dt_Filling_isAloneInRow 16 rfl) (by decide) ?_
          exact G_zretlp (pc := 33) X hq (dg dt_Filling_isAloneInRow 17 rfl) rfl h
set_option maxRecDepth 100000 in
set_option maxHeartbeats 4000000 in
theorem s_Filling_isAloneInRow (l : Launch) (ad : Nat → Nat) (σ : St) (v0 : Nat) (v1 : Int32) (v2 : Int32) (v3 : Int32) (hg_v0 : gok v0) {rv : Int32} (h : f_Filling_isAloneInRow σ v0 v1 v2 v3 = some rv) : Rt l [] yX0_isAloneInRow cX0_isAloneInRow 5 (some .boolean) 3 65 (g_SH, ad) [.ref (ad v0), .int v1, .int v2, .int v3] σ (some (.int rv)) σ := by
  refine Rt.intro (L := [some (.ref (ad v0)), some (.int v1), some (.int v2), some (.int v3), none]) (by decide +kernel) (Nat.le_of_ble_eq_true rfl) rfl (fun θ hl X hq => ?_)
  subst hl
  unfold f_Filling_isAloneInRow at h
  refine G_iconst (pc := 0) 0 X (dg dt_Filling_isAloneInRow 0 rfl) (by decide) ?_
  refine G_istore (pc := 1) X (dg dt_Filling_isAloneInRow 1 rfl) (Nat.le_of_ble_eq_true rfl) rfl ?_
  refine G_weak (L' := [some (.ref (ad v0)), some (.int v1), some (.int v2), some (.int v3), some (.int 0)]) ⟨rfl, ⟨rfl, ⟨rfl, ⟨rfl, ⟨rfl, trivial⟩⟩⟩⟩⟩ ?_
  refine s_Filling_isAloneInRow_L3  X hq hg_v0  _ _ h
set_option maxRecDepth 100000 in
set_option maxHeartbeats 4000000 in
theorem s_Filling_isAloneInColumn_L3 {θ : Th} {ad : Nat → Nat}  {rv : Int32} (X : Cx θ [] cX0_isAloneInColumn 5 "Quasigrove$Filling" 3 65)
    {v0 : Nat} {v1 : Int32} {v2 : Int32} {v3 : Int32} {σ : St} (hq : Rq θ (g_SH, ad) (some .boolean) (some (.int rv)) σ) (hg_v0 : gok v0) :
    ∀ (n : Nat) (v4 : Int32), f_Filling_isAloneInColumn_L3 v0 v1 v2 v3 σ n v4 = some rv → G θ (0, 0) (g_SH, ad) σ 3 [some (.ref (ad v0)), some (.int v1), some (.int v2), some (.int v3), some (.int v4)] [] := by
  intro n
  induction n with
  | zero => intro v4 h; rw [f_Filling_isAloneInColumn_L3] at h; cases h
  | succ n ih =>
    intro v4 h
    rw [f_Filling_isAloneInColumn_L3] at h
    refine G_iload (pc := 3) X (dg dt_Filling_isAloneInColumn 2 rfl) rfl ?_
    refine G_aload_n (pc := 5) 0 X (dg dt_Filling_isAloneInColumn 3 rfl) rfl rfl ?_
    refine G_getIN (pc := 6) 3 X (dg dt_Filling_isAloneInColumn 4 rfl) fc_0 w_44 rfl (Nat.le_of_ble_eq_true rfl) (sh_g hg_v0) rfl ?_
    refine G_icmp_ge (pc := 9) 40 X (dg dt_Filling_isAloneInColumn 5 rfl) (by decide) h (fun h => ?_) (fun h => ?_)
    · refine G_iconst (pc := 40) 1 X (dg dt_Filling_isAloneInColumn 20 rfl) (by decide) ?_
      exact G_zretlp (pc := 41) X hq (dg dt_Filling_isAloneInColumn 21 rfl) rfl h
    · refine G_iload (pc := 12) X (dg dt_Filling_isAloneInColumn 6 rfl) rfl ?_
      refine G_iload_n (pc := 14) 1 X (dg dt_Filling_isAloneInColumn 7 rfl) rfl rfl ?_
      refine jn_go (fun j34_1 => j34_1 = some rv → G θ (0, 0) (g_SH, ad) σ 34 [some (.ref (ad v0)), some (.int v1), some (.int v2), some (.int v3), some (.int v4)] []) h ?_ (fun j34_1 hj34_1 h => ?_)
      · intro  h
        refine G_iinc (pc := 34) (v4 + 1) X (dg dt_Filling_isAloneInColumn 18 rfl) rfl (Nat.le_of_ble_eq_true rfl) rfl rfl ?_
        refine G_goto (pc := 37) 3 X (dg dt_Filling_isAloneInColumn 19 rfl) (by decide) ?_
        exact G_wk (ih (v4 + 1) h) ⟨rfl, ⟨rfl, ⟨rfl, ⟨rfl, ⟨rfl, trivial⟩⟩⟩⟩⟩
      refine G_icmp_eq (pc := 15) 34 X (dg dt_Filling_isAloneInColumn 8 rfl) (by decide) h (fun h => ?_) (fun h => ?_)
      · exact G_wk (hj34_1  h) ⟨rfl, ⟨rfl, ⟨rfl, ⟨rfl, ⟨rfl, trivial⟩⟩⟩⟩⟩
      · refine G_aload_n (pc := 18) 0 X (dg dt_Filling_isAloneInColumn 9 rfl) rfl rfl ?_
        refine G_iload (pc := 19) X (dg dt_Filling_isAloneInColumn 10 rfl) rfl ?_
        refine G_iload_n (pc := 21) 2 X (dg dt_Filling_isAloneInColumn 11 rfl) rfl rfl ?_
        obtain ⟨r_3, hc_2, h⟩ := cap_go h
        refine G_callV (pc := 22) (S := []) [.int v4, .int v2] nosub X  (dg dt_Filling_isAloneInColumn 12 rfl) cb_Grid_optionsAt cv_Grid_optionsAt w_420 (s_Grid_optionsAt _ ad _ _ _ _ hg_v0 hc_2) rfl ⟨Nat.le_of_ble_eq_true rfl, Nat.le_of_ble_eq_true rfl⟩ (sh_g hg_v0) rfl (Nat.le_of_ble_eq_true rfl) Rc0 ?_
        refine G_iload_n (pc := 25) 3 X (dg dt_Filling_isAloneInColumn 13 rfl) rfl rfl ?_
        obtain ⟨r_5, hc_4, h⟩ := cap_go h
        refine G_callSN (pc := 26) (S := []) [.int r_3, .int v3] nosub X  (dg dt_Filling_isAloneInColumn 14 rfl) cb_Q_isIn w_422 w_421 (s_Q_isIn _ ad _ _ _ hc_4) rfl ⟨Nat.le_of_ble_eq_true rfl, Nat.le_of_ble_eq_true rfl⟩  (Nat.le_of_ble_eq_true rfl) Rc0 ?_
        refine G_if_eq (pc := 29) 34 X (dg dt_Filling_isAloneInColumn 15 rfl) (by decide) h (fun h => ?_) (fun h => ?_)
        · exact G_wk (hj34_1  h) ⟨rfl, ⟨rfl, ⟨rfl, ⟨rfl, ⟨rfl, trivial⟩⟩⟩⟩⟩
        · refine G_iconst (pc := 32) 0 X (dg dt_Filling_isAloneInColumn 16 rfl) (by decide) ?_
          exact G_zretlp (pc := 33) X hq (dg dt_Filling_isAloneInColumn 17 rfl) rfl h
set_option maxRecDepth 100000 in
set_option maxHeartbeats 4000000 in
theorem s_Filling_isAloneInColumn (l : Launch) (ad : Nat → Nat) (σ : St) (v0 : Nat) (v1 : Int32) (v2 : Int32) (v3 : Int32) (hg_v0 : gok v0) {rv : Int32} (h : f_Filling_isAloneInColumn σ v0 v1 v2 v3 = some rv) : Rt l [] yX0_isAloneInColumn cX0_isAloneInColumn 5 (some .boolean) 3 65 (g_SH, ad) [.ref (ad v0), .int v1, .int v2, .int v3] σ (some (.int rv)) σ := by
  refine Rt.intro (L := [some (.ref (ad v0)), some (.int v1), some (.int v2), some (.int v3), none]) (by decide +kernel) (Nat.le_of_ble_eq_true rfl) rfl (fun θ hl X hq => ?_)
  subst hl
  unfold f_Filling_isAloneInColumn at h
  refine G_iconst (pc := 0) 0 X (dg dt_Filling_isAloneInColumn 0 rfl) (by decide) ?_
  refine G_istore (pc := 1) X (dg dt_Filling_isAloneInColumn 1 rfl) (Nat.le_of_ble_eq_true rfl) rfl ?_
  refine G_weak (L' := [some (.ref (ad v0)), some (.int v1), some (.int v2), some (.int v3), some (.int 0)]) ⟨rfl, ⟨rfl, ⟨rfl, ⟨rfl, ⟨rfl, trivial⟩⟩⟩⟩⟩ ?_
  refine s_Filling_isAloneInColumn_L3  X hq hg_v0  _ _ h
set_option maxRecDepth 100000 in
set_option maxHeartbeats 4000000 in
theorem s_Filling_isForced (l : Launch) (ad : Nat → Nat) (σ : St) (v0 : Nat) (v1 : Int32) (v2 : Int32) (v3 : Int32) (hg_v0 : gok v0) {rv : Int32} (h : f_Filling_isForced σ v0 v1 v2 v3 = some rv) : Rt l [] yX0_isForced cX0_isForced 5 (some .boolean) 4 89 (g_SH, ad) [.ref (ad v0), .int v1, .int v2, .int v3] σ (some (.int rv)) σ := by
  refine Rt.intro (L := [some (.ref (ad v0)), some (.int v1), some (.int v2), some (.int v3), none]) (by decide +kernel) (Nat.le_of_ble_eq_true rfl) rfl (fun θ hl X hq => ?_)
  subst hl
  unfold f_Filling_isForced at h
  refine G_aload_n (pc := 0) 0 X (dg dt_Filling_isForced 0 rfl) rfl rfl ?_
  refine G_iload_n (pc := 1) 1 X (dg dt_Filling_isForced 1 rfl) rfl rfl ?_
  refine G_iload_n (pc := 2) 2 X (dg dt_Filling_isForced 2 rfl) rfl rfl ?_
  obtain ⟨r_2, hc_1, h⟩ := cap_go h
  refine G_callV (pc := 3) (S := []) [.int v1, .int v2] nosub X  (dg dt_Filling_isForced 3 rfl) cb_Grid_optionsAt cv_Grid_optionsAt w_420 (s_Grid_optionsAt _ ad _ _ _ _ hg_v0 hc_1) rfl ⟨Nat.le_of_ble_eq_true rfl, Nat.le_of_ble_eq_true rfl⟩ (sh_g hg_v0) rfl (Nat.le_of_ble_eq_true rfl) Rc0 ?_
  refine G_istore (pc := 6) X (dg dt_Filling_isForced 4 rfl) (Nat.le_of_ble_eq_true rfl) rfl ?_
  refine G_iload (pc := 8) X (dg dt_Filling_isForced 5 rfl) rfl ?_
  refine G_iload_n (pc := 10) 3 X (dg dt_Filling_isForced 6 rfl) rfl rfl ?_
  obtain ⟨r_4, hc_3, h⟩ := cap_go h
  refine G_callSN (pc := 11) (S := []) [.int r_2, .int v3] nosub X  (dg dt_Filling_isForced 7 rfl) cb_Q_isIn w_422 w_421 (s_Q_isIn _ ad _ _ _ hc_3) rfl ⟨Nat.le_of_ble_eq_true rfl, Nat.le_of_ble_eq_true rfl⟩  (Nat.le_of_ble_eq_true rfl) Rc0 ?_
  refine jn_go (fun j49_5 => j49_5 = some rv → G θ (0, 0) (g_SH, ad) σ 49 [none, none, none, none, none] []) h ?_ (fun j49_5 hj49_5 h => ?_)
  · intro  h
    refine G_iconst (pc := 49) 0 X (dg dt_Filling_isForced 28 rfl) (by decide) ?_
    exact G_zretlp (pc := 50) X hq (dg dt_Filling_isForced 29 rfl) rfl h
  refine G_if_eq (pc := 14) 49 X (dg dt_Filling_isForced 8 rfl) (by decide) h (fun h => ?_) (fun h => ?_)
  · exact G_wk (hj49_5  h) trivial
  · refine G_iload (pc := 17) X (dg dt_Filling_isForced 9 rfl) rfl ?_
    refine G_iconst (pc := 19) 1 X (dg dt_Filling_isForced 10 rfl) (by decide) ?_
    refine G_iload_n (pc := 20) 3 X (dg dt_Filling_isForced 11 rfl) rfl rfl ?_
    refine G_ishl (pc := 21) X (dg dt_Filling_isForced 12 rfl) ?_
    refine jn_go (fun j45_6 => j45_6 = some rv → G θ (0, 0) (g_SH, ad) σ 45 [none, none, none, none, none] []) h ?_ (fun j45_6 hj45_6 h => ?_)
    · intro  h
      refine G_iconst (pc := 45) 1 X (dg dt_Filling_isForced 26 rfl) (by decide) ?_
      refine G_goto (pc := 46) 50 X (dg dt_Filling_isForced 27 rfl) (by decide) ?_
      exact G_zretlp (pc := 50) X hq (dg dt_Filling_isForced 29 rfl) rfl h
    refine G_icmp_eq (pc := 22) 45 X (dg dt_Filling_isForced 13 rfl) (by decide) h (fun h => ?_) (fun h => ?_)
    · exact G_wk (hj45_6  h) trivial
    · refine G_aload_n (pc := 25) 0 X (dg dt_Filling_isForced 14 rfl) rfl rfl ?_
      refine G_iload_n (pc := 26) 1 X (dg dt_Filling_isForced 15 rfl) rfl rfl ?_
      refine G_iload_n (pc := 27) 2 X (dg dt_Filling_isForced 16 rfl) rfl rfl ?_
      refine G_iload_n (pc := 28) 3 X (dg dt_Filling_isForced 17 rfl) rfl rfl ?_
      obtain ⟨r_8, hc_7, h⟩ := cap_go h
      refine G_callS (pc := 29) (S := []) [.ref (ad v0), .int v1, .int v2, .int v3] nosub X  (dg dt_Filling_isForced 18 rfl) cb_Filling_isAloneInRow w_425 w_424 (s_Filling_isAloneInRow _ ad _ _ _ _ _ hg_v0 hc_7) rfl ⟨Nat.le_of_ble_eq_true rfl, Nat.le_of_ble_eq_true rfl⟩  (Nat.le_of_ble_eq_true rfl) Rc0 ?_
      refine G_if_ne (pc := 32) 45 X (dg dt_Filling_isForced 19 rfl) (by decide) h (fun h => ?_) (fun h => ?_)
      · exact G_wk (hj45_6  h) trivial
      · refine G_aload_n (pc := 35) 0 X (dg dt_Filling_isForced 20 rfl) rfl rfl ?_
        refine G_iload_n (pc := 36) 1 X (dg dt_Filling_isForced 21 rfl) rfl rfl ?_
        refine G_iload_n (pc := 37) 2 X (dg dt_Filling_isForced 22 rfl) rfl rfl ?_
        refine G_iload_n (pc := 38) 3 X (dg dt_Filling_isForced 23 rfl) rfl rfl ?_
        obtain ⟨r_10, hc_9, h⟩ := cap_go h
        refine G_callS (pc := 39) (S := []) [.ref (ad v0), .int v1, .int v2, .int v3] nosub X  (dg dt_Filling_isForced 24 rfl) cb_Filling_isAloneInColumn w_428 w_427 (s_Filling_isAloneInColumn _ ad _ _ _ _ _ hg_v0 hc_9) rfl ⟨Nat.le_of_ble_eq_true rfl, Nat.le_of_ble_eq_true rfl⟩  (Nat.le_of_ble_eq_true rfl) Rc0 ?_
        refine G_if_eq (pc := 42) 49 X (dg dt_Filling_isForced 25 rfl) (by decide) h (fun h => ?_) (fun h => ?_)
        · exact G_wk (hj49_5  h) trivial
        · exact G_wk (hj45_6  h) trivial
set_option maxRecDepth 100000 in
set_option maxHeartbeats 4000000 in
theorem s_Filling_firstForced_L22 {θ : Th} {ad : Nat → Nat}  {rv : Int32} (X : Cx θ [] cX0_firstForced 4 "Quasigrove$Filling" 5 113)
    {v0 : Nat} {v1 : Int32} {v2 : Int32} {σ : St} (hq : Rq θ (g_SH, ad) (some .int) (some (.int rv)) σ) (hg_v0 : gok v0) {kx40 : Int32 → Option Int32} (hkx40 : ∀ (v3 : Int32), kx40 v3 = some rv → G θ (0, 0) (g_SH, ad) σ 40 [none, some (.int v1), some (.int v2), some (.int v3)] []) {kx53 : Option Int32} (hkx53 : kx53 = some rv → G θ (0, 0) (g_SH, ad) σ 53 [some (.ref (ad v0)), some (.int v1), some (.int v2), none] []) :
    ∀ (n : Nat) (v3 : Int32), f_Filling_firstForced_L22 v0 v1 v2 σ kx40 kx53 n v3 = some rv → G θ (0, 0) (g_SH, ad) σ 22 [some (.ref (ad v0)), some (.int v1), some (.int v2), some (.int v3)] [] := by
  intro n
  induction n with
  | zero => intro v3 h; rw [f_Filling_firstForced_L22] at h; cases h
  | succ n ih =>
    intro v3 h
    rw [f_Filling_firstForced_L22] at h
    refine G_iload_n (pc := 22) 3 X (dg dt_Filling_firstForced 14 rfl) rfl rfl ?_
    refine G_aload_n (pc := 23) 0 X (dg dt_Filling_firstForced 15 rfl) rfl rfl ?_
    refine G_getIN (pc := 24) 3 X (dg dt_Filling_firstForced 16 rfl) fc_0 w_44 rfl (Nat.le_of_ble_eq_true rfl) (sh_g hg_v0) rfl ?_
    refine G_icmp_ge (pc := 27) 53 X (dg dt_Filling_firstForced 17 rfl) (by decide) h (fun h => ?_) (fun h => ?_)
    · exact G_wk (hkx53  h) ⟨rfl, ⟨rfl, ⟨rfl, trivial⟩⟩⟩
    · refine G_aload_n (pc := 30) 0 X (dg dt_Filling_firstForced 18 rfl) rfl rfl ?_
      refine G_iload_n (pc := 31) 1 X (dg dt_Filling_firstForced 19 rfl) rfl rfl ?_
      refine G_iload_n (pc := 32) 2 X (dg dt_Filling_firstForced 20 rfl) rfl rfl ?_
      refine G_iload_n (pc := 33) 3 X (dg dt_Filling_firstForced 21 rfl) rfl rfl ?_
      obtain ⟨r_2, hc_1, h⟩ := cap_go h
      refine G_callS (pc := 34) (S := []) [.ref (ad v0), .int v1, .int v2, .int v3] nosub X  (dg dt_Filling_firstForced 22 rfl) cb_Filling_isForced w_418 w_417 (s_Filling_isForced _ ad _ _ _ _ _ hg_v0 hc_1) rfl ⟨Nat.le_of_ble_eq_true rfl, Nat.le_of_ble_eq_true rfl⟩  (Nat.le_of_ble_eq_true rfl) Rc0 ?_
      refine G_if_eq (pc := 37) 47 X (dg dt_Filling_firstForced 23 rfl) (by decide) h (fun h => ?_) (fun h => ?_)
      · refine G_iinc (pc := 47) (v3 + 1) X (dg dt_Filling_firstForced 29 rfl) rfl (Nat.le_of_ble_eq_true rfl) rfl rfl ?_
        refine G_goto (pc := 50) 22 X (dg dt_Filling_firstForced 30 rfl) (by decide) ?_
        exact G_wk (ih (v3 + 1) h) ⟨rfl, ⟨rfl, ⟨rfl, ⟨rfl, trivial⟩⟩⟩⟩
      · exact G_wk (hkx40 v3 h) ⟨rfl, ⟨rfl, ⟨rfl, trivial⟩⟩⟩
set_option maxRecDepth 100000 in
set_option maxHeartbeats 4000000 in
theorem s_Filling_firstForced_L12 {θ : Th} {ad : Nat → Nat}  {rv : Int32} (X : Cx θ [] cX0_firstForced 4 "Quasigrove$Filling" 5 113)
    {v0 : Nat} {v1 : Int32} {σ : St} (hq : Rq θ (g_SH, ad) (some .int) (some (.int rv)) σ) (hg_v0 : gok v0) {kx40 : Int32 → Int32 → Option Int32} (hkx40 : ∀ (v2 : Int32) (v3 : Int32), kx40 v2 v3 = some rv → G θ (0, 0) (g_SH, ad) σ 40 [none, some (.int v1), some (.int v2), some (.int v3)] []) {kx59 : Option Int32} (hkx59 : kx59 = some rv → G θ (0, 0) (g_SH, ad) σ 59 [some (.ref (ad v0)), some (.int v1), none, none] []) :
    ∀ (n : Nat) (v2 : Int32), f_Filling_firstForced_L12 v0 v1 σ kx40 kx59 n v2 = some rv → G θ (0, 0) (g_SH, ad) σ 12 [some (.ref (ad v0)), some (.int v1), some (.int v2), none] [] := by
  intro n
  induction n with
  | zero => intro v2 h; rw [f_Filling_firstForced_L12] at h; cases h
  | succ n ih =>
    intro v2 h
    rw [f_Filling_firstForced_L12] at h
    refine G_iload_n (pc := 12) 2 X (dg dt_Filling_firstForced 8 rfl) rfl rfl ?_
    refine G_aload_n (pc := 13) 0 X (dg dt_Filling_firstForced 9 rfl) rfl rfl ?_
    refine G_getIN (pc := 14) 3 X (dg dt_Filling_firstForced 10 rfl) fc_0 w_44 rfl (Nat.le_of_ble_eq_true rfl) (sh_g hg_v0) rfl ?_
    refine G_icmp_ge (pc := 17) 59 X (dg dt_Filling_firstForced 11 rfl) (by decide) h (fun h => ?_) (fun h => ?_)
    · exact G_wk (hkx59  h) ⟨rfl, ⟨rfl, trivial⟩⟩
    · refine G_iconst (pc := 20) 0 X (dg dt_Filling_firstForced 12 rfl) (by decide) ?_
      refine G_istore_n (pc := 21) 3 X (dg dt_Filling_firstForced 13 rfl) rfl (Nat.le_of_ble_eq_true rfl) rfl ?_
      refine G_weak (L' := [some (.ref (ad v0)), some (.int v1), some (.int v2), some (.int 0)]) ⟨rfl, ⟨rfl, ⟨rfl, ⟨rfl, trivial⟩⟩⟩⟩ ?_
      refine s_Filling_firstForced_L22  X hq hg_v0 (fun v3_3 h => ?_) (fun h => ?_) _ _ h
      · exact G_wk (hkx40 v2 v3_3 h) ⟨rfl, ⟨rfl, ⟨rfl, trivial⟩⟩⟩
      · refine G_iinc (pc := 53) (v2 + 1) X (dg dt_Filling_firstForced 31 rfl) rfl (Nat.le_of_ble_eq_true rfl) rfl rfl ?_
        refine G_goto (pc := 56) 12 X (dg dt_Filling_firstForced 32 rfl) (by decide) ?_
        exact G_wk (ih (v2 + 1) h) ⟨rfl, ⟨rfl, ⟨rfl, trivial⟩⟩⟩
set_option maxRecDepth 100000 in
set_option maxHeartbeats 4000000 in
theorem s_Filling_firstForced_L2 {θ : Th} {ad : Nat → Nat}  {rv : Int32} (X : Cx θ [] cX0_firstForced 4 "Quasigrove$Filling" 5 113)
    {v0 : Nat} {σ : St} (hq : Rq θ (g_SH, ad) (some .int) (some (.int rv)) σ) (hg_v0 : gok v0) {kx40 : Int32 → Int32 → Int32 → Option Int32} (hkx40 : ∀ (v1 : Int32) (v2 : Int32) (v3 : Int32), kx40 v1 v2 v3 = some rv → G θ (0, 0) (g_SH, ad) σ 40 [none, some (.int v1), some (.int v2), some (.int v3)] []) :
    ∀ (n : Nat) (v1 : Int32), f_Filling_firstForced_L2 v0 σ kx40 n v1 = some rv → G θ (0, 0) (g_SH, ad) σ 2 [some (.ref (ad v0)), some (.int v1), none, none] [] := by
  intro n
  induction n with
  | zero => intro v1 h; rw [f_Filling_firstForced_L2] at h; cases h
  | succ n ih =>
    intro v1 h
    rw [f_Filling_firstForced_L2] at h
    refine G_iload_n (pc := 2) 1 X (dg dt_Filling_firstForced 2 rfl) rfl rfl ?_
    refine G_aload_n (pc := 3) 0 X (dg dt_Filling_firstForced 3 rfl) rfl rfl ?_
    refine G_getIN (pc := 4) 3 X (dg dt_Filling_firstForced 4 rfl) fc_0 w_44 rfl (Nat.le_of_ble_eq_true rfl) (sh_g hg_v0) rfl ?_
    refine G_icmp_ge (pc := 7) 65 X (dg dt_Filling_firstForced 5 rfl) (by decide) h (fun h => ?_) (fun h => ?_)
    · refine G_iconst (pc := 65) (-1) X (dg dt_Filling_firstForced 35 rfl) (by decide) ?_
      exact G_iretp (pc := 66) X hq (dg dt_Filling_firstForced 36 rfl) h
    · refine G_iconst (pc := 10) 0 X (dg dt_Filling_firstForced 6 rfl) (by decide) ?_
      refine G_istore_n (pc := 11) 2 X (dg dt_Filling_firstForced 7 rfl) rfl (Nat.le_of_ble_eq_true rfl) rfl ?_
      refine G_weak (L' := [some (.ref (ad v0)), some (.int v1), some (.int 0), none]) ⟨rfl, ⟨rfl, ⟨rfl, trivial⟩⟩⟩ ?_
      refine s_Filling_firstForced_L12  X hq hg_v0 (fun v2_4 v3_5 h => ?_) (fun h => ?_) _ _ h
      · exact G_wk (hkx40 v1 v2_4 v3_5 h) ⟨rfl, ⟨rfl, ⟨rfl, trivial⟩⟩⟩
      · refine G_iinc (pc := 59) (v1 + 1) X (dg dt_Filling_firstForced 33 rfl) rfl (Nat.le_of_ble_eq_true rfl) rfl rfl ?_
        refine G_goto (pc := 62) 2 X (dg dt_Filling_firstForced 34 rfl) (by decide) ?_
        exact G_wk (ih (v1 + 1) h) ⟨rfl, ⟨rfl, trivial⟩⟩
set_option maxRecDepth 100000 in
set_option maxHeartbeats 4000000 in
theorem s_Filling_firstForced (l : Launch) (ad : Nat → Nat) (σ : St) (v0 : Nat) (hg_v0 : gok v0) {rv : Int32} (h : f_Filling_firstForced σ v0 = some rv) : Rt l [] yX0_firstForced cX0_firstForced 4 (some .int) 5 113 (g_SH, ad) [.ref (ad v0)] σ (some (.int rv)) σ := by
  refine Rt.intro (L := [some (.ref (ad v0)), none, none, none]) (by decide +kernel) (Nat.le_of_ble_eq_true rfl) rfl (fun θ hl X hq => ?_)
  subst hl
  unfold f_Filling_firstForced at h
  refine G_iconst (pc := 0) 0 X (dg dt_Filling_firstForced 0 rfl) (by decide) ?_
  refine G_istore_n (pc := 1) 1 X (dg dt_Filling_firstForced 1 rfl) rfl (Nat.le_of_ble_eq_true rfl) rfl ?_
  refine G_weak (L' := [some (.ref (ad v0)), some (.int 0), none, none]) ⟨rfl, ⟨rfl, trivial⟩⟩ ?_
  refine s_Filling_firstForced_L2  X hq hg_v0 (fun v1_6 v2_7 v3_8 h => ?_) _ _ h
  refine G_iload_n (pc := 40) 1 X (dg dt_Filling_firstForced 24 rfl) rfl rfl ?_
  refine G_iload_n (pc := 41) 2 X (dg dt_Filling_firstForced 25 rfl) rfl rfl ?_
  refine G_iload_n (pc := 42) 3 X (dg dt_Filling_firstForced 26 rfl) rfl rfl ?_
  obtain ⟨r_10, hc_9, h⟩ := cap_go h
  refine G_callS (pc := 43) (S := []) [.int v1_6, .int v2_7, .int v3_8] nosub X  (dg dt_Filling_firstForced 27 rfl) cb_Move_packed w_431 w_430 (s_Move_packed _ ad _ _ _ _ hc_9) rfl ⟨Nat.le_of_ble_eq_true rfl, Nat.le_of_ble_eq_true rfl⟩  (Nat.le_of_ble_eq_true rfl) Rc0 ?_
  exact G_iretp (pc := 46) X hq (dg dt_Filling_firstForced 28 rfl) h
set_option maxRecDepth 100000 in
set_option maxHeartbeats 4000000 in
theorem s_Filling_fillForced_L7 {θ : Th} {ad : Nat → Nat}  {rv : Int32} {σe : St} (X : Cx θ [] cX0_fillForced 3 "Quasigrove$Filling" 6 136)
    {v0 : Nat} (hq : Rq θ (g_SH, ad) (some .int) (some (.int rv)) σe) (hg_v0 : gok v0) {kx45 : Int32 → St → Option (Int32 × St)} (hkx45 : ∀ (v1 : Int32) (σ : St), kx45 v1 σ = some (rv, σe) → G θ (0, 0) (g_SH, ad) σ 45 [none, some (.int v1), none] []) :
    ∀ (n : Nat) (v1 : Int32) (v2 : Int32) (σ : St), f_Filling_fillForced_L7 v0 kx45 n v1 v2 σ = some (rv, σe) → G θ (0, 0) (g_SH, ad) σ 7 [some (.ref (ad v0)), some (.int v1), some (.int v2)] [] := by
  intro n
  induction n with
  | zero => intro v1 v2 σ h; rw [f_Filling_fillForced_L7] at h; cases h
  | succ n ih =>
    intro v1 v2 σ h
    rw [f_Filling_fillForced_L7] at h
    refine G_iload_n (pc := 7) 2 X (dg dt_Filling_fillForced 5 rfl) rfl rfl ?_
    refine G_iconst (pc := 8) (-1) X (dg dt_Filling_fillForced 6 rfl) (by decide) ?_
    refine G_icmp_eq (pc := 9) 45 X (dg dt_Filling_fillForced 7 rfl) (by decide) h (fun h => ?_) (fun h => ?_)
    · exact G_wk (hkx45 v1 σ h) ⟨rfl, trivial⟩
    · refine G_iload_n (pc := 12) 1 X (dg dt_Filling_fillForced 8 rfl) rfl rfl ?_
      refine G_bipush (pc := 13) 25 X (dg dt_Filling_fillForced 9 rfl) (by decide) ?_
      refine G_icmp_ge (pc := 15) 45 X (dg dt_Filling_fillForced 10 rfl) (by decide) h (fun h => ?_) (fun h => ?_)
      · exact G_wk (hkx45 v1 σ h) ⟨rfl, trivial⟩
      · refine G_aload_n (pc := 18) 0 X (dg dt_Filling_fillForced 11 rfl) rfl rfl ?_
        refine G_iload_n (pc := 19) 2 X (dg dt_Filling_fillForced 12 rfl) rfl rfl ?_
        obtain ⟨r_4, hc_3, h⟩ := cap_go h
        refine G_callS (pc := 20) (S := [.ref (ad v0)]) [.int v2] nosub X  (dg dt_Filling_fillForced 13 rfl) cb_Move_row w_437 w_457 (s_Move_row _ ad _ _ hc_3) rfl ⟨Nat.le_of_ble_eq_true rfl, Nat.le_of_ble_eq_true rfl⟩  (Nat.le_of_ble_eq_true rfl) Rc0 ?_
        refine G_iload_n (pc := 23) 2 X (dg dt_Filling_fillForced 14 rfl) rfl rfl ?_
        obtain ⟨r_6, hc_5, h⟩ := cap_go h
        refine G_callS (pc := 24) (S := [.int r_4, .ref (ad v0)]) [.int v2] nosub X  (dg dt_Filling_fillForced 15 rfl) cb_Move_column w_440 w_458 (s_Move_column _ ad _ _ hc_5) rfl ⟨Nat.le_of_ble_eq_true rfl, Nat.le_of_ble_eq_true rfl⟩  (Nat.le_of_ble_eq_true rfl) Rc0 ?_
        refine G_iload_n (pc := 27) 2 X (dg dt_Filling_fillForced 16 rfl) rfl rfl ?_
        obtain ⟨r_8, hc_7, h⟩ := cap_go h
        refine G_callS (pc := 28) (S := [.int r_6, .int r_4, .ref (ad v0)]) [.int v2] nosub X  (dg dt_Filling_fillForced 17 rfl) cb_Move_sign w_443 w_459 (s_Move_sign _ ad _ _ hc_7) rfl ⟨Nat.le_of_ble_eq_true rfl, Nat.le_of_ble_eq_true rfl⟩  (Nat.le_of_ble_eq_true rfl) Rc0 ?_
        obtain ⟨r_10, σ_11, hc_9, h⟩ := cal_go h
        refine G_callV (pc := 31) (S := []) [.int r_4, .int r_6, .int r_8] nosub X  (dg dt_Filling_fillForced 18 rfl) cb_Grid_set cv_Grid_set w_460 (s_Grid_set _ ad _ _ _ _ _ hg_v0 hc_9) rfl ⟨Nat.le_of_ble_eq_true rfl, Nat.le_of_ble_eq_true rfl⟩ (sh_g hg_v0) rfl (Nat.le_of_ble_eq_true rfl) Rc0 ?_
        refine G_iinc (pc := 34) (v1 + 1) X (dg dt_Filling_fillForced 19 rfl) rfl (Nat.le_of_ble_eq_true rfl) rfl rfl ?_
        refine G_aload_n (pc := 37) 0 X (dg dt_Filling_fillForced 20 rfl) rfl rfl ?_
        obtain ⟨r_13, hc_12, h⟩ := cap_go h
        refine G_callS (pc := 38) (S := []) [.ref (ad v0)] nosub X  (dg dt_Filling_fillForced 21 rfl) cb_Filling_firstForced w_415 w_456 (s_Filling_firstForced _ ad _ _ hg_v0 hc_12) rfl ⟨Nat.le_of_ble_eq_true rfl, Nat.le_of_ble_eq_true rfl⟩  (Nat.le_of_ble_eq_true rfl) Rc0 ?_
        refine G_istore_n (pc := 41) 2 X (dg dt_Filling_fillForced 22 rfl) rfl (Nat.le_of_ble_eq_true rfl) rfl ?_
        refine G_goto (pc := 42) 7 X (dg dt_Filling_fillForced 23 rfl) (by decide) ?_
        exact G_wk (ih (v1 + 1) r_13 σ_11 h) ⟨rfl, ⟨rfl, ⟨rfl, trivial⟩⟩⟩
set_option maxRecDepth 100000 in
set_option maxHeartbeats 4000000 in
theorem s_Filling_fillForced (l : Launch) (ad : Nat → Nat) (σ : St) (v0 : Nat) (hg_v0 : gok v0) {rv : Int32} {σe : St} (h : f_Filling_fillForced σ v0 = some (rv, σe)) : Rt l [] yX0_fillForced cX0_fillForced 3 (some .int) 6 136 (g_SH, ad) [.ref (ad v0)] σ (some (.int rv)) σe := by
  refine Rt.intro (L := [some (.ref (ad v0)), none, none]) (by decide +kernel) (Nat.le_of_ble_eq_true rfl) rfl (fun θ hl X hq => ?_)
  subst hl
  unfold f_Filling_fillForced at h
  refine G_iconst (pc := 0) 0 X (dg dt_Filling_fillForced 0 rfl) (by decide) ?_
  refine G_istore_n (pc := 1) 1 X (dg dt_Filling_fillForced 1 rfl) rfl (Nat.le_of_ble_eq_true rfl) rfl ?_
  refine G_aload_n (pc := 2) 0 X (dg dt_Filling_fillForced 2 rfl) rfl rfl ?_
  obtain ⟨r_2, hc_1, h⟩ := cap_go h
  refine G_callS (pc := 3) (S := []) [.ref (ad v0)] nosub X  (dg dt_Filling_fillForced 3 rfl) cb_Filling_firstForced w_415 w_456 (s_Filling_firstForced _ ad _ _ hg_v0 hc_1) rfl ⟨Nat.le_of_ble_eq_true rfl, Nat.le_of_ble_eq_true rfl⟩  (Nat.le_of_ble_eq_true rfl) Rc0 ?_
  refine G_istore_n (pc := 6) 2 X (dg dt_Filling_fillForced 4 rfl) rfl (Nat.le_of_ble_eq_true rfl) rfl ?_
  refine G_weak (L' := [some (.ref (ad v0)), some (.int 0), some (.int r_2)]) ⟨rfl, ⟨rfl, ⟨rfl, trivial⟩⟩⟩ ?_
  refine s_Filling_fillForced_L7  X hq hg_v0 (fun v1_14 σ_15 h => ?_) _ _ _ _ h
  refine G_iload_n (pc := 45) 1 X (dg dt_Filling_fillForced 24 rfl) rfl rfl ?_
  exact G_iret (pc := 46) X hq (dg dt_Filling_fillForced 25 rfl) h
