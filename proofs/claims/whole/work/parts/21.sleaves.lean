set_option maxRecDepth 100000 in
set_option maxHeartbeats 4000000 in
theorem s_Move_packed (l : Launch) (ad : Nat → Nat) (σ : St) (v0 : Int32) (v1 : Int32) (v2 : Int32)  {rv : Int32} (h : f_Move_packed σ v0 v1 v2 = some rv) : Rt l [] yX6_packed cX6_packed 3 (some .int) 0 0 (g_SH, ad) [.int v0, .int v1, .int v2] σ (some (.int rv)) σ := by
  refine Rt.intro (L := [some (.int v0), some (.int v1), some (.int v2)]) (by decide +kernel) (Nat.le_of_ble_eq_true rfl) rfl (fun θ hl X hq => ?_)
  subst hl
  unfold f_Move_packed at h
  refine G_bipush (pc := 0) 10 X (dg dt_Move_packed 0 rfl) (by decide) ?_
  refine G_iconst (pc := 2) 5 X (dg dt_Move_packed 1 rfl) (by decide) ?_
  refine G_iload_n (pc := 3) 0 X (dg dt_Move_packed 2 rfl) rfl rfl ?_
  refine G_imul (pc := 4) X (dg dt_Move_packed 3 rfl) ?_
  refine G_iload_n (pc := 5) 1 X (dg dt_Move_packed 4 rfl) rfl rfl ?_
  refine G_iadd (pc := 6) X (dg dt_Move_packed 5 rfl) ?_
  refine G_imul (pc := 7) X (dg dt_Move_packed 6 rfl) ?_
  refine G_iload_n (pc := 8) 2 X (dg dt_Move_packed 7 rfl) rfl rfl ?_
  refine G_iadd (pc := 9) X (dg dt_Move_packed 8 rfl) ?_
  exact G_iretp (pc := 10) X hq (dg dt_Move_packed 9 rfl) h
set_option maxRecDepth 100000 in
set_option maxHeartbeats 4000000 in
theorem s_Move_row (l : Launch) (ad : Nat → Nat) (σ : St) (v0 : Int32)  {rv : Int32} (h : f_Move_row σ v0 = some rv) : Rt l [] yX6_row cX6_row 1 (some .int) 0 0 (g_SH, ad) [.int v0] σ (some (.int rv)) σ := by
  refine Rt.intro (L := [some (.int v0)]) (by decide +kernel) (Nat.le_of_ble_eq_true rfl) rfl (fun θ hl X hq => ?_)
  subst hl
  unfold f_Move_row at h
  refine G_iload_n (pc := 0) 0 X (dg dt_Move_row 0 rfl) rfl rfl ?_
  refine G_bipush (pc := 1) 50 X (dg dt_Move_row 1 rfl) (by decide) ?_
  refine G_idiv (pc := 3) X (dg dt_Move_row 2 rfl) h (fun q_1 h => ?_)
  exact G_iretp (pc := 4) X hq (dg dt_Move_row 3 rfl) h
set_option maxRecDepth 100000 in
set_option maxHeartbeats 4000000 in
theorem s_Move_column (l : Launch) (ad : Nat → Nat) (σ : St) (v0 : Int32)  {rv : Int32} (h : f_Move_column σ v0 = some rv) : Rt l [] yX6_column cX6_column 1 (some .int) 0 0 (g_SH, ad) [.int v0] σ (some (.int rv)) σ := by
  refine Rt.intro (L := [some (.int v0)]) (by decide +kernel) (Nat.le_of_ble_eq_true rfl) rfl (fun θ hl X hq => ?_)
  subst hl
  unfold f_Move_column at h
  refine G_iload_n (pc := 0) 0 X (dg dt_Move_column 0 rfl) rfl rfl ?_
  refine G_bipush (pc := 1) 10 X (dg dt_Move_column 1 rfl) (by decide) ?_
  refine G_idiv (pc := 3) X (dg dt_Move_column 2 rfl) h (fun q_1 h => ?_)
  refine G_iconst (pc := 4) 5 X (dg dt_Move_column 3 rfl) (by decide) ?_
  refine G_irem (pc := 5) X (dg dt_Move_column 4 rfl) h (fun q_2 h => ?_)
  exact G_iretp (pc := 6) X hq (dg dt_Move_column 5 rfl) h
set_option maxRecDepth 100000 in
set_option maxHeartbeats 4000000 in
theorem s_Move_sign (l : Launch) (ad : Nat → Nat) (σ : St) (v0 : Int32)  {rv : Int32} (h : f_Move_sign σ v0 = some rv) : Rt l [] yX6_sign cX6_sign 1 (some .int) 0 0 (g_SH, ad) [.int v0] σ (some (.int rv)) σ := by
  refine Rt.intro (L := [some (.int v0)]) (by decide +kernel) (Nat.le_of_ble_eq_true rfl) rfl (fun θ hl X hq => ?_)
  subst hl
  unfold f_Move_sign at h
  refine G_iload_n (pc := 0) 0 X (dg dt_Move_sign 0 rfl) rfl rfl ?_
  refine G_bipush (pc := 1) 10 X (dg dt_Move_sign 1 rfl) (by decide) ?_
  refine G_irem (pc := 3) X (dg dt_Move_sign 2 rfl) h (fun q_1 h => ?_)
  exact G_iretp (pc := 4) X hq (dg dt_Move_sign 3 rfl) h
set_option maxRecDepth 100000 in
set_option maxHeartbeats 4000000 in
theorem s_Move_told (l : Launch) (ad : Nat → Nat) (σ : St) (v0 : Int32) (v1 : Int32)  {rv : Int32} (h : f_Move_told σ v0 v1 = some rv) : Rt l [] yX6_told cX6_told 2 (some .int) 1 20 (g_SH, ad) [.int v0, .int v1] σ (some (.int rv)) σ := by
  refine Rt.intro (L := [some (.int v0), some (.int v1)]) (by decide +kernel) (Nat.le_of_ble_eq_true rfl) rfl (fun θ hl X hq => ?_)
  subst hl
  unfold f_Move_told at h
  refine G_iload_n (pc := 0) 0 X (dg dt_Move_told 0 rfl) rfl rfl ?_
  refine G_iconst (pc := 1) (-1) X (dg dt_Move_told 1 rfl) (by decide) ?_
  refine G_icmp_ne (pc := 2) 9 X (dg dt_Move_told 2 rfl) (by decide) h (fun h => ?_) (fun h => ?_)
  · refine G_bipush (pc := 9) 10 X (dg dt_Move_told 5 rfl) (by decide) ?_
    refine G_iload_n (pc := 11) 1 X (dg dt_Move_told 6 rfl) rfl rfl ?_
    refine G_iload_n (pc := 12) 0 X (dg dt_Move_told 7 rfl) rfl rfl ?_
    obtain ⟨r_2, hc_1, h⟩ := cap_go h
    refine G_callS (pc := 13) (S := [.int v1, .int 10]) [.int v0] nosub X  (dg dt_Move_told 8 rfl) cb_Move_row w_734 w_733 (s_Move_row _ ad _ _ hc_1) rfl ⟨Nat.le_of_ble_eq_true rfl, Nat.le_of_ble_eq_true rfl⟩  (Nat.le_of_ble_eq_true rfl) Rc0 ?_
    refine G_imul (pc := 16) X (dg dt_Move_told 9 rfl) ?_
    refine G_iload_n (pc := 17) 0 X (dg dt_Move_told 10 rfl) rfl rfl ?_
    obtain ⟨r_4, hc_3, h⟩ := cap_go h
    refine G_callS (pc := 18) (S := [.int (v1 * r_2), .int 10]) [.int v0] nosub X  (dg dt_Move_told 11 rfl) cb_Move_column w_737 w_736 (s_Move_column _ ad _ _ hc_3) rfl ⟨Nat.le_of_ble_eq_true rfl, Nat.le_of_ble_eq_true rfl⟩  (Nat.le_of_ble_eq_true rfl) Rc0 ?_
    refine G_iadd (pc := 21) X (dg dt_Move_told 12 rfl) ?_
    refine G_imul (pc := 22) X (dg dt_Move_told 13 rfl) ?_
    refine G_iload_n (pc := 23) 0 X (dg dt_Move_told 14 rfl) rfl rfl ?_
    obtain ⟨r_6, hc_5, h⟩ := cap_go h
    refine G_callS (pc := 24) (S := [.int (10 * ((v1 * r_2) + r_4))]) [.int v0] nosub X  (dg dt_Move_told 15 rfl) cb_Move_sign w_740 w_739 (s_Move_sign _ ad _ _ hc_5) rfl ⟨Nat.le_of_ble_eq_true rfl, Nat.le_of_ble_eq_true rfl⟩  (Nat.le_of_ble_eq_true rfl) Rc0 ?_
    refine G_iadd (pc := 27) X (dg dt_Move_told 16 rfl) ?_
    exact G_iretp (pc := 28) X hq (dg dt_Move_told 17 rfl) h
  · refine G_iconst (pc := 5) (-1) X (dg dt_Move_told 3 rfl) (by decide) ?_
    refine G_goto (pc := 6) 28 X (dg dt_Move_told 4 rfl) (by decide) ?_
    exact G_iretp (pc := 28) X hq (dg dt_Move_told 17 rfl) h
set_option maxRecDepth 100000 in
set_option maxHeartbeats 4000000 in
theorem s_Laws_entry (l : Launch) (ad : Nat → Nat) (σ : St) (v0 : Nat) (v1 : Int32) (v2 : Int32) (v3 : Int32) (hg_v0 : gok v0) {rv : Int32} (h : f_Laws_entry σ v0 v1 v2 v3 = some rv) : Rt l [] yX3_entry cX3_entry 4 (some .int) 4 88 (g_SH, ad) [.ref (ad v0), .int v1, .int v2, .int v3] σ (some (.int rv)) σ := by
  refine Rt.intro (L := [some (.ref (ad v0)), some (.int v1), some (.int v2), some (.int v3)]) (by decide +kernel) (Nat.le_of_ble_eq_true rfl) rfl (fun θ hl X hq => ?_)
  subst hl
  unfold f_Laws_entry at h
  refine G_iload_n (pc := 0) 1 X (dg dt_Laws_entry 0 rfl) rfl rfl ?_
  refine G_lookup2 (pc := 1) 28 35 42 X (dg dt_Laws_entry 1 rfl) (by decide) (by decide) (by decide) (by decide) (by decide) (by decide) h (fun h => ?_) (fun h => ?_) (fun h => ?_)
  · refine G_aload_n (pc := 28) 0 X (dg dt_Laws_entry 2 rfl) rfl rfl ?_
    refine G_iload_n (pc := 29) 2 X (dg dt_Laws_entry 3 rfl) rfl rfl ?_
    refine G_iload_n (pc := 30) 3 X (dg dt_Laws_entry 4 rfl) rfl rfl ?_
    obtain ⟨r_2, hc_1, h⟩ := cap_go h
    refine G_callV (pc := 31) (S := []) [.int v2, .int v3] nosub X  (dg dt_Laws_entry 5 rfl) cb_Grid_signAt cv_Grid_signAt w_843 (s_Grid_signAt _ ad _ _ _ _ hg_v0 hc_1) rfl ⟨Nat.le_of_ble_eq_true rfl, Nat.le_of_ble_eq_true rfl⟩ (sh_g hg_v0) rfl (Nat.le_of_ble_eq_true rfl) Rc0 ?_
    exact G_iretp (pc := 34) X hq (dg dt_Laws_entry 6 rfl) h
  · refine G_aload_n (pc := 35) 0 X (dg dt_Laws_entry 7 rfl) rfl rfl ?_
    refine G_iload_n (pc := 36) 3 X (dg dt_Laws_entry 8 rfl) rfl rfl ?_
    refine G_iload_n (pc := 37) 2 X (dg dt_Laws_entry 9 rfl) rfl rfl ?_
    obtain ⟨r_4, hc_3, h⟩ := cap_go h
    refine G_callV (pc := 38) (S := []) [.int v3, .int v2] nosub X  (dg dt_Laws_entry 10 rfl) cb_Grid_signAt cv_Grid_signAt w_843 (s_Grid_signAt _ ad _ _ _ _ hg_v0 hc_3) rfl ⟨Nat.le_of_ble_eq_true rfl, Nat.le_of_ble_eq_true rfl⟩ (sh_g hg_v0) rfl (Nat.le_of_ble_eq_true rfl) Rc0 ?_
    exact G_iretp (pc := 41) X hq (dg dt_Laws_entry 11 rfl) h
  · refine G_aload_n (pc := 42) 0 X (dg dt_Laws_entry 12 rfl) rfl rfl ?_
    refine G_iload_n (pc := 43) 3 X (dg dt_Laws_entry 13 rfl) rfl rfl ?_
    refine G_iload_n (pc := 44) 2 X (dg dt_Laws_entry 14 rfl) rfl rfl ?_
    obtain ⟨r_6, hc_5, h⟩ := cap_go h
    refine G_callV (pc := 45) (S := []) [.int v3, .int v2] nosub X  (dg dt_Laws_entry 15 rfl) cb_Grid_columnOf cv_Grid_columnOf w_1035 (s_Grid_columnOf _ ad _ _ _ _ hg_v0 hc_5) rfl ⟨Nat.le_of_ble_eq_true rfl, Nat.le_of_ble_eq_true rfl⟩ (sh_g hg_v0) rfl (Nat.le_of_ble_eq_true rfl) Rc0 ?_
    exact G_iretp (pc := 48) X hq (dg dt_Laws_entry 16 rfl) h
set_option maxRecDepth 100000 in
set_option maxHeartbeats 4000000 in
theorem s_Laws_parityOf_L27 {θ : Th} {ad : Nat → Nat}  {rv : Int32} (X : Cx θ [] cX3_parityOf 6 "Quasigrove$Laws" 5 111)
    {v0 : Nat} {v1 : Int32} {v3 : Int32} {v4 : Int32} {σ : St} (hq : Rq θ (g_SH, ad) (some .int) (some (.int rv)) σ) (hg_v0 : gok v0) {kx62 : Int32 → Option Int32} (hkx62 : ∀ (v2 : Int32), kx62 v2 = some rv → G θ (0, 0) (g_SH, ad) σ 62 [some (.ref (ad v0)), some (.int v1), some (.int v2), some (.int v3), some (.int v4), none] []) :
    ∀ (n : Nat) (v2 : Int32) (v5 : Int32), f_Laws_parityOf_L27 v0 v1 v3 v4 σ kx62 n v2 v5 = some rv → G θ (0, 0) (g_SH, ad) σ 27 [some (.ref (ad v0)), some (.int v1), some (.int v2), some (.int v3), some (.int v4), some (.int v5)] [] := by
  intro n
  induction n with
  | zero => intro v2 v5 h; rw [f_Laws_parityOf_L27] at h; cases h
  | succ n ih =>
    intro v2 v5 h
    rw [f_Laws_parityOf_L27] at h
    refine G_iload (pc := 27) X (dg dt_Laws_parityOf 16 rfl) rfl ?_
    refine G_iload (pc := 29) X (dg dt_Laws_parityOf 17 rfl) rfl ?_
    refine G_icmp_ge (pc := 31) 62 X (dg dt_Laws_parityOf 18 rfl) (by decide) h (fun h => ?_) (fun h => ?_)
    · exact G_wk (hkx62 v2 h) ⟨rfl, ⟨rfl, ⟨rfl, ⟨rfl, ⟨rfl, trivial⟩⟩⟩⟩⟩
    · refine G_aload_n (pc := 34) 0 X (dg dt_Laws_parityOf 19 rfl) rfl rfl ?_
      refine G_iload_n (pc := 35) 1 X (dg dt_Laws_parityOf 20 rfl) rfl rfl ?_
      refine G_iload_n (pc := 36) 3 X (dg dt_Laws_parityOf 21 rfl) rfl rfl ?_
      refine G_iload (pc := 37) X (dg dt_Laws_parityOf 22 rfl) rfl ?_
      obtain ⟨r_2, hc_1, h⟩ := cap_go h
      refine G_callS (pc := 39) (S := []) [.ref (ad v0), .int v1, .int v3, .int v4] nosub X  (dg dt_Laws_parityOf 23 rfl) cb_Laws_entry w_1033 w_1032 (s_Laws_entry _ ad _ _ _ _ _ hg_v0 hc_1) rfl ⟨Nat.le_of_ble_eq_true rfl, Nat.le_of_ble_eq_true rfl⟩  (Nat.le_of_ble_eq_true rfl) Rc0 ?_
      refine G_aload_n (pc := 42) 0 X (dg dt_Laws_parityOf 24 rfl) rfl rfl ?_
      refine G_iload_n (pc := 43) 1 X (dg dt_Laws_parityOf 25 rfl) rfl rfl ?_
      refine G_iload_n (pc := 44) 3 X (dg dt_Laws_parityOf 26 rfl) rfl rfl ?_
      refine G_iload (pc := 45) X (dg dt_Laws_parityOf 27 rfl) rfl ?_
      obtain ⟨r_4, hc_3, h⟩ := cap_go h
      refine G_callS (pc := 47) (S := [.int r_2]) [.ref (ad v0), .int v1, .int v3, .int v5] nosub X  (dg dt_Laws_parityOf 28 rfl) cb_Laws_entry w_1033 w_1032 (s_Laws_entry _ ad _ _ _ _ _ hg_v0 hc_3) rfl ⟨Nat.le_of_ble_eq_true rfl, Nat.le_of_ble_eq_true rfl⟩  (Nat.le_of_ble_eq_true rfl) Rc0 ?_
      refine jn_go (fun j56_5 => ∀ (v2_6 : Int32), j56_5 v2_6 = some rv → G θ (0, 0) (g_SH, ad) σ 56 [some (.ref (ad v0)), some (.int v1), some (.int v2_6), some (.int v3), some (.int v4), some (.int v5)] []) h ?_ (fun j56_5 hj56_5 h => ?_)
      · intro v2_6 h
        refine G_iinc (pc := 56) (v5 + 1) X (dg dt_Laws_parityOf 31 rfl) rfl (Nat.le_of_ble_eq_true rfl) rfl rfl ?_
        refine G_goto (pc := 59) 27 X (dg dt_Laws_parityOf 32 rfl) (by decide) ?_
        exact G_wk (ih v2_6 (v5 + 1) h) ⟨rfl, ⟨rfl, ⟨rfl, ⟨rfl, ⟨rfl, ⟨rfl, trivial⟩⟩⟩⟩⟩⟩
      refine G_icmp_ge (pc := 50) 56 X (dg dt_Laws_parityOf 29 rfl) (by decide) h (fun h => ?_) (fun h => ?_)
      · exact G_wk (hj56_5 v2 h) ⟨rfl, ⟨rfl, ⟨rfl, ⟨rfl, ⟨rfl, ⟨rfl, trivial⟩⟩⟩⟩⟩⟩
      · refine G_iinc (pc := 53) (v2 + 1) X (dg dt_Laws_parityOf 30 rfl) rfl (Nat.le_of_ble_eq_true rfl) rfl rfl ?_
        exact G_wk (hj56_5 (v2 + 1) h) ⟨rfl, ⟨rfl, ⟨rfl, ⟨rfl, ⟨rfl, ⟨rfl, trivial⟩⟩⟩⟩⟩⟩
set_option maxRecDepth 100000 in
set_option maxHeartbeats 4000000 in
theorem s_Laws_parityOf_L15 {θ : Th} {ad : Nat → Nat}  {rv : Int32} (X : Cx θ [] cX3_parityOf 6 "Quasigrove$Laws" 5 111)
    {v0 : Nat} {v1 : Int32} {v3 : Int32} {σ : St} (hq : Rq θ (g_SH, ad) (some .int) (some (.int rv)) σ) (hg_v0 : gok v0) {kx68 : Int32 → Option Int32} (hkx68 : ∀ (v2 : Int32), kx68 v2 = some rv → G θ (0, 0) (g_SH, ad) σ 68 [some (.ref (ad v0)), some (.int v1), some (.int v2), some (.int v3), none, none] []) :
    ∀ (n : Nat) (v2 : Int32) (v4 : Int32), f_Laws_parityOf_L15 v0 v1 v3 σ kx68 n v2 v4 = some rv → G θ (0, 0) (g_SH, ad) σ 15 [some (.ref (ad v0)), some (.int v1), some (.int v2), some (.int v3), some (.int v4), none] [] := by
  intro n
  induction n with
  | zero => intro v2 v4 h; rw [f_Laws_parityOf_L15] at h; cases h
  | succ n ih =>
    intro v2 v4 h
    rw [f_Laws_parityOf_L15] at h
    refine G_iload (pc := 15) X (dg dt_Laws_parityOf 10 rfl) rfl ?_
    refine G_aload_n (pc := 17) 0 X (dg dt_Laws_parityOf 11 rfl) rfl rfl ?_
    refine G_getIN (pc := 18) 3 X (dg dt_Laws_parityOf 12 rfl) fc_0 w_114 rfl (Nat.le_of_ble_eq_true rfl) (sh_g hg_v0) rfl ?_
    refine G_icmp_ge (pc := 21) 68 X (dg dt_Laws_parityOf 13 rfl) (by decide) h (fun h => ?_) (fun h => ?_)
    · exact G_wk (hkx68 v2 h) ⟨rfl, ⟨rfl, ⟨rfl, ⟨rfl, trivial⟩⟩⟩⟩
    · refine G_iconst (pc := 24) 0 X (dg dt_Laws_parityOf 14 rfl) (by decide) ?_
      refine G_istore (pc := 25) X (dg dt_Laws_parityOf 15 rfl) (Nat.le_of_ble_eq_true rfl) rfl ?_
      refine G_weak (L' := [some (.ref (ad v0)), some (.int v1), some (.int v2), some (.int v3), some (.int v4), some (.int 0)]) ⟨rfl, ⟨rfl, ⟨rfl, ⟨rfl, ⟨rfl, ⟨rfl, trivial⟩⟩⟩⟩⟩⟩ ?_
      refine s_Laws_parityOf_L27  X hq hg_v0 (fun v2_7 h => ?_) _ _ _ h
      refine G_iinc (pc := 62) (v4 + 1) X (dg dt_Laws_parityOf 33 rfl) rfl (Nat.le_of_ble_eq_true rfl) rfl rfl ?_
      refine G_goto (pc := 65) 15 X (dg dt_Laws_parityOf 34 rfl) (by decide) ?_
      exact G_wk (ih v2_7 (v4 + 1) h) ⟨rfl, ⟨rfl, ⟨rfl, ⟨rfl, ⟨rfl, trivial⟩⟩⟩⟩⟩
set_option maxRecDepth 100000 in
set_option maxHeartbeats 4000000 in
theorem s_Laws_parityOf_L4 {θ : Th} {ad : Nat → Nat}  {rv : Int32} (X : Cx θ [] cX3_parityOf 6 "Quasigrove$Laws" 5 111)
    {v0 : Nat} {v1 : Int32} {σ : St} (hq : Rq θ (g_SH, ad) (some .int) (some (.int rv)) σ) (hg_v0 : gok v0) {kx74 : Int32 → Option Int32} (hkx74 : ∀ (v2 : Int32), kx74 v2 = some rv → G θ (0, 0) (g_SH, ad) σ 74 [none, none, some (.int v2), none, none, none] []) :
    ∀ (n : Nat) (v2 : Int32) (v3 : Int32), f_Laws_parityOf_L4 v0 v1 σ kx74 n v2 v3 = some rv → G θ (0, 0) (g_SH, ad) σ 4 [some (.ref (ad v0)), some (.int v1), some (.int v2), some (.int v3), none, none] [] := by
  intro n
  induction n with
  | zero => intro v2 v3 h; rw [f_Laws_parityOf_L4] at h; cases h
  | succ n ih =>
    intro v2 v3 h
    rw [f_Laws_parityOf_L4] at h
    refine G_iload_n (pc := 4) 3 X (dg dt_Laws_parityOf 4 rfl) rfl rfl ?_
    refine G_aload_n (pc := 5) 0 X (dg dt_Laws_parityOf 5 rfl) rfl rfl ?_
    refine G_getIN (pc := 6) 3 X (dg dt_Laws_parityOf 6 rfl) fc_0 w_114 rfl (Nat.le_of_ble_eq_true rfl) (sh_g hg_v0) rfl ?_
    refine G_icmp_ge (pc := 9) 74 X (dg dt_Laws_parityOf 7 rfl) (by decide) h (fun h => ?_) (fun h => ?_)
    · exact G_wk (hkx74 v2 h) ⟨rfl, trivial⟩
    · refine G_iconst (pc := 12) 1 X (dg dt_Laws_parityOf 8 rfl) (by decide) ?_
      refine G_istore (pc := 13) X (dg dt_Laws_parityOf 9 rfl) (Nat.le_of_ble_eq_true rfl) rfl ?_
      refine G_weak (L' := [some (.ref (ad v0)), some (.int v1), some (.int v2), some (.int v3), some (.int 1), none]) ⟨rfl, ⟨rfl, ⟨rfl, ⟨rfl, ⟨rfl, trivial⟩⟩⟩⟩⟩ ?_
      refine s_Laws_parityOf_L15  X hq hg_v0 (fun v2_8 h => ?_) _ _ _ h
      refine G_iinc (pc := 68) (v3 + 1) X (dg dt_Laws_parityOf 35 rfl) rfl (Nat.le_of_ble_eq_true rfl) rfl rfl ?_
      refine G_goto (pc := 71) 4 X (dg dt_Laws_parityOf 36 rfl) (by decide) ?_
      exact G_wk (ih v2_8 (v3 + 1) h) ⟨rfl, ⟨rfl, ⟨rfl, ⟨rfl, trivial⟩⟩⟩⟩
set_option maxRecDepth 100000 in
set_option maxHeartbeats 4000000 in
theorem s_Laws_parityOf (l : Launch) (ad : Nat → Nat) (σ : St) (v0 : Nat) (v1 : Int32) (hg_v0 : gok v0) {rv : Int32} (h : f_Laws_parityOf σ v0 v1 = some rv) : Rt l [] yX3_parityOf cX3_parityOf 6 (some .int) 5 111 (g_SH, ad) [.ref (ad v0), .int v1] σ (some (.int rv)) σ := by
  refine Rt.intro (L := [some (.ref (ad v0)), some (.int v1), none, none, none, none]) (by decide +kernel) (Nat.le_of_ble_eq_true rfl) rfl (fun θ hl X hq => ?_)
  subst hl
  unfold f_Laws_parityOf at h
  refine G_iconst (pc := 0) 0 X (dg dt_Laws_parityOf 0 rfl) (by decide) ?_
  refine G_istore_n (pc := 1) 2 X (dg dt_Laws_parityOf 1 rfl) rfl (Nat.le_of_ble_eq_true rfl) rfl ?_
  refine G_iconst (pc := 2) 0 X (dg dt_Laws_parityOf 2 rfl) (by decide) ?_
  refine G_istore_n (pc := 3) 3 X (dg dt_Laws_parityOf 3 rfl) rfl (Nat.le_of_ble_eq_true rfl) rfl ?_
  refine G_weak (L' := [some (.ref (ad v0)), some (.int v1), some (.int 0), some (.int 0), none, none]) ⟨rfl, ⟨rfl, ⟨rfl, ⟨rfl, trivial⟩⟩⟩⟩ ?_
  refine s_Laws_parityOf_L4  X hq hg_v0 (fun v2_9 h => ?_) _ _ _ h
  refine G_iload_n (pc := 74) 2 X (dg dt_Laws_parityOf 37 rfl) rfl rfl ?_
  refine G_iconst (pc := 75) 1 X (dg dt_Laws_parityOf 38 rfl) (by decide) ?_
  refine G_iand (pc := 76) X (dg dt_Laws_parityOf 39 rfl) ?_
  exact G_iretp (pc := 77) X hq (dg dt_Laws_parityOf 40 rfl) h
set_option maxRecDepth 100000 in
set_option maxHeartbeats 4000000 in
theorem s_Maps_amount (l : Launch) (ad : Nat → Nat) (σ : St) (v1 : Int32)  {rv : Int32} (h : f_Maps_amount σ v1 = some rv) : Rt l [] yX4_amount cX4_amount 2 (some .int) 0 0 (g_SH, ad) [.ref (ad 6), .int v1] σ (some (.int rv)) σ := by
  refine Rt.intro (L := [some (.ref (ad 6)), some (.int v1)]) (by decide +kernel) (Nat.le_of_ble_eq_true rfl) rfl (fun θ hl X hq => ?_)
  subst hl
  unfold f_Maps_amount at h
  refine G_iload_n (pc := 0) 1 X (dg dt_Maps_amount 0 rfl) rfl rfl ?_
  refine jn_go (fun j20_1 => j20_1 = some rv → G θ (0, 0) (g_SH, ad) σ 20 [none, none] []) h ?_ (fun j20_1 hj20_1 h => ?_)
  · intro  h
    refine G_iconst (pc := 20) 0 X (dg dt_Maps_amount 10 rfl) (by decide) ?_
    exact G_iretp (pc := 21) X hq (dg dt_Maps_amount 11 rfl) h
  refine G_if_lt (pc := 1) 20 X (dg dt_Maps_amount 1 rfl) (by decide) h (fun h => ?_) (fun h => ?_)
  · exact G_wk (hj20_1  h) trivial
  · refine G_iload_n (pc := 4) 1 X (dg dt_Maps_amount 2 rfl) rfl rfl ?_
    refine G_fact (pc := 5) (i := 0) (f := fun _ => none) (β := Int32) (r := rv) X (dg dt_Maps_amount 3 rfl) w_521 (fun tF_2 hFtF_2 hLtF_2 => ?_)
    refine hLtF_2 8 _ _ _ (dg dt_Maps_amount 4 rfl) ?_
    refine G_icmp_ge (pc := 9) 20 X (dg dt_Maps_amount 5 rfl) (by decide) h (fun h => ?_) (fun h => ?_)
    · exact G_wk (hj20_1  h) trivial
    · refine G_fact (pc := 12) (i := 0) (f := fun _ => none) (β := Int32) (r := rv) X (dg dt_Maps_amount 6 rfl) w_521 (fun tF_3 hFtF_3 hLtF_3 => ?_)
      refine G_iload_n (pc := 15) 1 X (dg dt_Maps_amount 7 rfl) rfl rfl ?_
      refine hFtF_3 16 _ _ _ _ _ (dg dt_Maps_amount 8 rfl) h (fun r_4 h => ?_)
      refine G_goto (pc := 17) 21 X (dg dt_Maps_amount 9 rfl) (by decide) ?_
      exact G_iretp (pc := 21) X hq (dg dt_Maps_amount 11 rfl) h
set_option maxRecDepth 100000 in
set_option maxHeartbeats 4000000 in
theorem s_Maps_imageOf (l : Launch) (ad : Nat → Nat) (σ : St) (v1 : Int32) (v2 : Int32)  {rv : Int32} (h : f_Maps_imageOf σ v1 v2 = some rv) : Rt l [] yX4_imageOf cX4_imageOf 4 (some .int) 0 0 (g_SH, ad) [.ref (ad 6), .int v1, .int v2] σ (some (.int rv)) σ := by
  refine Rt.intro (L := [some (.ref (ad 6)), some (.int v1), some (.int v2), none]) (by decide +kernel) (Nat.le_of_ble_eq_true rfl) rfl (fun θ hl X hq => ?_)
  subst hl
  unfold f_Maps_imageOf at h
  refine G_iload_n (pc := 0) 1 X (dg dt_Maps_imageOf 0 rfl) rfl rfl ?_
  refine jn_go (fun j24_1 => ∀ (s_2 : Int32), j24_1 s_2 = some rv → G θ (0, 0) (g_SH, ad) σ 24 [some (.ref (ad 6)), some (.int v1), some (.int v2), none] [.int s_2]) h ?_ (fun j24_1 hj24_1 h => ?_)
  · intro s_2 h
    refine G_istore_n (pc := 24) 3 X (dg dt_Maps_imageOf 13 rfl) rfl (Nat.le_of_ble_eq_true rfl) rfl ?_
    refine G_iload_n (pc := 25) 3 X (dg dt_Maps_imageOf 14 rfl) rfl rfl ?_
    refine G_if_eq (pc := 26) 42 X (dg dt_Maps_imageOf 15 rfl) (by decide) h (fun h => ?_) (fun h => ?_)
    · refine G_iconst (pc := 42) (-1) X (dg dt_Maps_imageOf 25 rfl) (by decide) ?_
      exact G_iretp (pc := 43) X hq (dg dt_Maps_imageOf 26 rfl) h
    · refine G_aload_n (pc := 29) 0 X (dg dt_Maps_imageOf 16 rfl) rfl rfl ?_
      refine G_getR (pc := 30) 0 X (dg dt_Maps_imageOf 17 rfl) fc_1 w_145 rfl (Nat.le_of_ble_eq_true rfl) sh_6 rfl ?_
      refine G_iconst (pc := 33) 5 X (dg dt_Maps_imageOf 18 rfl) (by decide) ?_
      refine G_iload_n (pc := 34) 1 X (dg dt_Maps_imageOf 19 rfl) rfl rfl ?_
      refine G_imul (pc := 35) X (dg dt_Maps_imageOf 20 rfl) ?_
      refine G_iload_n (pc := 36) 2 X (dg dt_Maps_imageOf 21 rfl) rfl rfl ?_
      refine G_iadd (pc := 37) X (dg dt_Maps_imageOf 22 rfl) ?_
      refine G_iald (pc := 38) X (dg dt_Maps_imageOf 23 rfl) sh_7 h (fun r_3 h => ?_)
      refine G_goto (pc := 39) 43 X (dg dt_Maps_imageOf 24 rfl) (by decide) ?_
      exact G_iretp (pc := 43) X hq (dg dt_Maps_imageOf 26 rfl) h
  refine jn_go (fun j23_4 => j23_4 = some rv → G θ (0, 0) (g_SH, ad) σ 23 [some (.ref (ad 6)), some (.int v1), some (.int v2), none] []) h ?_ (fun j23_4 hj23_4 h => ?_)
  · intro  h
    refine G_iconst (pc := 23) 0 X (dg dt_Maps_imageOf 12 rfl) (by decide) ?_
    exact G_wk (hj24_1 0 h) ⟨rfl, ⟨rfl, ⟨rfl, trivial⟩⟩⟩
  refine G_if_lt (pc := 1) 23 X (dg dt_Maps_imageOf 1 rfl) (by decide) h (fun h => ?_) (fun h => ?_)
  · exact G_wk (hj23_4  h) ⟨rfl, ⟨rfl, ⟨rfl, trivial⟩⟩⟩
  · refine G_iload_n (pc := 4) 1 X (dg dt_Maps_imageOf 2 rfl) rfl rfl ?_
    refine G_bipush (pc := 5) 120 X (dg dt_Maps_imageOf 3 rfl) (by decide) ?_
    refine G_icmp_ge (pc := 7) 23 X (dg dt_Maps_imageOf 4 rfl) (by decide) h (fun h => ?_) (fun h => ?_)
    · exact G_wk (hj23_4  h) ⟨rfl, ⟨rfl, ⟨rfl, trivial⟩⟩⟩
    · refine G_iload_n (pc := 10) 2 X (dg dt_Maps_imageOf 5 rfl) rfl rfl ?_
      refine G_if_lt (pc := 11) 23 X (dg dt_Maps_imageOf 6 rfl) (by decide) h (fun h => ?_) (fun h => ?_)
      · exact G_wk (hj23_4  h) ⟨rfl, ⟨rfl, ⟨rfl, trivial⟩⟩⟩
      · refine G_iload_n (pc := 14) 2 X (dg dt_Maps_imageOf 7 rfl) rfl rfl ?_
        refine G_iconst (pc := 15) 5 X (dg dt_Maps_imageOf 8 rfl) (by decide) ?_
        refine G_icmp_ge (pc := 16) 23 X (dg dt_Maps_imageOf 9 rfl) (by decide) h (fun h => ?_) (fun h => ?_)
        · exact G_wk (hj23_4  h) ⟨rfl, ⟨rfl, ⟨rfl, trivial⟩⟩⟩
        · refine G_iconst (pc := 19) 1 X (dg dt_Maps_imageOf 10 rfl) (by decide) ?_
          refine G_goto (pc := 20) 24 X (dg dt_Maps_imageOf 11 rfl) (by decide) ?_
          exact G_wk (hj24_1 1 h) ⟨rfl, ⟨rfl, ⟨rfl, trivial⟩⟩⟩
set_option maxRecDepth 100000 in
set_option maxHeartbeats 4000000 in
theorem s_Maps_pairsOf (l : Launch) (ad : Nat → Nat) (σ : St) (v1 : Int32) (v2 : Int32)  {rv : Int32} (h : f_Maps_pairsOf σ v1 v2 = some rv) : Rt l [] yX4_pairsOf cX4_pairsOf 3 (some .int) 0 0 (g_SH, ad) [.ref (ad 6), .int v1, .int v2] σ (some (.int rv)) σ := by
  refine Rt.intro (L := [some (.ref (ad 6)), some (.int v1), some (.int v2)]) (by decide +kernel) (Nat.le_of_ble_eq_true rfl) rfl (fun θ hl X hq => ?_)
  subst hl
  unfold f_Maps_pairsOf at h
  refine G_iload_n (pc := 0) 1 X (dg dt_Maps_pairsOf 0 rfl) rfl rfl ?_
  refine jn_go (fun j27_1 => j27_1 = some rv → G θ (0, 0) (g_SH, ad) σ 27 [none, none, none] []) h ?_ (fun j27_1 hj27_1 h => ?_)
  · intro  h
    refine G_iconst (pc := 27) 0 X (dg dt_Maps_pairsOf 18 rfl) (by decide) ?_
    exact G_iretp (pc := 28) X hq (dg dt_Maps_pairsOf 19 rfl) h
  refine G_if_lt (pc := 1) 27 X (dg dt_Maps_pairsOf 1 rfl) (by decide) h (fun h => ?_) (fun h => ?_)
  · exact G_wk (hj27_1  h) trivial
  · refine G_iload_n (pc := 4) 1 X (dg dt_Maps_pairsOf 2 rfl) rfl rfl ?_
    refine G_bipush (pc := 5) 120 X (dg dt_Maps_pairsOf 3 rfl) (by decide) ?_
    refine G_icmp_ge (pc := 7) 27 X (dg dt_Maps_pairsOf 4 rfl) (by decide) h (fun h => ?_) (fun h => ?_)
    · exact G_wk (hj27_1  h) trivial
    · refine G_aload_n (pc := 10) 0 X (dg dt_Maps_pairsOf 5 rfl) rfl rfl ?_
      refine G_getR (pc := 11) 1 X (dg dt_Maps_pairsOf 6 rfl) fc_1 w_146 rfl (Nat.le_of_ble_eq_true rfl) sh_6 rfl ?_
      refine G_iload_n (pc := 14) 1 X (dg dt_Maps_pairsOf 7 rfl) rfl rfl ?_
      refine G_iald (pc := 15) X (dg dt_Maps_pairsOf 8 rfl) sh_8 h (fun r_2 h => ?_)
      refine G_iconst (pc := 16) 1 X (dg dt_Maps_pairsOf 9 rfl) (by decide) ?_
      refine G_iconst (pc := 17) 5 X (dg dt_Maps_pairsOf 10 rfl) (by decide) ?_
      refine G_iload_n (pc := 18) 2 X (dg dt_Maps_pairsOf 11 rfl) rfl rfl ?_
      refine G_imul (pc := 19) X (dg dt_Maps_pairsOf 12 rfl) ?_
      refine G_ishl (pc := 20) X (dg dt_Maps_pairsOf 13 rfl) ?_
      refine G_iconst (pc := 21) 1 X (dg dt_Maps_pairsOf 14 rfl) (by decide) ?_
      refine G_isub (pc := 22) X (dg dt_Maps_pairsOf 15 rfl) ?_
      refine G_iand (pc := 23) X (dg dt_Maps_pairsOf 16 rfl) ?_
      refine G_goto (pc := 24) 28 X (dg dt_Maps_pairsOf 17 rfl) (by decide) ?_
      exact G_iretp (pc := 28) X hq (dg dt_Maps_pairsOf 19 rfl) h
set_option maxRecDepth 100000 in
set_option maxHeartbeats 4000000 in
theorem s_Laws_productsOf_L15 {θ : Th} {ad : Nat → Nat}  {rv : Int32} (X : Cx θ [] cX3_productsOf 5 "Quasigrove$Laws" 3 65)
    {v0 : Nat} {v1 : Int32} {v3 : Int32} {σ : St} (hq : Rq θ (g_SH, ad) (some .int) (some (.int rv)) σ) (hg_v0 : gok v0) {kx59 : Int32 → Option Int32} (hkx59 : ∀ (v2 : Int32), kx59 v2 = some rv → G θ (0, 0) (g_SH, ad) σ 59 [some (.ref (ad v0)), some (.int v1), some (.int v2), some (.int v3), none] []) :
    ∀ (n : Nat) (v2 : Int32) (v4 : Int32), f_Laws_productsOf_L15 v0 v1 v3 σ kx59 n v2 v4 = some rv → G θ (0, 0) (g_SH, ad) σ 15 [some (.ref (ad v0)), some (.int v1), some (.int v2), some (.int v3), some (.int v4)] [] := by
  intro n
  induction n with
  | zero => intro v2 v4 h; rw [f_Laws_productsOf_L15] at h; cases h
  | succ n ih =>
    intro v2 v4 h
    rw [f_Laws_productsOf_L15] at h
    refine G_iload (pc := 15) X (dg dt_Laws_productsOf 10 rfl) rfl ?_
    refine G_aload_n (pc := 17) 0 X (dg dt_Laws_productsOf 11 rfl) rfl rfl ?_
    refine G_getIN (pc := 18) 3 X (dg dt_Laws_productsOf 12 rfl) fc_0 w_114 rfl (Nat.le_of_ble_eq_true rfl) (sh_g hg_v0) rfl ?_
    refine G_icmp_ge (pc := 21) 59 X (dg dt_Laws_productsOf 13 rfl) (by decide) h (fun h => ?_) (fun h => ?_)
    · exact G_wk (hkx59 v2 h) ⟨rfl, ⟨rfl, ⟨rfl, ⟨rfl, trivial⟩⟩⟩⟩
    · refine G_iload_n (pc := 24) 1 X (dg dt_Laws_productsOf 14 rfl) rfl rfl ?_
      refine G_iload_n (pc := 25) 3 X (dg dt_Laws_productsOf 15 rfl) rfl rfl ?_
      obtain ⟨r_2, hc_1, h⟩ := cap_go h
      refine G_callSN (pc := 26) (S := []) [.int v1, .int v3] nosub X  (dg dt_Laws_productsOf 16 rfl) cb_Q_isIn w_496 w_880 (s_Q_isIn _ ad _ _ _ hc_1) rfl ⟨Nat.le_of_ble_eq_true rfl, Nat.le_of_ble_eq_true rfl⟩  (Nat.le_of_ble_eq_true rfl) Rc0 ?_
      refine jn_go (fun j53_3 => ∀ (v2_4 : Int32), j53_3 v2_4 = some rv → G θ (0, 0) (g_SH, ad) σ 53 [some (.ref (ad v0)), some (.int v1), some (.int v2_4), some (.int v3), some (.int v4)] []) h ?_ (fun j53_3 hj53_3 h => ?_)
      · intro v2_4 h
        refine G_iinc (pc := 53) (v4 + 1) X (dg dt_Laws_productsOf 31 rfl) rfl (Nat.le_of_ble_eq_true rfl) rfl rfl ?_
        refine G_goto (pc := 56) 15 X (dg dt_Laws_productsOf 32 rfl) (by decide) ?_
        exact G_wk (ih v2_4 (v4 + 1) h) ⟨rfl, ⟨rfl, ⟨rfl, ⟨rfl, ⟨rfl, trivial⟩⟩⟩⟩⟩
      refine G_if_eq (pc := 29) 53 X (dg dt_Laws_productsOf 17 rfl) (by decide) h (fun h => ?_) (fun h => ?_)
      · exact G_wk (hj53_3 v2 h) ⟨rfl, ⟨rfl, ⟨rfl, ⟨rfl, ⟨rfl, trivial⟩⟩⟩⟩⟩
      · refine G_iload_n (pc := 32) 1 X (dg dt_Laws_productsOf 18 rfl) rfl rfl ?_
        refine G_iload (pc := 33) X (dg dt_Laws_productsOf 19 rfl) rfl ?_
        obtain ⟨r_6, hc_5, h⟩ := cap_go h
        refine G_callSN (pc := 35) (S := []) [.int v1, .int v4] nosub X  (dg dt_Laws_productsOf 20 rfl) cb_Q_isIn w_496 w_880 (s_Q_isIn _ ad _ _ _ hc_5) rfl ⟨Nat.le_of_ble_eq_true rfl, Nat.le_of_ble_eq_true rfl⟩  (Nat.le_of_ble_eq_true rfl) Rc0 ?_
        refine G_if_eq (pc := 38) 53 X (dg dt_Laws_productsOf 21 rfl) (by decide) h (fun h => ?_) (fun h => ?_)
        · exact G_wk (hj53_3 v2 h) ⟨rfl, ⟨rfl, ⟨rfl, ⟨rfl, ⟨rfl, trivial⟩⟩⟩⟩⟩
        · refine G_iload_n (pc := 41) 2 X (dg dt_Laws_productsOf 22 rfl) rfl rfl ?_
          refine G_iconst (pc := 42) 1 X (dg dt_Laws_productsOf 23 rfl) (by decide) ?_
          refine G_aload_n (pc := 43) 0 X (dg dt_Laws_productsOf 24 rfl) rfl rfl ?_
          refine G_iload_n (pc := 44) 3 X (dg dt_Laws_productsOf 25 rfl) rfl rfl ?_
          refine G_iload (pc := 45) X (dg dt_Laws_productsOf 26 rfl) rfl ?_
          obtain ⟨r_8, hc_7, h⟩ := cap_go h
          refine G_callV (pc := 47) (S := [.int 1, .int v2]) [.int v3, .int v4] nosub X  (dg dt_Laws_productsOf 27 rfl) cb_Grid_signAt cv_Grid_signAt w_843 (s_Grid_signAt _ ad _ _ _ _ hg_v0 hc_7) rfl ⟨Nat.le_of_ble_eq_true rfl, Nat.le_of_ble_eq_true rfl⟩ (sh_g hg_v0) rfl (Nat.le_of_ble_eq_true rfl) Rc0 ?_
          refine G_ishl (pc := 50) X (dg dt_Laws_productsOf 28 rfl) ?_
          refine G_ior (pc := 51) X (dg dt_Laws_productsOf 29 rfl) ?_
          refine G_istore_n_lt (pc := 52) 2 X (dg dt_Laws_productsOf 30 rfl) rfl (Nat.le_of_ble_eq_true rfl) rfl h (fun v2_9 h => ?_)
          exact G_wk (hj53_3 v2_9 h) ⟨rfl, ⟨rfl, ⟨rfl, ⟨rfl, ⟨rfl, trivial⟩⟩⟩⟩⟩
set_option maxRecDepth 100000 in
set_option maxHeartbeats 4000000 in
theorem s_Laws_productsOf_L4 {θ : Th} {ad : Nat → Nat}  {rv : Int32} (X : Cx θ [] cX3_productsOf 5 "Quasigrove$Laws" 3 65)
    {v0 : Nat} {v1 : Int32} {σ : St} (hq : Rq θ (g_SH, ad) (some .int) (some (.int rv)) σ) (hg_v0 : gok v0) {kx65 : Int32 → Option Int32} (hkx65 : ∀ (v2 : Int32), kx65 v2 = some rv → G θ (0, 0) (g_SH, ad) σ 65 [none, none, some (.int v2), none, none] []) :
    ∀ (n : Nat) (v2 : Int32) (v3 : Int32), f_Laws_productsOf_L4 v0 v1 σ kx65 n v2 v3 = some rv → G θ (0, 0) (g_SH, ad) σ 4 [some (.ref (ad v0)), some (.int v1), some (.int v2), some (.int v3), none] [] := by
  intro n
  induction n with
  | zero => intro v2 v3 h; rw [f_Laws_productsOf_L4] at h; cases h
  | succ n ih =>
    intro v2 v3 h
    rw [f_Laws_productsOf_L4] at h
    refine G_iload_n (pc := 4) 3 X (dg dt_Laws_productsOf 4 rfl) rfl rfl ?_
    refine G_aload_n (pc := 5) 0 X (dg dt_Laws_productsOf 5 rfl) rfl rfl ?_
    refine G_getIN (pc := 6) 3 X (dg dt_Laws_productsOf 6 rfl) fc_0 w_114 rfl (Nat.le_of_ble_eq_true rfl) (sh_g hg_v0) rfl ?_
    refine G_icmp_ge (pc := 9) 65 X (dg dt_Laws_productsOf 7 rfl) (by decide) h (fun h => ?_) (fun h => ?_)
    · exact G_wk (hkx65 v2 h) ⟨rfl, trivial⟩
    · refine G_iconst (pc := 12) 0 X (dg dt_Laws_productsOf 8 rfl) (by decide) ?_
      refine G_istore (pc := 13) X (dg dt_Laws_productsOf 9 rfl) (Nat.le_of_ble_eq_true rfl) rfl ?_
      refine G_weak (L' := [some (.ref (ad v0)), some (.int v1), some (.int v2), some (.int v3), some (.int 0)]) ⟨rfl, ⟨rfl, ⟨rfl, ⟨rfl, ⟨rfl, trivial⟩⟩⟩⟩⟩ ?_
      refine s_Laws_productsOf_L15  X hq hg_v0 (fun v2_10 h => ?_) _ _ _ h
      refine G_iinc (pc := 59) (v3 + 1) X (dg dt_Laws_productsOf 33 rfl) rfl (Nat.le_of_ble_eq_true rfl) rfl rfl ?_
      refine G_goto (pc := 62) 4 X (dg dt_Laws_productsOf 34 rfl) (by decide) ?_
      exact G_wk (ih v2_10 (v3 + 1) h) ⟨rfl, ⟨rfl, ⟨rfl, ⟨rfl, trivial⟩⟩⟩⟩
set_option maxRecDepth 100000 in
set_option maxHeartbeats 4000000 in
theorem s_Laws_productsOf (l : Launch) (ad : Nat → Nat) (σ : St) (v0 : Nat) (v1 : Int32) (hg_v0 : gok v0) {rv : Int32} (h : f_Laws_productsOf σ v0 v1 = some rv) : Rt l [] yX3_productsOf cX3_productsOf 5 (some .int) 3 65 (g_SH, ad) [.ref (ad v0), .int v1] σ (some (.int rv)) σ := by
  refine Rt.intro (L := [some (.ref (ad v0)), some (.int v1), none, none, none]) (by decide +kernel) (Nat.le_of_ble_eq_true rfl) rfl (fun θ hl X hq => ?_)
  subst hl
  unfold f_Laws_productsOf at h
  refine G_iconst (pc := 0) 0 X (dg dt_Laws_productsOf 0 rfl) (by decide) ?_
  refine G_istore_n (pc := 1) 2 X (dg dt_Laws_productsOf 1 rfl) rfl (Nat.le_of_ble_eq_true rfl) rfl ?_
  refine G_iconst (pc := 2) 0 X (dg dt_Laws_productsOf 2 rfl) (by decide) ?_
  refine G_istore_n (pc := 3) 3 X (dg dt_Laws_productsOf 3 rfl) rfl (Nat.le_of_ble_eq_true rfl) rfl ?_
  refine G_weak (L' := [some (.ref (ad v0)), some (.int v1), some (.int 0), some (.int 0), none]) ⟨rfl, ⟨rfl, ⟨rfl, ⟨rfl, trivial⟩⟩⟩⟩ ?_
  refine s_Laws_productsOf_L4  X hq hg_v0 (fun v2_11 h => ?_) _ _ _ h
  refine G_iload_n (pc := 65) 2 X (dg dt_Laws_productsOf 35 rfl) rfl rfl ?_
  exact G_iretp (pc := 66) X hq (dg dt_Laws_productsOf 36 rfl) h
set_option maxRecDepth 100000 in
set_option maxHeartbeats 4000000 in
theorem s_Laws_closedSets_L4 {θ : Th} {ad : Nat → Nat}  {rv : Int32} (X : Cx θ [] cX3_closedSets 3 "Quasigrove$Laws" 4 89)
    {v0 : Nat} {σ : St} (hq : Rq θ (g_SH, ad) (some .int) (some (.int rv)) σ) (hg_v0 : gok v0) {kx33 : Int32 → Option Int32} (hkx33 : ∀ (v1 : Int32), kx33 v1 = some rv → G θ (0, 0) (g_SH, ad) σ 33 [none, some (.int v1), none] []) :
    ∀ (n : Nat) (v1 : Int32) (v2 : Int32), f_Laws_closedSets_L4 v0 σ kx33 n v1 v2 = some rv → G θ (0, 0) (g_SH, ad) σ 4 [some (.ref (ad v0)), some (.int v1), some (.int v2)] [] := by
  intro n
  induction n with
  | zero => intro v1 v2 h; rw [f_Laws_closedSets_L4] at h; cases h
  | succ n ih =>
    intro v1 v2 h
    rw [f_Laws_closedSets_L4] at h
    refine G_iload_n (pc := 4) 2 X (dg dt_Laws_closedSets 4 rfl) rfl rfl ?_
    refine G_aload_n (pc := 5) 0 X (dg dt_Laws_closedSets 5 rfl) rfl rfl ?_
    obtain ⟨r_2, hc_1, h⟩ := cap_go h
    refine G_callV (pc := 6) (S := [.int v2]) [] nosub X  (dg dt_Laws_closedSets 6 rfl) cb_Grid_allSigns cv_Grid_allSigns w_891 (s_Grid_allSigns _ ad _ _ hg_v0 hc_1) rfl ⟨Nat.le_of_ble_eq_true rfl, Nat.le_of_ble_eq_true rfl⟩ (sh_g hg_v0) rfl (Nat.le_of_ble_eq_true rfl) Rc0 ?_
    refine G_icmp_gt (pc := 9) 33 X (dg dt_Laws_closedSets 7 rfl) (by decide) h (fun h => ?_) (fun h => ?_)
    · exact G_wk (hkx33 v1 h) ⟨rfl, trivial⟩
    · refine G_aload_n (pc := 12) 0 X (dg dt_Laws_closedSets 8 rfl) rfl rfl ?_
      refine G_iload_n (pc := 13) 2 X (dg dt_Laws_closedSets 9 rfl) rfl rfl ?_
      obtain ⟨r_4, hc_3, h⟩ := cap_go h
      refine G_callS (pc := 14) (S := []) [.ref (ad v0), .int v2] nosub X  (dg dt_Laws_closedSets 10 rfl) cb_Laws_productsOf w_878 w_877 (s_Laws_productsOf _ ad _ _ _ hg_v0 hc_3) rfl ⟨Nat.le_of_ble_eq_true rfl, Nat.le_of_ble_eq_true rfl⟩  (Nat.le_of_ble_eq_true rfl) Rc0 ?_
      refine G_iload_n (pc := 17) 2 X (dg dt_Laws_closedSets 11 rfl) rfl rfl ?_
      refine G_iconst (pc := 18) (-1) X (dg dt_Laws_closedSets 12 rfl) (by decide) ?_
      refine G_ixor (pc := 19) X (dg dt_Laws_closedSets 13 rfl) ?_
      refine G_iand (pc := 20) X (dg dt_Laws_closedSets 14 rfl) ?_
      refine jn_go (fun j27_5 => ∀ (v1_6 : Int32), j27_5 v1_6 = some rv → G θ (0, 0) (g_SH, ad) σ 27 [some (.ref (ad v0)), some (.int v1_6), some (.int v2)] []) h ?_ (fun j27_5 hj27_5 h => ?_)
      · intro v1_6 h
        refine G_iinc (pc := 27) (v2 + 1) X (dg dt_Laws_closedSets 17 rfl) rfl (Nat.le_of_ble_eq_true rfl) rfl rfl ?_
        refine G_goto (pc := 30) 4 X (dg dt_Laws_closedSets 18 rfl) (by decide) ?_
        exact G_wk (ih v1_6 (v2 + 1) h) ⟨rfl, ⟨rfl, ⟨rfl, trivial⟩⟩⟩
      refine G_if_ne (pc := 21) 27 X (dg dt_Laws_closedSets 15 rfl) (by decide) h (fun h => ?_) (fun h => ?_)
      · exact G_wk (hj27_5 v1 h) ⟨rfl, ⟨rfl, ⟨rfl, trivial⟩⟩⟩
      · refine G_iinc (pc := 24) (v1 + 1) X (dg dt_Laws_closedSets 16 rfl) rfl (Nat.le_of_ble_eq_true rfl) rfl rfl ?_
        exact G_wk (hj27_5 (v1 + 1) h) ⟨rfl, ⟨rfl, ⟨rfl, trivial⟩⟩⟩
set_option maxRecDepth 100000 in
set_option maxHeartbeats 4000000 in
theorem s_Laws_closedSets (l : Launch) (ad : Nat → Nat) (σ : St) (v0 : Nat) (hg_v0 : gok v0) {rv : Int32} (h : f_Laws_closedSets σ v0 = some rv) : Rt l [] yX3_closedSets cX3_closedSets 3 (some .int) 4 89 (g_SH, ad) [.ref (ad v0)] σ (some (.int rv)) σ := by
  refine Rt.intro (L := [some (.ref (ad v0)), none, none]) (by decide +kernel) (Nat.le_of_ble_eq_true rfl) rfl (fun θ hl X hq => ?_)
  subst hl
  unfold f_Laws_closedSets at h
  refine G_iconst (pc := 0) 0 X (dg dt_Laws_closedSets 0 rfl) (by decide) ?_
  refine G_istore_n (pc := 1) 1 X (dg dt_Laws_closedSets 1 rfl) rfl (Nat.le_of_ble_eq_true rfl) rfl ?_
  refine G_iconst (pc := 2) 1 X (dg dt_Laws_closedSets 2 rfl) (by decide) ?_
  refine G_istore_n (pc := 3) 2 X (dg dt_Laws_closedSets 3 rfl) rfl (Nat.le_of_ble_eq_true rfl) rfl ?_
  refine G_weak (L' := [some (.ref (ad v0)), some (.int 0), some (.int 1)]) ⟨rfl, ⟨rfl, ⟨rfl, trivial⟩⟩⟩ ?_
  refine s_Laws_closedSets_L4  X hq hg_v0 (fun v1_7 h => ?_) _ _ _ h
  refine G_iload_n (pc := 33) 1 X (dg dt_Laws_closedSets 19 rfl) rfl rfl ?_
  exact G_iretp (pc := 34) X hq (dg dt_Laws_closedSets 20 rfl) h
set_option maxRecDepth 100000 in
set_option maxHeartbeats 4000000 in
theorem s_Maps_write (l : Launch) (ad : Nat → Nat) (σ : St) (v1 : Int32) (v2 : Int32)  {rv : Unit} {σe : St} (h : f_Maps_write σ v1 v2 = some (rv, σe)) : Rt l [] yX4_write cX4_write 3 none 0 0 (g_SH, ad) [.ref (ad 6), .int v1, .int v2] σ none σe := by
  refine Rt.intro (L := [some (.ref (ad 6)), some (.int v1), some (.int v2)]) (by decide +kernel) (Nat.le_of_ble_eq_true rfl) rfl (fun θ hl X hq => ?_)
  subst hl
  unfold f_Maps_write at h
  refine G_iload_n (pc := 0) 1 X (dg dt_Maps_write 0 rfl) rfl rfl ?_
  refine G_if_lt (pc := 1) 16 X (dg dt_Maps_write 1 rfl) (by decide) h (fun h => ?_) (fun h => ?_)
  · exact G_vret (pc := 16) X hq (dg dt_Maps_write 10 rfl) h
  · refine G_iload_n (pc := 4) 1 X (dg dt_Maps_write 2 rfl) rfl rfl ?_
    refine G_iconst (pc := 5) 5 X (dg dt_Maps_write 3 rfl) (by decide) ?_
    refine G_icmp_ge (pc := 6) 16 X (dg dt_Maps_write 4 rfl) (by decide) h (fun h => ?_) (fun h => ?_)
    · exact G_vret (pc := 16) X hq (dg dt_Maps_write 10 rfl) h
    · refine G_aload_n (pc := 9) 0 X (dg dt_Maps_write 5 rfl) rfl rfl ?_
      refine G_getR (pc := 10) 2 X (dg dt_Maps_write 6 rfl) fc_1 w_147 rfl (Nat.le_of_ble_eq_true rfl) sh_6 rfl ?_
      refine G_iload_n (pc := 13) 1 X (dg dt_Maps_write 7 rfl) rfl rfl ?_
      refine G_iload_n (pc := 14) 2 X (dg dt_Maps_write 8 rfl) rfl rfl ?_
      refine G_iast (pc := 15) X (dg dt_Maps_write 9 rfl) sh_9 h (fun σ_1 h => ?_)
      exact G_vret (pc := 16) X hq (dg dt_Maps_write 10 rfl) h
set_option maxRecDepth 100000 in
set_option maxHeartbeats 4000000 in
theorem s_Maps_numberOfDraft_L60 {θ : Th} {ad : Nat → Nat}  {rv : Int32} (X : Cx θ [] cX4_numberOfDraft 7 "Quasigrove$Maps" 0 0)
    {v1 : Int32} {v3 : Int32} {v4 : Int32} {v5 : Int32} {σ : St} (hq : Rq θ (g_SH, ad) (some .int) (some (.int rv)) σ) {kx103 : Int32 → Option Int32} (hkx103 : ∀ (v2 : Int32), kx103 v2 = some rv → G θ (0, 0) (g_SH, ad) σ 103 [some (.ref (ad 6)), some (.int v1), some (.int v2), some (.int v3), some (.int v4), none, none] []) :
    ∀ (n : Nat) (v2 : Int32) (v6 : Int32), f_Maps_numberOfDraft_L60 v1 v3 v4 v5 σ kx103 n v2 v6 = some rv → G θ (0, 0) (g_SH, ad) σ 60 [some (.ref (ad 6)), some (.int v1), some (.int v2), some (.int v3), some (.int v4), some (.int v5), some (.int v6)] [] := by
  intro n
  induction n with
  | zero => intro v2 v6 h; rw [f_Maps_numberOfDraft_L60] at h; cases h
  | succ n ih =>
    intro v2 v6 h
    rw [f_Maps_numberOfDraft_L60] at h
    refine G_iload (pc := 60) X (dg dt_Maps_numberOfDraft 37 rfl) rfl ?_
    refine G_iload_n (pc := 62) 1 X (dg dt_Maps_numberOfDraft 38 rfl) rfl rfl ?_
    refine G_icmp_ge (pc := 63) 103 X (dg dt_Maps_numberOfDraft 39 rfl) (by decide) h (fun h => ?_) (fun h => ?_)
    · exact G_wk (hkx103 v2 h) ⟨rfl, ⟨rfl, ⟨rfl, ⟨rfl, ⟨rfl, trivial⟩⟩⟩⟩⟩
    · refine G_iload (pc := 66) X (dg dt_Maps_numberOfDraft 40 rfl) rfl ?_
      refine G_iconst (pc := 68) 5 X (dg dt_Maps_numberOfDraft 41 rfl) (by decide) ?_
      refine G_icmp_ge (pc := 69) 103 X (dg dt_Maps_numberOfDraft 42 rfl) (by decide) h (fun h => ?_) (fun h => ?_)
      · exact G_wk (hkx103 v2 h) ⟨rfl, ⟨rfl, ⟨rfl, ⟨rfl, ⟨rfl, trivial⟩⟩⟩⟩⟩
      · refine G_iload_n (pc := 72) 2 X (dg dt_Maps_numberOfDraft 43 rfl) rfl rfl ?_
        refine G_aload_n (pc := 73) 0 X (dg dt_Maps_numberOfDraft 44 rfl) rfl rfl ?_
        refine G_getR (pc := 74) 2 X (dg dt_Maps_numberOfDraft 45 rfl) fc_1 w_147 rfl (Nat.le_of_ble_eq_true rfl) sh_6 rfl ?_
        refine G_iload (pc := 77) X (dg dt_Maps_numberOfDraft 46 rfl) rfl ?_
        refine G_iald (pc := 79) X (dg dt_Maps_numberOfDraft 47 rfl) sh_9 h (fun r_3 h => ?_)
        refine G_iload (pc := 80) X (dg dt_Maps_numberOfDraft 48 rfl) rfl ?_
        refine jn_go (fun j95_4 => ∀ (s_5 : Int32), j95_4 s_5 = some rv → G θ (0, 0) (g_SH, ad) σ 95 [some (.ref (ad 6)), some (.int v1), none, some (.int v3), some (.int v4), some (.int v5), some (.int v6)] [.int s_5, .int v2]) h ?_ (fun j95_4 hj95_4 h => ?_)
        · intro s_5 h
          refine G_iadd (pc := 95) X (dg dt_Maps_numberOfDraft 55 rfl) ?_
          refine G_istore_n (pc := 96) 2 X (dg dt_Maps_numberOfDraft 56 rfl) rfl (Nat.le_of_ble_eq_true rfl) rfl ?_
          refine G_iinc (pc := 97) (v6 + 1) X (dg dt_Maps_numberOfDraft 57 rfl) rfl (Nat.le_of_ble_eq_true rfl) rfl rfl ?_
          refine G_goto (pc := 100) 60 X (dg dt_Maps_numberOfDraft 58 rfl) (by decide) ?_
          exact G_wk (ih (v2 + s_5) (v6 + 1) h) ⟨rfl, ⟨rfl, ⟨rfl, ⟨rfl, ⟨rfl, ⟨rfl, ⟨rfl, trivial⟩⟩⟩⟩⟩⟩⟩
        refine G_icmp_ge (pc := 82) 94 X (dg dt_Maps_numberOfDraft 49 rfl) (by decide) h (fun h => ?_) (fun h => ?_)
        · refine G_iconst (pc := 94) 0 X (dg dt_Maps_numberOfDraft 54 rfl) (by decide) ?_
          exact G_wk (hj95_4 0 h) ⟨rfl, ⟨rfl, ⟨rfl, ⟨rfl, ⟨rfl, ⟨rfl, trivial⟩⟩⟩⟩⟩⟩
        · refine G_fact (pc := 85) (i := 0) (f := fun _ => none) (β := Int32) (r := rv) X (dg dt_Maps_numberOfDraft 50 rfl) w_521 (fun tF_6 hFtF_6 hLtF_6 => ?_)
          refine G_iload (pc := 88) X (dg dt_Maps_numberOfDraft 51 rfl) rfl ?_
          refine hFtF_6 90 _ _ _ _ _ (dg dt_Maps_numberOfDraft 52 rfl) h (fun r_7 h => ?_)
          refine G_goto (pc := 91) 95 X (dg dt_Maps_numberOfDraft 53 rfl) (by decide) ?_
          exact G_wk (hj95_4 r_7 h) ⟨rfl, ⟨rfl, ⟨rfl, ⟨rfl, ⟨rfl, ⟨rfl, trivial⟩⟩⟩⟩⟩⟩
set_option maxRecDepth 100000 in
set_option maxHeartbeats 4000000 in
theorem s_Maps_numberOfDraft_L7 {θ : Th} {ad : Nat → Nat}  {rv : Int32} (X : Cx θ [] cX4_numberOfDraft 7 "Quasigrove$Maps" 0 0)
    {v1 : Int32} {σ : St} (hq : Rq θ (g_SH, ad) (some .int) (some (.int rv)) σ) {kx109 : Int32 → Int32 → Option Int32} (hkx109 : ∀ (v2 : Int32) (v3 : Int32), kx109 v2 v3 = some rv → G θ (0, 0) (g_SH, ad) σ 109 [none, some (.int v1), some (.int v2), some (.int v3), none, none, none] []) :
    ∀ (n : Nat) (v2 : Int32) (v3 : Int32) (v4 : Int32), f_Maps_numberOfDraft_L7 v1 σ kx109 n v2 v3 v4 = some rv → G θ (0, 0) (g_SH, ad) σ 7 [some (.ref (ad 6)), some (.int v1), some (.int v2), some (.int v3), some (.int v4), none, none] [] := by
  intro n
  induction n with
  | zero => intro v2 v3 v4 h; rw [f_Maps_numberOfDraft_L7] at h; cases h
  | succ n ih =>
    intro v2 v3 v4 h
    rw [f_Maps_numberOfDraft_L7] at h
    refine G_iload (pc := 7) X (dg dt_Maps_numberOfDraft 6 rfl) rfl ?_
    refine G_iload_n (pc := 9) 1 X (dg dt_Maps_numberOfDraft 7 rfl) rfl rfl ?_
    refine G_icmp_ge (pc := 10) 109 X (dg dt_Maps_numberOfDraft 8 rfl) (by decide) h (fun h => ?_) (fun h => ?_)
    · exact G_wk (hkx109 v2 v3 h) ⟨rfl, ⟨rfl, ⟨rfl, trivial⟩⟩⟩
    · refine G_iload (pc := 13) X (dg dt_Maps_numberOfDraft 9 rfl) rfl ?_
      refine G_iconst (pc := 15) 5 X (dg dt_Maps_numberOfDraft 10 rfl) (by decide) ?_
      refine G_icmp_ge (pc := 16) 109 X (dg dt_Maps_numberOfDraft 11 rfl) (by decide) h (fun h => ?_) (fun h => ?_)
      · exact G_wk (hkx109 v2 v3 h) ⟨rfl, ⟨rfl, ⟨rfl, trivial⟩⟩⟩
      · refine G_aload_n (pc := 19) 0 X (dg dt_Maps_numberOfDraft 12 rfl) rfl rfl ?_
        refine G_getR (pc := 20) 2 X (dg dt_Maps_numberOfDraft 13 rfl) fc_1 w_147 rfl (Nat.le_of_ble_eq_true rfl) sh_6 rfl ?_
        refine G_iload (pc := 23) X (dg dt_Maps_numberOfDraft 14 rfl) rfl ?_
        refine G_iald (pc := 25) X (dg dt_Maps_numberOfDraft 15 rfl) sh_9 h (fun r_1 h => ?_)
        refine G_istore (pc := 26) X (dg dt_Maps_numberOfDraft 16 rfl) (Nat.le_of_ble_eq_true rfl) rfl ?_
        refine G_iload (pc := 28) X (dg dt_Maps_numberOfDraft 17 rfl) rfl ?_
        refine G_if_lt (pc := 30) 45 X (dg dt_Maps_numberOfDraft 18 rfl) (by decide) h (fun h => ?_) (fun h => ?_)
        · refine G_iconst (pc := 45) (-1) X (dg dt_Maps_numberOfDraft 25 rfl) (by decide) ?_
          exact G_iretp (pc := 46) X hq (dg dt_Maps_numberOfDraft 26 rfl) h
        · refine G_iload (pc := 33) X (dg dt_Maps_numberOfDraft 19 rfl) rfl ?_
          refine G_iload_n (pc := 35) 1 X (dg dt_Maps_numberOfDraft 20 rfl) rfl rfl ?_
          refine G_icmp_ge (pc := 36) 45 X (dg dt_Maps_numberOfDraft 21 rfl) (by decide) h (fun h => ?_) (fun h => ?_)
          · refine G_iconst (pc := 45) (-1) X (dg dt_Maps_numberOfDraft 25 rfl) (by decide) ?_
            exact G_iretp (pc := 46) X hq (dg dt_Maps_numberOfDraft 26 rfl) h
          · refine G_iload (pc := 39) X (dg dt_Maps_numberOfDraft 22 rfl) rfl ?_
            refine G_iconst (pc := 41) 5 X (dg dt_Maps_numberOfDraft 23 rfl) (by decide) ?_
            refine G_icmp_lt (pc := 42) 47 X (dg dt_Maps_numberOfDraft 24 rfl) (by decide) h (fun h => ?_) (fun h => ?_)
            · refine G_iload_n (pc := 47) 3 X (dg dt_Maps_numberOfDraft 27 rfl) rfl rfl ?_
              refine G_iconst (pc := 48) 1 X (dg dt_Maps_numberOfDraft 28 rfl) (by decide) ?_
              refine G_iload (pc := 49) X (dg dt_Maps_numberOfDraft 29 rfl) rfl ?_
              refine G_ishl (pc := 51) X (dg dt_Maps_numberOfDraft 30 rfl) ?_
              refine G_ior (pc := 52) X (dg dt_Maps_numberOfDraft 31 rfl) ?_
              refine G_istore_n_lt (pc := 53) 3 X (dg dt_Maps_numberOfDraft 32 rfl) rfl (Nat.le_of_ble_eq_true rfl) rfl h (fun v3_2 h => ?_)
              refine G_iload (pc := 54) X (dg dt_Maps_numberOfDraft 33 rfl) rfl ?_
              refine G_iconst (pc := 56) 1 X (dg dt_Maps_numberOfDraft 34 rfl) (by decide) ?_
              refine G_iadd (pc := 57) X (dg dt_Maps_numberOfDraft 35 rfl) ?_
              refine G_istore (pc := 58) X (dg dt_Maps_numberOfDraft 36 rfl) (Nat.le_of_ble_eq_true rfl) rfl ?_
              refine G_weak (L' := [some (.ref (ad 6)), some (.int v1), some (.int v2), some (.int v3_2), some (.int v4), some (.int r_1), some (.int (v4 + 1))]) ⟨rfl, ⟨rfl, ⟨rfl, ⟨rfl, ⟨rfl, ⟨rfl, ⟨rfl, trivial⟩⟩⟩⟩⟩⟩⟩ ?_
              refine s_Maps_numberOfDraft_L60  X hq  (fun v2_8 h => ?_) _ _ _ h
              refine G_iinc (pc := 103) (v4 + 1) X (dg dt_Maps_numberOfDraft 59 rfl) rfl (Nat.le_of_ble_eq_true rfl) rfl rfl ?_
              refine G_goto (pc := 106) 7 X (dg dt_Maps_numberOfDraft 60 rfl) (by decide) ?_
              exact G_wk (ih v2_8 v3_2 (v4 + 1) h) ⟨rfl, ⟨rfl, ⟨rfl, ⟨rfl, ⟨rfl, trivial⟩⟩⟩⟩⟩
            · refine G_iconst (pc := 45) (-1) X (dg dt_Maps_numberOfDraft 25 rfl) (by decide) ?_
              exact G_iretp (pc := 46) X hq (dg dt_Maps_numberOfDraft 26 rfl) h
set_option maxRecDepth 100000 in
set_option maxHeartbeats 4000000 in
theorem s_Maps_numberOfDraft (l : Launch) (ad : Nat → Nat) (σ : St) (v1 : Int32)  {rv : Int32} (h : f_Maps_numberOfDraft σ v1 = some rv) : Rt l [] yX4_numberOfDraft cX4_numberOfDraft 7 (some .int) 0 0 (g_SH, ad) [.ref (ad 6), .int v1] σ (some (.int rv)) σ := by
  refine Rt.intro (L := [some (.ref (ad 6)), some (.int v1), none, none, none, none, none]) (by decide +kernel) (Nat.le_of_ble_eq_true rfl) rfl (fun θ hl X hq => ?_)
  subst hl
  unfold f_Maps_numberOfDraft at h
  refine G_iconst (pc := 0) 0 X (dg dt_Maps_numberOfDraft 0 rfl) (by decide) ?_
  refine G_istore_n (pc := 1) 2 X (dg dt_Maps_numberOfDraft 1 rfl) rfl (Nat.le_of_ble_eq_true rfl) rfl ?_
  refine G_iconst (pc := 2) 0 X (dg dt_Maps_numberOfDraft 2 rfl) (by decide) ?_
  refine G_istore_n (pc := 3) 3 X (dg dt_Maps_numberOfDraft 3 rfl) rfl (Nat.le_of_ble_eq_true rfl) rfl ?_
  refine G_iconst (pc := 4) 0 X (dg dt_Maps_numberOfDraft 4 rfl) (by decide) ?_
  refine G_istore (pc := 5) X (dg dt_Maps_numberOfDraft 5 rfl) (Nat.le_of_ble_eq_true rfl) rfl ?_
  refine G_weak (L' := [some (.ref (ad 6)), some (.int v1), some (.int 0), some (.int 0), some (.int 0), none, none]) ⟨rfl, ⟨rfl, ⟨rfl, ⟨rfl, ⟨rfl, trivial⟩⟩⟩⟩⟩ ?_
  refine s_Maps_numberOfDraft_L7  X hq  (fun v2_9 v3_10 h => ?_) _ _ _ _ h
  refine G_iload_n (pc := 109) 3 X (dg dt_Maps_numberOfDraft 61 rfl) rfl rfl ?_
  refine G_iconst (pc := 110) 1 X (dg dt_Maps_numberOfDraft 62 rfl) (by decide) ?_
  refine G_iload_n (pc := 111) 1 X (dg dt_Maps_numberOfDraft 63 rfl) rfl rfl ?_
  refine G_ishl (pc := 112) X (dg dt_Maps_numberOfDraft 64 rfl) ?_
  refine G_iconst (pc := 113) 1 X (dg dt_Maps_numberOfDraft 65 rfl) (by decide) ?_
  refine G_isub (pc := 114) X (dg dt_Maps_numberOfDraft 66 rfl) ?_
  refine G_icmp_ne (pc := 115) 122 X (dg dt_Maps_numberOfDraft 67 rfl) (by decide) h (fun h => ?_) (fun h => ?_)
  · refine G_iconst (pc := 122) (-1) X (dg dt_Maps_numberOfDraft 70 rfl) (by decide) ?_
    exact G_iretp (pc := 123) X hq (dg dt_Maps_numberOfDraft 71 rfl) h
  · refine G_iload_n (pc := 118) 2 X (dg dt_Maps_numberOfDraft 68 rfl) rfl rfl ?_
    refine G_goto (pc := 119) 123 X (dg dt_Maps_numberOfDraft 69 rfl) (by decide) ?_
    exact G_iretp (pc := 123) X hq (dg dt_Maps_numberOfDraft 71 rfl) h
set_option maxRecDepth 100000 in
set_option maxHeartbeats 4000000 in
theorem s_Maps_oneBehindOther_L3 {θ : Th} {ad : Nat → Nat}  {rv : Int32} {σe : St} (X : Cx θ [] cX4_oneBehindOther 5 "Quasigrove$Maps" 1 26)
    {v1 : Int32} {v2 : Int32} {v3 : Int32} (hq : Rq θ (g_SH, ad) (some .int) (some (.int rv)) σe) {kx33 : St → Option (Int32 × St)} (hkx33 : ∀ (σ : St), kx33 σ = some (rv, σe) → G θ (0, 0) (g_SH, ad) σ 33 [some (.ref (ad 6)), none, none, some (.int v3), none] []) :
    ∀ (n : Nat) (v4 : Int32) (σ : St), f_Maps_oneBehindOther_L3 v1 v2 v3 kx33 n v4 σ = some (rv, σe) → G θ (0, 0) (g_SH, ad) σ 3 [some (.ref (ad 6)), some (.int v1), some (.int v2), some (.int v3), some (.int v4)] [] := by
  intro n
  induction n with
  | zero => intro v4 σ h; rw [f_Maps_oneBehindOther_L3] at h; cases h
  | succ n ih =>
    intro v4 σ h
    rw [f_Maps_oneBehindOther_L3] at h
    refine G_iload (pc := 3) X (dg dt_Maps_oneBehindOther 2 rfl) rfl ?_
    refine G_iload_n (pc := 5) 3 X (dg dt_Maps_oneBehindOther 3 rfl) rfl rfl ?_
    refine G_icmp_ge (pc := 6) 33 X (dg dt_Maps_oneBehindOther 4 rfl) (by decide) h (fun h => ?_) (fun h => ?_)
    · exact G_wk (hkx33 σ h) ⟨rfl, ⟨rfl, trivial⟩⟩
    · refine G_aload_n (pc := 9) 0 X (dg dt_Maps_oneBehindOther 5 rfl) rfl rfl ?_
      refine G_iload (pc := 10) X (dg dt_Maps_oneBehindOther 6 rfl) rfl ?_
      refine G_aload_n (pc := 12) 0 X (dg dt_Maps_oneBehindOther 7 rfl) rfl rfl ?_
      refine G_iload_n (pc := 13) 2 X (dg dt_Maps_oneBehindOther 8 rfl) rfl rfl ?_
      refine G_aload_n (pc := 14) 0 X (dg dt_Maps_oneBehindOther 9 rfl) rfl rfl ?_
      refine G_iload_n (pc := 15) 1 X (dg dt_Maps_oneBehindOther 10 rfl) rfl rfl ?_
      refine G_iload (pc := 16) X (dg dt_Maps_oneBehindOther 11 rfl) rfl ?_
      obtain ⟨r_2, hc_1, h⟩ := cap_go h
      refine G_callV (pc := 18) (S := [.int v2, .ref (ad 6), .int v4, .ref (ad 6)]) [.int v1, .int v4] nosub X  (dg dt_Maps_oneBehindOther 12 rfl) cb_Maps_imageOf cv_Maps_imageOf w_933 (s_Maps_imageOf _ ad _ _ _ hc_1) rfl ⟨Nat.le_of_ble_eq_true rfl, Nat.le_of_ble_eq_true rfl⟩ sh_6 rfl (Nat.le_of_ble_eq_true rfl) Rc0 ?_
      obtain ⟨r_4, hc_3, h⟩ := cap_go h
      refine G_callV (pc := 21) (S := [.int v4, .ref (ad 6)]) [.int v2, .int r_2] nosub X  (dg dt_Maps_oneBehindOther 13 rfl) cb_Maps_imageOf cv_Maps_imageOf w_933 (s_Maps_imageOf _ ad _ _ _ hc_3) rfl ⟨Nat.le_of_ble_eq_true rfl, Nat.le_of_ble_eq_true rfl⟩ sh_6 rfl (Nat.le_of_ble_eq_true rfl) Rc0 ?_
      obtain ⟨r_6, σ_7, hc_5, h⟩ := cal_go h
      refine G_callV (pc := 24) (S := []) [.int v4, .int r_4] nosub X  (dg dt_Maps_oneBehindOther 14 rfl) cb_Maps_write cv_Maps_write w_513 (s_Maps_write _ ad _ _ _ hc_5) rfl ⟨Nat.le_of_ble_eq_true rfl, Nat.le_of_ble_eq_true rfl⟩ sh_6 rfl (Nat.le_of_ble_eq_true rfl) Rc0 ?_
      refine G_iinc (pc := 27) (v4 + 1) X (dg dt_Maps_oneBehindOther 15 rfl) rfl (Nat.le_of_ble_eq_true rfl) rfl rfl ?_
      refine G_goto (pc := 30) 3 X (dg dt_Maps_oneBehindOther 16 rfl) (by decide) ?_
      exact G_wk (ih (v4 + 1) σ_7 h) ⟨rfl, ⟨rfl, ⟨rfl, ⟨rfl, ⟨rfl, trivial⟩⟩⟩⟩⟩
set_option maxRecDepth 100000 in
set_option maxHeartbeats 4000000 in
theorem s_Maps_oneBehindOther (l : Launch) (ad : Nat → Nat) (σ : St) (v1 : Int32) (v2 : Int32) (v3 : Int32)  {rv : Int32} {σe : St} (h : f_Maps_oneBehindOther σ v1 v2 v3 = some (rv, σe)) : Rt l [] yX4_oneBehindOther cX4_oneBehindOther 5 (some .int) 1 26 (g_SH, ad) [.ref (ad 6), .int v1, .int v2, .int v3] σ (some (.int rv)) σe := by
  refine Rt.intro (L := [some (.ref (ad 6)), some (.int v1), some (.int v2), some (.int v3), none]) (by decide +kernel) (Nat.le_of_ble_eq_true rfl) rfl (fun θ hl X hq => ?_)
  subst hl
  unfold f_Maps_oneBehindOther at h
  refine G_iconst (pc := 0) 0 X (dg dt_Maps_oneBehindOther 0 rfl) (by decide) ?_
  refine G_istore (pc := 1) X (dg dt_Maps_oneBehindOther 1 rfl) (Nat.le_of_ble_eq_true rfl) rfl ?_
  refine G_weak (L' := [some (.ref (ad 6)), some (.int v1), some (.int v2), some (.int v3), some (.int 0)]) ⟨rfl, ⟨rfl, ⟨rfl, ⟨rfl, ⟨rfl, trivial⟩⟩⟩⟩⟩ ?_
  refine s_Maps_oneBehindOther_L3  X hq  (fun σ_8 h => ?_) _ _ _ h
  refine G_aload_n (pc := 33) 0 X (dg dt_Maps_oneBehindOther 17 rfl) rfl rfl ?_
  refine G_iload_n (pc := 34) 3 X (dg dt_Maps_oneBehindOther 18 rfl) rfl rfl ?_
  obtain ⟨r_10, hc_9, h⟩ := cap_go h
  refine G_callV (pc := 35) (S := []) [.int v3] nosub X  (dg dt_Maps_oneBehindOther 19 rfl) cb_Maps_numberOfDraft cv_Maps_numberOfDraft w_517 (s_Maps_numberOfDraft _ ad _ _ hc_9) rfl ⟨Nat.le_of_ble_eq_true rfl, Nat.le_of_ble_eq_true rfl⟩ sh_6 rfl (Nat.le_of_ble_eq_true rfl) Rc0 ?_
  exact G_iret (pc := 38) X hq (dg dt_Maps_oneBehindOther 20 rfl) h
set_option maxRecDepth 100000 in
set_option maxHeartbeats 4000000 in
theorem s_Laws_closedFrom_L4 {θ : Th} {ad : Nat → Nat}  {rv : Int32} (X : Cx θ [] cX3_closedFrom 4 "Quasigrove$Laws" 4 89)
    {v0 : Nat} {σ : St} (hq : Rq θ (g_SH, ad) (some .int) (some (.int rv)) σ) (hg_v0 : gok v0) {kx26 : Int32 → Option Int32} (hkx26 : ∀ (v2 : Int32), kx26 v2 = some rv → G θ (0, 0) (g_SH, ad) σ 26 [none, none, some (.int v2), none] []) :
    ∀ (n : Nat) (v2 : Int32) (v3 : Int32), f_Laws_closedFrom_L4 v0 σ kx26 n v2 v3 = some rv → G θ (0, 0) (g_SH, ad) σ 4 [some (.ref (ad v0)), none, some (.int v2), some (.int v3)] [] := by
  intro n
  induction n with
  | zero => intro v2 v3 h; rw [f_Laws_closedFrom_L4] at h; cases h
  | succ n ih =>
    intro v2 v3 h
    rw [f_Laws_closedFrom_L4] at h
    refine G_iload_n (pc := 4) 3 X (dg dt_Laws_closedFrom 4 rfl) rfl rfl ?_
    refine G_aload_n (pc := 5) 0 X (dg dt_Laws_closedFrom 5 rfl) rfl rfl ?_
    refine G_getIN (pc := 6) 3 X (dg dt_Laws_closedFrom 6 rfl) fc_0 w_114 rfl (Nat.le_of_ble_eq_true rfl) (sh_g hg_v0) rfl ?_
    refine G_icmp_ge (pc := 9) 26 X (dg dt_Laws_closedFrom 7 rfl) (by decide) h (fun h => ?_) (fun h => ?_)
    · exact G_wk (hkx26 v2 h) ⟨rfl, trivial⟩
    · refine G_iload_n (pc := 12) 2 X (dg dt_Laws_closedFrom 8 rfl) rfl rfl ?_
      refine G_aload_n (pc := 13) 0 X (dg dt_Laws_closedFrom 9 rfl) rfl rfl ?_
      refine G_iload_n (pc := 14) 2 X (dg dt_Laws_closedFrom 10 rfl) rfl rfl ?_
      obtain ⟨r_2, hc_1, h⟩ := cap_go h
      refine G_callS (pc := 15) (S := [.int v2]) [.ref (ad v0), .int v2] nosub X  (dg dt_Laws_closedFrom 11 rfl) cb_Laws_productsOf w_878 w_877 (s_Laws_productsOf _ ad _ _ _ hg_v0 hc_1) rfl ⟨Nat.le_of_ble_eq_true rfl, Nat.le_of_ble_eq_true rfl⟩  (Nat.le_of_ble_eq_true rfl) Rc0 ?_
      refine G_ior (pc := 18) X (dg dt_Laws_closedFrom 12 rfl) ?_
      refine G_istore_n (pc := 19) 2 X (dg dt_Laws_closedFrom 13 rfl) rfl (Nat.le_of_ble_eq_true rfl) rfl ?_
      refine G_iinc (pc := 20) (v3 + 1) X (dg dt_Laws_closedFrom 14 rfl) rfl (Nat.le_of_ble_eq_true rfl) rfl rfl ?_
      refine G_goto (pc := 23) 4 X (dg dt_Laws_closedFrom 15 rfl) (by decide) ?_
      exact G_wk (ih (v2 ||| r_2) (v3 + 1) h) ⟨rfl, ⟨rfl, ⟨rfl, trivial⟩⟩⟩
set_option maxRecDepth 100000 in
set_option maxHeartbeats 4000000 in
theorem s_Laws_closedFrom (l : Launch) (ad : Nat → Nat) (σ : St) (v0 : Nat) (v1 : Int32) (hg_v0 : gok v0) {rv : Int32} (h : f_Laws_closedFrom σ v0 v1 = some rv) : Rt l [] yX3_closedFrom cX3_closedFrom 4 (some .int) 4 89 (g_SH, ad) [.ref (ad v0), .int v1] σ (some (.int rv)) σ := by
  refine Rt.intro (L := [some (.ref (ad v0)), some (.int v1), none, none]) (by decide +kernel) (Nat.le_of_ble_eq_true rfl) rfl (fun θ hl X hq => ?_)
  subst hl
  unfold f_Laws_closedFrom at h
  refine G_iload_n (pc := 0) 1 X (dg dt_Laws_closedFrom 0 rfl) rfl rfl ?_
  refine G_istore_n (pc := 1) 2 X (dg dt_Laws_closedFrom 1 rfl) rfl (Nat.le_of_ble_eq_true rfl) rfl ?_
  refine G_iconst (pc := 2) 0 X (dg dt_Laws_closedFrom 2 rfl) (by decide) ?_
  refine G_istore_n (pc := 3) 3 X (dg dt_Laws_closedFrom 3 rfl) rfl (Nat.le_of_ble_eq_true rfl) rfl ?_
  refine G_weak (L' := [some (.ref (ad v0)), none, some (.int v1), some (.int 0)]) ⟨rfl, ⟨rfl, ⟨rfl, trivial⟩⟩⟩ ?_
  refine s_Laws_closedFrom_L4  X hq hg_v0 (fun v2_3 h => ?_) _ _ _ h
  refine G_iload_n (pc := 26) 2 X (dg dt_Laws_closedFrom 16 rfl) rfl rfl ?_
  exact G_iretp (pc := 27) X hq (dg dt_Laws_closedFrom 17 rfl) h
set_option maxRecDepth 100000 in
set_option maxHeartbeats 4000000 in
theorem s_Laws_associates (l : Launch) (ad : Nat → Nat) (σ : St) (v0 : Nat) (v1 : Int32) (v2 : Int32) (v3 : Int32) (hg_v0 : gok v0) {rv : Int32} (h : f_Laws_associates σ v0 v1 v2 v3 = some rv) : Rt l [] yX3_associates cX3_associates 4 (some .boolean) 3 65 (g_SH, ad) [.ref (ad v0), .int v1, .int v2, .int v3] σ (some (.int rv)) σ := by
  refine Rt.intro (L := [some (.ref (ad v0)), some (.int v1), some (.int v2), some (.int v3)]) (by decide +kernel) (Nat.le_of_ble_eq_true rfl) rfl (fun θ hl X hq => ?_)
  subst hl
  unfold f_Laws_associates at h
  refine G_aload_n (pc := 0) 0 X (dg dt_Laws_associates 0 rfl) rfl rfl ?_
  refine G_aload_n (pc := 1) 0 X (dg dt_Laws_associates 1 rfl) rfl rfl ?_
  refine G_iload_n (pc := 2) 1 X (dg dt_Laws_associates 2 rfl) rfl rfl ?_
  refine G_iload_n (pc := 3) 2 X (dg dt_Laws_associates 3 rfl) rfl rfl ?_
  obtain ⟨r_2, hc_1, h⟩ := cap_go h
  refine G_callV (pc := 4) (S := [.ref (ad v0)]) [.int v1, .int v2] nosub X  (dg dt_Laws_associates 4 rfl) cb_Grid_signAt cv_Grid_signAt w_843 (s_Grid_signAt _ ad _ _ _ _ hg_v0 hc_1) rfl ⟨Nat.le_of_ble_eq_true rfl, Nat.le_of_ble_eq_true rfl⟩ (sh_g hg_v0) rfl (Nat.le_of_ble_eq_true rfl) Rc0 ?_
  refine G_iload_n (pc := 7) 3 X (dg dt_Laws_associates 5 rfl) rfl rfl ?_
  obtain ⟨r_4, hc_3, h⟩ := cap_go h
  refine G_callV (pc := 8) (S := []) [.int r_2, .int v3] nosub X  (dg dt_Laws_associates 6 rfl) cb_Grid_signAt cv_Grid_signAt w_843 (s_Grid_signAt _ ad _ _ _ _ hg_v0 hc_3) rfl ⟨Nat.le_of_ble_eq_true rfl, Nat.le_of_ble_eq_true rfl⟩ (sh_g hg_v0) rfl (Nat.le_of_ble_eq_true rfl) Rc0 ?_
  refine G_aload_n (pc := 11) 0 X (dg dt_Laws_associates 7 rfl) rfl rfl ?_
  refine G_iload_n (pc := 12) 1 X (dg dt_Laws_associates 8 rfl) rfl rfl ?_
  refine G_aload_n (pc := 13) 0 X (dg dt_Laws_associates 9 rfl) rfl rfl ?_
  refine G_iload_n (pc := 14) 2 X (dg dt_Laws_associates 10 rfl) rfl rfl ?_
  refine G_iload_n (pc := 15) 3 X (dg dt_Laws_associates 11 rfl) rfl rfl ?_
  obtain ⟨r_6, hc_5, h⟩ := cap_go h
  refine G_callV (pc := 16) (S := [.int v1, .ref (ad v0), .int r_4]) [.int v2, .int v3] nosub X  (dg dt_Laws_associates 12 rfl) cb_Grid_signAt cv_Grid_signAt w_843 (s_Grid_signAt _ ad _ _ _ _ hg_v0 hc_5) rfl ⟨Nat.le_of_ble_eq_true rfl, Nat.le_of_ble_eq_true rfl⟩ (sh_g hg_v0) rfl (Nat.le_of_ble_eq_true rfl) Rc0 ?_
  obtain ⟨r_8, hc_7, h⟩ := cap_go h
  refine G_callV (pc := 19) (S := [.int r_4]) [.int v1, .int r_6] nosub X  (dg dt_Laws_associates 13 rfl) cb_Grid_signAt cv_Grid_signAt w_843 (s_Grid_signAt _ ad _ _ _ _ hg_v0 hc_7) rfl ⟨Nat.le_of_ble_eq_true rfl, Nat.le_of_ble_eq_true rfl⟩ (sh_g hg_v0) rfl (Nat.le_of_ble_eq_true rfl) Rc0 ?_
  refine G_icmp_ne (pc := 22) 29 X (dg dt_Laws_associates 14 rfl) (by decide) h (fun h => ?_) (fun h => ?_)
  · refine G_iconst (pc := 29) 0 X (dg dt_Laws_associates 17 rfl) (by decide) ?_
    exact G_zretlp (pc := 30) X hq (dg dt_Laws_associates 18 rfl) rfl h
  · refine G_iconst (pc := 25) 1 X (dg dt_Laws_associates 15 rfl) (by decide) ?_
    refine G_goto (pc := 26) 30 X (dg dt_Laws_associates 16 rfl) (by decide) ?_
    exact G_zretlp (pc := 30) X hq (dg dt_Laws_associates 18 rfl) rfl h
set_option maxRecDepth 100000 in
set_option maxHeartbeats 4000000 in
theorem s_Laws_associatesAt_L13 {θ : Th} {ad : Nat → Nat}  {rv : Int32} (X : Cx θ [] cX3_associatesAt 6 "Quasigrove$Laws" 4 88)
    {v0 : Nat} {v1 : Int32} {v2 : Int32} {v3 : Int32} {σ : St} (hq : Rq θ (g_SH, ad) (some .boolean) (some (.int rv)) σ) (hg_v0 : gok v0) {kx97 : Option Int32} (hkx97 : kx97 = some rv → G θ (0, 0) (g_SH, ad) σ 97 [some (.ref (ad v0)), some (.int v1), some (.int v2), some (.int v3), none, none] []) :
    ∀ (n : Nat) (v4 : Int32), f_Laws_associatesAt_L13 v0 v1 v2 v3 σ kx97 n v4 = some rv → G θ (0, 0) (g_SH, ad) σ 13 [some (.ref (ad v0)), some (.int v1), some (.int v2), some (.int v3), some (.int v4), none] [] := by
  intro n
  induction n with
  | zero => intro v4 h; rw [f_Laws_associatesAt_L13] at h; cases h
  | succ n ih =>
    intro v4 h
    rw [f_Laws_associatesAt_L13] at h
    refine G_iload (pc := 13) X (dg dt_Laws_associatesAt 8 rfl) rfl ?_
    refine G_aload_n (pc := 15) 0 X (dg dt_Laws_associatesAt 9 rfl) rfl rfl ?_
    refine G_getIN (pc := 16) 3 X (dg dt_Laws_associatesAt 10 rfl) fc_0 w_114 rfl (Nat.le_of_ble_eq_true rfl) (sh_g hg_v0) rfl ?_
    refine G_icmp_ge (pc := 19) 97 X (dg dt_Laws_associatesAt 11 rfl) (by decide) h (fun h => ?_) (fun h => ?_)
    · exact G_wk (hkx97  h) ⟨rfl, ⟨rfl, ⟨rfl, ⟨rfl, trivial⟩⟩⟩⟩
    · refine G_iload_n (pc := 22) 1 X (dg dt_Laws_associatesAt 12 rfl) rfl rfl ?_
      refine jn_go (fun j84_1 => ∀ (v5_2 : Int32), j84_1 v5_2 = some rv → G θ (0, 0) (g_SH, ad) σ 84 [some (.ref (ad v0)), some (.int v1), some (.int v2), some (.int v3), some (.int v4), some (.int v5_2)] []) h ?_ (fun j84_1 hj84_1 h => ?_)
      · intro v5_2 h
        refine G_iload (pc := 84) X (dg dt_Laws_associatesAt 34 rfl) rfl ?_
        refine G_if_ne (pc := 86) 91 X (dg dt_Laws_associatesAt 35 rfl) (by decide) h (fun h => ?_) (fun h => ?_)
        · refine G_iinc (pc := 91) (v4 + 1) X (dg dt_Laws_associatesAt 38 rfl) rfl (Nat.le_of_ble_eq_true rfl) rfl rfl ?_
          refine G_goto (pc := 94) 13 X (dg dt_Laws_associatesAt 39 rfl) (by decide) ?_
          exact G_wk (ih (v4 + 1) h) ⟨rfl, ⟨rfl, ⟨rfl, ⟨rfl, ⟨rfl, trivial⟩⟩⟩⟩⟩
        · refine G_iconst (pc := 89) 0 X (dg dt_Laws_associatesAt 36 rfl) (by decide) ?_
          exact G_zretlp (pc := 90) X hq (dg dt_Laws_associatesAt 37 rfl) rfl h
      refine G_lookup2 (pc := 23) 48 61 74 X (dg dt_Laws_associatesAt 13 rfl) (by decide) (by decide) (by decide) (by decide) (by decide) (by decide) h (fun h => ?_) (fun h => ?_) (fun h => ?_)
      · refine G_aload_n (pc := 48) 0 X (dg dt_Laws_associatesAt 14 rfl) rfl rfl ?_
        refine G_iload_n (pc := 49) 2 X (dg dt_Laws_associatesAt 15 rfl) rfl rfl ?_
        refine G_iload_n (pc := 50) 3 X (dg dt_Laws_associatesAt 16 rfl) rfl rfl ?_
        refine G_iload (pc := 51) X (dg dt_Laws_associatesAt 17 rfl) rfl ?_
        obtain ⟨r_4, hc_3, h⟩ := cap_go h
        refine G_callS (pc := 53) (S := []) [.ref (ad v0), .int v2, .int v3, .int v4] nosub X  (dg dt_Laws_associatesAt 18 rfl) cb_Laws_associates w_861 w_860 (s_Laws_associates _ ad _ _ _ _ _ hg_v0 hc_3) rfl ⟨Nat.le_of_ble_eq_true rfl, Nat.le_of_ble_eq_true rfl⟩  (Nat.le_of_ble_eq_true rfl) Rc0 ?_
        refine G_istore (pc := 56) X (dg dt_Laws_associatesAt 19 rfl) (Nat.le_of_ble_eq_true rfl) rfl ?_
        refine G_goto (pc := 58) 84 X (dg dt_Laws_associatesAt 20 rfl) (by decide) ?_
        exact G_wk (hj84_1 r_4 h) ⟨rfl, ⟨rfl, ⟨rfl, ⟨rfl, ⟨rfl, ⟨rfl, trivial⟩⟩⟩⟩⟩⟩
      · refine G_aload_n (pc := 61) 0 X (dg dt_Laws_associatesAt 21 rfl) rfl rfl ?_
        refine G_iload_n (pc := 62) 3 X (dg dt_Laws_associatesAt 22 rfl) rfl rfl ?_
        refine G_iload_n (pc := 63) 2 X (dg dt_Laws_associatesAt 23 rfl) rfl rfl ?_
        refine G_iload (pc := 64) X (dg dt_Laws_associatesAt 24 rfl) rfl ?_
        obtain ⟨r_6, hc_5, h⟩ := cap_go h
        refine G_callS (pc := 66) (S := []) [.ref (ad v0), .int v3, .int v2, .int v4] nosub X  (dg dt_Laws_associatesAt 25 rfl) cb_Laws_associates w_861 w_860 (s_Laws_associates _ ad _ _ _ _ _ hg_v0 hc_5) rfl ⟨Nat.le_of_ble_eq_true rfl, Nat.le_of_ble_eq_true rfl⟩  (Nat.le_of_ble_eq_true rfl) Rc0 ?_
        refine G_istore (pc := 69) X (dg dt_Laws_associatesAt 26 rfl) (Nat.le_of_ble_eq_true rfl) rfl ?_
        refine G_goto (pc := 71) 84 X (dg dt_Laws_associatesAt 27 rfl) (by decide) ?_
        exact G_wk (hj84_1 r_6 h) ⟨rfl, ⟨rfl, ⟨rfl, ⟨rfl, ⟨rfl, ⟨rfl, trivial⟩⟩⟩⟩⟩⟩
      · refine G_aload_n (pc := 74) 0 X (dg dt_Laws_associatesAt 28 rfl) rfl rfl ?_
        refine G_iload_n (pc := 75) 3 X (dg dt_Laws_associatesAt 29 rfl) rfl rfl ?_
        refine G_iload (pc := 76) X (dg dt_Laws_associatesAt 30 rfl) rfl ?_
        refine G_iload_n (pc := 78) 2 X (dg dt_Laws_associatesAt 31 rfl) rfl rfl ?_
        obtain ⟨r_8, hc_7, h⟩ := cap_go h
        refine G_callS (pc := 79) (S := []) [.ref (ad v0), .int v3, .int v4, .int v2] nosub X  (dg dt_Laws_associatesAt 32 rfl) cb_Laws_associates w_861 w_860 (s_Laws_associates _ ad _ _ _ _ _ hg_v0 hc_7) rfl ⟨Nat.le_of_ble_eq_true rfl, Nat.le_of_ble_eq_true rfl⟩  (Nat.le_of_ble_eq_true rfl) Rc0 ?_
        refine G_istore (pc := 82) X (dg dt_Laws_associatesAt 33 rfl) (Nat.le_of_ble_eq_true rfl) rfl ?_
        exact G_wk (hj84_1 r_8 h) ⟨rfl, ⟨rfl, ⟨rfl, ⟨rfl, ⟨rfl, ⟨rfl, trivial⟩⟩⟩⟩⟩⟩
set_option maxRecDepth 100000 in
set_option maxHeartbeats 4000000 in
theorem s_Laws_associatesAt_L2 {θ : Th} {ad : Nat → Nat}  {rv : Int32} (X : Cx θ [] cX3_associatesAt 6 "Quasigrove$Laws" 4 88)
    {v0 : Nat} {v1 : Int32} {v2 : Int32} {σ : St} (hq : Rq θ (g_SH, ad) (some .boolean) (some (.int rv)) σ) (hg_v0 : gok v0) :
    ∀ (n : Nat) (v3 : Int32), f_Laws_associatesAt_L2 v0 v1 v2 σ n v3 = some rv → G θ (0, 0) (g_SH, ad) σ 2 [some (.ref (ad v0)), some (.int v1), some (.int v2), some (.int v3), none, none] [] := by
  intro n
  induction n with
  | zero => intro v3 h; rw [f_Laws_associatesAt_L2] at h; cases h
  | succ n ih =>
    intro v3 h
    rw [f_Laws_associatesAt_L2] at h
    refine G_iload_n (pc := 2) 3 X (dg dt_Laws_associatesAt 2 rfl) rfl rfl ?_
    refine G_aload_n (pc := 3) 0 X (dg dt_Laws_associatesAt 3 rfl) rfl rfl ?_
    refine G_getIN (pc := 4) 3 X (dg dt_Laws_associatesAt 4 rfl) fc_0 w_114 rfl (Nat.le_of_ble_eq_true rfl) (sh_g hg_v0) rfl ?_
    refine G_icmp_ge (pc := 7) 103 X (dg dt_Laws_associatesAt 5 rfl) (by decide) h (fun h => ?_) (fun h => ?_)
    · refine G_iconst (pc := 103) 1 X (dg dt_Laws_associatesAt 42 rfl) (by decide) ?_
      exact G_zretlp (pc := 104) X hq (dg dt_Laws_associatesAt 43 rfl) rfl h
    · refine G_iconst (pc := 10) 0 X (dg dt_Laws_associatesAt 6 rfl) (by decide) ?_
      refine G_istore (pc := 11) X (dg dt_Laws_associatesAt 7 rfl) (Nat.le_of_ble_eq_true rfl) rfl ?_
      refine G_weak (L' := [some (.ref (ad v0)), some (.int v1), some (.int v2), some (.int v3), some (.int 0), none]) ⟨rfl, ⟨rfl, ⟨rfl, ⟨rfl, ⟨rfl, trivial⟩⟩⟩⟩⟩ ?_
      refine s_Laws_associatesAt_L13  X hq hg_v0 (fun h => ?_) _ _ h
      refine G_iinc (pc := 97) (v3 + 1) X (dg dt_Laws_associatesAt 40 rfl) rfl (Nat.le_of_ble_eq_true rfl) rfl rfl ?_
      refine G_goto (pc := 100) 2 X (dg dt_Laws_associatesAt 41 rfl) (by decide) ?_
      exact G_wk (ih (v3 + 1) h) ⟨rfl, ⟨rfl, ⟨rfl, ⟨rfl, trivial⟩⟩⟩⟩
set_option maxRecDepth 100000 in
set_option maxHeartbeats 4000000 in
theorem s_Laws_associatesAt (l : Launch) (ad : Nat → Nat) (σ : St) (v0 : Nat) (v1 : Int32) (v2 : Int32) (hg_v0 : gok v0) {rv : Int32} (h : f_Laws_associatesAt σ v0 v1 v2 = some rv) : Rt l [] yX3_associatesAt cX3_associatesAt 6 (some .boolean) 4 88 (g_SH, ad) [.ref (ad v0), .int v1, .int v2] σ (some (.int rv)) σ := by
  refine Rt.intro (L := [some (.ref (ad v0)), some (.int v1), some (.int v2), none, none, none]) (by decide +kernel) (Nat.le_of_ble_eq_true rfl) rfl (fun θ hl X hq => ?_)
  subst hl
  unfold f_Laws_associatesAt at h
  refine G_iconst (pc := 0) 0 X (dg dt_Laws_associatesAt 0 rfl) (by decide) ?_
  refine G_istore_n (pc := 1) 3 X (dg dt_Laws_associatesAt 1 rfl) rfl (Nat.le_of_ble_eq_true rfl) rfl ?_
  refine G_weak (L' := [some (.ref (ad v0)), some (.int v1), some (.int v2), some (.int 0), none, none]) ⟨rfl, ⟨rfl, ⟨rfl, ⟨rfl, trivial⟩⟩⟩⟩ ?_
  refine s_Laws_associatesAt_L2  X hq hg_v0  _ _ h
set_option maxRecDepth 100000 in
set_option maxHeartbeats 4000000 in
theorem s_Laws_commutes_L2 {θ : Th} {ad : Nat → Nat}  {rv : Int32} (X : Cx θ [] cX3_commutes 3 "Quasigrove$Laws" 3 65)
    {v0 : Nat} {v1 : Int32} {σ : St} (hq : Rq θ (g_SH, ad) (some .boolean) (some (.int rv)) σ) (hg_v0 : gok v0) :
    ∀ (n : Nat) (v2 : Int32), f_Laws_commutes_L2 v0 v1 σ n v2 = some rv → G θ (0, 0) (g_SH, ad) σ 2 [some (.ref (ad v0)), some (.int v1), some (.int v2)] [] := by
  intro n
  induction n with
  | zero => intro v2 h; rw [f_Laws_commutes_L2] at h; cases h
  | succ n ih =>
    intro v2 h
    rw [f_Laws_commutes_L2] at h
    refine G_iload_n (pc := 2) 2 X (dg dt_Laws_commutes 2 rfl) rfl rfl ?_
    refine G_aload_n (pc := 3) 0 X (dg dt_Laws_commutes 3 rfl) rfl rfl ?_
    refine G_getIN (pc := 4) 3 X (dg dt_Laws_commutes 4 rfl) fc_0 w_114 rfl (Nat.le_of_ble_eq_true rfl) (sh_g hg_v0) rfl ?_
    refine G_icmp_ge (pc := 7) 33 X (dg dt_Laws_commutes 5 rfl) (by decide) h (fun h => ?_) (fun h => ?_)
    · refine G_iconst (pc := 33) 1 X (dg dt_Laws_commutes 19 rfl) (by decide) ?_
      exact G_zretlp (pc := 34) X hq (dg dt_Laws_commutes 20 rfl) rfl h
    · refine G_aload_n (pc := 10) 0 X (dg dt_Laws_commutes 6 rfl) rfl rfl ?_
      refine G_iload_n (pc := 11) 1 X (dg dt_Laws_commutes 7 rfl) rfl rfl ?_
      refine G_iload_n (pc := 12) 2 X (dg dt_Laws_commutes 8 rfl) rfl rfl ?_
      obtain ⟨r_2, hc_1, h⟩ := cap_go h
      refine G_callV (pc := 13) (S := []) [.int v1, .int v2] nosub X  (dg dt_Laws_commutes 9 rfl) cb_Grid_signAt cv_Grid_signAt w_843 (s_Grid_signAt _ ad _ _ _ _ hg_v0 hc_1) rfl ⟨Nat.le_of_ble_eq_true rfl, Nat.le_of_ble_eq_true rfl⟩ (sh_g hg_v0) rfl (Nat.le_of_ble_eq_true rfl) Rc0 ?_
      refine G_aload_n (pc := 16) 0 X (dg dt_Laws_commutes 10 rfl) rfl rfl ?_
      refine G_iload_n (pc := 17) 2 X (dg dt_Laws_commutes 11 rfl) rfl rfl ?_
      refine G_iload_n (pc := 18) 1 X (dg dt_Laws_commutes 12 rfl) rfl rfl ?_
      obtain ⟨r_4, hc_3, h⟩ := cap_go h
      refine G_callV (pc := 19) (S := [.int r_2]) [.int v2, .int v1] nosub X  (dg dt_Laws_commutes 13 rfl) cb_Grid_signAt cv_Grid_signAt w_843 (s_Grid_signAt _ ad _ _ _ _ hg_v0 hc_3) rfl ⟨Nat.le_of_ble_eq_true rfl, Nat.le_of_ble_eq_true rfl⟩ (sh_g hg_v0) rfl (Nat.le_of_ble_eq_true rfl) Rc0 ?_
      refine G_icmp_eq (pc := 22) 27 X (dg dt_Laws_commutes 14 rfl) (by decide) h (fun h => ?_) (fun h => ?_)
      · refine G_iinc (pc := 27) (v2 + 1) X (dg dt_Laws_commutes 17 rfl) rfl (Nat.le_of_ble_eq_true rfl) rfl rfl ?_
        refine G_goto (pc := 30) 2 X (dg dt_Laws_commutes 18 rfl) (by decide) ?_
        exact G_wk (ih (v2 + 1) h) ⟨rfl, ⟨rfl, ⟨rfl, trivial⟩⟩⟩
      · refine G_iconst (pc := 25) 0 X (dg dt_Laws_commutes 15 rfl) (by decide) ?_
        exact G_zretlp (pc := 26) X hq (dg dt_Laws_commutes 16 rfl) rfl h
set_option maxRecDepth 100000 in
set_option maxHeartbeats 4000000 in
theorem s_Laws_commutes (l : Launch) (ad : Nat → Nat) (σ : St) (v0 : Nat) (v1 : Int32) (hg_v0 : gok v0) {rv : Int32} (h : f_Laws_commutes σ v0 v1 = some rv) : Rt l [] yX3_commutes cX3_commutes 3 (some .boolean) 3 65 (g_SH, ad) [.ref (ad v0), .int v1] σ (some (.int rv)) σ := by
  refine Rt.intro (L := [some (.ref (ad v0)), some (.int v1), none]) (by decide +kernel) (Nat.le_of_ble_eq_true rfl) rfl (fun θ hl X hq => ?_)
  subst hl
  unfold f_Laws_commutes at h
  refine G_iconst (pc := 0) 0 X (dg dt_Laws_commutes 0 rfl) (by decide) ?_
  refine G_istore_n (pc := 1) 2 X (dg dt_Laws_commutes 1 rfl) rfl (Nat.le_of_ble_eq_true rfl) rfl ?_
  refine G_weak (L' := [some (.ref (ad v0)), some (.int v1), some (.int 0)]) ⟨rfl, ⟨rfl, ⟨rfl, trivial⟩⟩⟩ ?_
  refine s_Laws_commutes_L2  X hq hg_v0  _ _ h
set_option maxRecDepth 100000 in
set_option maxHeartbeats 4000000 in
theorem s_Laws_isInNucleus (l : Launch) (ad : Nat → Nat) (σ : St) (v0 : Nat) (v1 : Int32) (v2 : Int32) (hg_v0 : gok v0) {rv : Int32} (h : f_Laws_isInNucleus σ v0 v1 v2 = some rv) : Rt l [] yX3_isInNucleus cX3_isInNucleus 3 (some .boolean) 5 113 (g_SH, ad) [.ref (ad v0), .int v1, .int v2] σ (some (.int rv)) σ := by
  refine Rt.intro (L := [some (.ref (ad v0)), some (.int v1), some (.int v2)]) (by decide +kernel) (Nat.le_of_ble_eq_true rfl) rfl (fun θ hl X hq => ?_)
  subst hl
  unfold f_Laws_isInNucleus at h
  refine G_iload_n (pc := 0) 1 X (dg dt_Laws_isInNucleus 0 rfl) rfl rfl ?_
  refine G_iconst (pc := 1) 3 X (dg dt_Laws_isInNucleus 1 rfl) (by decide) ?_
  refine G_icmp_ne (pc := 2) 46 X (dg dt_Laws_isInNucleus 2 rfl) (by decide) h (fun h => ?_) (fun h => ?_)
  · refine G_aload_n (pc := 46) 0 X (dg dt_Laws_isInNucleus 26 rfl) rfl rfl ?_
    refine G_iload_n (pc := 47) 1 X (dg dt_Laws_isInNucleus 27 rfl) rfl rfl ?_
    refine G_iload_n (pc := 48) 2 X (dg dt_Laws_isInNucleus 28 rfl) rfl rfl ?_
    obtain ⟨r_2, hc_1, h⟩ := cap_go h
    refine G_callS (pc := 49) (S := []) [.ref (ad v0), .int v1, .int v2] nosub X  (dg dt_Laws_isInNucleus 29 rfl) cb_Laws_associatesAt w_858 w_857 (s_Laws_associatesAt _ ad _ _ _ _ hg_v0 hc_1) rfl ⟨Nat.le_of_ble_eq_true rfl, Nat.le_of_ble_eq_true rfl⟩  (Nat.le_of_ble_eq_true rfl) Rc0 ?_
    exact G_zretp (pc := 52) X hq (dg dt_Laws_isInNucleus 30 rfl) h
  · refine G_aload_n (pc := 5) 0 X (dg dt_Laws_isInNucleus 3 rfl) rfl rfl ?_
    refine G_iconst (pc := 6) 0 X (dg dt_Laws_isInNucleus 4 rfl) (by decide) ?_
    refine G_iload_n (pc := 7) 2 X (dg dt_Laws_isInNucleus 5 rfl) rfl rfl ?_
    obtain ⟨r_4, hc_3, h⟩ := cap_go h
    refine G_callS (pc := 8) (S := []) [.ref (ad v0), .int 0, .int v2] nosub X  (dg dt_Laws_isInNucleus 6 rfl) cb_Laws_associatesAt w_858 w_857 (s_Laws_associatesAt _ ad _ _ _ _ hg_v0 hc_3) rfl ⟨Nat.le_of_ble_eq_true rfl, Nat.le_of_ble_eq_true rfl⟩  (Nat.le_of_ble_eq_true rfl) Rc0 ?_
    refine jn_go (fun j44_5 => j44_5 = some rv → G θ (0, 0) (g_SH, ad) σ 44 [none, none, none] []) h ?_ (fun j44_5 hj44_5 h => ?_)
    · intro  h
      refine G_iconst (pc := 44) 0 X (dg dt_Laws_isInNucleus 24 rfl) (by decide) ?_
      exact G_zretlp (pc := 45) X hq (dg dt_Laws_isInNucleus 25 rfl) rfl h
    refine G_if_eq (pc := 11) 44 X (dg dt_Laws_isInNucleus 7 rfl) (by decide) h (fun h => ?_) (fun h => ?_)
    · exact G_wk (hj44_5  h) trivial
    · refine G_aload_n (pc := 14) 0 X (dg dt_Laws_isInNucleus 8 rfl) rfl rfl ?_
      refine G_iconst (pc := 15) 1 X (dg dt_Laws_isInNucleus 9 rfl) (by decide) ?_
      refine G_iload_n (pc := 16) 2 X (dg dt_Laws_isInNucleus 10 rfl) rfl rfl ?_
      obtain ⟨r_7, hc_6, h⟩ := cap_go h
      refine G_callS (pc := 17) (S := []) [.ref (ad v0), .int 1, .int v2] nosub X  (dg dt_Laws_isInNucleus 11 rfl) cb_Laws_associatesAt w_858 w_857 (s_Laws_associatesAt _ ad _ _ _ _ hg_v0 hc_6) rfl ⟨Nat.le_of_ble_eq_true rfl, Nat.le_of_ble_eq_true rfl⟩  (Nat.le_of_ble_eq_true rfl) Rc0 ?_
      refine G_if_eq (pc := 20) 44 X (dg dt_Laws_isInNucleus 12 rfl) (by decide) h (fun h => ?_) (fun h => ?_)
      · exact G_wk (hj44_5  h) trivial
      · refine G_aload_n (pc := 23) 0 X (dg dt_Laws_isInNucleus 13 rfl) rfl rfl ?_
        refine G_iconst (pc := 24) 2 X (dg dt_Laws_isInNucleus 14 rfl) (by decide) ?_
        refine G_iload_n (pc := 25) 2 X (dg dt_Laws_isInNucleus 15 rfl) rfl rfl ?_
        obtain ⟨r_9, hc_8, h⟩ := cap_go h
        refine G_callS (pc := 26) (S := []) [.ref (ad v0), .int 2, .int v2] nosub X  (dg dt_Laws_isInNucleus 16 rfl) cb_Laws_associatesAt w_858 w_857 (s_Laws_associatesAt _ ad _ _ _ _ hg_v0 hc_8) rfl ⟨Nat.le_of_ble_eq_true rfl, Nat.le_of_ble_eq_true rfl⟩  (Nat.le_of_ble_eq_true rfl) Rc0 ?_
        refine G_if_eq (pc := 29) 44 X (dg dt_Laws_isInNucleus 17 rfl) (by decide) h (fun h => ?_) (fun h => ?_)
        · exact G_wk (hj44_5  h) trivial
        · refine G_aload_n (pc := 32) 0 X (dg dt_Laws_isInNucleus 18 rfl) rfl rfl ?_
          refine G_iload_n (pc := 33) 2 X (dg dt_Laws_isInNucleus 19 rfl) rfl rfl ?_
          obtain ⟨r_11, hc_10, h⟩ := cap_go h
          refine G_callS (pc := 34) (S := []) [.ref (ad v0), .int v2] nosub X  (dg dt_Laws_isInNucleus 20 rfl) cb_Laws_commutes w_864 w_863 (s_Laws_commutes _ ad _ _ _ hg_v0 hc_10) rfl ⟨Nat.le_of_ble_eq_true rfl, Nat.le_of_ble_eq_true rfl⟩  (Nat.le_of_ble_eq_true rfl) Rc0 ?_
          refine G_if_eq (pc := 37) 44 X (dg dt_Laws_isInNucleus 21 rfl) (by decide) h (fun h => ?_) (fun h => ?_)
          · exact G_wk (hj44_5  h) trivial
          · refine G_iconst (pc := 40) 1 X (dg dt_Laws_isInNucleus 22 rfl) (by decide) ?_
            refine G_goto (pc := 41) 45 X (dg dt_Laws_isInNucleus 23 rfl) (by decide) ?_
            exact G_zretlp (pc := 45) X hq (dg dt_Laws_isInNucleus 25 rfl) rfl h
set_option maxRecDepth 100000 in
set_option maxHeartbeats 4000000 in
theorem s_Laws_nucleusOf_L4 {θ : Th} {ad : Nat → Nat}  {rv : Int32} (X : Cx θ [] cX3_nucleusOf 4 "Quasigrove$Laws" 6 135)
    {v0 : Nat} {v1 : Int32} {σ : St} (hq : Rq θ (g_SH, ad) (some .int) (some (.int rv)) σ) (hg_v0 : gok v0) {kx33 : Int32 → Option Int32} (hkx33 : ∀ (v2 : Int32), kx33 v2 = some rv → G θ (0, 0) (g_SH, ad) σ 33 [none, none, some (.int v2), none] []) :
    ∀ (n : Nat) (v2 : Int32) (v3 : Int32), f_Laws_nucleusOf_L4 v0 v1 σ kx33 n v2 v3 = some rv → G θ (0, 0) (g_SH, ad) σ 4 [some (.ref (ad v0)), some (.int v1), some (.int v2), some (.int v3)] [] := by
  intro n
  induction n with
  | zero => intro v2 v3 h; rw [f_Laws_nucleusOf_L4] at h; cases h
  | succ n ih =>
    intro v2 v3 h
    rw [f_Laws_nucleusOf_L4] at h
    refine G_iload_n (pc := 4) 3 X (dg dt_Laws_nucleusOf 4 rfl) rfl rfl ?_
    refine G_aload_n (pc := 5) 0 X (dg dt_Laws_nucleusOf 5 rfl) rfl rfl ?_
    refine G_getIN (pc := 6) 3 X (dg dt_Laws_nucleusOf 6 rfl) fc_0 w_114 rfl (Nat.le_of_ble_eq_true rfl) (sh_g hg_v0) rfl ?_
    refine G_icmp_ge (pc := 9) 33 X (dg dt_Laws_nucleusOf 7 rfl) (by decide) h (fun h => ?_) (fun h => ?_)
    · exact G_wk (hkx33 v2 h) ⟨rfl, trivial⟩
    · refine G_aload_n (pc := 12) 0 X (dg dt_Laws_nucleusOf 8 rfl) rfl rfl ?_
      refine G_iload_n (pc := 13) 1 X (dg dt_Laws_nucleusOf 9 rfl) rfl rfl ?_
      refine G_iload_n (pc := 14) 3 X (dg dt_Laws_nucleusOf 10 rfl) rfl rfl ?_
      obtain ⟨r_2, hc_1, h⟩ := cap_go h
      refine G_callS (pc := 15) (S := []) [.ref (ad v0), .int v1, .int v3] nosub X  (dg dt_Laws_nucleusOf 11 rfl) cb_Laws_isInNucleus w_855 w_854 (s_Laws_isInNucleus _ ad _ _ _ _ hg_v0 hc_1) rfl ⟨Nat.le_of_ble_eq_true rfl, Nat.le_of_ble_eq_true rfl⟩  (Nat.le_of_ble_eq_true rfl) Rc0 ?_
      refine jn_go (fun j27_3 => ∀ (v2_4 : Int32), j27_3 v2_4 = some rv → G θ (0, 0) (g_SH, ad) σ 27 [some (.ref (ad v0)), some (.int v1), some (.int v2_4), some (.int v3)] []) h ?_ (fun j27_3 hj27_3 h => ?_)
      · intro v2_4 h
        refine G_iinc (pc := 27) (v3 + 1) X (dg dt_Laws_nucleusOf 19 rfl) rfl (Nat.le_of_ble_eq_true rfl) rfl rfl ?_
        refine G_goto (pc := 30) 4 X (dg dt_Laws_nucleusOf 20 rfl) (by decide) ?_
        exact G_wk (ih v2_4 (v3 + 1) h) ⟨rfl, ⟨rfl, ⟨rfl, ⟨rfl, trivial⟩⟩⟩⟩
      refine G_if_eq (pc := 18) 27 X (dg dt_Laws_nucleusOf 12 rfl) (by decide) h (fun h => ?_) (fun h => ?_)
      · exact G_wk (hj27_3 v2 h) ⟨rfl, ⟨rfl, ⟨rfl, ⟨rfl, trivial⟩⟩⟩⟩
      · refine G_iload_n (pc := 21) 2 X (dg dt_Laws_nucleusOf 13 rfl) rfl rfl ?_
        refine G_iconst (pc := 22) 1 X (dg dt_Laws_nucleusOf 14 rfl) (by decide) ?_
        refine G_iload_n (pc := 23) 3 X (dg dt_Laws_nucleusOf 15 rfl) rfl rfl ?_
        refine G_ishl (pc := 24) X (dg dt_Laws_nucleusOf 16 rfl) ?_
        refine G_ior (pc := 25) X (dg dt_Laws_nucleusOf 17 rfl) ?_
        refine G_istore_n_lt (pc := 26) 2 X (dg dt_Laws_nucleusOf 18 rfl) rfl (Nat.le_of_ble_eq_true rfl) rfl h (fun v2_5 h => ?_)
        exact G_wk (hj27_3 v2_5 h) ⟨rfl, ⟨rfl, ⟨rfl, ⟨rfl, trivial⟩⟩⟩⟩
set_option maxRecDepth 100000 in
set_option maxHeartbeats 4000000 in
theorem s_Laws_nucleusOf (l : Launch) (ad : Nat → Nat) (σ : St) (v0 : Nat) (v1 : Int32) (hg_v0 : gok v0) {rv : Int32} (h : f_Laws_nucleusOf σ v0 v1 = some rv) : Rt l [] yX3_nucleusOf cX3_nucleusOf 4 (some .int) 6 135 (g_SH, ad) [.ref (ad v0), .int v1] σ (some (.int rv)) σ := by
  refine Rt.intro (L := [some (.ref (ad v0)), some (.int v1), none, none]) (by decide +kernel) (Nat.le_of_ble_eq_true rfl) rfl (fun θ hl X hq => ?_)
  subst hl
  unfold f_Laws_nucleusOf at h
  refine G_iconst (pc := 0) 0 X (dg dt_Laws_nucleusOf 0 rfl) (by decide) ?_
  refine G_istore_n (pc := 1) 2 X (dg dt_Laws_nucleusOf 1 rfl) rfl (Nat.le_of_ble_eq_true rfl) rfl ?_
  refine G_iconst (pc := 2) 0 X (dg dt_Laws_nucleusOf 2 rfl) (by decide) ?_
  refine G_istore_n (pc := 3) 3 X (dg dt_Laws_nucleusOf 3 rfl) rfl (Nat.le_of_ble_eq_true rfl) rfl ?_
  refine G_weak (L' := [some (.ref (ad v0)), some (.int v1), some (.int 0), some (.int 0)]) ⟨rfl, ⟨rfl, ⟨rfl, ⟨rfl, trivial⟩⟩⟩⟩ ?_
  refine s_Laws_nucleusOf_L4  X hq hg_v0 (fun v2_6 h => ?_) _ _ _ h
  refine G_iload_n (pc := 33) 2 X (dg dt_Laws_nucleusOf 21 rfl) rfl rfl ?_
  exact G_iretp (pc := 34) X hq (dg dt_Laws_nucleusOf 22 rfl) h
set_option maxRecDepth 100000 in
set_option maxHeartbeats 4000000 in
theorem s_Laws_isUnit_L2 {θ : Th} {ad : Nat → Nat}  {rv : Int32} (X : Cx θ [] cX3_isUnit 3 "Quasigrove$Laws" 3 65)
    {v0 : Nat} {v1 : Int32} {σ : St} (hq : Rq θ (g_SH, ad) (some .boolean) (some (.int rv)) σ) (hg_v0 : gok v0) :
    ∀ (n : Nat) (v2 : Int32), f_Laws_isUnit_L2 v0 v1 σ n v2 = some rv → G θ (0, 0) (g_SH, ad) σ 2 [some (.ref (ad v0)), some (.int v1), some (.int v2)] [] := by
  intro n
  induction n with
  | zero => intro v2 h; rw [f_Laws_isUnit_L2] at h; cases h
  | succ n ih =>
    intro v2 h
    rw [f_Laws_isUnit_L2] at h
    refine G_iload_n (pc := 2) 2 X (dg dt_Laws_isUnit 2 rfl) rfl rfl ?_
    refine G_aload_n (pc := 3) 0 X (dg dt_Laws_isUnit 3 rfl) rfl rfl ?_
    refine G_getIN (pc := 4) 3 X (dg dt_Laws_isUnit 4 rfl) fc_0 w_114 rfl (Nat.le_of_ble_eq_true rfl) (sh_g hg_v0) rfl ?_
    refine G_icmp_ge (pc := 7) 38 X (dg dt_Laws_isUnit 5 rfl) (by decide) h (fun h => ?_) (fun h => ?_)
    · refine G_iconst (pc := 38) 1 X (dg dt_Laws_isUnit 22 rfl) (by decide) ?_
      exact G_zretlp (pc := 39) X hq (dg dt_Laws_isUnit 23 rfl) rfl h
    · refine G_aload_n (pc := 10) 0 X (dg dt_Laws_isUnit 6 rfl) rfl rfl ?_
      refine G_iload_n (pc := 11) 1 X (dg dt_Laws_isUnit 7 rfl) rfl rfl ?_
      refine G_iload_n (pc := 12) 2 X (dg dt_Laws_isUnit 8 rfl) rfl rfl ?_
      obtain ⟨r_2, hc_1, h⟩ := cap_go h
      refine G_callV (pc := 13) (S := []) [.int v1, .int v2] nosub X  (dg dt_Laws_isUnit 9 rfl) cb_Grid_signAt cv_Grid_signAt w_843 (s_Grid_signAt _ ad _ _ _ _ hg_v0 hc_1) rfl ⟨Nat.le_of_ble_eq_true rfl, Nat.le_of_ble_eq_true rfl⟩ (sh_g hg_v0) rfl (Nat.le_of_ble_eq_true rfl) Rc0 ?_
      refine G_iload_n (pc := 16) 2 X (dg dt_Laws_isUnit 10 rfl) rfl rfl ?_
      refine G_icmp_ne (pc := 17) 30 X (dg dt_Laws_isUnit 11 rfl) (by decide) h (fun h => ?_) (fun h => ?_)
      · refine G_iconst (pc := 30) 0 X (dg dt_Laws_isUnit 18 rfl) (by decide) ?_
        exact G_zretlp (pc := 31) X hq (dg dt_Laws_isUnit 19 rfl) rfl h
      · refine G_aload_n (pc := 20) 0 X (dg dt_Laws_isUnit 12 rfl) rfl rfl ?_
        refine G_iload_n (pc := 21) 2 X (dg dt_Laws_isUnit 13 rfl) rfl rfl ?_
        refine G_iload_n (pc := 22) 1 X (dg dt_Laws_isUnit 14 rfl) rfl rfl ?_
        obtain ⟨r_4, hc_3, h⟩ := cap_go h
        refine G_callV (pc := 23) (S := []) [.int v2, .int v1] nosub X  (dg dt_Laws_isUnit 15 rfl) cb_Grid_signAt cv_Grid_signAt w_843 (s_Grid_signAt _ ad _ _ _ _ hg_v0 hc_3) rfl ⟨Nat.le_of_ble_eq_true rfl, Nat.le_of_ble_eq_true rfl⟩ (sh_g hg_v0) rfl (Nat.le_of_ble_eq_true rfl) Rc0 ?_
        refine G_iload_n (pc := 26) 2 X (dg dt_Laws_isUnit 16 rfl) rfl rfl ?_
        refine G_icmp_eq (pc := 27) 32 X (dg dt_Laws_isUnit 17 rfl) (by decide) h (fun h => ?_) (fun h => ?_)
        · refine G_iinc (pc := 32) (v2 + 1) X (dg dt_Laws_isUnit 20 rfl) rfl (Nat.le_of_ble_eq_true rfl) rfl rfl ?_
          refine G_goto (pc := 35) 2 X (dg dt_Laws_isUnit 21 rfl) (by decide) ?_
          exact G_wk (ih (v2 + 1) h) ⟨rfl, ⟨rfl, ⟨rfl, trivial⟩⟩⟩
        · refine G_iconst (pc := 30) 0 X (dg dt_Laws_isUnit 18 rfl) (by decide) ?_
          exact G_zretlp (pc := 31) X hq (dg dt_Laws_isUnit 19 rfl) rfl h
set_option maxRecDepth 100000 in
set_option maxHeartbeats 4000000 in
theorem s_Laws_isUnit (l : Launch) (ad : Nat → Nat) (σ : St) (v0 : Nat) (v1 : Int32) (hg_v0 : gok v0) {rv : Int32} (h : f_Laws_isUnit σ v0 v1 = some rv) : Rt l [] yX3_isUnit cX3_isUnit 3 (some .boolean) 3 65 (g_SH, ad) [.ref (ad v0), .int v1] σ (some (.int rv)) σ := by
  refine Rt.intro (L := [some (.ref (ad v0)), some (.int v1), none]) (by decide +kernel) (Nat.le_of_ble_eq_true rfl) rfl (fun θ hl X hq => ?_)
  subst hl
  unfold f_Laws_isUnit at h
  refine G_iconst (pc := 0) 0 X (dg dt_Laws_isUnit 0 rfl) (by decide) ?_
  refine G_istore_n (pc := 1) 2 X (dg dt_Laws_isUnit 1 rfl) rfl (Nat.le_of_ble_eq_true rfl) rfl ?_
  refine G_weak (L' := [some (.ref (ad v0)), some (.int v1), some (.int 0)]) ⟨rfl, ⟨rfl, ⟨rfl, trivial⟩⟩⟩ ?_
  refine s_Laws_isUnit_L2  X hq hg_v0  _ _ h
set_option maxRecDepth 100000 in
set_option maxHeartbeats 4000000 in
theorem s_Laws_unitOf_L2 {θ : Th} {ad : Nat → Nat}  {rv : Int32} (X : Cx θ [] cX3_unitOf 2 "Quasigrove$Laws" 4 87)
    {v0 : Nat} {σ : St} (hq : Rq θ (g_SH, ad) (some .int) (some (.int rv)) σ) (hg_v0 : gok v0) {kx18 : Int32 → Option Int32} (hkx18 : ∀ (v1 : Int32), kx18 v1 = some rv → G θ (0, 0) (g_SH, ad) σ 18 [none, some (.int v1)] []) :
    ∀ (n : Nat) (v1 : Int32), f_Laws_unitOf_L2 v0 σ kx18 n v1 = some rv → G θ (0, 0) (g_SH, ad) σ 2 [some (.ref (ad v0)), some (.int v1)] [] := by
  intro n
  induction n with
  | zero => intro v1 h; rw [f_Laws_unitOf_L2] at h; cases h
  | succ n ih =>
    intro v1 h
    rw [f_Laws_unitOf_L2] at h
    refine G_iload_n (pc := 2) 1 X (dg dt_Laws_unitOf 2 rfl) rfl rfl ?_
    refine G_aload_n (pc := 3) 0 X (dg dt_Laws_unitOf 3 rfl) rfl rfl ?_
    refine G_getIN (pc := 4) 3 X (dg dt_Laws_unitOf 4 rfl) fc_0 w_114 rfl (Nat.le_of_ble_eq_true rfl) (sh_g hg_v0) rfl ?_
    refine G_icmp_ge (pc := 7) 26 X (dg dt_Laws_unitOf 5 rfl) (by decide) h (fun h => ?_) (fun h => ?_)
    · refine G_iconst (pc := 26) (-1) X (dg dt_Laws_unitOf 14 rfl) (by decide) ?_
      exact G_iretp (pc := 27) X hq (dg dt_Laws_unitOf 15 rfl) h
    · refine G_aload_n (pc := 10) 0 X (dg dt_Laws_unitOf 6 rfl) rfl rfl ?_
      refine G_iload_n (pc := 11) 1 X (dg dt_Laws_unitOf 7 rfl) rfl rfl ?_
      obtain ⟨r_2, hc_1, h⟩ := cap_go h
      refine G_callS (pc := 12) (S := []) [.ref (ad v0), .int v1] nosub X  (dg dt_Laws_unitOf 8 rfl) cb_Laws_isUnit w_841 w_840 (s_Laws_isUnit _ ad _ _ _ hg_v0 hc_1) rfl ⟨Nat.le_of_ble_eq_true rfl, Nat.le_of_ble_eq_true rfl⟩  (Nat.le_of_ble_eq_true rfl) Rc0 ?_
      refine G_if_eq (pc := 15) 20 X (dg dt_Laws_unitOf 9 rfl) (by decide) h (fun h => ?_) (fun h => ?_)
      · refine G_iinc (pc := 20) (v1 + 1) X (dg dt_Laws_unitOf 12 rfl) rfl (Nat.le_of_ble_eq_true rfl) rfl rfl ?_
        refine G_goto (pc := 23) 2 X (dg dt_Laws_unitOf 13 rfl) (by decide) ?_
        exact G_wk (ih (v1 + 1) h) ⟨rfl, ⟨rfl, trivial⟩⟩
      · exact G_wk (hkx18 v1 h) ⟨rfl, trivial⟩
set_option maxRecDepth 100000 in
set_option maxHeartbeats 4000000 in
theorem s_Laws_unitOf (l : Launch) (ad : Nat → Nat) (σ : St) (v0 : Nat) (hg_v0 : gok v0) {rv : Int32} (h : f_Laws_unitOf σ v0 = some rv) : Rt l [] yX3_unitOf cX3_unitOf 2 (some .int) 4 87 (g_SH, ad) [.ref (ad v0)] σ (some (.int rv)) σ := by
  refine Rt.intro (L := [some (.ref (ad v0)), none]) (by decide +kernel) (Nat.le_of_ble_eq_true rfl) rfl (fun θ hl X hq => ?_)
  subst hl
  unfold f_Laws_unitOf at h
  refine G_iconst (pc := 0) 0 X (dg dt_Laws_unitOf 0 rfl) (by decide) ?_
  refine G_istore_n (pc := 1) 1 X (dg dt_Laws_unitOf 1 rfl) rfl (Nat.le_of_ble_eq_true rfl) rfl ?_
  refine G_weak (L' := [some (.ref (ad v0)), some (.int 0)]) ⟨rfl, ⟨rfl, trivial⟩⟩ ?_
  refine s_Laws_unitOf_L2  X hq hg_v0 (fun v1_3 h => ?_) _ _ h
  refine G_iload_n (pc := 18) 1 X (dg dt_Laws_unitOf 10 rfl) rfl rfl ?_
  exact G_iretp (pc := 19) X hq (dg dt_Laws_unitOf 11 rfl) h
set_option maxRecDepth 100000 in
set_option maxHeartbeats 4000000 in
theorem s_Tape_canFollow (l : Launch) (ad : Nat → Nat) (σ : St) (v1 : Int32) (v2 : Int32) (v3 : Int32)  {rv : Int32} (h : f_Tape_canFollow σ v1 v2 v3 = some rv) : Rt l [] yX9_canFollow cX9_canFollow 5 (some .boolean) 0 0 (g_SH, ad) [.ref (ad 10), .int v1, .int v2, .int v3] σ (some (.int rv)) σ := by
  refine Rt.intro (L := [some (.ref (ad 10)), some (.int v1), some (.int v2), some (.int v3), none]) (by decide +kernel) (Nat.le_of_ble_eq_true rfl) rfl (fun θ hl X hq => ?_)
  subst hl
  unfold f_Tape_canFollow at h
  refine G_iload_n (pc := 0) 2 X (dg dt_Tape_canFollow 0 rfl) rfl rfl ?_
  refine G_if_lt (pc := 1) 10 X (dg dt_Tape_canFollow 1 rfl) (by decide) h (fun h => ?_) (fun h => ?_)
  · refine G_iconst (pc := 10) 0 X (dg dt_Tape_canFollow 5 rfl) (by decide) ?_
    exact G_zretlp (pc := 11) X hq (dg dt_Tape_canFollow 6 rfl) rfl h
  · refine G_iload_n (pc := 4) 2 X (dg dt_Tape_canFollow 2 rfl) rfl rfl ?_
    refine G_bipush (pc := 5) 40 X (dg dt_Tape_canFollow 3 rfl) (by decide) ?_
    refine G_icmp_lt (pc := 7) 12 X (dg dt_Tape_canFollow 4 rfl) (by decide) h (fun h => ?_) (fun h => ?_)
    · refine G_aload_n (pc := 12) 0 X (dg dt_Tape_canFollow 7 rfl) rfl rfl ?_
      refine G_getR (pc := 13) 1 X (dg dt_Tape_canFollow 8 rfl) fc_5 w_162 rfl (Nat.le_of_ble_eq_true rfl) sh_10 rfl ?_
      refine G_iload_n (pc := 16) 2 X (dg dt_Tape_canFollow 9 rfl) rfl rfl ?_
      refine G_iald (pc := 17) X (dg dt_Tape_canFollow 10 rfl) sh_12 h (fun r_1 h => ?_)
      refine G_istore (pc := 18) X (dg dt_Tape_canFollow 11 rfl) (Nat.le_of_ble_eq_true rfl) rfl ?_
      refine G_iload_n (pc := 20) 1 X (dg dt_Tape_canFollow 12 rfl) rfl rfl ?_
      refine G_lookup2 (pc := 21) 48 64 84 X (dg dt_Tape_canFollow 13 rfl) (by decide) (by decide) (by decide) (by decide) (by decide) (by decide) h (fun h => ?_) (fun h => ?_) (fun h => ?_)
      · refine G_iload_n (pc := 48) 2 X (dg dt_Tape_canFollow 14 rfl) rfl rfl ?_
        refine jn_go (fun j62_2 => j62_2 = some rv → G θ (0, 0) (g_SH, ad) σ 62 [none, none, none, none, none] []) h ?_ (fun j62_2 hj62_2 h => ?_)
        · intro  h
          refine G_iconst (pc := 62) 0 X (dg dt_Tape_canFollow 21 rfl) (by decide) ?_
          exact G_zretlp (pc := 63) X hq (dg dt_Tape_canFollow 22 rfl) rfl h
        refine G_if_le (pc := 49) 62 X (dg dt_Tape_canFollow 15 rfl) (by decide) h (fun h => ?_) (fun h => ?_)
        · exact G_wk (hj62_2  h) trivial
        · refine G_iload (pc := 52) X (dg dt_Tape_canFollow 16 rfl) rfl ?_
          refine G_iconst (pc := 54) 2 X (dg dt_Tape_canFollow 17 rfl) (by decide) ?_
          refine G_icmp_ne (pc := 55) 62 X (dg dt_Tape_canFollow 18 rfl) (by decide) h (fun h => ?_) (fun h => ?_)
          · exact G_wk (hj62_2  h) trivial
          · refine G_iconst (pc := 58) 1 X (dg dt_Tape_canFollow 19 rfl) (by decide) ?_
            refine G_goto (pc := 59) 63 X (dg dt_Tape_canFollow 20 rfl) (by decide) ?_
            exact G_zretlp (pc := 63) X hq (dg dt_Tape_canFollow 22 rfl) rfl h
      · refine G_iload_n (pc := 64) 2 X (dg dt_Tape_canFollow 23 rfl) rfl rfl ?_
        refine jn_go (fun j82_3 => j82_3 = some rv → G θ (0, 0) (g_SH, ad) σ 82 [none, none, none, none, none] []) h ?_ (fun j82_3 hj82_3 h => ?_)
        · intro  h
          refine G_iconst (pc := 82) 0 X (dg dt_Tape_canFollow 32 rfl) (by decide) ?_
          exact G_zretlp (pc := 83) X hq (dg dt_Tape_canFollow 33 rfl) rfl h
        refine G_if_ne (pc := 65) 82 X (dg dt_Tape_canFollow 24 rfl) (by decide) h (fun h => ?_) (fun h => ?_)
        · exact G_wk (hj82_3  h) trivial
        · refine G_iload_n (pc := 68) 3 X (dg dt_Tape_canFollow 25 rfl) rfl rfl ?_
          refine G_if_ne (pc := 69) 82 X (dg dt_Tape_canFollow 26 rfl) (by decide) h (fun h => ?_) (fun h => ?_)
          · exact G_wk (hj82_3  h) trivial
          · refine G_iload (pc := 72) X (dg dt_Tape_canFollow 27 rfl) rfl ?_
            refine G_iconst (pc := 74) 1 X (dg dt_Tape_canFollow 28 rfl) (by decide) ?_
            refine G_icmp_ne (pc := 75) 82 X (dg dt_Tape_canFollow 29 rfl) (by decide) h (fun h => ?_) (fun h => ?_)
            · exact G_wk (hj82_3  h) trivial
            · refine G_iconst (pc := 78) 1 X (dg dt_Tape_canFollow 30 rfl) (by decide) ?_
              refine G_goto (pc := 79) 83 X (dg dt_Tape_canFollow 31 rfl) (by decide) ?_
              exact G_zretlp (pc := 83) X hq (dg dt_Tape_canFollow 33 rfl) rfl h
      · refine G_iload (pc := 84) X (dg dt_Tape_canFollow 34 rfl) rfl ?_
        refine G_iload_n (pc := 86) 2 X (dg dt_Tape_canFollow 35 rfl) rfl rfl ?_
        refine jn_go (fun j95_4 => ∀ (s_5 : Int32), j95_4 s_5 = some rv → G θ (0, 0) (g_SH, ad) σ 95 [none, none, none, none, none] [.int s_5, .int r_1]) h ?_ (fun j95_4 hj95_4 h => ?_)
        · intro s_5 h
          refine G_icmp_ge (pc := 95) 102 X (dg dt_Tape_canFollow 40 rfl) (by decide) h (fun h => ?_) (fun h => ?_)
          · refine G_iconst (pc := 102) 0 X (dg dt_Tape_canFollow 43 rfl) (by decide) ?_
            exact G_zretlp (pc := 103) X hq (dg dt_Tape_canFollow 44 rfl) rfl h
          · refine G_iconst (pc := 98) 1 X (dg dt_Tape_canFollow 41 rfl) (by decide) ?_
            refine G_goto (pc := 99) 103 X (dg dt_Tape_canFollow 42 rfl) (by decide) ?_
            exact G_zretlp (pc := 103) X hq (dg dt_Tape_canFollow 44 rfl) rfl h
        refine G_if_ne (pc := 87) 94 X (dg dt_Tape_canFollow 36 rfl) (by decide) h (fun h => ?_) (fun h => ?_)
        · refine G_iconst (pc := 94) 2 X (dg dt_Tape_canFollow 39 rfl) (by decide) ?_
          exact G_wk (hj95_4 2 h) trivial
        · refine G_iconst (pc := 90) 1 X (dg dt_Tape_canFollow 37 rfl) (by decide) ?_
          refine G_goto (pc := 91) 95 X (dg dt_Tape_canFollow 38 rfl) (by decide) ?_
          exact G_wk (hj95_4 1 h) trivial
    · refine G_iconst (pc := 10) 0 X (dg dt_Tape_canFollow 5 rfl) (by decide) ?_
      exact G_zretlp (pc := 11) X hq (dg dt_Tape_canFollow 6 rfl) rfl h
set_option maxRecDepth 100000 in
set_option maxHeartbeats 4000000 in
theorem s_Tape_beginBracket (l : Launch) (ad : Nat → Nat) (σ : St) (v1 : Int32)  {rv : Unit} {σe : St} (h : f_Tape_beginBracket σ v1 = some (rv, σe)) : Rt l [] yX9_beginBracket cX9_beginBracket 2 none 0 0 (g_SH, ad) [.ref (ad 10), .int v1] σ none σe := by
  refine Rt.intro (L := [some (.ref (ad 10)), some (.int v1)]) (by decide +kernel) (Nat.le_of_ble_eq_true rfl) rfl (fun θ hl X hq => ?_)
  subst hl
  unfold f_Tape_beginBracket at h
  refine G_iload_n (pc := 0) 1 X (dg dt_Tape_beginBracket 0 rfl) rfl rfl ?_
  refine G_if_lt (pc := 1) 20 X (dg dt_Tape_beginBracket 1 rfl) (by decide) h (fun h => ?_) (fun h => ?_)
  · exact G_vret (pc := 20) X hq (dg dt_Tape_beginBracket 12 rfl) h
  · refine G_iload_n (pc := 4) 1 X (dg dt_Tape_beginBracket 2 rfl) rfl rfl ?_
    refine G_aload_n (pc := 5) 0 X (dg dt_Tape_beginBracket 3 rfl) rfl rfl ?_
    refine G_getR (pc := 6) 1 X (dg dt_Tape_beginBracket 4 rfl) fc_5 w_162 rfl (Nat.le_of_ble_eq_true rfl) sh_10 rfl ?_
    refine G_alen (pc := 9) 41 X (dg dt_Tape_beginBracket 5 rfl) sh_12 (by decide) (by decide) ?_
    refine G_icmp_ge (pc := 10) 20 X (dg dt_Tape_beginBracket 6 rfl) (by decide) h (fun h => ?_) (fun h => ?_)
    · exact G_vret (pc := 20) X hq (dg dt_Tape_beginBracket 12 rfl) h
    · refine G_aload_n (pc := 13) 0 X (dg dt_Tape_beginBracket 7 rfl) rfl rfl ?_
      refine G_getR (pc := 14) 1 X (dg dt_Tape_beginBracket 8 rfl) fc_5 w_162 rfl (Nat.le_of_ble_eq_true rfl) sh_10 rfl ?_
      refine G_iload_n (pc := 17) 1 X (dg dt_Tape_beginBracket 9 rfl) rfl rfl ?_
      refine G_iconst (pc := 18) 0 X (dg dt_Tape_beginBracket 10 rfl) (by decide) ?_
      refine G_iast (pc := 19) X (dg dt_Tape_beginBracket 11 rfl) sh_12 h (fun σ_1 h => ?_)
      exact G_vret (pc := 20) X hq (dg dt_Tape_beginBracket 12 rfl) h
set_option maxRecDepth 100000 in
set_option maxHeartbeats 4000000 in
theorem s_Tape_endWord (l : Launch) (ad : Nat → Nat) (σ : St) (v1 : Int32)  {rv : Unit} {σe : St} (h : f_Tape_endWord σ v1 = some (rv, σe)) : Rt l [] yX9_endWord cX9_endWord 2 none 0 0 (g_SH, ad) [.ref (ad 10), .int v1] σ none σe := by
  refine Rt.intro (L := [some (.ref (ad 10)), some (.int v1)]) (by decide +kernel) (Nat.le_of_ble_eq_true rfl) rfl (fun θ hl X hq => ?_)
  subst hl
  unfold f_Tape_endWord at h
  refine G_iload_n (pc := 0) 1 X (dg dt_Tape_endWord 0 rfl) rfl rfl ?_
  refine G_if_lt (pc := 1) 23 X (dg dt_Tape_endWord 1 rfl) (by decide) h (fun h => ?_) (fun h => ?_)
  · exact G_vret (pc := 23) X hq (dg dt_Tape_endWord 15 rfl) h
  · refine G_iload_n (pc := 4) 1 X (dg dt_Tape_endWord 2 rfl) rfl rfl ?_
    refine G_aload_n (pc := 5) 0 X (dg dt_Tape_endWord 3 rfl) rfl rfl ?_
    refine G_getR (pc := 6) 1 X (dg dt_Tape_endWord 4 rfl) fc_5 w_162 rfl (Nat.le_of_ble_eq_true rfl) sh_10 rfl ?_
    refine G_alen (pc := 9) 41 X (dg dt_Tape_endWord 5 rfl) sh_12 (by decide) (by decide) ?_
    refine G_icmp_ge (pc := 10) 23 X (dg dt_Tape_endWord 6 rfl) (by decide) h (fun h => ?_) (fun h => ?_)
    · exact G_vret (pc := 23) X hq (dg dt_Tape_endWord 15 rfl) h
    · refine G_aload_n (pc := 13) 0 X (dg dt_Tape_endWord 7 rfl) rfl rfl ?_
      refine G_getR (pc := 14) 1 X (dg dt_Tape_endWord 8 rfl) fc_5 w_162 rfl (Nat.le_of_ble_eq_true rfl) sh_10 rfl ?_
      refine G_iload_n (pc := 17) 1 X (dg dt_Tape_endWord 9 rfl) rfl rfl ?_
      refine G_dup2 (pc := 18) X (dg dt_Tape_endWord 10 rfl) rfl rfl ?_
      refine G_iald (pc := 19) X (dg dt_Tape_endWord 11 rfl) sh_12 h (fun r_1 h => ?_)
      refine G_iconst (pc := 20) 1 X (dg dt_Tape_endWord 12 rfl) (by decide) ?_
      refine G_iadd (pc := 21) X (dg dt_Tape_endWord 13 rfl) ?_
      refine G_iast (pc := 22) X (dg dt_Tape_endWord 14 rfl) sh_12 h (fun σ_2 h => ?_)
      exact G_vret (pc := 23) X hq (dg dt_Tape_endWord 15 rfl) h
set_option maxRecDepth 100000 in
set_option maxHeartbeats 4000000 in
theorem s_Tape_firstFault_L13 {θ : Th} {ad : Nat → Nat}  {rv : Int32} {σe : St} (X : Cx θ [] cX9_firstFault 5 "Quasigrove$Tape" 1 24)
     (hq : Rq θ (g_SH, ad) (some .int) (some (.int rv)) σe) {kx46 : Int32 → St → Option (Int32 × St)} (hkx46 : ∀ (v3 : Int32) (σ : St), kx46 v3 σ = some (rv, σe) → G θ (0, 0) (g_SH, ad) σ 46 [none, none, none, some (.int v3), none] []) {kx112 : Int32 → Int32 → St → Option (Int32 × St)} (hkx112 : ∀ (v1 : Int32) (v2 : Int32) (σ : St), kx112 v1 v2 σ = some (rv, σe) → G θ (0, 0) (g_SH, ad) σ 112 [some (.ref (ad 10)), some (.int v1), some (.int v2), none, none] []) :
    ∀ (n : Nat) (v1 : Int32) (v2 : Int32) (v3 : Int32) (σ : St), f_Tape_firstFault_L13 kx46 kx112 n v1 v2 v3 σ = some (rv, σe) → G θ (0, 0) (g_SH, ad) σ 13 [some (.ref (ad 10)), some (.int v1), some (.int v2), some (.int v3), none] [] := by
  intro n
  induction n with
  | zero => intro v1 v2 v3 σ h; rw [f_Tape_firstFault_L13] at h; cases h
  | succ n ih =>
    intro v1 v2 v3 σ h
    rw [f_Tape_firstFault_L13] at h
    refine G_iload_n (pc := 13) 3 X (dg dt_Tape_firstFault 11 rfl) rfl rfl ?_
    refine G_aload_n (pc := 14) 0 X (dg dt_Tape_firstFault 12 rfl) rfl rfl ?_
    refine G_getI (pc := 15) 3 X (dg dt_Tape_firstFault 13 rfl) fc_5 w_164 rfl (Nat.le_of_ble_eq_true rfl) sh_10 rfl ?_
    refine G_icmp_ge (pc := 18) 112 X (dg dt_Tape_firstFault 14 rfl) (by decide) h (fun h => ?_) (fun h => ?_)
    · exact G_wk (hkx112 v1 v2 σ h) ⟨rfl, ⟨rfl, ⟨rfl, trivial⟩⟩⟩
    · refine G_iload_n (pc := 21) 3 X (dg dt_Tape_firstFault 15 rfl) rfl rfl ?_
      refine G_bipush (pc := 22) 40 X (dg dt_Tape_firstFault 16 rfl) (by decide) ?_
      refine G_icmp_ge (pc := 24) 112 X (dg dt_Tape_firstFault 17 rfl) (by decide) h (fun h => ?_) (fun h => ?_)
      · exact G_wk (hkx112 v1 v2 σ h) ⟨rfl, ⟨rfl, ⟨rfl, trivial⟩⟩⟩
      · refine G_aload_n (pc := 27) 0 X (dg dt_Tape_firstFault 18 rfl) rfl rfl ?_
        refine G_getR (pc := 28) 0 X (dg dt_Tape_firstFault 19 rfl) fc_5 w_161 rfl (Nat.le_of_ble_eq_true rfl) sh_10 rfl ?_
        refine G_iload_n (pc := 31) 3 X (dg dt_Tape_firstFault 20 rfl) rfl rfl ?_
        refine G_iald (pc := 32) X (dg dt_Tape_firstFault 21 rfl) sh_11 h (fun r_2 h => ?_)
        refine G_istore (pc := 33) X (dg dt_Tape_firstFault 22 rfl) (Nat.le_of_ble_eq_true rfl) rfl ?_
        refine G_aload_n (pc := 35) 0 X (dg dt_Tape_firstFault 23 rfl) rfl rfl ?_
        refine G_iload (pc := 36) X (dg dt_Tape_firstFault 24 rfl) rfl ?_
        refine G_iload_n (pc := 38) 1 X (dg dt_Tape_firstFault 25 rfl) rfl rfl ?_
        refine G_iload_n (pc := 39) 2 X (dg dt_Tape_firstFault 26 rfl) rfl rfl ?_
        obtain ⟨r_4, hc_3, h⟩ := cap_go h
        refine G_callV (pc := 40) (S := []) [.int r_2, .int v1, .int v2] nosub X  (dg dt_Tape_firstFault 27 rfl) cb_Tape_canFollow cv_Tape_canFollow w_304 (s_Tape_canFollow _ ad _ _ _ _ hc_3) rfl ⟨Nat.le_of_ble_eq_true rfl, Nat.le_of_ble_eq_true rfl⟩ sh_10 rfl (Nat.le_of_ble_eq_true rfl) Rc0 ?_
        refine G_if_ne (pc := 43) 48 X (dg dt_Tape_firstFault 28 rfl) (by decide) h (fun h => ?_) (fun h => ?_)
        · refine G_iload (pc := 48) X (dg dt_Tape_firstFault 31 rfl) rfl ?_
          refine G_bipush (pc := 50) 61 X (dg dt_Tape_firstFault 32 rfl) (by decide) ?_
          refine jn_go (fun j106_5 => ∀ (v1_6 : Int32) (v2_7 : Int32) (σ_8 : St), j106_5 v1_6 v2_7 σ_8 = some (rv, σe) → G θ (0, 0) (g_SH, ad) σ_8 106 [some (.ref (ad 10)), some (.int v1_6), some (.int v2_7), some (.int v3), none] []) h ?_ (fun j106_5 hj106_5 h => ?_)
          · intro v1_6 v2_7 σ_8 h
            refine G_iinc (pc := 106) (v3 + 1) X (dg dt_Tape_firstFault 61 rfl) rfl (Nat.le_of_ble_eq_true rfl) rfl rfl ?_
            refine G_goto (pc := 109) 13 X (dg dt_Tape_firstFault 62 rfl) (by decide) ?_
            exact G_wk (ih v1_6 v2_7 (v3 + 1) σ_8 h) ⟨rfl, ⟨rfl, ⟨rfl, ⟨rfl, trivial⟩⟩⟩⟩
          refine G_icmp_ne (pc := 52) 68 X (dg dt_Tape_firstFault 33 rfl) (by decide) h (fun h => ?_) (fun h => ?_)
          · refine G_iload (pc := 68) X (dg dt_Tape_firstFault 41 rfl) rfl ?_
            refine G_bipush (pc := 70) 40 X (dg dt_Tape_firstFault 42 rfl) (by decide) ?_
            refine G_icmp_ne (pc := 72) 86 X (dg dt_Tape_firstFault 43 rfl) (by decide) h (fun h => ?_) (fun h => ?_)
            · refine G_iload_n (pc := 86) 1 X (dg dt_Tape_firstFault 49 rfl) rfl rfl ?_
              refine G_iload (pc := 87) X (dg dt_Tape_firstFault 50 rfl) rfl ?_
              refine G_bipush (pc := 89) 41 X (dg dt_Tape_firstFault 51 rfl) (by decide) ?_
              refine jn_go (fun j99_9 => ∀ (s_10 : Int32), j99_9 s_10 = some (rv, σe) → G θ (0, 0) (g_SH, ad) σ 99 [some (.ref (ad 10)), none, some (.int v2), some (.int v3), none] [.int s_10, .int v1]) h ?_ (fun j99_9 hj99_9 h => ?_)
              · intro s_10 h
                refine G_isub (pc := 99) X (dg dt_Tape_firstFault 56 rfl) ?_
                refine G_istore_n (pc := 100) 1 X (dg dt_Tape_firstFault 57 rfl) rfl (Nat.le_of_ble_eq_true rfl) rfl ?_
                refine G_aload_n (pc := 101) 0 X (dg dt_Tape_firstFault 58 rfl) rfl rfl ?_
                refine G_iload_n (pc := 102) 1 X (dg dt_Tape_firstFault 59 rfl) rfl rfl ?_
                obtain ⟨r_12, σ_13, hc_11, h⟩ := cal_go h
                refine G_callV (pc := 103) (S := []) [.int (v1 - s_10)] nosub X  (dg dt_Tape_firstFault 60 rfl) cb_Tape_endWord cv_Tape_endWord w_312 (s_Tape_endWord _ ad _ _ hc_11) rfl ⟨Nat.le_of_ble_eq_true rfl, Nat.le_of_ble_eq_true rfl⟩ sh_10 rfl (Nat.le_of_ble_eq_true rfl) Rc0 ?_
                exact G_wk (hj106_5 (v1 - s_10) v2 σ_13 h) ⟨rfl, ⟨rfl, ⟨rfl, ⟨rfl, trivial⟩⟩⟩⟩
              refine G_icmp_ne (pc := 91) 98 X (dg dt_Tape_firstFault 52 rfl) (by decide) h (fun h => ?_) (fun h => ?_)
              · refine G_iconst (pc := 98) 0 X (dg dt_Tape_firstFault 55 rfl) (by decide) ?_
                exact G_wk (hj99_9 0 h) ⟨rfl, ⟨rfl, ⟨rfl, trivial⟩⟩⟩
              · refine G_iconst (pc := 94) 1 X (dg dt_Tape_firstFault 53 rfl) (by decide) ?_
                refine G_goto (pc := 95) 99 X (dg dt_Tape_firstFault 54 rfl) (by decide) ?_
                exact G_wk (hj99_9 1 h) ⟨rfl, ⟨rfl, ⟨rfl, trivial⟩⟩⟩
            · refine G_iinc (pc := 75) (v1 + 1) X (dg dt_Tape_firstFault 44 rfl) rfl (Nat.le_of_ble_eq_true rfl) rfl rfl ?_
              refine G_aload_n (pc := 78) 0 X (dg dt_Tape_firstFault 45 rfl) rfl rfl ?_
              refine G_iload_n (pc := 79) 1 X (dg dt_Tape_firstFault 46 rfl) rfl rfl ?_
              obtain ⟨r_15, σ_16, hc_14, h⟩ := cal_go h
              refine G_callV (pc := 80) (S := []) [.int (v1 + 1)] nosub X  (dg dt_Tape_firstFault 47 rfl) cb_Tape_beginBracket cv_Tape_beginBracket w_308 (s_Tape_beginBracket _ ad _ _ hc_14) rfl ⟨Nat.le_of_ble_eq_true rfl, Nat.le_of_ble_eq_true rfl⟩ sh_10 rfl (Nat.le_of_ble_eq_true rfl) Rc0 ?_
              refine G_goto (pc := 83) 106 X (dg dt_Tape_firstFault 48 rfl) (by decide) ?_
              exact G_wk (hj106_5 (v1 + 1) v2 σ_16 h) ⟨rfl, ⟨rfl, ⟨rfl, ⟨rfl, trivial⟩⟩⟩⟩
          · refine G_iinc (pc := 55) (v2 + 1) X (dg dt_Tape_firstFault 34 rfl) rfl (Nat.le_of_ble_eq_true rfl) rfl rfl ?_
            refine G_aload_n (pc := 58) 0 X (dg dt_Tape_firstFault 35 rfl) rfl rfl ?_
            refine G_getR (pc := 59) 1 X (dg dt_Tape_firstFault 36 rfl) fc_5 w_162 rfl (Nat.le_of_ble_eq_true rfl) sh_10 rfl ?_
            refine G_iconst (pc := 62) 0 X (dg dt_Tape_firstFault 37 rfl) (by decide) ?_
            refine G_iconst (pc := 63) 0 X (dg dt_Tape_firstFault 38 rfl) (by decide) ?_
            refine G_iast (pc := 64) X (dg dt_Tape_firstFault 39 rfl) sh_12 h (fun σ_17 h => ?_)
            refine G_goto (pc := 65) 106 X (dg dt_Tape_firstFault 40 rfl) (by decide) ?_
            exact G_wk (hj106_5 v1 (v2 + 1) σ_17 h) ⟨rfl, ⟨rfl, ⟨rfl, ⟨rfl, trivial⟩⟩⟩⟩
        · exact G_wk (hkx46 v3 σ h) ⟨rfl, trivial⟩
set_option maxRecDepth 100000 in
set_option maxHeartbeats 4000000 in
theorem s_Tape_firstFault (l : Launch) (ad : Nat → Nat) (σ : St)   {rv : Int32} {σe : St} (h : f_Tape_firstFault σ = some (rv, σe)) : Rt l [] yX9_firstFault cX9_firstFault 5 (some .int) 1 24 (g_SH, ad) [.ref (ad 10)] σ (some (.int rv)) σe := by
  refine Rt.intro (L := [some (.ref (ad 10)), none, none, none, none]) (by decide +kernel) (Nat.le_of_ble_eq_true rfl) rfl (fun θ hl X hq => ?_)
  subst hl
  unfold f_Tape_firstFault at h
  refine G_iconst (pc := 0) 0 X (dg dt_Tape_firstFault 0 rfl) (by decide) ?_
  refine G_istore_n (pc := 1) 1 X (dg dt_Tape_firstFault 1 rfl) rfl (Nat.le_of_ble_eq_true rfl) rfl ?_
  refine G_iconst (pc := 2) 0 X (dg dt_Tape_firstFault 2 rfl) (by decide) ?_
  refine G_istore_n (pc := 3) 2 X (dg dt_Tape_firstFault 3 rfl) rfl (Nat.le_of_ble_eq_true rfl) rfl ?_
  refine G_aload_n (pc := 4) 0 X (dg dt_Tape_firstFault 4 rfl) rfl rfl ?_
  refine G_getR (pc := 5) 1 X (dg dt_Tape_firstFault 5 rfl) fc_5 w_162 rfl (Nat.le_of_ble_eq_true rfl) sh_10 rfl ?_
  refine G_iconst (pc := 8) 0 X (dg dt_Tape_firstFault 6 rfl) (by decide) ?_
  refine G_iconst (pc := 9) 0 X (dg dt_Tape_firstFault 7 rfl) (by decide) ?_
  refine G_iast (pc := 10) X (dg dt_Tape_firstFault 8 rfl) sh_12 h (fun σ_1 h => ?_)
  refine G_iconst (pc := 11) 0 X (dg dt_Tape_firstFault 9 rfl) (by decide) ?_
  refine G_istore_n (pc := 12) 3 X (dg dt_Tape_firstFault 10 rfl) rfl (Nat.le_of_ble_eq_true rfl) rfl ?_
  refine G_weak (L' := [some (.ref (ad 10)), some (.int 0), some (.int 0), some (.int 0), none]) ⟨rfl, ⟨rfl, ⟨rfl, ⟨rfl, trivial⟩⟩⟩⟩ ?_
  refine s_Tape_firstFault_L13  X hq  (fun v3_18 σ_19 h => ?_) (fun v1_20 v2_21 σ_22 h => ?_) _ _ _ _ _ h
  · refine G_iload_n (pc := 46) 3 X (dg dt_Tape_firstFault 29 rfl) rfl rfl ?_
    exact G_iret (pc := 47) X hq (dg dt_Tape_firstFault 30 rfl) h
  · refine G_iload_n (pc := 112) 2 X (dg dt_Tape_firstFault 63 rfl) rfl rfl ?_
    refine G_iconst (pc := 113) 1 X (dg dt_Tape_firstFault 64 rfl) (by decide) ?_
    refine jn_go (fun j135_23 => j135_23 = some (rv, σe) → G θ (0, 0) (g_SH, ad) σ_22 135 [some (.ref (ad 10)), none, none, none, none] []) h ?_ (fun j135_23 hj135_23 h => ?_)
    · intro  h
      refine G_aload_n (pc := 135) 0 X (dg dt_Tape_firstFault 76 rfl) rfl rfl ?_
      refine G_getI (pc := 136) 3 X (dg dt_Tape_firstFault 77 rfl) fc_5 w_164 rfl (Nat.le_of_ble_eq_true rfl) sh_10 rfl ?_
      exact G_iret (pc := 139) X hq (dg dt_Tape_firstFault 78 rfl) h
    refine G_icmp_ne (pc := 114) 135 X (dg dt_Tape_firstFault 65 rfl) (by decide) h (fun h => ?_) (fun h => ?_)
    · exact G_wk (hj135_23  h) ⟨rfl, trivial⟩
    · refine G_iload_n (pc := 117) 1 X (dg dt_Tape_firstFault 66 rfl) rfl rfl ?_
      refine G_if_ne (pc := 118) 135 X (dg dt_Tape_firstFault 67 rfl) (by decide) h (fun h => ?_) (fun h => ?_)
      · exact G_wk (hj135_23  h) ⟨rfl, trivial⟩
      · refine G_aload_n (pc := 121) 0 X (dg dt_Tape_firstFault 68 rfl) rfl rfl ?_
        refine G_getR (pc := 122) 1 X (dg dt_Tape_firstFault 69 rfl) fc_5 w_162 rfl (Nat.le_of_ble_eq_true rfl) sh_10 rfl ?_
        refine G_iconst (pc := 125) 0 X (dg dt_Tape_firstFault 70 rfl) (by decide) ?_
        refine G_iald (pc := 126) X (dg dt_Tape_firstFault 71 rfl) sh_12 h (fun r_24 h => ?_)
        refine G_iconst (pc := 127) 1 X (dg dt_Tape_firstFault 72 rfl) (by decide) ?_
        refine G_icmp_ne (pc := 128) 135 X (dg dt_Tape_firstFault 73 rfl) (by decide) h (fun h => ?_) (fun h => ?_)
        · exact G_wk (hj135_23  h) ⟨rfl, trivial⟩
        · refine G_iconst (pc := 131) (-1) X (dg dt_Tape_firstFault 74 rfl) (by decide) ?_
          refine G_goto (pc := 132) 139 X (dg dt_Tape_firstFault 75 rfl) (by decide) ?_
          exact G_iret (pc := 139) X hq (dg dt_Tape_firstFault 78 rfl) h
set_option maxRecDepth 100000 in
set_option maxHeartbeats 4000000 in
theorem s_Tape_hasCharacter_L2 {θ : Th} {ad : Nat → Nat}  {rv : Int32} (X : Cx θ [] cX9_hasCharacter 3 "Quasigrove$Tape" 0 0)
    {v1 : Int32} {σ : St} (hq : Rq θ (g_SH, ad) (some .boolean) (some (.int rv)) σ)  :
    ∀ (n : Nat) (v2 : Int32), f_Tape_hasCharacter_L2 v1 σ n v2 = some rv → G θ (0, 0) (g_SH, ad) σ 2 [some (.ref (ad 10)), some (.int v1), some (.int v2)] [] := by
  intro n
  induction n with
  | zero => intro v2 h; rw [f_Tape_hasCharacter_L2] at h; cases h
  | succ n ih =>
    intro v2 h
    rw [f_Tape_hasCharacter_L2] at h
    refine G_iload_n (pc := 2) 2 X (dg dt_Tape_hasCharacter 2 rfl) rfl rfl ?_
    refine G_aload_n (pc := 3) 0 X (dg dt_Tape_hasCharacter 3 rfl) rfl rfl ?_
    refine G_getI (pc := 4) 3 X (dg dt_Tape_hasCharacter 4 rfl) fc_5 w_164 rfl (Nat.le_of_ble_eq_true rfl) sh_10 rfl ?_
    refine G_icmp_ge (pc := 7) 34 X (dg dt_Tape_hasCharacter 5 rfl) (by decide) h (fun h => ?_) (fun h => ?_)
    · refine G_iconst (pc := 34) 0 X (dg dt_Tape_hasCharacter 19 rfl) (by decide) ?_
      exact G_zretlp (pc := 35) X hq (dg dt_Tape_hasCharacter 20 rfl) rfl h
    · refine G_iload_n (pc := 10) 2 X (dg dt_Tape_hasCharacter 6 rfl) rfl rfl ?_
      refine G_bipush (pc := 11) 40 X (dg dt_Tape_hasCharacter 7 rfl) (by decide) ?_
      refine G_icmp_ge (pc := 13) 34 X (dg dt_Tape_hasCharacter 8 rfl) (by decide) h (fun h => ?_) (fun h => ?_)
      · refine G_iconst (pc := 34) 0 X (dg dt_Tape_hasCharacter 19 rfl) (by decide) ?_
        exact G_zretlp (pc := 35) X hq (dg dt_Tape_hasCharacter 20 rfl) rfl h
      · refine G_aload_n (pc := 16) 0 X (dg dt_Tape_hasCharacter 9 rfl) rfl rfl ?_
        refine G_getR (pc := 17) 0 X (dg dt_Tape_hasCharacter 10 rfl) fc_5 w_161 rfl (Nat.le_of_ble_eq_true rfl) sh_10 rfl ?_
        refine G_iload_n (pc := 20) 2 X (dg dt_Tape_hasCharacter 11 rfl) rfl rfl ?_
        refine G_iald (pc := 21) X (dg dt_Tape_hasCharacter 12 rfl) sh_11 h (fun r_1 h => ?_)
        refine G_iload_n (pc := 22) 1 X (dg dt_Tape_hasCharacter 13 rfl) rfl rfl ?_
        refine G_icmp_ne (pc := 23) 28 X (dg dt_Tape_hasCharacter 14 rfl) (by decide) h (fun h => ?_) (fun h => ?_)
        · refine G_iinc (pc := 28) (v2 + 1) X (dg dt_Tape_hasCharacter 17 rfl) rfl (Nat.le_of_ble_eq_true rfl) rfl rfl ?_
          refine G_goto (pc := 31) 2 X (dg dt_Tape_hasCharacter 18 rfl) (by decide) ?_
          exact G_wk (ih (v2 + 1) h) ⟨rfl, ⟨rfl, ⟨rfl, trivial⟩⟩⟩
        · refine G_iconst (pc := 26) 1 X (dg dt_Tape_hasCharacter 15 rfl) (by decide) ?_
          exact G_zretlp (pc := 27) X hq (dg dt_Tape_hasCharacter 16 rfl) rfl h
set_option maxRecDepth 100000 in
set_option maxHeartbeats 4000000 in
theorem s_Tape_hasCharacter (l : Launch) (ad : Nat → Nat) (σ : St) (v1 : Int32)  {rv : Int32} (h : f_Tape_hasCharacter σ v1 = some rv) : Rt l [] yX9_hasCharacter cX9_hasCharacter 3 (some .boolean) 0 0 (g_SH, ad) [.ref (ad 10), .int v1] σ (some (.int rv)) σ := by
  refine Rt.intro (L := [some (.ref (ad 10)), some (.int v1), none]) (by decide +kernel) (Nat.le_of_ble_eq_true rfl) rfl (fun θ hl X hq => ?_)
  subst hl
  unfold f_Tape_hasCharacter at h
  refine G_iconst (pc := 0) 0 X (dg dt_Tape_hasCharacter 0 rfl) (by decide) ?_
  refine G_istore_n (pc := 1) 2 X (dg dt_Tape_hasCharacter 1 rfl) rfl (Nat.le_of_ble_eq_true rfl) rfl ?_
  refine G_weak (L' := [some (.ref (ad 10)), some (.int v1), some (.int 0)]) ⟨rfl, ⟨rfl, ⟨rfl, trivial⟩⟩⟩ ?_
  refine s_Tape_hasCharacter_L2  X hq   _ _ h
set_option maxRecDepth 100000 in
set_option maxHeartbeats 4000000 in
theorem s_Tape_isLetter (l : Launch) (ad : Nat → Nat) (σ : St) (v0 : Int32)  {rv : Int32} (h : f_Tape_isLetter σ v0 = some rv) : Rt l [] yX9_isLetter cX9_isLetter 1 (some .boolean) 0 0 (g_SH, ad) [.int v0] σ (some (.int rv)) σ := by
  refine Rt.intro (L := [some (.int v0)]) (by decide +kernel) (Nat.le_of_ble_eq_true rfl) rfl (fun θ hl X hq => ?_)
  subst hl
  unfold f_Tape_isLetter at h
  refine G_iload_n (pc := 0) 0 X (dg dt_Tape_isLetter 0 rfl) rfl rfl ?_
  refine G_bipush (pc := 1) 120 X (dg dt_Tape_isLetter 1 rfl) (by decide) ?_
  refine jn_go (fun j16_1 => j16_1 = some rv → G θ (0, 0) (g_SH, ad) σ 16 [none] []) h ?_ (fun j16_1 hj16_1 h => ?_)
  · intro  h
    refine G_iconst (pc := 16) 0 X (dg dt_Tape_isLetter 8 rfl) (by decide) ?_
    exact G_zretlp (pc := 17) X hq (dg dt_Tape_isLetter 9 rfl) rfl h
  refine G_icmp_lt (pc := 3) 16 X (dg dt_Tape_isLetter 2 rfl) (by decide) h (fun h => ?_) (fun h => ?_)
  · exact G_wk (hj16_1  h) trivial
  · refine G_iload_n (pc := 6) 0 X (dg dt_Tape_isLetter 3 rfl) rfl rfl ?_
    refine G_bipush (pc := 7) 122 X (dg dt_Tape_isLetter 4 rfl) (by decide) ?_
    refine G_icmp_gt (pc := 9) 16 X (dg dt_Tape_isLetter 5 rfl) (by decide) h (fun h => ?_) (fun h => ?_)
    · exact G_wk (hj16_1  h) trivial
    · refine G_iconst (pc := 12) 1 X (dg dt_Tape_isLetter 6 rfl) (by decide) ?_
      refine G_goto (pc := 13) 17 X (dg dt_Tape_isLetter 7 rfl) (by decide) ?_
      exact G_zretlp (pc := 17) X hq (dg dt_Tape_isLetter 9 rfl) rfl h
set_option maxRecDepth 100000 in
set_option maxHeartbeats 4000000 in
theorem s_Tape_holds_L6 {θ : Th} {ad : Nat → Nat}  {rv : Int32} {σe : St} (X : Cx θ [] cX9_holds 8 "Quasigrove$Tape" 3 65)
    {v1 : Nat} {v2 : Int32} {v3 : Int32} {v4 : Int32} (hq : Rq θ (g_SH, ad) (some .boolean) (some (.int rv)) σe) (hg_v1 : gok v1) {kx154 : St → Option (Int32 × St)} (hkx154 : ∀ (σ : St), kx154 σ = some (rv, σe) → G θ (0, 0) (g_SH, ad) σ 154 [some (.ref (ad 10)), none, none, none, none, none, none, none] []) :
    ∀ (n : Nat) (v5 : Int32) (v6 : Int32) (σ : St), f_Tape_holds_L6 v1 v2 v3 v4 kx154 n v5 v6 σ = some (rv, σe) → G θ (0, 0) (g_SH, ad) σ 6 [some (.ref (ad 10)), some (.ref (ad v1)), some (.int v2), some (.int v3), some (.int v4), some (.int v5), some (.int v6), none] [] := by
  intro n
  induction n with
  | zero => intro v5 v6 σ h; rw [f_Tape_holds_L6] at h; cases h
  | succ n ih =>
    intro v5 v6 σ h
    rw [f_Tape_holds_L6] at h
    refine G_iload (pc := 6) X (dg dt_Tape_holds 4 rfl) rfl ?_
    refine G_aload_n (pc := 8) 0 X (dg dt_Tape_holds 5 rfl) rfl rfl ?_
    refine G_getI (pc := 9) 3 X (dg dt_Tape_holds 6 rfl) fc_5 w_164 rfl (Nat.le_of_ble_eq_true rfl) sh_10 rfl ?_
    refine G_icmp_ge (pc := 12) 154 X (dg dt_Tape_holds 7 rfl) (by decide) h (fun h => ?_) (fun h => ?_)
    · exact G_wk (hkx154 σ h) ⟨rfl, trivial⟩
    · refine G_iload (pc := 15) X (dg dt_Tape_holds 8 rfl) rfl ?_
      refine G_bipush (pc := 17) 40 X (dg dt_Tape_holds 9 rfl) (by decide) ?_
      refine G_icmp_ge (pc := 19) 154 X (dg dt_Tape_holds 10 rfl) (by decide) h (fun h => ?_) (fun h => ?_)
      · exact G_wk (hkx154 σ h) ⟨rfl, trivial⟩
      · refine G_aload_n (pc := 22) 0 X (dg dt_Tape_holds 11 rfl) rfl rfl ?_
        refine G_getR (pc := 23) 0 X (dg dt_Tape_holds 12 rfl) fc_5 w_161 rfl (Nat.le_of_ble_eq_true rfl) sh_10 rfl ?_
        refine G_iload (pc := 26) X (dg dt_Tape_holds 13 rfl) rfl ?_
        refine G_iald (pc := 28) X (dg dt_Tape_holds 14 rfl) sh_11 h (fun r_1 h => ?_)
        refine G_istore (pc := 29) X (dg dt_Tape_holds 15 rfl) (Nat.le_of_ble_eq_true rfl) rfl ?_
        refine G_iload (pc := 31) X (dg dt_Tape_holds 16 rfl) rfl ?_
        obtain ⟨r_3, hc_2, h⟩ := cap_go h
        refine G_callS (pc := 33) (S := []) [.int r_1] nosub X  (dg dt_Tape_holds 17 rfl) cb_Tape_isLetter w_804 w_803 (s_Tape_isLetter _ ad _ _ hc_2) rfl ⟨Nat.le_of_ble_eq_true rfl, Nat.le_of_ble_eq_true rfl⟩  (Nat.le_of_ble_eq_true rfl) Rc0 ?_
        refine jn_go (fun j148_4 => ∀ (v5_5 : Int32) (σ_6 : St), j148_4 v5_5 σ_6 = some (rv, σe) → G θ (0, 0) (g_SH, ad) σ_6 148 [some (.ref (ad 10)), some (.ref (ad v1)), some (.int v2), some (.int v3), some (.int v4), some (.int v5_5), some (.int v6), none] []) h ?_ (fun j148_4 hj148_4 h => ?_)
        · intro v5_5 σ_6 h
          refine G_iinc (pc := 148) (v6 + 1) X (dg dt_Tape_holds 75 rfl) rfl (Nat.le_of_ble_eq_true rfl) rfl rfl ?_
          refine G_goto (pc := 151) 6 X (dg dt_Tape_holds 76 rfl) (by decide) ?_
          exact G_wk (ih v5_5 (v6 + 1) σ_6 h) ⟨rfl, ⟨rfl, ⟨rfl, ⟨rfl, ⟨rfl, ⟨rfl, ⟨rfl, trivial⟩⟩⟩⟩⟩⟩⟩
        refine jn_go (fun j91_7 => j91_7 = some (rv, σe) → G θ (0, 0) (g_SH, ad) σ 91 [some (.ref (ad 10)), some (.ref (ad v1)), some (.int v2), some (.int v3), some (.int v4), some (.int v5), some (.int v6), some (.int r_1)] []) h ?_ (fun j91_7 hj91_7 h => ?_)
        · intro  h
          refine G_iload (pc := 91) X (dg dt_Tape_holds 43 rfl) rfl ?_
          refine G_bipush (pc := 93) 41 X (dg dt_Tape_holds 44 rfl) (by decide) ?_
          refine G_icmp_ne (pc := 95) 148 X (dg dt_Tape_holds 45 rfl) (by decide) h (fun h => ?_) (fun h => ?_)
          · exact G_wk (hj148_4 v5 σ h) ⟨rfl, ⟨rfl, ⟨rfl, ⟨rfl, ⟨rfl, ⟨rfl, ⟨rfl, trivial⟩⟩⟩⟩⟩⟩⟩
          · refine G_iload (pc := 98) X (dg dt_Tape_holds 46 rfl) rfl ?_
            refine G_iconst (pc := 100) 2 X (dg dt_Tape_holds 47 rfl) (by decide) ?_
            refine G_icmp_lt (pc := 101) 148 X (dg dt_Tape_holds 48 rfl) (by decide) h (fun h => ?_) (fun h => ?_)
            · exact G_wk (hj148_4 v5 σ h) ⟨rfl, ⟨rfl, ⟨rfl, ⟨rfl, ⟨rfl, ⟨rfl, ⟨rfl, trivial⟩⟩⟩⟩⟩⟩⟩
            · refine G_iload (pc := 104) X (dg dt_Tape_holds 49 rfl) rfl ?_
              refine G_aload_n (pc := 106) 0 X (dg dt_Tape_holds 50 rfl) rfl rfl ?_
              refine G_getR (pc := 107) 2 X (dg dt_Tape_holds 51 rfl) fc_5 w_163 rfl (Nat.le_of_ble_eq_true rfl) sh_10 rfl ?_
              refine G_alen (pc := 110) 40 X (dg dt_Tape_holds 52 rfl) sh_13 (by decide) (by decide) ?_
              refine G_icmp_gt (pc := 111) 148 X (dg dt_Tape_holds 53 rfl) (by decide) h (fun h => ?_) (fun h => ?_)
              · exact G_wk (hj148_4 v5 σ h) ⟨rfl, ⟨rfl, ⟨rfl, ⟨rfl, ⟨rfl, ⟨rfl, ⟨rfl, trivial⟩⟩⟩⟩⟩⟩⟩
              · refine G_aload_n (pc := 114) 0 X (dg dt_Tape_holds 54 rfl) rfl rfl ?_
                refine G_getR (pc := 115) 2 X (dg dt_Tape_holds 55 rfl) fc_5 w_163 rfl (Nat.le_of_ble_eq_true rfl) sh_10 rfl ?_
                refine G_iload (pc := 118) X (dg dt_Tape_holds 56 rfl) rfl ?_
                refine G_iconst (pc := 120) 2 X (dg dt_Tape_holds 57 rfl) (by decide) ?_
                refine G_isub (pc := 121) X (dg dt_Tape_holds 58 rfl) ?_
                refine G_aload_n (pc := 122) 1 X (dg dt_Tape_holds 59 rfl) rfl rfl ?_
                refine G_aload_n (pc := 123) 0 X (dg dt_Tape_holds 60 rfl) rfl rfl ?_
                refine G_getR (pc := 124) 2 X (dg dt_Tape_holds 61 rfl) fc_5 w_163 rfl (Nat.le_of_ble_eq_true rfl) sh_10 rfl ?_
                refine G_iload (pc := 127) X (dg dt_Tape_holds 62 rfl) rfl ?_
                refine G_iconst (pc := 129) 2 X (dg dt_Tape_holds 63 rfl) (by decide) ?_
                refine G_isub (pc := 130) X (dg dt_Tape_holds 64 rfl) ?_
                refine G_iald (pc := 131) X (dg dt_Tape_holds 65 rfl) sh_13 h (fun r_8 h => ?_)
                refine G_aload_n (pc := 132) 0 X (dg dt_Tape_holds 66 rfl) rfl rfl ?_
                refine G_getR (pc := 133) 2 X (dg dt_Tape_holds 67 rfl) fc_5 w_163 rfl (Nat.le_of_ble_eq_true rfl) sh_10 rfl ?_
                refine G_iload (pc := 136) X (dg dt_Tape_holds 68 rfl) rfl ?_
                refine G_iconst (pc := 138) 1 X (dg dt_Tape_holds 69 rfl) (by decide) ?_
                refine G_isub (pc := 139) X (dg dt_Tape_holds 70 rfl) ?_
                refine G_iald (pc := 140) X (dg dt_Tape_holds 71 rfl) sh_13 h (fun r_9 h => ?_)
                obtain ⟨r_11, hc_10, h⟩ := cap_go h
                refine G_callV (pc := 141) (S := [.int (v5 - 2), .ref (ad 13)]) [.int r_8, .int r_9] nosub X  (dg dt_Tape_holds 72 rfl) cb_Grid_signAt cv_Grid_signAt w_829 (s_Grid_signAt _ ad _ _ _ _ hg_v1 hc_10) rfl ⟨Nat.le_of_ble_eq_true rfl, Nat.le_of_ble_eq_true rfl⟩ (sh_g hg_v1) rfl (Nat.le_of_ble_eq_true rfl) Rc0 ?_
                refine G_iast (pc := 144) X (dg dt_Tape_holds 73 rfl) sh_13 h (fun σ_12 h => ?_)
                refine G_iinc (pc := 145) (v5 + (-1)) X (dg dt_Tape_holds 74 rfl) rfl (Nat.le_of_ble_eq_true rfl) rfl rfl ?_
                exact G_wk (hj148_4 (v5 + (-1)) σ_12 h) ⟨rfl, ⟨rfl, ⟨rfl, ⟨rfl, ⟨rfl, ⟨rfl, ⟨rfl, trivial⟩⟩⟩⟩⟩⟩⟩
        refine G_if_eq (pc := 36) 91 X (dg dt_Tape_holds 18 rfl) (by decide) h (fun h => ?_) (fun h => ?_)
        · exact G_wk (hj91_7  h) ⟨rfl, ⟨rfl, ⟨rfl, ⟨rfl, ⟨rfl, ⟨rfl, ⟨rfl, ⟨rfl, trivial⟩⟩⟩⟩⟩⟩⟩⟩
        · refine G_iload (pc := 39) X (dg dt_Tape_holds 19 rfl) rfl ?_
          refine G_if_lt (pc := 41) 91 X (dg dt_Tape_holds 20 rfl) (by decide) h (fun h => ?_) (fun h => ?_)
          · exact G_wk (hj91_7  h) ⟨rfl, ⟨rfl, ⟨rfl, ⟨rfl, ⟨rfl, ⟨rfl, ⟨rfl, ⟨rfl, trivial⟩⟩⟩⟩⟩⟩⟩⟩
          · refine G_iload (pc := 44) X (dg dt_Tape_holds 21 rfl) rfl ?_
            refine G_aload_n (pc := 46) 0 X (dg dt_Tape_holds 22 rfl) rfl rfl ?_
            refine G_getR (pc := 47) 2 X (dg dt_Tape_holds 23 rfl) fc_5 w_163 rfl (Nat.le_of_ble_eq_true rfl) sh_10 rfl ?_
            refine G_alen (pc := 50) 40 X (dg dt_Tape_holds 24 rfl) sh_13 (by decide) (by decide) ?_
            refine G_icmp_ge (pc := 51) 91 X (dg dt_Tape_holds 25 rfl) (by decide) h (fun h => ?_) (fun h => ?_)
            · exact G_wk (hj91_7  h) ⟨rfl, ⟨rfl, ⟨rfl, ⟨rfl, ⟨rfl, ⟨rfl, ⟨rfl, ⟨rfl, trivial⟩⟩⟩⟩⟩⟩⟩⟩
            · refine G_aload_n (pc := 54) 0 X (dg dt_Tape_holds 26 rfl) rfl rfl ?_
              refine G_getR (pc := 55) 2 X (dg dt_Tape_holds 27 rfl) fc_5 w_163 rfl (Nat.le_of_ble_eq_true rfl) sh_10 rfl ?_
              refine G_iload (pc := 58) X (dg dt_Tape_holds 28 rfl) rfl ?_
              refine G_iload (pc := 60) X (dg dt_Tape_holds 29 rfl) rfl ?_
              refine G_bipush (pc := 62) 120 X (dg dt_Tape_holds 30 rfl) (by decide) ?_
              refine jn_go (fun j84_13 => ∀ (s_14 : Int32), j84_13 s_14 = some (rv, σe) → G θ (0, 0) (g_SH, ad) σ 84 [some (.ref (ad 10)), some (.ref (ad v1)), some (.int v2), some (.int v3), some (.int v4), some (.int v5), some (.int v6), none] [.int s_14, .int v5, .ref (ad 13)]) h ?_ (fun j84_13 hj84_13 h => ?_)
              · intro s_14 h
                refine G_iast (pc := 84) X (dg dt_Tape_holds 40 rfl) sh_13 h (fun σ_15 h => ?_)
                refine G_iinc (pc := 85) (v5 + 1) X (dg dt_Tape_holds 41 rfl) rfl (Nat.le_of_ble_eq_true rfl) rfl rfl ?_
                refine G_goto (pc := 88) 148 X (dg dt_Tape_holds 42 rfl) (by decide) ?_
                exact G_wk (hj148_4 (v5 + 1) σ_15 h) ⟨rfl, ⟨rfl, ⟨rfl, ⟨rfl, ⟨rfl, ⟨rfl, ⟨rfl, trivial⟩⟩⟩⟩⟩⟩⟩
              refine G_icmp_ne (pc := 64) 71 X (dg dt_Tape_holds 31 rfl) (by decide) h (fun h => ?_) (fun h => ?_)
              · refine G_iload (pc := 71) X (dg dt_Tape_holds 34 rfl) rfl ?_
                refine G_bipush (pc := 73) 121 X (dg dt_Tape_holds 35 rfl) (by decide) ?_
                refine G_icmp_ne (pc := 75) 82 X (dg dt_Tape_holds 36 rfl) (by decide) h (fun h => ?_) (fun h => ?_)
                · refine G_iload (pc := 82) X (dg dt_Tape_holds 39 rfl) rfl ?_
                  exact G_wk (hj84_13 v4 h) ⟨rfl, ⟨rfl, ⟨rfl, ⟨rfl, ⟨rfl, ⟨rfl, ⟨rfl, trivial⟩⟩⟩⟩⟩⟩⟩
                · refine G_iload_n (pc := 78) 3 X (dg dt_Tape_holds 37 rfl) rfl rfl ?_
                  refine G_goto (pc := 79) 84 X (dg dt_Tape_holds 38 rfl) (by decide) ?_
                  exact G_wk (hj84_13 v3 h) ⟨rfl, ⟨rfl, ⟨rfl, ⟨rfl, ⟨rfl, ⟨rfl, ⟨rfl, trivial⟩⟩⟩⟩⟩⟩⟩
              · refine G_iload_n (pc := 67) 2 X (dg dt_Tape_holds 32 rfl) rfl rfl ?_
                refine G_goto (pc := 68) 84 X (dg dt_Tape_holds 33 rfl) (by decide) ?_
                exact G_wk (hj84_13 v2 h) ⟨rfl, ⟨rfl, ⟨rfl, ⟨rfl, ⟨rfl, ⟨rfl, ⟨rfl, trivial⟩⟩⟩⟩⟩⟩⟩
set_option maxRecDepth 100000 in
set_option maxHeartbeats 4000000 in
theorem s_Tape_holds (l : Launch) (ad : Nat → Nat) (σ : St) (v1 : Nat) (v2 : Int32) (v3 : Int32) (v4 : Int32) (hg_v1 : gok v1) {rv : Int32} {σe : St} (h : f_Tape_holds σ v1 v2 v3 v4 = some (rv, σe)) : Rt l [] yX9_holds cX9_holds 8 (some .boolean) 3 65 (g_SH, ad) [.ref (ad 10), .ref (ad v1), .int v2, .int v3, .int v4] σ (some (.int rv)) σe := by
  refine Rt.intro (L := [some (.ref (ad 10)), some (.ref (ad v1)), some (.int v2), some (.int v3), some (.int v4), none, none, none]) (by decide +kernel) (Nat.le_of_ble_eq_true rfl) rfl (fun θ hl X hq => ?_)
  subst hl
  unfold f_Tape_holds at h
  refine G_iconst (pc := 0) 0 X (dg dt_Tape_holds 0 rfl) (by decide) ?_
  refine G_istore (pc := 1) X (dg dt_Tape_holds 1 rfl) (Nat.le_of_ble_eq_true rfl) rfl ?_
  refine G_iconst (pc := 3) 0 X (dg dt_Tape_holds 2 rfl) (by decide) ?_
  refine G_istore (pc := 4) X (dg dt_Tape_holds 3 rfl) (Nat.le_of_ble_eq_true rfl) rfl ?_
  refine G_weak (L' := [some (.ref (ad 10)), some (.ref (ad v1)), some (.int v2), some (.int v3), some (.int v4), some (.int 0), some (.int 0), none]) ⟨rfl, ⟨rfl, ⟨rfl, ⟨rfl, ⟨rfl, ⟨rfl, ⟨rfl, trivial⟩⟩⟩⟩⟩⟩⟩ ?_
  refine s_Tape_holds_L6  X hq hg_v1 (fun σ_16 h => ?_) _ _ _ _ h
  refine G_aload_n (pc := 154) 0 X (dg dt_Tape_holds 77 rfl) rfl rfl ?_
  refine G_getR (pc := 155) 2 X (dg dt_Tape_holds 78 rfl) fc_5 w_163 rfl (Nat.le_of_ble_eq_true rfl) sh_10 rfl ?_
  refine G_iconst (pc := 158) 0 X (dg dt_Tape_holds 79 rfl) (by decide) ?_
  refine G_iald (pc := 159) X (dg dt_Tape_holds 80 rfl) sh_13 h (fun r_17 h => ?_)
  refine G_aload_n (pc := 160) 0 X (dg dt_Tape_holds 81 rfl) rfl rfl ?_
  refine G_getR (pc := 161) 2 X (dg dt_Tape_holds 82 rfl) fc_5 w_163 rfl (Nat.le_of_ble_eq_true rfl) sh_10 rfl ?_
  refine G_iconst (pc := 164) 1 X (dg dt_Tape_holds 83 rfl) (by decide) ?_
  refine G_iald (pc := 165) X (dg dt_Tape_holds 84 rfl) sh_13 h (fun r_18 h => ?_)
  refine G_icmp_ne (pc := 166) 173 X (dg dt_Tape_holds 85 rfl) (by decide) h (fun h => ?_) (fun h => ?_)
  · refine G_iconst (pc := 173) 0 X (dg dt_Tape_holds 88 rfl) (by decide) ?_
    exact G_zretl (pc := 174) X hq (dg dt_Tape_holds 89 rfl) rfl h
  · refine G_iconst (pc := 169) 1 X (dg dt_Tape_holds 86 rfl) (by decide) ?_
    refine G_goto (pc := 170) 174 X (dg dt_Tape_holds 87 rfl) (by decide) ?_
    exact G_zretl (pc := 174) X hq (dg dt_Tape_holds 89 rfl) rfl h
set_option maxRecDepth 100000 in
set_option maxHeartbeats 4000000 in
theorem s_Tape_firstBreak_L75 {θ : Th} {ad : Nat → Nat}  {rv : Int32} {σe : St} (X : Cx θ [] cX9_firstBreak 9 "Quasigrove$Tape" 4 92)
    {v1 : Nat} {v2 : Int32} {v3 : Int32} {v4 : Int32} {v5 : Int32} {v6 : Int32} {v7 : Int32} (hq : Rq θ (g_SH, ad) (some .int) (some (.int rv)) σe) (hg_v1 : gok v1) {kx95 : Int32 → St → Option (Int32 × St)} (hkx95 : ∀ (v8 : Int32) (σ : St), kx95 v8 σ = some (rv, σe) → G θ (0, 0) (g_SH, ad) σ 95 [none, none, some (.int v2), none, none, none, some (.int v6), some (.int v7), some (.int v8)] []) {kx116 : St → Option (Int32 × St)} (hkx116 : ∀ (σ : St), kx116 σ = some (rv, σe) → G θ (0, 0) (g_SH, ad) σ 116 [some (.ref (ad 10)), some (.ref (ad v1)), some (.int v2), some (.int v3), some (.int v4), some (.int v5), some (.int v6), some (.int v7), none] []) :
    ∀ (n : Nat) (v8 : Int32) (σ : St), f_Tape_firstBreak_L75 v1 v2 v3 v4 v5 v6 v7 kx95 kx116 n v8 σ = some (rv, σe) → G θ (0, 0) (g_SH, ad) σ 75 [some (.ref (ad 10)), some (.ref (ad v1)), some (.int v2), some (.int v3), some (.int v4), some (.int v5), some (.int v6), some (.int v7), some (.int v8)] [] := by
  intro n
  induction n with
  | zero => intro v8 σ h; rw [f_Tape_firstBreak_L75] at h; cases h
  | succ n ih =>
    intro v8 σ h
    rw [f_Tape_firstBreak_L75] at h
    refine G_iload (pc := 75) X (dg dt_Tape_firstBreak 39 rfl) rfl ?_
    refine G_iload_n (pc := 77) 3 X (dg dt_Tape_firstBreak 40 rfl) rfl rfl ?_
    refine G_icmp_ge (pc := 78) 116 X (dg dt_Tape_firstBreak 41 rfl) (by decide) h (fun h => ?_) (fun h => ?_)
    · exact G_wk (hkx116 σ h) ⟨rfl, ⟨rfl, ⟨rfl, ⟨rfl, ⟨rfl, ⟨rfl, ⟨rfl, ⟨rfl, trivial⟩⟩⟩⟩⟩⟩⟩⟩
    · refine G_aload_n (pc := 81) 0 X (dg dt_Tape_firstBreak 42 rfl) rfl rfl ?_
      refine G_aload_n (pc := 82) 1 X (dg dt_Tape_firstBreak 43 rfl) rfl rfl ?_
      refine G_iload (pc := 83) X (dg dt_Tape_firstBreak 44 rfl) rfl ?_
      refine G_iload (pc := 85) X (dg dt_Tape_firstBreak 45 rfl) rfl ?_
      refine G_iload (pc := 87) X (dg dt_Tape_firstBreak 46 rfl) rfl ?_
      obtain ⟨r_14, σ_15, hc_13, h⟩ := cal_go h
      refine G_callV (pc := 89) (S := []) [.ref (ad v1), .int v8, .int v7, .int v6] nosub X  (dg dt_Tape_firstBreak 47 rfl) cb_Tape_holds cv_Tape_holds w_825 (s_Tape_holds _ ad _ _ _ _ _ hg_v1 hc_13) rfl ⟨Nat.le_of_ble_eq_true rfl, Nat.le_of_ble_eq_true rfl⟩ sh_10 rfl (Nat.le_of_ble_eq_true rfl) Rc0 ?_
      refine G_if_ne (pc := 92) 110 X (dg dt_Tape_firstBreak 48 rfl) (by decide) h (fun h => ?_) (fun h => ?_)
      · refine G_iinc (pc := 110) (v8 + 1) X (dg dt_Tape_firstBreak 61 rfl) rfl (Nat.le_of_ble_eq_true rfl) rfl rfl ?_
        refine G_goto (pc := 113) 75 X (dg dt_Tape_firstBreak 62 rfl) (by decide) ?_
        exact G_wk (ih (v8 + 1) σ_15 h) ⟨rfl, ⟨rfl, ⟨rfl, ⟨rfl, ⟨rfl, ⟨rfl, ⟨rfl, ⟨rfl, ⟨rfl, trivial⟩⟩⟩⟩⟩⟩⟩⟩⟩
      · exact G_wk (hkx95 v8 σ_15 h) ⟨rfl, ⟨rfl, ⟨rfl, ⟨rfl, trivial⟩⟩⟩⟩
set_option maxRecDepth 100000 in
set_option maxHeartbeats 4000000 in
theorem s_Tape_firstBreak_L65 {θ : Th} {ad : Nat → Nat}  {rv : Int32} {σe : St} (X : Cx θ [] cX9_firstBreak 9 "Quasigrove$Tape" 4 92)
    {v1 : Nat} {v2 : Int32} {v3 : Int32} {v4 : Int32} {v5 : Int32} {v6 : Int32} (hq : Rq θ (g_SH, ad) (some .int) (some (.int rv)) σe) (hg_v1 : gok v1) {kx95 : Int32 → Int32 → St → Option (Int32 × St)} (hkx95 : ∀ (v7 : Int32) (v8 : Int32) (σ : St), kx95 v7 v8 σ = some (rv, σe) → G θ (0, 0) (g_SH, ad) σ 95 [none, none, some (.int v2), none, none, none, some (.int v6), some (.int v7), some (.int v8)] []) {kx122 : St → Option (Int32 × St)} (hkx122 : ∀ (σ : St), kx122 σ = some (rv, σe) → G θ (0, 0) (g_SH, ad) σ 122 [some (.ref (ad 10)), some (.ref (ad v1)), some (.int v2), some (.int v3), some (.int v4), some (.int v5), some (.int v6), none, none] []) :
    ∀ (n : Nat) (v7 : Int32) (σ : St), f_Tape_firstBreak_L65 v1 v2 v3 v4 v5 v6 kx95 kx122 n v7 σ = some (rv, σe) → G θ (0, 0) (g_SH, ad) σ 65 [some (.ref (ad 10)), some (.ref (ad v1)), some (.int v2), some (.int v3), some (.int v4), some (.int v5), some (.int v6), some (.int v7), none] [] := by
  intro n
  induction n with
  | zero => intro v7 σ h; rw [f_Tape_firstBreak_L65] at h; cases h
  | succ n ih =>
    intro v7 σ h
    rw [f_Tape_firstBreak_L65] at h
    refine G_iload (pc := 65) X (dg dt_Tape_firstBreak 34 rfl) rfl ?_
    refine G_iload (pc := 67) X (dg dt_Tape_firstBreak 35 rfl) rfl ?_
    refine G_icmp_ge (pc := 69) 122 X (dg dt_Tape_firstBreak 36 rfl) (by decide) h (fun h => ?_) (fun h => ?_)
    · exact G_wk (hkx122 σ h) ⟨rfl, ⟨rfl, ⟨rfl, ⟨rfl, ⟨rfl, ⟨rfl, ⟨rfl, trivial⟩⟩⟩⟩⟩⟩⟩
    · refine G_iconst (pc := 72) 0 X (dg dt_Tape_firstBreak 37 rfl) (by decide) ?_
      refine G_istore (pc := 73) X (dg dt_Tape_firstBreak 38 rfl) (Nat.le_of_ble_eq_true rfl) rfl ?_
      refine G_weak (L' := [some (.ref (ad 10)), some (.ref (ad v1)), some (.int v2), some (.int v3), some (.int v4), some (.int v5), some (.int v6), some (.int v7), some (.int 0)]) ⟨rfl, ⟨rfl, ⟨rfl, ⟨rfl, ⟨rfl, ⟨rfl, ⟨rfl, ⟨rfl, ⟨rfl, trivial⟩⟩⟩⟩⟩⟩⟩⟩⟩ ?_
      refine s_Tape_firstBreak_L75  X hq hg_v1 (fun v8_16 σ_17 h => ?_) (fun σ_18 h => ?_) _ _ _ h
      · exact G_wk (hkx95 v7 v8_16 σ_17 h) ⟨rfl, ⟨rfl, ⟨rfl, ⟨rfl, trivial⟩⟩⟩⟩
      · refine G_iinc (pc := 116) (v7 + 1) X (dg dt_Tape_firstBreak 63 rfl) rfl (Nat.le_of_ble_eq_true rfl) rfl rfl ?_
        refine G_goto (pc := 119) 65 X (dg dt_Tape_firstBreak 64 rfl) (by decide) ?_
        exact G_wk (ih (v7 + 1) σ_18 h) ⟨rfl, ⟨rfl, ⟨rfl, ⟨rfl, ⟨rfl, ⟨rfl, ⟨rfl, ⟨rfl, trivial⟩⟩⟩⟩⟩⟩⟩⟩
set_option maxRecDepth 100000 in
set_option maxHeartbeats 4000000 in
theorem s_Tape_firstBreak_L55 {θ : Th} {ad : Nat → Nat}  {rv : Int32} {σe : St} (X : Cx θ [] cX9_firstBreak 9 "Quasigrove$Tape" 4 92)
    {v1 : Nat} {v2 : Int32} {v3 : Int32} {v4 : Int32} {v5 : Int32} (hq : Rq θ (g_SH, ad) (some .int) (some (.int rv)) σe) (hg_v1 : gok v1) {kx95 : Int32 → Int32 → Int32 → St → Option (Int32 × St)} (hkx95 : ∀ (v6 : Int32) (v7 : Int32) (v8 : Int32) (σ : St), kx95 v6 v7 v8 σ = some (rv, σe) → G θ (0, 0) (g_SH, ad) σ 95 [none, none, some (.int v2), none, none, none, some (.int v6), some (.int v7), some (.int v8)] []) :
    ∀ (n : Nat) (v6 : Int32) (σ : St), f_Tape_firstBreak_L55 v1 v2 v3 v4 v5 kx95 n v6 σ = some (rv, σe) → G θ (0, 0) (g_SH, ad) σ 55 [some (.ref (ad 10)), some (.ref (ad v1)), some (.int v2), some (.int v3), some (.int v4), some (.int v5), some (.int v6), none, none] [] := by
  intro n
  induction n with
  | zero => intro v6 σ h; rw [f_Tape_firstBreak_L55] at h; cases h
  | succ n ih =>
    intro v6 σ h
    rw [f_Tape_firstBreak_L55] at h
    refine G_iload (pc := 55) X (dg dt_Tape_firstBreak 29 rfl) rfl ?_
    refine G_iload (pc := 57) X (dg dt_Tape_firstBreak 30 rfl) rfl ?_
    refine G_icmp_ge (pc := 59) 128 X (dg dt_Tape_firstBreak 31 rfl) (by decide) h (fun h => ?_) (fun h => ?_)
    · refine G_iconst (pc := 128) (-1) X (dg dt_Tape_firstBreak 67 rfl) (by decide) ?_
      exact G_iret (pc := 129) X hq (dg dt_Tape_firstBreak 68 rfl) h
    · refine G_iconst (pc := 62) 0 X (dg dt_Tape_firstBreak 32 rfl) (by decide) ?_
      refine G_istore (pc := 63) X (dg dt_Tape_firstBreak 33 rfl) (Nat.le_of_ble_eq_true rfl) rfl ?_
      refine G_weak (L' := [some (.ref (ad 10)), some (.ref (ad v1)), some (.int v2), some (.int v3), some (.int v4), some (.int v5), some (.int v6), some (.int 0), none]) ⟨rfl, ⟨rfl, ⟨rfl, ⟨rfl, ⟨rfl, ⟨rfl, ⟨rfl, ⟨rfl, trivial⟩⟩⟩⟩⟩⟩⟩⟩ ?_
      refine s_Tape_firstBreak_L65  X hq hg_v1 (fun v7_19 v8_20 σ_21 h => ?_) (fun σ_22 h => ?_) _ _ _ h
      · exact G_wk (hkx95 v6 v7_19 v8_20 σ_21 h) ⟨rfl, ⟨rfl, ⟨rfl, ⟨rfl, trivial⟩⟩⟩⟩
      · refine G_iinc (pc := 122) (v6 + 1) X (dg dt_Tape_firstBreak 65 rfl) rfl (Nat.le_of_ble_eq_true rfl) rfl rfl ?_
        refine G_goto (pc := 125) 55 X (dg dt_Tape_firstBreak 66 rfl) (by decide) ?_
        exact G_wk (ih (v6 + 1) σ_22 h) ⟨rfl, ⟨rfl, ⟨rfl, ⟨rfl, ⟨rfl, ⟨rfl, ⟨rfl, trivial⟩⟩⟩⟩⟩⟩⟩
set_option maxRecDepth 100000 in
set_option maxHeartbeats 4000000 in
theorem s_Tape_firstBreak (l : Launch) (ad : Nat → Nat) (σ : St) (v1 : Nat) (hg_v1 : gok v1) {rv : Int32} {σe : St} (h : f_Tape_firstBreak σ v1 = some (rv, σe)) : Rt l [] yX9_firstBreak cX9_firstBreak 9 (some .int) 4 92 (g_SH, ad) [.ref (ad 10), .ref (ad v1)] σ (some (.int rv)) σe := by
  refine Rt.intro (L := [some (.ref (ad 10)), some (.ref (ad v1)), none, none, none, none, none, none, none]) (by decide +kernel) (Nat.le_of_ble_eq_true rfl) rfl (fun θ hl X hq => ?_)
  subst hl
  unfold f_Tape_firstBreak at h
  refine G_aload_n (pc := 0) 1 X (dg dt_Tape_firstBreak 0 rfl) rfl rfl ?_
  refine G_getIN (pc := 1) 3 X (dg dt_Tape_firstBreak 1 rfl) fc_0 w_120 rfl (Nat.le_of_ble_eq_true rfl) (sh_g hg_v1) rfl ?_
  refine G_istore_n (pc := 4) 2 X (dg dt_Tape_firstBreak 2 rfl) rfl (Nat.le_of_ble_eq_true rfl) rfl ?_
  refine G_aload_n (pc := 5) 0 X (dg dt_Tape_firstBreak 3 rfl) rfl rfl ?_
  refine G_bipush (pc := 6) 120 X (dg dt_Tape_firstBreak 4 rfl) (by decide) ?_
  obtain ⟨r_2, hc_1, h⟩ := cap_go h
  refine G_callV (pc := 8) (S := []) [.int 120] nosub X  (dg dt_Tape_firstBreak 5 rfl) cb_Tape_hasCharacter cv_Tape_hasCharacter w_821 (s_Tape_hasCharacter _ ad _ _ hc_1) rfl ⟨Nat.le_of_ble_eq_true rfl, Nat.le_of_ble_eq_true rfl⟩ sh_10 rfl (Nat.le_of_ble_eq_true rfl) Rc0 ?_
  refine jn_go (fun j19_3 => ∀ (s_4 : Int32), j19_3 s_4 = some (rv, σe) → G θ (0, 0) (g_SH, ad) σ 19 [some (.ref (ad 10)), some (.ref (ad v1)), some (.int (σ v1 3)), none, none, none, none, none, none] [.int s_4]) h ?_ (fun j19_3 hj19_3 h => ?_)
  · intro s_4 h
    refine G_istore_n (pc := 19) 3 X (dg dt_Tape_firstBreak 10 rfl) rfl (Nat.le_of_ble_eq_true rfl) rfl ?_
    refine G_aload_n (pc := 20) 0 X (dg dt_Tape_firstBreak 11 rfl) rfl rfl ?_
    refine G_bipush (pc := 21) 121 X (dg dt_Tape_firstBreak 12 rfl) (by decide) ?_
    obtain ⟨r_6, hc_5, h⟩ := cap_go h
    refine G_callV (pc := 23) (S := []) [.int 121] nosub X  (dg dt_Tape_firstBreak 13 rfl) cb_Tape_hasCharacter cv_Tape_hasCharacter w_821 (s_Tape_hasCharacter _ ad _ _ hc_5) rfl ⟨Nat.le_of_ble_eq_true rfl, Nat.le_of_ble_eq_true rfl⟩ sh_10 rfl (Nat.le_of_ble_eq_true rfl) Rc0 ?_
    refine jn_go (fun j34_7 => ∀ (s_8 : Int32), j34_7 s_8 = some (rv, σe) → G θ (0, 0) (g_SH, ad) σ 34 [some (.ref (ad 10)), some (.ref (ad v1)), some (.int (σ v1 3)), some (.int s_4), none, none, none, none, none] [.int s_8]) h ?_ (fun j34_7 hj34_7 h => ?_)
    · intro s_8 h
      refine G_istore (pc := 34) X (dg dt_Tape_firstBreak 18 rfl) (Nat.le_of_ble_eq_true rfl) rfl ?_
      refine G_aload_n (pc := 36) 0 X (dg dt_Tape_firstBreak 19 rfl) rfl rfl ?_
      refine G_bipush (pc := 37) 122 X (dg dt_Tape_firstBreak 20 rfl) (by decide) ?_
      obtain ⟨r_10, hc_9, h⟩ := cap_go h
      refine G_callV (pc := 39) (S := []) [.int 122] nosub X  (dg dt_Tape_firstBreak 21 rfl) cb_Tape_hasCharacter cv_Tape_hasCharacter w_821 (s_Tape_hasCharacter _ ad _ _ hc_9) rfl ⟨Nat.le_of_ble_eq_true rfl, Nat.le_of_ble_eq_true rfl⟩ sh_10 rfl (Nat.le_of_ble_eq_true rfl) Rc0 ?_
      refine jn_go (fun j50_11 => ∀ (s_12 : Int32), j50_11 s_12 = some (rv, σe) → G θ (0, 0) (g_SH, ad) σ 50 [some (.ref (ad 10)), some (.ref (ad v1)), some (.int (σ v1 3)), some (.int s_4), some (.int s_8), none, none, none, none] [.int s_12]) h ?_ (fun j50_11 hj50_11 h => ?_)
      · intro s_12 h
        refine G_istore (pc := 50) X (dg dt_Tape_firstBreak 26 rfl) (Nat.le_of_ble_eq_true rfl) rfl ?_
        refine G_iconst (pc := 52) 0 X (dg dt_Tape_firstBreak 27 rfl) (by decide) ?_
        refine G_istore (pc := 53) X (dg dt_Tape_firstBreak 28 rfl) (Nat.le_of_ble_eq_true rfl) rfl ?_
        refine G_weak (L' := [some (.ref (ad 10)), some (.ref (ad v1)), some (.int (σ v1 3)), some (.int s_4), some (.int s_8), some (.int s_12), some (.int 0), none, none]) ⟨rfl, ⟨rfl, ⟨rfl, ⟨rfl, ⟨rfl, ⟨rfl, ⟨rfl, trivial⟩⟩⟩⟩⟩⟩⟩ ?_
        refine s_Tape_firstBreak_L55  X hq hg_v1 (fun v6_23 v7_24 v8_25 σ_26 h => ?_) _ _ _ h
        refine G_iload (pc := 95) X (dg dt_Tape_firstBreak 49 rfl) rfl ?_
        refine G_iload_n (pc := 97) 2 X (dg dt_Tape_firstBreak 50 rfl) rfl rfl ?_
        refine G_iload (pc := 98) X (dg dt_Tape_firstBreak 51 rfl) rfl ?_
        refine G_imul (pc := 100) X (dg dt_Tape_firstBreak 52 rfl) ?_
        refine G_iadd (pc := 101) X (dg dt_Tape_firstBreak 53 rfl) ?_
        refine G_iload_n (pc := 102) 2 X (dg dt_Tape_firstBreak 54 rfl) rfl rfl ?_
        refine G_iload_n (pc := 103) 2 X (dg dt_Tape_firstBreak 55 rfl) rfl rfl ?_
        refine G_imul (pc := 104) X (dg dt_Tape_firstBreak 56 rfl) ?_
        refine G_iload (pc := 105) X (dg dt_Tape_firstBreak 57 rfl) rfl ?_
        refine G_imul (pc := 107) X (dg dt_Tape_firstBreak 58 rfl) ?_
        refine G_iadd (pc := 108) X (dg dt_Tape_firstBreak 59 rfl) ?_
        exact G_iret (pc := 109) X hq (dg dt_Tape_firstBreak 60 rfl) h
      refine G_if_eq (pc := 42) 49 X (dg dt_Tape_firstBreak 22 rfl) (by decide) h (fun h => ?_) (fun h => ?_)
      · refine G_iconst (pc := 49) 1 X (dg dt_Tape_firstBreak 25 rfl) (by decide) ?_
        exact G_wk (hj50_11 1 h) ⟨rfl, ⟨rfl, ⟨rfl, ⟨rfl, ⟨rfl, trivial⟩⟩⟩⟩⟩
      · refine G_iload_n (pc := 45) 2 X (dg dt_Tape_firstBreak 23 rfl) rfl rfl ?_
        refine G_goto (pc := 46) 50 X (dg dt_Tape_firstBreak 24 rfl) (by decide) ?_
        exact G_wk (hj50_11 (σ v1 3) h) ⟨rfl, ⟨rfl, ⟨rfl, ⟨rfl, ⟨rfl, trivial⟩⟩⟩⟩⟩
    refine G_if_eq (pc := 26) 33 X (dg dt_Tape_firstBreak 14 rfl) (by decide) h (fun h => ?_) (fun h => ?_)
    · refine G_iconst (pc := 33) 1 X (dg dt_Tape_firstBreak 17 rfl) (by decide) ?_
      exact G_wk (hj34_7 1 h) ⟨rfl, ⟨rfl, ⟨rfl, ⟨rfl, trivial⟩⟩⟩⟩
    · refine G_iload_n (pc := 29) 2 X (dg dt_Tape_firstBreak 15 rfl) rfl rfl ?_
      refine G_goto (pc := 30) 34 X (dg dt_Tape_firstBreak 16 rfl) (by decide) ?_
      exact G_wk (hj34_7 (σ v1 3) h) ⟨rfl, ⟨rfl, ⟨rfl, ⟨rfl, trivial⟩⟩⟩⟩
  refine G_if_eq (pc := 11) 18 X (dg dt_Tape_firstBreak 6 rfl) (by decide) h (fun h => ?_) (fun h => ?_)
  · refine G_iconst (pc := 18) 1 X (dg dt_Tape_firstBreak 9 rfl) (by decide) ?_
    exact G_wk (hj19_3 1 h) ⟨rfl, ⟨rfl, ⟨rfl, trivial⟩⟩⟩
  · refine G_iload_n (pc := 14) 2 X (dg dt_Tape_firstBreak 7 rfl) rfl rfl ?_
    refine G_goto (pc := 15) 19 X (dg dt_Tape_firstBreak 8 rfl) (by decide) ?_
    exact G_wk (hj19_3 (σ v1 3) h) ⟨rfl, ⟨rfl, ⟨rfl, trivial⟩⟩⟩
set_option maxRecDepth 100000 in
set_option maxHeartbeats 4000000 in
theorem s_Tape_isCharacter (l : Launch) (ad : Nat → Nat) (σ : St) (v0 : Int32)  {rv : Int32} (h : f_Tape_isCharacter σ v0 = some rv) : Rt l [] yX9_isCharacter cX9_isCharacter 1 (some .boolean) 1 20 (g_SH, ad) [.int v0] σ (some (.int rv)) σ := by
  refine Rt.intro (L := [some (.int v0)]) (by decide +kernel) (Nat.le_of_ble_eq_true rfl) rfl (fun θ hl X hq => ?_)
  subst hl
  unfold f_Tape_isCharacter at h
  refine G_iload_n (pc := 0) 0 X (dg dt_Tape_isCharacter 0 rfl) rfl rfl ?_
  obtain ⟨r_2, hc_1, h⟩ := cap_go h
  refine G_callS (pc := 1) (S := []) [.int v0] nosub X  (dg dt_Tape_isCharacter 1 rfl) cb_Tape_isLetter w_804 w_803 (s_Tape_isLetter _ ad _ _ hc_1) rfl ⟨Nat.le_of_ble_eq_true rfl, Nat.le_of_ble_eq_true rfl⟩  (Nat.le_of_ble_eq_true rfl) Rc0 ?_
  refine jn_go (fun j25_3 => j25_3 = some rv → G θ (0, 0) (g_SH, ad) σ 25 [none] []) h ?_ (fun j25_3 hj25_3 h => ?_)
  · intro  h
    refine G_iconst (pc := 25) 1 X (dg dt_Tape_isCharacter 12 rfl) (by decide) ?_
    refine G_goto (pc := 26) 30 X (dg dt_Tape_isCharacter 13 rfl) (by decide) ?_
    exact G_zretlp (pc := 30) X hq (dg dt_Tape_isCharacter 15 rfl) rfl h
  refine G_if_ne (pc := 4) 25 X (dg dt_Tape_isCharacter 2 rfl) (by decide) h (fun h => ?_) (fun h => ?_)
  · exact G_wk (hj25_3  h) trivial
  · refine G_iload_n (pc := 7) 0 X (dg dt_Tape_isCharacter 3 rfl) rfl rfl ?_
    refine G_bipush (pc := 8) 40 X (dg dt_Tape_isCharacter 4 rfl) (by decide) ?_
    refine G_icmp_eq (pc := 10) 25 X (dg dt_Tape_isCharacter 5 rfl) (by decide) h (fun h => ?_) (fun h => ?_)
    · exact G_wk (hj25_3  h) trivial
    · refine G_iload_n (pc := 13) 0 X (dg dt_Tape_isCharacter 6 rfl) rfl rfl ?_
      refine G_bipush (pc := 14) 41 X (dg dt_Tape_isCharacter 7 rfl) (by decide) ?_
      refine G_icmp_eq (pc := 16) 25 X (dg dt_Tape_isCharacter 8 rfl) (by decide) h (fun h => ?_) (fun h => ?_)
      · exact G_wk (hj25_3  h) trivial
      · refine G_iload_n (pc := 19) 0 X (dg dt_Tape_isCharacter 9 rfl) rfl rfl ?_
        refine G_bipush (pc := 20) 61 X (dg dt_Tape_isCharacter 10 rfl) (by decide) ?_
        refine G_icmp_ne (pc := 22) 29 X (dg dt_Tape_isCharacter 11 rfl) (by decide) h (fun h => ?_) (fun h => ?_)
        · refine G_iconst (pc := 29) 0 X (dg dt_Tape_isCharacter 14 rfl) (by decide) ?_
          exact G_zretlp (pc := 30) X hq (dg dt_Tape_isCharacter 15 rfl) rfl h
        · exact G_wk (hj25_3  h) trivial
set_option maxRecDepth 100000 in
set_option maxHeartbeats 4000000 in
theorem s_Tape_append (l : Launch) (ad : Nat → Nat) (σ : St) (v1 : Int32)  {rv : Unit} {σe : St} (h : f_Tape_append σ v1 = some (rv, σe)) : Rt l [] yX9_append cX9_append 2 none 0 0 (g_SH, ad) [.ref (ad 10), .int v1] σ none σe := by
  refine Rt.intro (L := [some (.ref (ad 10)), some (.int v1)]) (by decide +kernel) (Nat.le_of_ble_eq_true rfl) rfl (fun θ hl X hq => ?_)
  subst hl
  unfold f_Tape_append at h
  refine G_aload_n (pc := 0) 0 X (dg dt_Tape_append 0 rfl) rfl rfl ?_
  refine G_getI (pc := 1) 3 X (dg dt_Tape_append 1 rfl) fc_5 w_164 rfl (Nat.le_of_ble_eq_true rfl) sh_10 rfl ?_
  refine G_if_lt (pc := 4) 36 X (dg dt_Tape_append 2 rfl) (by decide) h (fun h => ?_) (fun h => ?_)
  · exact G_vret (pc := 36) X hq (dg dt_Tape_append 19 rfl) h
  · refine G_aload_n (pc := 7) 0 X (dg dt_Tape_append 3 rfl) rfl rfl ?_
    refine G_getI (pc := 8) 3 X (dg dt_Tape_append 4 rfl) fc_5 w_164 rfl (Nat.le_of_ble_eq_true rfl) sh_10 rfl ?_
    refine G_bipush (pc := 11) 40 X (dg dt_Tape_append 5 rfl) (by decide) ?_
    refine G_icmp_ge (pc := 13) 36 X (dg dt_Tape_append 6 rfl) (by decide) h (fun h => ?_) (fun h => ?_)
    · exact G_vret (pc := 36) X hq (dg dt_Tape_append 19 rfl) h
    · refine G_aload_n (pc := 16) 0 X (dg dt_Tape_append 7 rfl) rfl rfl ?_
      refine G_getR (pc := 17) 0 X (dg dt_Tape_append 8 rfl) fc_5 w_161 rfl (Nat.le_of_ble_eq_true rfl) sh_10 rfl ?_
      refine G_aload_n (pc := 20) 0 X (dg dt_Tape_append 9 rfl) rfl rfl ?_
      refine G_getI (pc := 21) 3 X (dg dt_Tape_append 10 rfl) fc_5 w_164 rfl (Nat.le_of_ble_eq_true rfl) sh_10 rfl ?_
      refine G_iload_n (pc := 24) 1 X (dg dt_Tape_append 11 rfl) rfl rfl ?_
      refine G_iast (pc := 25) X (dg dt_Tape_append 12 rfl) sh_11 h (fun σ_1 h => ?_)
      refine G_aload_n (pc := 26) 0 X (dg dt_Tape_append 13 rfl) rfl rfl ?_
      refine G_dup (pc := 27) X (dg dt_Tape_append 14 rfl) rfl ?_
      refine G_getI (pc := 28) 3 X (dg dt_Tape_append 15 rfl) fc_5 w_164 rfl (Nat.le_of_ble_eq_true rfl) sh_10 rfl ?_
      refine G_iconst (pc := 31) 1 X (dg dt_Tape_append 16 rfl) (by decide) ?_
      refine G_iadd (pc := 32) X (dg dt_Tape_append 17 rfl) ?_
      refine G_put (pc := 33) 3 X (dg dt_Tape_append 18 rfl) fc_5 w_164 rfl (Nat.le_of_ble_eq_true rfl) rfl rfl sh_10 rfl h (fun σ_2 h => ?_)
      exact G_vret (pc := 36) X hq (dg dt_Tape_append 19 rfl) h
set_option maxRecDepth 100000 in
set_option maxHeartbeats 4000000 in
theorem s_Maps_numberOfCode_L5 {θ : Th} {ad : Nat → Nat}  {rv : Int32} {σe : St} (X : Cx θ [] cX4_numberOfCode 5 "Quasigrove$Maps" 1 26)
    {v2 : Int32} (hq : Rq θ (g_SH, ad) (some .int) (some (.int rv)) σe) {kx32 : Int32 → St → Option (Int32 × St)} (hkx32 : ∀ (v3 : Int32) (σ : St), kx32 v3 σ = some (rv, σe) → G θ (0, 0) (g_SH, ad) σ 32 [some (.ref (ad 6)), none, some (.int v2), some (.int v3), none] []) :
    ∀ (n : Nat) (v3 : Int32) (v4 : Int32) (σ : St), f_Maps_numberOfCode_L5 v2 kx32 n v3 v4 σ = some (rv, σe) → G θ (0, 0) (g_SH, ad) σ 5 [some (.ref (ad 6)), none, some (.int v2), some (.int v3), some (.int v4)] [] := by
  intro n
  induction n with
  | zero => intro v3 v4 σ h; rw [f_Maps_numberOfCode_L5] at h; cases h
  | succ n ih =>
    intro v3 v4 σ h
    rw [f_Maps_numberOfCode_L5] at h
    refine G_iload (pc := 5) X (dg dt_Maps_numberOfCode 4 rfl) rfl ?_
    refine G_iload_n (pc := 7) 2 X (dg dt_Maps_numberOfCode 5 rfl) rfl rfl ?_
    refine G_icmp_ge (pc := 8) 32 X (dg dt_Maps_numberOfCode 6 rfl) (by decide) h (fun h => ?_) (fun h => ?_)
    · exact G_wk (hkx32 v3 σ h) ⟨rfl, ⟨rfl, ⟨rfl, trivial⟩⟩⟩
    · refine G_aload_n (pc := 11) 0 X (dg dt_Maps_numberOfCode 7 rfl) rfl rfl ?_
      refine G_iload (pc := 12) X (dg dt_Maps_numberOfCode 8 rfl) rfl ?_
      refine G_iload_n (pc := 14) 3 X (dg dt_Maps_numberOfCode 9 rfl) rfl rfl ?_
      refine G_bipush (pc := 15) 10 X (dg dt_Maps_numberOfCode 10 rfl) (by decide) ?_
      refine G_irem (pc := 17) X (dg dt_Maps_numberOfCode 11 rfl) h (fun q_1 h => ?_)
      obtain ⟨r_3, σ_4, hc_2, h⟩ := cal_go h
      refine G_callV (pc := 18) (S := []) [.int v4, .int q_1] nosub X  (dg dt_Maps_numberOfCode 12 rfl) cb_Maps_write cv_Maps_write w_513 (s_Maps_write _ ad _ _ _ hc_2) rfl ⟨Nat.le_of_ble_eq_true rfl, Nat.le_of_ble_eq_true rfl⟩ sh_6 rfl (Nat.le_of_ble_eq_true rfl) Rc0 ?_
      refine G_iload_n (pc := 21) 3 X (dg dt_Maps_numberOfCode 13 rfl) rfl rfl ?_
      refine G_bipush (pc := 22) 10 X (dg dt_Maps_numberOfCode 14 rfl) (by decide) ?_
      refine G_idiv (pc := 24) X (dg dt_Maps_numberOfCode 15 rfl) h (fun q_5 h => ?_)
      refine G_istore_n (pc := 25) 3 X (dg dt_Maps_numberOfCode 16 rfl) rfl (Nat.le_of_ble_eq_true rfl) rfl ?_
      refine G_iinc (pc := 26) (v4 + 1) X (dg dt_Maps_numberOfCode 17 rfl) rfl (Nat.le_of_ble_eq_true rfl) rfl rfl ?_
      refine G_goto (pc := 29) 5 X (dg dt_Maps_numberOfCode 18 rfl) (by decide) ?_
      exact G_wk (ih q_5 (v4 + 1) σ_4 h) ⟨rfl, ⟨rfl, ⟨rfl, ⟨rfl, trivial⟩⟩⟩⟩
set_option maxRecDepth 100000 in
set_option maxHeartbeats 4000000 in
theorem s_Maps_numberOfCode (l : Launch) (ad : Nat → Nat) (σ : St) (v1 : Int32) (v2 : Int32)  {rv : Int32} {σe : St} (h : f_Maps_numberOfCode σ v1 v2 = some (rv, σe)) : Rt l [] yX4_numberOfCode cX4_numberOfCode 5 (some .int) 1 26 (g_SH, ad) [.ref (ad 6), .int v1, .int v2] σ (some (.int rv)) σe := by
  refine Rt.intro (L := [some (.ref (ad 6)), some (.int v1), some (.int v2), none, none]) (by decide +kernel) (Nat.le_of_ble_eq_true rfl) rfl (fun θ hl X hq => ?_)
  subst hl
  unfold f_Maps_numberOfCode at h
  refine G_iload_n (pc := 0) 1 X (dg dt_Maps_numberOfCode 0 rfl) rfl rfl ?_
  refine G_istore_n (pc := 1) 3 X (dg dt_Maps_numberOfCode 1 rfl) rfl (Nat.le_of_ble_eq_true rfl) rfl ?_
  refine G_iconst (pc := 2) 0 X (dg dt_Maps_numberOfCode 2 rfl) (by decide) ?_
  refine G_istore (pc := 3) X (dg dt_Maps_numberOfCode 3 rfl) (Nat.le_of_ble_eq_true rfl) rfl ?_
  refine G_weak (L' := [some (.ref (ad 6)), none, some (.int v2), some (.int v1), some (.int 0)]) ⟨rfl, ⟨rfl, ⟨rfl, ⟨rfl, trivial⟩⟩⟩⟩ ?_
  refine s_Maps_numberOfCode_L5  X hq  (fun v3_6 σ_7 h => ?_) _ _ _ _ h
  refine G_iload_n (pc := 32) 3 X (dg dt_Maps_numberOfCode 19 rfl) rfl rfl ?_
  refine G_if_ne (pc := 33) 44 X (dg dt_Maps_numberOfCode 20 rfl) (by decide) h (fun h => ?_) (fun h => ?_)
  · refine G_iconst (pc := 44) (-1) X (dg dt_Maps_numberOfCode 25 rfl) (by decide) ?_
    exact G_iret (pc := 45) X hq (dg dt_Maps_numberOfCode 26 rfl) h
  · refine G_aload_n (pc := 36) 0 X (dg dt_Maps_numberOfCode 21 rfl) rfl rfl ?_
    refine G_iload_n (pc := 37) 2 X (dg dt_Maps_numberOfCode 22 rfl) rfl rfl ?_
    obtain ⟨r_9, hc_8, h⟩ := cap_go h
    refine G_callV (pc := 38) (S := []) [.int v2] nosub X  (dg dt_Maps_numberOfCode 23 rfl) cb_Maps_numberOfDraft cv_Maps_numberOfDraft w_517 (s_Maps_numberOfDraft _ ad _ _ hc_8) rfl ⟨Nat.le_of_ble_eq_true rfl, Nat.le_of_ble_eq_true rfl⟩ sh_6 rfl (Nat.le_of_ble_eq_true rfl) Rc0 ?_
    refine G_goto (pc := 41) 45 X (dg dt_Maps_numberOfCode 24 rfl) (by decide) ?_
    exact G_iret (pc := 45) X hq (dg dt_Maps_numberOfCode 26 rfl) h
set_option maxRecDepth 100000 in
set_option maxHeartbeats 4000000 in
theorem s_Maps_arrange_L39 {θ : Th} {ad : Nat → Nat}  {rv : Unit} {σe : St} (X : Cx θ [] cX4_arrange 8 "Quasigrove$Maps" 0 0)
    {v2 : Int32} {v3 : Int32} {v4 : Int32} {v6 : Int32} (hq : Rq θ (g_SH, ad) none none σe) {kx86 : Int32 → St → Option (Unit × St)} (hkx86 : ∀ (v5 : Int32) (σ : St), kx86 v5 σ = some (rv, σe) → G θ (0, 0) (g_SH, ad) σ 86 [some (.ref (ad 6)), none, some (.int v2), some (.int v3), some (.int v4), some (.int v5), none, none] []) :
    ∀ (n : Nat) (v5 : Int32) (v7 : Int32) (σ : St), f_Maps_arrange_L39 v2 v3 v4 v6 kx86 n v5 v7 σ = some (rv, σe) → G θ (0, 0) (g_SH, ad) σ 39 [some (.ref (ad 6)), none, some (.int v2), some (.int v3), some (.int v4), some (.int v5), some (.int v6), some (.int v7)] [] := by
  intro n
  induction n with
  | zero => intro v5 v7 σ h; rw [f_Maps_arrange_L39] at h; cases h
  | succ n ih =>
    intro v5 v7 σ h
    rw [f_Maps_arrange_L39] at h
    refine G_iload (pc := 39) X (dg dt_Maps_arrange 29 rfl) rfl ?_
    refine G_iload (pc := 41) X (dg dt_Maps_arrange 30 rfl) rfl ?_
    refine G_icmp_ge (pc := 43) 86 X (dg dt_Maps_arrange 31 rfl) (by decide) h (fun h => ?_) (fun h => ?_)
    · exact G_wk (hkx86 v5 σ h) ⟨rfl, ⟨rfl, ⟨rfl, ⟨rfl, ⟨rfl, trivial⟩⟩⟩⟩⟩
    · refine G_iload (pc := 46) X (dg dt_Maps_arrange 32 rfl) rfl ?_
      refine G_if_le (pc := 48) 86 X (dg dt_Maps_arrange 33 rfl) (by decide) h (fun h => ?_) (fun h => ?_)
      · exact G_wk (hkx86 v5 σ h) ⟨rfl, ⟨rfl, ⟨rfl, ⟨rfl, ⟨rfl, trivial⟩⟩⟩⟩⟩
      · refine G_iload (pc := 51) X (dg dt_Maps_arrange 34 rfl) rfl ?_
        refine G_aload_n (pc := 53) 0 X (dg dt_Maps_arrange 35 rfl) rfl rfl ?_
        refine G_getR (pc := 54) 0 X (dg dt_Maps_arrange 36 rfl) fc_1 w_145 rfl (Nat.le_of_ble_eq_true rfl) sh_6 rfl ?_
        refine G_alen (pc := 57) 600 X (dg dt_Maps_arrange 37 rfl) sh_7 (by decide) (by decide) ?_
        refine G_icmp_ge (pc := 58) 86 X (dg dt_Maps_arrange 38 rfl) (by decide) h (fun h => ?_) (fun h => ?_)
        · exact G_wk (hkx86 v5 σ h) ⟨rfl, ⟨rfl, ⟨rfl, ⟨rfl, ⟨rfl, trivial⟩⟩⟩⟩⟩
        · refine G_aload_n (pc := 61) 0 X (dg dt_Maps_arrange 39 rfl) rfl rfl ?_
          refine G_getR (pc := 62) 0 X (dg dt_Maps_arrange 40 rfl) fc_1 w_145 rfl (Nat.le_of_ble_eq_true rfl) sh_6 rfl ?_
          refine G_iload (pc := 65) X (dg dt_Maps_arrange 41 rfl) rfl ?_
          refine G_aload_n (pc := 67) 0 X (dg dt_Maps_arrange 42 rfl) rfl rfl ?_
          refine G_getR (pc := 68) 0 X (dg dt_Maps_arrange 43 rfl) fc_1 w_145 rfl (Nat.le_of_ble_eq_true rfl) sh_6 rfl ?_
          refine G_iload (pc := 71) X (dg dt_Maps_arrange 44 rfl) rfl ?_
          refine G_iconst (pc := 73) 1 X (dg dt_Maps_arrange 45 rfl) (by decide) ?_
          refine G_isub (pc := 74) X (dg dt_Maps_arrange 46 rfl) ?_
          refine G_iald (pc := 75) X (dg dt_Maps_arrange 47 rfl) sh_7 h (fun r_3 h => ?_)
          refine G_iast (pc := 76) X (dg dt_Maps_arrange 48 rfl) sh_7 h (fun σ_4 h => ?_)
          refine G_iinc (pc := 77) (v5 + (-1)) X (dg dt_Maps_arrange 49 rfl) rfl (Nat.le_of_ble_eq_true rfl) rfl rfl ?_
          refine G_iinc (pc := 80) (v7 + 1) X (dg dt_Maps_arrange 50 rfl) rfl (Nat.le_of_ble_eq_true rfl) rfl rfl ?_
          refine G_goto (pc := 83) 39 X (dg dt_Maps_arrange 51 rfl) (by decide) ?_
          exact G_wk (ih (v5 + (-1)) (v7 + 1) σ_4 h) ⟨rfl, ⟨rfl, ⟨rfl, ⟨rfl, ⟨rfl, ⟨rfl, ⟨rfl, trivial⟩⟩⟩⟩⟩⟩⟩
set_option maxRecDepth 100000 in
set_option maxHeartbeats 4000000 in
theorem s_Maps_arrange_L9 {θ : Th} {ad : Nat → Nat}  {rv : Unit} {σe : St} (X : Cx θ [] cX4_arrange 8 "Quasigrove$Maps" 0 0)
    {v2 : Int32} (hq : Rq θ (g_SH, ad) none none σe)  :
    ∀ (n : Nat) (v3 : Int32) (v4 : Int32) (σ : St), f_Maps_arrange_L9 v2 n v3 v4 σ = some (rv, σe) → G θ (0, 0) (g_SH, ad) σ 9 [some (.ref (ad 6)), none, some (.int v2), some (.int v3), some (.int v4), none, none, none] [] := by
  intro n
  induction n with
  | zero => intro v3 v4 σ h; rw [f_Maps_arrange_L9] at h; cases h
  | succ n ih =>
    intro v3 v4 σ h
    rw [f_Maps_arrange_L9] at h
    refine G_iload (pc := 9) X (dg dt_Maps_arrange 8 rfl) rfl ?_
    refine G_iconst (pc := 11) 5 X (dg dt_Maps_arrange 9 rfl) (by decide) ?_
    refine G_icmp_ge (pc := 12) 116 X (dg dt_Maps_arrange 10 rfl) (by decide) h (fun h => ?_) (fun h => ?_)
    · exact G_vret (pc := 116) X hq (dg dt_Maps_arrange 66 rfl) h
    · refine G_iload_n (pc := 15) 2 X (dg dt_Maps_arrange 11 rfl) rfl rfl ?_
      refine G_iload (pc := 16) X (dg dt_Maps_arrange 12 rfl) rfl ?_
      refine G_iadd (pc := 18) X (dg dt_Maps_arrange 13 rfl) ?_
      refine G_istore (pc := 19) X (dg dt_Maps_arrange 14 rfl) (Nat.le_of_ble_eq_true rfl) rfl ?_
      refine G_iload_n (pc := 21) 3 X (dg dt_Maps_arrange 15 rfl) rfl rfl ?_
      refine G_iload (pc := 22) X (dg dt_Maps_arrange 16 rfl) rfl ?_
      refine G_iconst (pc := 24) 1 X (dg dt_Maps_arrange 17 rfl) (by decide) ?_
      refine G_iadd (pc := 25) X (dg dt_Maps_arrange 18 rfl) ?_
      refine G_irem (pc := 26) X (dg dt_Maps_arrange 19 rfl) h (fun q_1 h => ?_)
      refine G_istore (pc := 27) X (dg dt_Maps_arrange 20 rfl) (Nat.le_of_ble_eq_true rfl) rfl ?_
      refine G_iload_n (pc := 29) 3 X (dg dt_Maps_arrange 21 rfl) rfl rfl ?_
      refine G_iload (pc := 30) X (dg dt_Maps_arrange 22 rfl) rfl ?_
      refine G_iconst (pc := 32) 1 X (dg dt_Maps_arrange 23 rfl) (by decide) ?_
      refine G_iadd (pc := 33) X (dg dt_Maps_arrange 24 rfl) ?_
      refine G_idiv (pc := 34) X (dg dt_Maps_arrange 25 rfl) h (fun q_2 h => ?_)
      refine G_istore_n (pc := 35) 3 X (dg dt_Maps_arrange 26 rfl) rfl (Nat.le_of_ble_eq_true rfl) rfl ?_
      refine G_iconst (pc := 36) 0 X (dg dt_Maps_arrange 27 rfl) (by decide) ?_
      refine G_istore (pc := 37) X (dg dt_Maps_arrange 28 rfl) (Nat.le_of_ble_eq_true rfl) rfl ?_
      refine G_weak (L' := [some (.ref (ad 6)), none, some (.int v2), some (.int q_2), some (.int v4), some (.int (v2 + v4)), some (.int q_1), some (.int 0)]) ⟨rfl, ⟨rfl, ⟨rfl, ⟨rfl, ⟨rfl, ⟨rfl, ⟨rfl, trivial⟩⟩⟩⟩⟩⟩⟩ ?_
      refine s_Maps_arrange_L39  X hq  (fun v5_5 σ_6 h => ?_) _ _ _ _ h
      refine G_iload (pc := 86) X (dg dt_Maps_arrange 52 rfl) rfl ?_
      refine jn_go (fun j110_7 => ∀ (σ_8 : St), j110_7 σ_8 = some (rv, σe) → G θ (0, 0) (g_SH, ad) σ_8 110 [some (.ref (ad 6)), none, some (.int v2), some (.int q_2), some (.int v4), none, none, none] []) h ?_ (fun j110_7 hj110_7 h => ?_)
      · intro σ_8 h
        refine G_iinc (pc := 110) (v4 + 1) X (dg dt_Maps_arrange 64 rfl) rfl (Nat.le_of_ble_eq_true rfl) rfl rfl ?_
        refine G_goto (pc := 113) 9 X (dg dt_Maps_arrange 65 rfl) (by decide) ?_
        exact G_wk (ih q_2 (v4 + 1) σ_8 h) ⟨rfl, ⟨rfl, ⟨rfl, ⟨rfl, trivial⟩⟩⟩⟩
      refine G_if_lt (pc := 88) 110 X (dg dt_Maps_arrange 53 rfl) (by decide) h (fun h => ?_) (fun h => ?_)
      · exact G_wk (hj110_7 σ_6 h) ⟨rfl, ⟨rfl, ⟨rfl, ⟨rfl, trivial⟩⟩⟩⟩
      · refine G_iload (pc := 91) X (dg dt_Maps_arrange 54 rfl) rfl ?_
        refine G_aload_n (pc := 93) 0 X (dg dt_Maps_arrange 55 rfl) rfl rfl ?_
        refine G_getR (pc := 94) 0 X (dg dt_Maps_arrange 56 rfl) fc_1 w_145 rfl (Nat.le_of_ble_eq_true rfl) sh_6 rfl ?_
        refine G_alen (pc := 97) 600 X (dg dt_Maps_arrange 57 rfl) sh_7 (by decide) (by decide) ?_
        refine G_icmp_ge (pc := 98) 110 X (dg dt_Maps_arrange 58 rfl) (by decide) h (fun h => ?_) (fun h => ?_)
        · exact G_wk (hj110_7 σ_6 h) ⟨rfl, ⟨rfl, ⟨rfl, ⟨rfl, trivial⟩⟩⟩⟩
        · refine G_aload_n (pc := 101) 0 X (dg dt_Maps_arrange 59 rfl) rfl rfl ?_
          refine G_getR (pc := 102) 0 X (dg dt_Maps_arrange 60 rfl) fc_1 w_145 rfl (Nat.le_of_ble_eq_true rfl) sh_6 rfl ?_
          refine G_iload (pc := 105) X (dg dt_Maps_arrange 61 rfl) rfl ?_
          refine G_iload (pc := 107) X (dg dt_Maps_arrange 62 rfl) rfl ?_
          refine G_iast (pc := 109) X (dg dt_Maps_arrange 63 rfl) sh_7 h (fun σ_9 h => ?_)
          exact G_wk (hj110_7 σ_9 h) ⟨rfl, ⟨rfl, ⟨rfl, ⟨rfl, trivial⟩⟩⟩⟩
set_option maxRecDepth 100000 in
set_option maxHeartbeats 4000000 in
theorem s_Maps_arrange (l : Launch) (ad : Nat → Nat) (σ : St) (v1 : Int32)  {rv : Unit} {σe : St} (h : f_Maps_arrange σ v1 = some (rv, σe)) : Rt l [] yX4_arrange cX4_arrange 8 none 0 0 (g_SH, ad) [.ref (ad 6), .int v1] σ none σe := by
  refine Rt.intro (L := [some (.ref (ad 6)), some (.int v1), none, none, none, none, none, none]) (by decide +kernel) (Nat.le_of_ble_eq_true rfl) rfl (fun θ hl X hq => ?_)
  subst hl
  unfold f_Maps_arrange at h
  refine G_iconst (pc := 0) 5 X (dg dt_Maps_arrange 0 rfl) (by decide) ?_
  refine G_iload_n (pc := 1) 1 X (dg dt_Maps_arrange 1 rfl) rfl rfl ?_
  refine G_imul (pc := 2) X (dg dt_Maps_arrange 2 rfl) ?_
  refine G_istore_n (pc := 3) 2 X (dg dt_Maps_arrange 3 rfl) rfl (Nat.le_of_ble_eq_true rfl) rfl ?_
  refine G_iload_n (pc := 4) 1 X (dg dt_Maps_arrange 4 rfl) rfl rfl ?_
  refine G_istore_n (pc := 5) 3 X (dg dt_Maps_arrange 5 rfl) rfl (Nat.le_of_ble_eq_true rfl) rfl ?_
  refine G_iconst (pc := 6) 0 X (dg dt_Maps_arrange 6 rfl) (by decide) ?_
  refine G_istore (pc := 7) X (dg dt_Maps_arrange 7 rfl) (Nat.le_of_ble_eq_true rfl) rfl ?_
  refine G_weak (L' := [some (.ref (ad 6)), none, some (.int (5 * v1)), some (.int v1), some (.int 0), none, none, none]) ⟨rfl, ⟨rfl, ⟨rfl, ⟨rfl, trivial⟩⟩⟩⟩ ?_
  refine s_Maps_arrange_L9  X hq   _ _ _ _ h
