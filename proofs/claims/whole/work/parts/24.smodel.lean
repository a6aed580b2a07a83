set_option maxRecDepth 100000 in
set_option maxHeartbeats 4000000 in
theorem s_R_between (l : Launch) (ad : Nat → Nat) (σ : St) (v1 : Int32) (v2 : Int32) (v3 : Int32)  {rv : Int32} (h : f_R_between σ v1 v2 v3 = some rv) : Rt l [] yX12_between cX12_between 4 (some .boolean) 0 0 (g_SH, ad) [.ref (ad 82), .int v1, .int v2, .int v3] σ (some (.int rv)) σ := by
  refine Rt.intro (L := [some (.ref (ad 82)), some (.int v1), some (.int v2), some (.int v3)]) (by decide +kernel) (Nat.le_of_ble_eq_true rfl) rfl (fun θ hl X hq => ?_)
  subst hl
  unfold f_R_between at h
  refine G_iload_n (pc := 0) 1 X (dg dt_R_between 0 rfl) rfl rfl ?_
  refine G_iload_n (pc := 1) 2 X (dg dt_R_between 1 rfl) rfl rfl ?_
  refine jn_go (fun j14_1 => j14_1 = some rv → G θ (0, 0) (g_SH, ad) σ 14 [none, none, none, none] []) h ?_ (fun j14_1 hj14_1 h => ?_)
  · intro  h
    refine G_iconst (pc := 14) 0 X (dg dt_R_between 8 rfl) (by decide) ?_
    exact G_zretlp (pc := 15) X hq (dg dt_R_between 9 rfl) rfl h
  refine G_icmp_lt (pc := 2) 14 X (dg dt_R_between 2 rfl) (by decide) h (fun h => ?_) (fun h => ?_)
  · exact G_wk (hj14_1  h) trivial
  · refine G_iload_n (pc := 5) 1 X (dg dt_R_between 3 rfl) rfl rfl ?_
    refine G_iload_n (pc := 6) 3 X (dg dt_R_between 4 rfl) rfl rfl ?_
    refine G_icmp_gt (pc := 7) 14 X (dg dt_R_between 5 rfl) (by decide) h (fun h => ?_) (fun h => ?_)
    · exact G_wk (hj14_1  h) trivial
    · refine G_iconst (pc := 10) 1 X (dg dt_R_between 6 rfl) (by decide) ?_
      refine G_goto (pc := 11) 15 X (dg dt_R_between 7 rfl) (by decide) ?_
      exact G_zretlp (pc := 15) X hq (dg dt_R_between 9 rfl) rfl h
set_option maxRecDepth 100000 in
set_option maxHeartbeats 4000000 in
theorem s_R_isGrid (l : Launch) (ad : Nat → Nat) (σ : St) (v1 : Int32)  {rv : Int32} (h : f_R_isGrid σ v1 = some rv) : Rt l [] yX12_isGrid cX12_isGrid 2 (some .boolean) 1 23 (g_SH, ad) [.ref (ad 82), .int v1] σ (some (.int rv)) σ := by
  refine Rt.intro (L := [some (.ref (ad 82)), some (.int v1)]) (by decide +kernel) (Nat.le_of_ble_eq_true rfl) rfl (fun θ hl X hq => ?_)
  subst hl
  unfold f_R_isGrid at h
  refine G_aload_n (pc := 0) 0 X (dg dt_R_isGrid 0 rfl) rfl rfl ?_
  refine G_iload_n (pc := 1) 1 X (dg dt_R_isGrid 1 rfl) rfl rfl ?_
  refine G_iconst (pc := 2) 0 X (dg dt_R_isGrid 2 rfl) (by decide) ?_
  refine G_aload_n (pc := 3) 0 X (dg dt_R_isGrid 3 rfl) rfl rfl ?_
  refine G_getI (pc := 4) 1 X (dg dt_R_isGrid 4 rfl) fc_8 w_1064 rfl (Nat.le_of_ble_eq_true rfl) sh_82 rfl ?_
  refine G_iconst (pc := 7) 1 X (dg dt_R_isGrid 5 rfl) (by decide) ?_
  refine G_isub (pc := 8) X (dg dt_R_isGrid 6 rfl) ?_
  obtain ⟨r_2, hc_1, h⟩ := cap_go h
  refine G_callV (pc := 9) (S := []) [.int v1, .int 0, .int ((σ 82 1) - 1)] nosub X  (dg dt_R_isGrid 7 rfl) cb_R_between cv_R_between w_1159 (s_R_between _ ad _ _ _ _ hc_1) rfl ⟨Nat.le_of_ble_eq_true rfl, Nat.le_of_ble_eq_true rfl⟩ sh_82 rfl (Nat.le_of_ble_eq_true rfl) Rc0 ?_
  exact G_zretp (pc := 12) X hq (dg dt_R_isGrid 8 rfl) h
set_option maxRecDepth 100000 in
set_option maxHeartbeats 4000000 in
theorem s_R_filled_L4 {θ : Th} {ad : Nat → Nat}  {rv : Int32} (X : Cx θ [] cX12_filled 4 "QuasigroveModel" 0 0)
    {v1 : Int32} {σ : St} (hq : Rq θ (g_SH, ad) (some .int) (some (.int rv)) σ) {kx50 : Int32 → Option Int32} (hkx50 : ∀ (v2 : Int32), kx50 v2 = some rv → G θ (0, 0) (g_SH, ad) σ 50 [none, none, some (.int v2), none] []) :
    ∀ (n : Nat) (v2 : Int32) (v3 : Int32), f_R_filled_L4 v1 σ kx50 n v2 v3 = some rv → G θ (0, 0) (g_SH, ad) σ 4 [some (.ref (ad 82)), some (.int v1), some (.int v2), some (.int v3)] [] := by
  intro n
  induction n with
  | zero => intro v2 v3 h; rw [f_R_filled_L4] at h; cases h
  | succ n ih =>
    intro v2 v3 h
    rw [f_R_filled_L4] at h
    refine G_iload_n (pc := 4) 3 X (dg dt_R_filled 4 rfl) rfl rfl ?_
    refine G_aload_n (pc := 5) 0 X (dg dt_R_filled 5 rfl) rfl rfl ?_
    refine G_getR (pc := 6) 2 X (dg dt_R_filled 6 rfl) fc_8 w_1065 rfl (Nat.le_of_ble_eq_true rfl) sh_82 rfl ?_
    refine G_iload_n (pc := 9) 1 X (dg dt_R_filled 7 rfl) rfl rfl ?_
    refine G_iald (pc := 10) X (dg dt_R_filled 8 rfl) sh_83 h (fun r_1 h => ?_)
    refine G_aload_n (pc := 11) 0 X (dg dt_R_filled 9 rfl) rfl rfl ?_
    refine G_getR (pc := 12) 2 X (dg dt_R_filled 10 rfl) fc_8 w_1065 rfl (Nat.le_of_ble_eq_true rfl) sh_82 rfl ?_
    refine G_iload_n (pc := 15) 1 X (dg dt_R_filled 11 rfl) rfl rfl ?_
    refine G_iald (pc := 16) X (dg dt_R_filled 12 rfl) sh_83 h (fun r_2 h => ?_)
    refine G_imul (pc := 17) X (dg dt_R_filled 13 rfl) ?_
    refine G_icmp_ge (pc := 18) 50 X (dg dt_R_filled 14 rfl) (by decide) h (fun h => ?_) (fun h => ?_)
    · exact G_wk (hkx50 v2 h) ⟨rfl, trivial⟩
    · refine G_iload_n (pc := 21) 2 X (dg dt_R_filled 15 rfl) rfl rfl ?_
      refine G_aload_n (pc := 22) 0 X (dg dt_R_filled 16 rfl) rfl rfl ?_
      refine G_getR (pc := 23) 3 X (dg dt_R_filled 17 rfl) fc_8 w_1066 rfl (Nat.le_of_ble_eq_true rfl) sh_82 rfl ?_
      refine G_bipush (pc := 26) 25 X (dg dt_R_filled 18 rfl) (by decide) ?_
      refine G_iload_n (pc := 28) 1 X (dg dt_R_filled 19 rfl) rfl rfl ?_
      refine G_imul (pc := 29) X (dg dt_R_filled 20 rfl) ?_
      refine G_iload_n (pc := 30) 3 X (dg dt_R_filled 21 rfl) rfl rfl ?_
      refine G_iadd (pc := 31) X (dg dt_R_filled 22 rfl) ?_
      refine G_iald (pc := 32) X (dg dt_R_filled 23 rfl) sh_84 h (fun r_3 h => ?_)
      refine G_iconst (pc := 33) (-1) X (dg dt_R_filled 24 rfl) (by decide) ?_
      refine jn_go (fun j42_4 => ∀ (s_5 : Int32), j42_4 s_5 = some rv → G θ (0, 0) (g_SH, ad) σ 42 [some (.ref (ad 82)), some (.int v1), none, some (.int v3)] [.int s_5, .int v2]) h ?_ (fun j42_4 hj42_4 h => ?_)
      · intro s_5 h
        refine G_iadd (pc := 42) X (dg dt_R_filled 29 rfl) ?_
        refine G_istore_n (pc := 43) 2 X (dg dt_R_filled 30 rfl) rfl (Nat.le_of_ble_eq_true rfl) rfl ?_
        refine G_iinc (pc := 44) (v3 + 1) X (dg dt_R_filled 31 rfl) rfl (Nat.le_of_ble_eq_true rfl) rfl rfl ?_
        refine G_goto (pc := 47) 4 X (dg dt_R_filled 32 rfl) (by decide) ?_
        exact G_wk (ih (v2 + s_5) (v3 + 1) h) ⟨rfl, ⟨rfl, ⟨rfl, ⟨rfl, trivial⟩⟩⟩⟩
      refine G_icmp_ne (pc := 34) 41 X (dg dt_R_filled 25 rfl) (by decide) h (fun h => ?_) (fun h => ?_)
      · refine G_iconst (pc := 41) 1 X (dg dt_R_filled 28 rfl) (by decide) ?_
        exact G_wk (hj42_4 1 h) ⟨rfl, ⟨rfl, ⟨rfl, trivial⟩⟩⟩
      · refine G_iconst (pc := 37) 0 X (dg dt_R_filled 26 rfl) (by decide) ?_
        refine G_goto (pc := 38) 42 X (dg dt_R_filled 27 rfl) (by decide) ?_
        exact G_wk (hj42_4 0 h) ⟨rfl, ⟨rfl, ⟨rfl, trivial⟩⟩⟩
set_option maxRecDepth 100000 in
set_option maxHeartbeats 4000000 in
theorem s_R_filled (l : Launch) (ad : Nat → Nat) (σ : St) (v1 : Int32)  {rv : Int32} (h : f_R_filled σ v1 = some rv) : Rt l [] yX12_filled cX12_filled 4 (some .int) 0 0 (g_SH, ad) [.ref (ad 82), .int v1] σ (some (.int rv)) σ := by
  refine Rt.intro (L := [some (.ref (ad 82)), some (.int v1), none, none]) (by decide +kernel) (Nat.le_of_ble_eq_true rfl) rfl (fun θ hl X hq => ?_)
  subst hl
  unfold f_R_filled at h
  refine G_iconst (pc := 0) 0 X (dg dt_R_filled 0 rfl) (by decide) ?_
  refine G_istore_n (pc := 1) 2 X (dg dt_R_filled 1 rfl) rfl (Nat.le_of_ble_eq_true rfl) rfl ?_
  refine G_iconst (pc := 2) 0 X (dg dt_R_filled 2 rfl) (by decide) ?_
  refine G_istore_n (pc := 3) 3 X (dg dt_R_filled 3 rfl) rfl (Nat.le_of_ble_eq_true rfl) rfl ?_
  refine G_weak (L' := [some (.ref (ad 82)), some (.int v1), some (.int 0), some (.int 0)]) ⟨rfl, ⟨rfl, ⟨rfl, ⟨rfl, trivial⟩⟩⟩⟩ ?_
  refine s_R_filled_L4  X hq  (fun v2_6 h => ?_) _ _ _ h
  refine G_iload_n (pc := 50) 2 X (dg dt_R_filled 33 rfl) rfl rfl ?_
  exact G_iretp (pc := 51) X hq (dg dt_R_filled 34 rfl) h
set_option maxRecDepth 100000 in
set_option maxHeartbeats 4000000 in
theorem s_R_copyToWork_L12 {θ : Th} {ad : Nat → Nat}  {rv : Unit} {σe : St} (X : Cx θ [] cX12_copyToWork 3 "QuasigroveModel" 0 0)
    {v1 : Int32} (hq : Rq θ (g_SH, ad) none none σe)  :
    ∀ (n : Nat) (v2 : Int32) (σ : St), f_R_copyToWork_L12 v1 n v2 σ = some (rv, σe) → G θ (0, 0) (g_SH, ad) σ 12 [some (.ref (ad 82)), some (.int v1), some (.int v2)] [] := by
  intro n
  induction n with
  | zero => intro v2 σ h; rw [f_R_copyToWork_L12] at h; cases h
  | succ n ih =>
    intro v2 σ h
    rw [f_R_copyToWork_L12] at h
    refine G_iload_n (pc := 12) 2 X (dg dt_R_copyToWork 8 rfl) rfl rfl ?_
    refine G_bipush (pc := 13) 25 X (dg dt_R_copyToWork 9 rfl) (by decide) ?_
    refine G_icmp_ge (pc := 15) 41 X (dg dt_R_copyToWork 10 rfl) (by decide) h (fun h => ?_) (fun h => ?_)
    · exact G_vret (pc := 41) X hq (dg dt_R_copyToWork 25 rfl) h
    · refine G_aload_n (pc := 18) 0 X (dg dt_R_copyToWork 11 rfl) rfl rfl ?_
      refine G_getR (pc := 19) 14 X (dg dt_R_copyToWork 12 rfl) fc_8 w_1077 rfl (Nat.le_of_ble_eq_true rfl) sh_82 rfl ?_
      refine G_iload_n (pc := 22) 2 X (dg dt_R_copyToWork 13 rfl) rfl rfl ?_
      refine G_aload_n (pc := 23) 0 X (dg dt_R_copyToWork 14 rfl) rfl rfl ?_
      refine G_getR (pc := 24) 3 X (dg dt_R_copyToWork 15 rfl) fc_8 w_1066 rfl (Nat.le_of_ble_eq_true rfl) sh_82 rfl ?_
      refine G_bipush (pc := 27) 25 X (dg dt_R_copyToWork 16 rfl) (by decide) ?_
      refine G_iload_n (pc := 29) 1 X (dg dt_R_copyToWork 17 rfl) rfl rfl ?_
      refine G_imul (pc := 30) X (dg dt_R_copyToWork 18 rfl) ?_
      refine G_iload_n (pc := 31) 2 X (dg dt_R_copyToWork 19 rfl) rfl rfl ?_
      refine G_iadd (pc := 32) X (dg dt_R_copyToWork 20 rfl) ?_
      refine G_iald (pc := 33) X (dg dt_R_copyToWork 21 rfl) sh_84 h (fun r_3 h => ?_)
      refine G_iast (pc := 34) X (dg dt_R_copyToWork 22 rfl) sh_91 h (fun σ_4 h => ?_)
      refine G_iinc (pc := 35) (v2 + 1) X (dg dt_R_copyToWork 23 rfl) rfl (Nat.le_of_ble_eq_true rfl) rfl rfl ?_
      refine G_goto (pc := 38) 12 X (dg dt_R_copyToWork 24 rfl) (by decide) ?_
      exact G_wk (ih (v2 + 1) σ_4 h) ⟨rfl, ⟨rfl, ⟨rfl, trivial⟩⟩⟩
set_option maxRecDepth 100000 in
set_option maxHeartbeats 4000000 in
theorem s_R_copyToWork (l : Launch) (ad : Nat → Nat) (σ : St) (v1 : Int32)  {rv : Unit} {σe : St} (h : f_R_copyToWork σ v1 = some (rv, σe)) : Rt l [] yX12_copyToWork cX12_copyToWork 3 none 0 0 (g_SH, ad) [.ref (ad 82), .int v1] σ none σe := by
  refine Rt.intro (L := [some (.ref (ad 82)), some (.int v1), none]) (by decide +kernel) (Nat.le_of_ble_eq_true rfl) rfl (fun θ hl X hq => ?_)
  subst hl
  unfold f_R_copyToWork at h
  refine G_aload_n (pc := 0) 0 X (dg dt_R_copyToWork 0 rfl) rfl rfl ?_
  refine G_aload_n (pc := 1) 0 X (dg dt_R_copyToWork 1 rfl) rfl rfl ?_
  refine G_getR (pc := 2) 2 X (dg dt_R_copyToWork 2 rfl) fc_8 w_1065 rfl (Nat.le_of_ble_eq_true rfl) sh_82 rfl ?_
  refine G_iload_n (pc := 5) 1 X (dg dt_R_copyToWork 3 rfl) rfl rfl ?_
  refine G_iald (pc := 6) X (dg dt_R_copyToWork 4 rfl) sh_83 h (fun r_1 h => ?_)
  refine G_put (pc := 7) 13 X (dg dt_R_copyToWork 5 rfl) fc_8 w_1076 rfl (Nat.le_of_ble_eq_true rfl) rfl rfl sh_82 rfl h (fun σ_2 h => ?_)
  refine G_iconst (pc := 10) 0 X (dg dt_R_copyToWork 6 rfl) (by decide) ?_
  refine G_istore_n (pc := 11) 2 X (dg dt_R_copyToWork 7 rfl) rfl (Nat.le_of_ble_eq_true rfl) rfl ?_
  refine G_weak (L' := [some (.ref (ad 82)), some (.int v1), some (.int 0)]) ⟨rfl, ⟨rfl, ⟨rfl, trivial⟩⟩⟩ ?_
  refine s_R_copyToWork_L12  X hq   _ _ _ h
set_option maxRecDepth 100000 in
set_option maxHeartbeats 4000000 in
theorem s_R_layEmpties_L7 {θ : Th} {ad : Nat → Nat}  {rv : Unit} {σe : St} (X : Cx θ [] cX12_layEmpties 2 "QuasigroveModel" 0 0)
     (hq : Rq θ (g_SH, ad) none none σe)  :
    ∀ (n : Nat) (v1 : Int32) (σ : St), f_R_layEmpties_L7 n v1 σ = some (rv, σe) → G θ (0, 0) (g_SH, ad) σ 7 [some (.ref (ad 82)), some (.int v1)] [] := by
  intro n
  induction n with
  | zero => intro v1 σ h; rw [f_R_layEmpties_L7] at h; cases h
  | succ n ih =>
    intro v1 σ h
    rw [f_R_layEmpties_L7] at h
    refine G_iload_n (pc := 7) 1 X (dg dt_R_layEmpties 5 rfl) rfl rfl ?_
    refine G_aload_n (pc := 8) 0 X (dg dt_R_layEmpties 6 rfl) rfl rfl ?_
    refine G_getI (pc := 9) 13 X (dg dt_R_layEmpties 7 rfl) fc_8 w_1076 rfl (Nat.le_of_ble_eq_true rfl) sh_82 rfl ?_
    refine G_aload_n (pc := 12) 0 X (dg dt_R_layEmpties 8 rfl) rfl rfl ?_
    refine G_getI (pc := 13) 13 X (dg dt_R_layEmpties 9 rfl) fc_8 w_1076 rfl (Nat.le_of_ble_eq_true rfl) sh_82 rfl ?_
    refine G_imul (pc := 16) X (dg dt_R_layEmpties 10 rfl) ?_
    refine G_icmp_ge (pc := 17) 56 X (dg dt_R_layEmpties 11 rfl) (by decide) h (fun h => ?_) (fun h => ?_)
    · exact G_vret (pc := 56) X hq (dg dt_R_layEmpties 32 rfl) h
    · refine G_aload_n (pc := 20) 0 X (dg dt_R_layEmpties 12 rfl) rfl rfl ?_
      refine G_getR (pc := 21) 14 X (dg dt_R_layEmpties 13 rfl) fc_8 w_1077 rfl (Nat.le_of_ble_eq_true rfl) sh_82 rfl ?_
      refine G_iload_n (pc := 24) 1 X (dg dt_R_layEmpties 14 rfl) rfl rfl ?_
      refine G_iald (pc := 25) X (dg dt_R_layEmpties 15 rfl) sh_91 h (fun r_2 h => ?_)
      refine G_iconst (pc := 26) (-1) X (dg dt_R_layEmpties 16 rfl) (by decide) ?_
      refine jn_go (fun j50_3 => ∀ (σ_4 : St), j50_3 σ_4 = some (rv, σe) → G θ (0, 0) (g_SH, ad) σ_4 50 [some (.ref (ad 82)), some (.int v1)] []) h ?_ (fun j50_3 hj50_3 h => ?_)
      · intro σ_4 h
        refine G_iinc (pc := 50) (v1 + 1) X (dg dt_R_layEmpties 30 rfl) rfl (Nat.le_of_ble_eq_true rfl) rfl rfl ?_
        refine G_goto (pc := 53) 7 X (dg dt_R_layEmpties 31 rfl) (by decide) ?_
        exact G_wk (ih (v1 + 1) σ_4 h) ⟨rfl, ⟨rfl, trivial⟩⟩
      refine G_icmp_ne (pc := 27) 50 X (dg dt_R_layEmpties 17 rfl) (by decide) h (fun h => ?_) (fun h => ?_)
      · exact G_wk (hj50_3 σ h) ⟨rfl, ⟨rfl, trivial⟩⟩
      · refine G_aload_n (pc := 30) 0 X (dg dt_R_layEmpties 18 rfl) rfl rfl ?_
        refine G_getR (pc := 31) 16 X (dg dt_R_layEmpties 19 rfl) fc_8 w_1079 rfl (Nat.le_of_ble_eq_true rfl) sh_82 rfl ?_
        refine G_aload_n (pc := 34) 0 X (dg dt_R_layEmpties 20 rfl) rfl rfl ?_
        refine G_getI (pc := 35) 15 X (dg dt_R_layEmpties 21 rfl) fc_8 w_1078 rfl (Nat.le_of_ble_eq_true rfl) sh_82 rfl ?_
        refine G_iload_n (pc := 38) 1 X (dg dt_R_layEmpties 22 rfl) rfl rfl ?_
        refine G_iast (pc := 39) X (dg dt_R_layEmpties 23 rfl) sh_92 h (fun σ_5 h => ?_)
        refine G_aload_n (pc := 40) 0 X (dg dt_R_layEmpties 24 rfl) rfl rfl ?_
        refine G_dup (pc := 41) X (dg dt_R_layEmpties 25 rfl) rfl ?_
        refine G_getI (pc := 42) 15 X (dg dt_R_layEmpties 26 rfl) fc_8 w_1078 rfl (Nat.le_of_ble_eq_true rfl) sh_82 rfl ?_
        refine G_iconst (pc := 45) 1 X (dg dt_R_layEmpties 27 rfl) (by decide) ?_
        refine G_iadd (pc := 46) X (dg dt_R_layEmpties 28 rfl) ?_
        refine G_put (pc := 47) 15 X (dg dt_R_layEmpties 29 rfl) fc_8 w_1078 rfl (Nat.le_of_ble_eq_true rfl) rfl rfl sh_82 rfl h (fun σ_6 h => ?_)
        exact G_wk (hj50_3 σ_6 h) ⟨rfl, ⟨rfl, trivial⟩⟩
set_option maxRecDepth 100000 in
set_option maxHeartbeats 4000000 in
theorem s_R_layEmpties (l : Launch) (ad : Nat → Nat) (σ : St)   {rv : Unit} {σe : St} (h : f_R_layEmpties σ = some (rv, σe)) : Rt l [] yX12_layEmpties cX12_layEmpties 2 none 0 0 (g_SH, ad) [.ref (ad 82)] σ none σe := by
  refine Rt.intro (L := [some (.ref (ad 82)), none]) (by decide +kernel) (Nat.le_of_ble_eq_true rfl) rfl (fun θ hl X hq => ?_)
  subst hl
  unfold f_R_layEmpties at h
  refine G_aload_n (pc := 0) 0 X (dg dt_R_layEmpties 0 rfl) rfl rfl ?_
  refine G_iconst (pc := 1) 0 X (dg dt_R_layEmpties 1 rfl) (by decide) ?_
  refine G_put (pc := 2) 15 X (dg dt_R_layEmpties 2 rfl) fc_8 w_1078 rfl (Nat.le_of_ble_eq_true rfl) rfl rfl sh_82 rfl h (fun σ_1 h => ?_)
  refine G_iconst (pc := 5) 0 X (dg dt_R_layEmpties 3 rfl) (by decide) ?_
  refine G_istore_n (pc := 6) 1 X (dg dt_R_layEmpties 4 rfl) rfl (Nat.le_of_ble_eq_true rfl) rfl ?_
  refine G_weak (L' := [some (.ref (ad 82)), some (.int 0)]) ⟨rfl, ⟨rfl, trivial⟩⟩ ?_
  refine s_R_layEmpties_L7  X hq   _ _ _ h
set_option maxRecDepth 100000 in
set_option maxHeartbeats 4000000 in
theorem s_R_layState_L4 {θ : Th} {ad : Nat → Nat}  {rv : Unit} {σe : St} (X : Cx θ [] cX12_layState 4 "QuasigroveModel" 0 0)
     (hq : Rq θ (g_SH, ad) none none σe)  :
    ∀ (n : Nat) (v2 : Int32) (v3 : Int32) (σ : St), f_R_layState_L4 n v2 v3 σ = some (rv, σe) → G θ (0, 0) (g_SH, ad) σ 4 [some (.ref (ad 82)), none, some (.int v2), some (.int v3)] [] := by
  intro n
  induction n with
  | zero => intro v2 v3 σ h; rw [f_R_layState_L4] at h; cases h
  | succ n ih =>
    intro v2 v3 σ h
    rw [f_R_layState_L4] at h
    refine G_iload_n (pc := 4) 3 X (dg dt_R_layState 4 rfl) rfl rfl ?_
    refine G_aload_n (pc := 5) 0 X (dg dt_R_layState 5 rfl) rfl rfl ?_
    refine G_getI (pc := 6) 15 X (dg dt_R_layState 6 rfl) fc_8 w_1078 rfl (Nat.le_of_ble_eq_true rfl) sh_82 rfl ?_
    refine G_icmp_ge (pc := 9) 60 X (dg dt_R_layState 7 rfl) (by decide) h (fun h => ?_) (fun h => ?_)
    · exact G_vret (pc := 60) X hq (dg dt_R_layState 40 rfl) h
    · refine G_aload_n (pc := 12) 0 X (dg dt_R_layState 8 rfl) rfl rfl ?_
      refine G_getR (pc := 13) 28 X (dg dt_R_layState 9 rfl) fc_8 w_1091 rfl (Nat.le_of_ble_eq_true rfl) sh_82 rfl ?_
      refine G_iload_n (pc := 16) 3 X (dg dt_R_layState 10 rfl) rfl rfl ?_
      refine G_iload_n (pc := 17) 2 X (dg dt_R_layState 11 rfl) rfl rfl ?_
      refine G_aload_n (pc := 18) 0 X (dg dt_R_layState 12 rfl) rfl rfl ?_
      refine G_getI (pc := 19) 13 X (dg dt_R_layState 13 rfl) fc_8 w_1076 rfl (Nat.le_of_ble_eq_true rfl) sh_82 rfl ?_
      refine G_iconst (pc := 22) 1 X (dg dt_R_layState 14 rfl) (by decide) ?_
      refine G_iadd (pc := 23) X (dg dt_R_layState 15 rfl) ?_
      refine G_irem (pc := 24) X (dg dt_R_layState 16 rfl) h (fun q_1 h => ?_)
      refine G_iast (pc := 25) X (dg dt_R_layState 17 rfl) sh_102 h (fun σ_2 h => ?_)
      refine G_iload_n (pc := 26) 2 X (dg dt_R_layState 18 rfl) rfl rfl ?_
      refine G_aload_n (pc := 27) 0 X (dg dt_R_layState 19 rfl) rfl rfl ?_
      refine G_getI (pc := 28) 13 X (dg dt_R_layState 20 rfl) fc_8 w_1076 rfl (Nat.le_of_ble_eq_true rfl) sh_82 rfl ?_
      refine G_iconst (pc := 31) 1 X (dg dt_R_layState 21 rfl) (by decide) ?_
      refine G_iadd (pc := 32) X (dg dt_R_layState 22 rfl) ?_
      refine G_idiv (pc := 33) X (dg dt_R_layState 23 rfl) h (fun q_3 h => ?_)
      refine G_istore_n (pc := 34) 2 X (dg dt_R_layState 24 rfl) rfl (Nat.le_of_ble_eq_true rfl) rfl ?_
      refine G_aload_n (pc := 35) 0 X (dg dt_R_layState 25 rfl) rfl rfl ?_
      refine G_getR (pc := 36) 14 X (dg dt_R_layState 26 rfl) fc_8 w_1077 rfl (Nat.le_of_ble_eq_true rfl) sh_82 rfl ?_
      refine G_aload_n (pc := 39) 0 X (dg dt_R_layState 27 rfl) rfl rfl ?_
      refine G_getR (pc := 40) 16 X (dg dt_R_layState 28 rfl) fc_8 w_1079 rfl (Nat.le_of_ble_eq_true rfl) sh_82 rfl ?_
      refine G_iload_n (pc := 43) 3 X (dg dt_R_layState 29 rfl) rfl rfl ?_
      refine G_iald (pc := 44) X (dg dt_R_layState 30 rfl) sh_92 h (fun r_4 h => ?_)
      refine G_aload_n (pc := 45) 0 X (dg dt_R_layState 31 rfl) rfl rfl ?_
      refine G_getR (pc := 46) 28 X (dg dt_R_layState 32 rfl) fc_8 w_1091 rfl (Nat.le_of_ble_eq_true rfl) sh_82 rfl ?_
      refine G_iload_n (pc := 49) 3 X (dg dt_R_layState 33 rfl) rfl rfl ?_
      refine G_iald (pc := 50) X (dg dt_R_layState 34 rfl) sh_102 h (fun r_5 h => ?_)
      refine G_iconst (pc := 51) 1 X (dg dt_R_layState 35 rfl) (by decide) ?_
      refine G_isub (pc := 52) X (dg dt_R_layState 36 rfl) ?_
      refine G_iast (pc := 53) X (dg dt_R_layState 37 rfl) sh_91 h (fun σ_6 h => ?_)
      refine G_iinc (pc := 54) (v3 + 1) X (dg dt_R_layState 38 rfl) rfl (Nat.le_of_ble_eq_true rfl) rfl rfl ?_
      refine G_goto (pc := 57) 4 X (dg dt_R_layState 39 rfl) (by decide) ?_
      exact G_wk (ih q_3 (v3 + 1) σ_6 h) ⟨rfl, ⟨rfl, ⟨rfl, trivial⟩⟩⟩
set_option maxRecDepth 100000 in
set_option maxHeartbeats 4000000 in
theorem s_R_layState (l : Launch) (ad : Nat → Nat) (σ : St) (v1 : Int32)  {rv : Unit} {σe : St} (h : f_R_layState σ v1 = some (rv, σe)) : Rt l [] yX12_layState cX12_layState 4 none 0 0 (g_SH, ad) [.ref (ad 82), .int v1] σ none σe := by
  refine Rt.intro (L := [some (.ref (ad 82)), some (.int v1), none, none]) (by decide +kernel) (Nat.le_of_ble_eq_true rfl) rfl (fun θ hl X hq => ?_)
  subst hl
  unfold f_R_layState at h
  refine G_iload_n (pc := 0) 1 X (dg dt_R_layState 0 rfl) rfl rfl ?_
  refine G_istore_n (pc := 1) 2 X (dg dt_R_layState 1 rfl) rfl (Nat.le_of_ble_eq_true rfl) rfl ?_
  refine G_iconst (pc := 2) 0 X (dg dt_R_layState 2 rfl) (by decide) ?_
  refine G_istore_n (pc := 3) 3 X (dg dt_R_layState 3 rfl) rfl (Nat.le_of_ble_eq_true rfl) rfl ?_
  refine G_weak (L' := [some (.ref (ad 82)), none, some (.int v1), some (.int 0)]) ⟨rfl, ⟨rfl, ⟨rfl, trivial⟩⟩⟩ ?_
  refine s_R_layState_L4  X hq   _ _ _ _ h
set_option maxRecDepth 100000 in
set_option maxHeartbeats 4000000 in
theorem s_R_freeAt_L37 {θ : Th} {ad : Nat → Nat}  {rv : Int32} (X : Cx θ [] cX12_freeAt 8 "QuasigroveModel" 0 0)
    {v3 : Int32} {v4 : Int32} {σ : St} (hq : Rq θ (g_SH, ad) (some .int) (some (.int rv)) σ) {kx123 : Int32 → Option Int32} (hkx123 : ∀ (v2 : Int32), kx123 v2 = some rv → G θ (0, 0) (g_SH, ad) σ 123 [none, none, some (.int v2), none, none, none, none, none] []) :
    ∀ (n : Nat) (v2 : Int32) (v5 : Int32), f_R_freeAt_L37 v3 v4 σ kx123 n v2 v5 = some rv → G θ (0, 0) (g_SH, ad) σ 37 [some (.ref (ad 82)), none, some (.int v2), some (.int v3), some (.int v4), some (.int v5), none, none] [] := by
  intro n
  induction n with
  | zero => intro v2 v5 h; rw [f_R_freeAt_L37] at h; cases h
  | succ n ih =>
    intro v2 v5 h
    rw [f_R_freeAt_L37] at h
    refine G_iload (pc := 37) X (dg dt_R_freeAt 25 rfl) rfl ?_
    refine G_aload_n (pc := 39) 0 X (dg dt_R_freeAt 26 rfl) rfl rfl ?_
    refine G_getI (pc := 40) 13 X (dg dt_R_freeAt 27 rfl) fc_8 w_1076 rfl (Nat.le_of_ble_eq_true rfl) sh_82 rfl ?_
    refine G_icmp_ge (pc := 43) 123 X (dg dt_R_freeAt 28 rfl) (by decide) h (fun h => ?_) (fun h => ?_)
    · exact G_wk (hkx123 v2 h) ⟨rfl, trivial⟩
    · refine G_aload_n (pc := 46) 0 X (dg dt_R_freeAt 29 rfl) rfl rfl ?_
      refine G_getR (pc := 47) 14 X (dg dt_R_freeAt 30 rfl) fc_8 w_1077 rfl (Nat.le_of_ble_eq_true rfl) sh_82 rfl ?_
      refine G_aload_n (pc := 50) 0 X (dg dt_R_freeAt 31 rfl) rfl rfl ?_
      refine G_getI (pc := 51) 13 X (dg dt_R_freeAt 32 rfl) fc_8 w_1076 rfl (Nat.le_of_ble_eq_true rfl) sh_82 rfl ?_
      refine G_iload_n (pc := 54) 3 X (dg dt_R_freeAt 33 rfl) rfl rfl ?_
      refine G_imul (pc := 55) X (dg dt_R_freeAt 34 rfl) ?_
      refine G_iload (pc := 56) X (dg dt_R_freeAt 35 rfl) rfl ?_
      refine G_iadd (pc := 58) X (dg dt_R_freeAt 36 rfl) ?_
      refine G_iald (pc := 59) X (dg dt_R_freeAt 37 rfl) sh_91 h (fun r_6 h => ?_)
      refine G_istore (pc := 60) X (dg dt_R_freeAt 38 rfl) (Nat.le_of_ble_eq_true rfl) rfl ?_
      refine G_aload_n (pc := 62) 0 X (dg dt_R_freeAt 39 rfl) rfl rfl ?_
      refine G_getR (pc := 63) 14 X (dg dt_R_freeAt 40 rfl) fc_8 w_1077 rfl (Nat.le_of_ble_eq_true rfl) sh_82 rfl ?_
      refine G_aload_n (pc := 66) 0 X (dg dt_R_freeAt 41 rfl) rfl rfl ?_
      refine G_getI (pc := 67) 13 X (dg dt_R_freeAt 42 rfl) fc_8 w_1076 rfl (Nat.le_of_ble_eq_true rfl) sh_82 rfl ?_
      refine G_iload (pc := 70) X (dg dt_R_freeAt 43 rfl) rfl ?_
      refine G_imul (pc := 72) X (dg dt_R_freeAt 44 rfl) ?_
      refine G_iload (pc := 73) X (dg dt_R_freeAt 45 rfl) rfl ?_
      refine G_iadd (pc := 75) X (dg dt_R_freeAt 46 rfl) ?_
      refine G_iald (pc := 76) X (dg dt_R_freeAt 47 rfl) sh_91 h (fun r_7 h => ?_)
      refine G_istore (pc := 77) X (dg dt_R_freeAt 48 rfl) (Nat.le_of_ble_eq_true rfl) rfl ?_
      refine G_iload_n (pc := 79) 2 X (dg dt_R_freeAt 49 rfl) rfl rfl ?_
      refine G_iload (pc := 80) X (dg dt_R_freeAt 50 rfl) rfl ?_
      refine G_iconst (pc := 82) (-1) X (dg dt_R_freeAt 51 rfl) (by decide) ?_
      refine jn_go (fun j96_8 => ∀ (s_9 : Int32), j96_8 s_9 = some rv → G θ (0, 0) (g_SH, ad) σ 96 [some (.ref (ad 82)), none, none, some (.int v3), some (.int v4), some (.int v5), none, some (.int r_7)] [.int s_9, .int v2]) h ?_ (fun j96_8 hj96_8 h => ?_)
      · intro s_9 h
        refine G_iand (pc := 96) X (dg dt_R_freeAt 60 rfl) ?_
        refine G_istore_n (pc := 97) 2 X (dg dt_R_freeAt 61 rfl) rfl (Nat.le_of_ble_eq_true rfl) rfl ?_
        refine G_iload_n (pc := 98) 2 X (dg dt_R_freeAt 62 rfl) rfl rfl ?_
        refine G_iload (pc := 99) X (dg dt_R_freeAt 63 rfl) rfl ?_
        refine G_iconst (pc := 101) (-1) X (dg dt_R_freeAt 64 rfl) (by decide) ?_
        refine jn_go (fun j115_10 => ∀ (s_11 : Int32), j115_10 s_11 = some rv → G θ (0, 0) (g_SH, ad) σ 115 [some (.ref (ad 82)), none, none, some (.int v3), some (.int v4), some (.int v5), none, none] [.int s_11, .int (v2 &&& s_9)]) h ?_ (fun j115_10 hj115_10 h => ?_)
        · intro s_11 h
          refine G_iand (pc := 115) X (dg dt_R_freeAt 73 rfl) ?_
          refine G_istore_n_lt (pc := 116) 2 X (dg dt_R_freeAt 74 rfl) rfl (Nat.le_of_ble_eq_true rfl) rfl h (fun v2_12 h => ?_)
          refine G_iinc (pc := 117) (v5 + 1) X (dg dt_R_freeAt 75 rfl) rfl (Nat.le_of_ble_eq_true rfl) rfl rfl ?_
          refine G_goto (pc := 120) 37 X (dg dt_R_freeAt 76 rfl) (by decide) ?_
          exact G_wk (ih v2_12 (v5 + 1) h) ⟨rfl, ⟨rfl, ⟨rfl, ⟨rfl, ⟨rfl, trivial⟩⟩⟩⟩⟩
        refine G_icmp_ne (pc := 102) 109 X (dg dt_R_freeAt 65 rfl) (by decide) h (fun h => ?_) (fun h => ?_)
        · refine G_iconst (pc := 109) 1 X (dg dt_R_freeAt 68 rfl) (by decide) ?_
          refine G_iload (pc := 110) X (dg dt_R_freeAt 69 rfl) rfl ?_
          refine G_ishl (pc := 112) X (dg dt_R_freeAt 70 rfl) ?_
          refine G_iconst (pc := 113) (-1) X (dg dt_R_freeAt 71 rfl) (by decide) ?_
          refine G_ixor (pc := 114) X (dg dt_R_freeAt 72 rfl) ?_
          exact G_wk (hj115_10 ((1 <<< (r_7 &&& 31)) ^^^ (-1)) h) ⟨rfl, ⟨rfl, ⟨rfl, ⟨rfl, trivial⟩⟩⟩⟩
        · refine G_iload_n (pc := 105) 2 X (dg dt_R_freeAt 66 rfl) rfl rfl ?_
          refine G_goto (pc := 106) 115 X (dg dt_R_freeAt 67 rfl) (by decide) ?_
          exact G_wk (hj115_10 (v2 &&& s_9) h) ⟨rfl, ⟨rfl, ⟨rfl, ⟨rfl, trivial⟩⟩⟩⟩
      refine G_icmp_ne (pc := 83) 90 X (dg dt_R_freeAt 52 rfl) (by decide) h (fun h => ?_) (fun h => ?_)
      · refine G_iconst (pc := 90) 1 X (dg dt_R_freeAt 55 rfl) (by decide) ?_
        refine G_iload (pc := 91) X (dg dt_R_freeAt 56 rfl) rfl ?_
        refine G_ishl (pc := 93) X (dg dt_R_freeAt 57 rfl) ?_
        refine G_iconst (pc := 94) (-1) X (dg dt_R_freeAt 58 rfl) (by decide) ?_
        refine G_ixor (pc := 95) X (dg dt_R_freeAt 59 rfl) ?_
        exact G_wk (hj96_8 ((1 <<< (r_6 &&& 31)) ^^^ (-1)) h) ⟨rfl, ⟨rfl, ⟨rfl, ⟨rfl, ⟨rfl, trivial⟩⟩⟩⟩⟩
      · refine G_iload_n (pc := 86) 2 X (dg dt_R_freeAt 53 rfl) rfl rfl ?_
        refine G_goto (pc := 87) 96 X (dg dt_R_freeAt 54 rfl) (by decide) ?_
        exact G_wk (hj96_8 v2 h) ⟨rfl, ⟨rfl, ⟨rfl, ⟨rfl, ⟨rfl, trivial⟩⟩⟩⟩⟩
set_option maxRecDepth 100000 in
set_option maxHeartbeats 4000000 in
theorem s_R_freeAt (l : Launch) (ad : Nat → Nat) (σ : St) (v1 : Int32)  {rv : Int32} (h : f_R_freeAt σ v1 = some rv) : Rt l [] yX12_freeAt cX12_freeAt 8 (some .int) 0 0 (g_SH, ad) [.ref (ad 82), .int v1] σ (some (.int rv)) σ := by
  refine Rt.intro (L := [some (.ref (ad 82)), some (.int v1), none, none, none, none, none, none]) (by decide +kernel) (Nat.le_of_ble_eq_true rfl) rfl (fun θ hl X hq => ?_)
  subst hl
  unfold f_R_freeAt at h
  refine G_iconst (pc := 0) 1 X (dg dt_R_freeAt 0 rfl) (by decide) ?_
  refine G_aload_n (pc := 1) 0 X (dg dt_R_freeAt 1 rfl) rfl rfl ?_
  refine G_getI (pc := 2) 13 X (dg dt_R_freeAt 2 rfl) fc_8 w_1076 rfl (Nat.le_of_ble_eq_true rfl) sh_82 rfl ?_
  refine G_ishl (pc := 5) X (dg dt_R_freeAt 3 rfl) ?_
  refine G_iconst (pc := 6) 1 X (dg dt_R_freeAt 4 rfl) (by decide) ?_
  refine G_isub (pc := 7) X (dg dt_R_freeAt 5 rfl) ?_
  refine G_istore_n_lt (pc := 8) 2 X (dg dt_R_freeAt 6 rfl) rfl (Nat.le_of_ble_eq_true rfl) rfl h (fun v2_1 h => ?_)
  refine G_aload_n (pc := 9) 0 X (dg dt_R_freeAt 7 rfl) rfl rfl ?_
  refine G_getR (pc := 10) 16 X (dg dt_R_freeAt 8 rfl) fc_8 w_1079 rfl (Nat.le_of_ble_eq_true rfl) sh_82 rfl ?_
  refine G_iload_n (pc := 13) 1 X (dg dt_R_freeAt 9 rfl) rfl rfl ?_
  refine G_iald (pc := 14) X (dg dt_R_freeAt 10 rfl) sh_92 h (fun r_2 h => ?_)
  refine G_aload_n (pc := 15) 0 X (dg dt_R_freeAt 11 rfl) rfl rfl ?_
  refine G_getI (pc := 16) 13 X (dg dt_R_freeAt 12 rfl) fc_8 w_1076 rfl (Nat.le_of_ble_eq_true rfl) sh_82 rfl ?_
  refine G_idiv (pc := 19) X (dg dt_R_freeAt 13 rfl) h (fun q_3 h => ?_)
  refine G_istore_n (pc := 20) 3 X (dg dt_R_freeAt 14 rfl) rfl (Nat.le_of_ble_eq_true rfl) rfl ?_
  refine G_aload_n (pc := 21) 0 X (dg dt_R_freeAt 15 rfl) rfl rfl ?_
  refine G_getR (pc := 22) 16 X (dg dt_R_freeAt 16 rfl) fc_8 w_1079 rfl (Nat.le_of_ble_eq_true rfl) sh_82 rfl ?_
  refine G_iload_n (pc := 25) 1 X (dg dt_R_freeAt 17 rfl) rfl rfl ?_
  refine G_iald (pc := 26) X (dg dt_R_freeAt 18 rfl) sh_92 h (fun r_4 h => ?_)
  refine G_aload_n (pc := 27) 0 X (dg dt_R_freeAt 19 rfl) rfl rfl ?_
  refine G_getI (pc := 28) 13 X (dg dt_R_freeAt 20 rfl) fc_8 w_1076 rfl (Nat.le_of_ble_eq_true rfl) sh_82 rfl ?_
  refine G_irem (pc := 31) X (dg dt_R_freeAt 21 rfl) h (fun q_5 h => ?_)
  refine G_istore (pc := 32) X (dg dt_R_freeAt 22 rfl) (Nat.le_of_ble_eq_true rfl) rfl ?_
  refine G_iconst (pc := 34) 0 X (dg dt_R_freeAt 23 rfl) (by decide) ?_
  refine G_istore (pc := 35) X (dg dt_R_freeAt 24 rfl) (Nat.le_of_ble_eq_true rfl) rfl ?_
  refine G_weak (L' := [some (.ref (ad 82)), none, some (.int v2_1), some (.int q_3), some (.int q_5), some (.int 0), none, none]) ⟨rfl, ⟨rfl, ⟨rfl, ⟨rfl, ⟨rfl, trivial⟩⟩⟩⟩⟩ ?_
  refine s_R_freeAt_L37  X hq  (fun v2_13 h => ?_) _ _ _ h
  refine G_iload_n (pc := 123) 2 X (dg dt_R_freeAt 77 rfl) rfl rfl ?_
  exact G_iretp (pc := 124) X hq (dg dt_R_freeAt 78 rfl) h
set_option maxRecDepth 100000 in
set_option maxHeartbeats 4000000 in
theorem s_R_winner_L40 {θ : Th} {ad : Nat → Nat}  {rv : Int32} {σe : St} (X : Cx θ [] cX12_winner 6 "QuasigroveModel" 1 27)
    {v1 : Int32} {v2 : Int32} {v3 : Int32} {v4 : Int32} {σ : St} (hq : Rq θ (g_SH, ad) (some .int) (some (.int rv)) σe) {kx76 : Int32 → Option (Int32 × St)} (hkx76 : ∀ (v5 : Int32), kx76 v5 = some (rv, σe) → G θ (0, 0) (g_SH, ad) σ 76 [some (.ref (ad 82)), none, none, some (.int v3), none, some (.int v5)] []) {kx95 : Option (Int32 × St)} (hkx95 : kx95 = some (rv, σe) → G θ (0, 0) (g_SH, ad) σ 95 [some (.ref (ad 82)), some (.int v1), some (.int v2), some (.int v3), none, none] []) :
    ∀ (n : Nat) (v5 : Int32), f_R_winner_L40 v1 v2 v3 v4 σ kx76 kx95 n v5 = some (rv, σe) → G θ (0, 0) (g_SH, ad) σ 40 [some (.ref (ad 82)), some (.int v1), some (.int v2), some (.int v3), some (.int v4), some (.int v5)] [] := by
  intro n
  induction n with
  | zero => intro v5 h; rw [f_R_winner_L40] at h; cases h
  | succ n ih =>
    intro v5 h
    rw [f_R_winner_L40] at h
    refine G_iload (pc := 40) X (dg dt_R_winner 24 rfl) rfl ?_
    refine G_aload_n (pc := 42) 0 X (dg dt_R_winner 25 rfl) rfl rfl ?_
    refine G_getI (pc := 43) 13 X (dg dt_R_winner 26 rfl) fc_8 w_1076 rfl (Nat.le_of_ble_eq_true rfl) sh_82 rfl ?_
    refine G_icmp_ge (pc := 46) 95 X (dg dt_R_winner 27 rfl) (by decide) h (fun h => ?_) (fun h => ?_)
    · exact G_wk (hkx95  h) ⟨rfl, ⟨rfl, ⟨rfl, ⟨rfl, trivial⟩⟩⟩⟩
    · refine G_iload (pc := 49) X (dg dt_R_winner 28 rfl) rfl ?_
      refine G_iload (pc := 51) X (dg dt_R_winner 29 rfl) rfl ?_
      refine G_ishr (pc := 53) X (dg dt_R_winner 30 rfl) ?_
      refine G_iconst (pc := 54) 1 X (dg dt_R_winner 31 rfl) (by decide) ?_
      refine G_iand (pc := 55) X (dg dt_R_winner 32 rfl) ?_
      refine G_iconst (pc := 56) 1 X (dg dt_R_winner 33 rfl) (by decide) ?_
      refine jn_go (fun j89_7 => j89_7 = some (rv, σe) → G θ (0, 0) (g_SH, ad) σ 89 [some (.ref (ad 82)), some (.int v1), some (.int v2), some (.int v3), some (.int v4), some (.int v5)] []) h ?_ (fun j89_7 hj89_7 h => ?_)
      · intro  h
        refine G_iinc (pc := 89) (v5 + 1) X (dg dt_R_winner 55 rfl) rfl (Nat.le_of_ble_eq_true rfl) rfl rfl ?_
        refine G_goto (pc := 92) 40 X (dg dt_R_winner 56 rfl) (by decide) ?_
        exact G_wk (ih (v5 + 1) h) ⟨rfl, ⟨rfl, ⟨rfl, ⟨rfl, ⟨rfl, ⟨rfl, trivial⟩⟩⟩⟩⟩⟩
      refine G_icmp_ne (pc := 57) 89 X (dg dt_R_winner 34 rfl) (by decide) h (fun h => ?_) (fun h => ?_)
      · exact G_wk (hj89_7  h) ⟨rfl, ⟨rfl, ⟨rfl, ⟨rfl, ⟨rfl, ⟨rfl, trivial⟩⟩⟩⟩⟩⟩
      · refine G_aload_n (pc := 60) 0 X (dg dt_R_winner 35 rfl) rfl rfl ?_
        refine G_getR (pc := 61) 27 X (dg dt_R_winner 36 rfl) fc_8 w_1090 rfl (Nat.le_of_ble_eq_true rfl) sh_82 rfl ?_
        refine G_iload_n (pc := 64) 1 X (dg dt_R_winner 37 rfl) rfl rfl ?_
        refine G_iload (pc := 65) X (dg dt_R_winner 38 rfl) rfl ?_
        refine G_iconst (pc := 67) 1 X (dg dt_R_winner 39 rfl) (by decide) ?_
        refine G_iadd (pc := 68) X (dg dt_R_winner 40 rfl) ?_
        refine G_iload_n (pc := 69) 2 X (dg dt_R_winner 41 rfl) rfl rfl ?_
        refine G_imul (pc := 70) X (dg dt_R_winner 42 rfl) ?_
        refine G_iadd (pc := 71) X (dg dt_R_winner 43 rfl) ?_
        refine G_zald (pc := 72) X (dg dt_R_winner 44 rfl) sh_101 h (fun r_8 h => ?_)
        refine G_if_ne (pc := 73) 89 X (dg dt_R_winner 45 rfl) (by decide) h (fun h => ?_) (fun h => ?_)
        · exact G_wk (hj89_7  h) ⟨rfl, ⟨rfl, ⟨rfl, ⟨rfl, ⟨rfl, ⟨rfl, trivial⟩⟩⟩⟩⟩⟩
        · exact G_wk (hkx76 v5 h) ⟨rfl, ⟨rfl, ⟨rfl, trivial⟩⟩⟩
set_option maxRecDepth 100000 in
set_option maxHeartbeats 4000000 in
theorem s_R_winner_L9 {θ : Th} {ad : Nat → Nat}  {rv : Int32} {σe : St} (X : Cx θ [] cX12_winner 6 "QuasigroveModel" 1 27)
    {v1 : Int32} {σ : St} (hq : Rq θ (g_SH, ad) (some .int) (some (.int rv)) σe) {kx76 : Int32 → Int32 → Option (Int32 × St)} (hkx76 : ∀ (v3 : Int32) (v5 : Int32), kx76 v3 v5 = some (rv, σe) → G θ (0, 0) (g_SH, ad) σ 76 [some (.ref (ad 82)), none, none, some (.int v3), none, some (.int v5)] []) :
    ∀ (n : Nat) (v2 : Int32) (v3 : Int32), f_R_winner_L9 v1 σ kx76 n v2 v3 = some (rv, σe) → G θ (0, 0) (g_SH, ad) σ 9 [some (.ref (ad 82)), some (.int v1), some (.int v2), some (.int v3), none, none] [] := by
  intro n
  induction n with
  | zero => intro v2 v3 h; rw [f_R_winner_L9] at h; cases h
  | succ n ih =>
    intro v2 v3 h
    rw [f_R_winner_L9] at h
    refine G_iload_n (pc := 9) 3 X (dg dt_R_winner 7 rfl) rfl rfl ?_
    refine G_aload_n (pc := 10) 0 X (dg dt_R_winner 8 rfl) rfl rfl ?_
    refine G_getI (pc := 11) 15 X (dg dt_R_winner 9 rfl) fc_8 w_1078 rfl (Nat.le_of_ble_eq_true rfl) sh_82 rfl ?_
    refine G_icmp_ge (pc := 14) 110 X (dg dt_R_winner 10 rfl) (by decide) h (fun h => ?_) (fun h => ?_)
    · refine G_iconst (pc := 110) (-1) X (dg dt_R_winner 66 rfl) (by decide) ?_
      exact G_iret (pc := 111) X hq (dg dt_R_winner 67 rfl) h
    · refine G_aload_n (pc := 17) 0 X (dg dt_R_winner 11 rfl) rfl rfl ?_
      refine G_getR (pc := 18) 28 X (dg dt_R_winner 12 rfl) fc_8 w_1091 rfl (Nat.le_of_ble_eq_true rfl) sh_82 rfl ?_
      refine G_iload_n (pc := 21) 3 X (dg dt_R_winner 13 rfl) rfl rfl ?_
      refine G_iald (pc := 22) X (dg dt_R_winner 14 rfl) sh_102 h (fun r_4 h => ?_)
      refine jn_go (fun j35_5 => ∀ (s_6 : Int32), j35_5 s_6 = some (rv, σe) → G θ (0, 0) (g_SH, ad) σ 35 [some (.ref (ad 82)), some (.int v1), some (.int v2), some (.int v3), none, none] [.int s_6]) h ?_ (fun j35_5 hj35_5 h => ?_)
      · intro s_6 h
        refine G_istore (pc := 35) X (dg dt_R_winner 21 rfl) (Nat.le_of_ble_eq_true rfl) rfl ?_
        refine G_iconst (pc := 37) 0 X (dg dt_R_winner 22 rfl) (by decide) ?_
        refine G_istore (pc := 38) X (dg dt_R_winner 23 rfl) (Nat.le_of_ble_eq_true rfl) rfl ?_
        refine G_weak (L' := [some (.ref (ad 82)), some (.int v1), some (.int v2), some (.int v3), some (.int s_6), some (.int 0)]) ⟨rfl, ⟨rfl, ⟨rfl, ⟨rfl, ⟨rfl, ⟨rfl, trivial⟩⟩⟩⟩⟩⟩ ?_
        refine s_R_winner_L40  X hq  (fun v5_9 h => ?_) (fun h => ?_) _ _ h
        · exact G_wk (hkx76 v3 v5_9 h) ⟨rfl, ⟨rfl, ⟨rfl, trivial⟩⟩⟩
        · refine G_iload_n (pc := 95) 2 X (dg dt_R_winner 57 rfl) rfl rfl ?_
          refine G_aload_n (pc := 96) 0 X (dg dt_R_winner 58 rfl) rfl rfl ?_
          refine G_getI (pc := 97) 13 X (dg dt_R_winner 59 rfl) fc_8 w_1076 rfl (Nat.le_of_ble_eq_true rfl) sh_82 rfl ?_
          refine G_iconst (pc := 100) 1 X (dg dt_R_winner 60 rfl) (by decide) ?_
          refine G_iadd (pc := 101) X (dg dt_R_winner 61 rfl) ?_
          refine G_imul (pc := 102) X (dg dt_R_winner 62 rfl) ?_
          refine G_istore_n_lt (pc := 103) 2 X (dg dt_R_winner 63 rfl) rfl (Nat.le_of_ble_eq_true rfl) rfl h (fun v2_10 h => ?_)
          refine G_iinc (pc := 104) (v3 + 1) X (dg dt_R_winner 64 rfl) rfl (Nat.le_of_ble_eq_true rfl) rfl rfl ?_
          refine G_goto (pc := 107) 9 X (dg dt_R_winner 65 rfl) (by decide) ?_
          exact G_wk (ih v2_10 (v3 + 1) h) ⟨rfl, ⟨rfl, ⟨rfl, ⟨rfl, trivial⟩⟩⟩⟩
      refine G_if_ne (pc := 23) 34 X (dg dt_R_winner 15 rfl) (by decide) h (fun h => ?_) (fun h => ?_)
      · refine G_iconst (pc := 34) 0 X (dg dt_R_winner 20 rfl) (by decide) ?_
        exact G_wk (hj35_5 0 h) ⟨rfl, ⟨rfl, ⟨rfl, ⟨rfl, trivial⟩⟩⟩⟩
      · refine G_aload_n (pc := 26) 0 X (dg dt_R_winner 16 rfl) rfl rfl ?_
        refine G_iload_n (pc := 27) 3 X (dg dt_R_winner 17 rfl) rfl rfl ?_
        obtain ⟨r_12, hc_11, h⟩ := cap_go h
        refine G_callV (pc := 28) (S := []) [.int v3] nosub X  (dg dt_R_winner 18 rfl) cb_R_freeAt cv_R_freeAt w_1456 (s_R_freeAt _ ad _ _ hc_11) rfl ⟨Nat.le_of_ble_eq_true rfl, Nat.le_of_ble_eq_true rfl⟩ sh_82 rfl (Nat.le_of_ble_eq_true rfl) Rc0 ?_
        refine G_goto (pc := 31) 35 X (dg dt_R_winner 19 rfl) (by decide) ?_
        exact G_wk (hj35_5 r_12 h) ⟨rfl, ⟨rfl, ⟨rfl, ⟨rfl, trivial⟩⟩⟩⟩
set_option maxRecDepth 100000 in
set_option maxHeartbeats 4000000 in
theorem s_R_winner (l : Launch) (ad : Nat → Nat) (σ : St) (v1 : Int32)  {rv : Int32} {σe : St} (h : f_R_winner σ v1 = some (rv, σe)) : Rt l [] yX12_winner cX12_winner 6 (some .int) 1 27 (g_SH, ad) [.ref (ad 82), .int v1] σ (some (.int rv)) σe := by
  refine Rt.intro (L := [some (.ref (ad 82)), some (.int v1), none, none, none, none]) (by decide +kernel) (Nat.le_of_ble_eq_true rfl) rfl (fun θ hl X hq => ?_)
  subst hl
  unfold f_R_winner at h
  refine G_aload_n (pc := 0) 0 X (dg dt_R_winner 0 rfl) rfl rfl ?_
  refine G_iload_n (pc := 1) 1 X (dg dt_R_winner 1 rfl) rfl rfl ?_
  obtain ⟨r_2, σ_3, hc_1, h⟩ := cal_go h
  refine G_callV (pc := 2) (S := []) [.int v1] nosub X  (dg dt_R_winner 2 rfl) cb_R_layState cv_R_layState w_1452 (s_R_layState _ ad _ _ hc_1) rfl ⟨Nat.le_of_ble_eq_true rfl, Nat.le_of_ble_eq_true rfl⟩ sh_82 rfl (Nat.le_of_ble_eq_true rfl) Rc0 ?_
  refine G_iconst (pc := 5) 1 X (dg dt_R_winner 3 rfl) (by decide) ?_
  refine G_istore_n (pc := 6) 2 X (dg dt_R_winner 4 rfl) rfl (Nat.le_of_ble_eq_true rfl) rfl ?_
  refine G_iconst (pc := 7) 0 X (dg dt_R_winner 5 rfl) (by decide) ?_
  refine G_istore_n (pc := 8) 3 X (dg dt_R_winner 6 rfl) rfl (Nat.le_of_ble_eq_true rfl) rfl ?_
  refine G_weak (L' := [some (.ref (ad 82)), some (.int v1), some (.int 1), some (.int 0), none, none]) ⟨rfl, ⟨rfl, ⟨rfl, ⟨rfl, trivial⟩⟩⟩⟩ ?_
  refine s_R_winner_L9  X hq  (fun v3_13 v5_14 h => ?_) _ _ _ h
  refine G_bipush (pc := 76) 10 X (dg dt_R_winner 46 rfl) (by decide) ?_
  refine G_aload_n (pc := 78) 0 X (dg dt_R_winner 47 rfl) rfl rfl ?_
  refine G_getR (pc := 79) 16 X (dg dt_R_winner 48 rfl) fc_8 w_1079 rfl (Nat.le_of_ble_eq_true rfl) sh_82 rfl ?_
  refine G_iload_n (pc := 82) 3 X (dg dt_R_winner 49 rfl) rfl rfl ?_
  refine G_iald (pc := 83) X (dg dt_R_winner 50 rfl) sh_92 h (fun r_15 h => ?_)
  refine G_imul (pc := 84) X (dg dt_R_winner 51 rfl) ?_
  refine G_iload (pc := 85) X (dg dt_R_winner 52 rfl) rfl ?_
  refine G_iadd (pc := 87) X (dg dt_R_winner 53 rfl) ?_
  exact G_iret (pc := 88) X hq (dg dt_R_winner 54 rfl) h
set_option maxRecDepth 100000 in
set_option maxHeartbeats 4000000 in
theorem s_R_wins_L79 {θ : Th} {ad : Nat → Nat}  {rv : Int32} {σe : St} (X : Cx θ [] cX12_wins 5 "QuasigroveModel" 2 52)
    {σ : St} (hq : Rq θ (g_SH, ad) (some .int) (some (.int rv)) σe) {kx102 : Int32 → Option (Int32 × St)} (hkx102 : ∀ (v2 : Int32), kx102 v2 = some (rv, σe) → G θ (0, 0) (g_SH, ad) σ 102 [some (.ref (ad 82)), none, some (.int v2), none, none] []) :
    ∀ (n : Nat) (v2 : Int32) (v3 : Int32), f_R_wins_L79 σ kx102 n v2 v3 = some (rv, σe) → G θ (0, 0) (g_SH, ad) σ 79 [some (.ref (ad 82)), none, some (.int v2), some (.int v3), none] [] := by
  intro n
  induction n with
  | zero => intro v2 v3 h; rw [f_R_wins_L79] at h; cases h
  | succ n ih =>
    intro v2 v3 h
    rw [f_R_wins_L79] at h
    refine G_iload_n (pc := 79) 3 X (dg dt_R_wins 46 rfl) rfl rfl ?_
    refine G_aload_n (pc := 80) 0 X (dg dt_R_wins 47 rfl) rfl rfl ?_
    refine G_getI (pc := 81) 15 X (dg dt_R_wins 48 rfl) fc_8 w_1078 rfl (Nat.le_of_ble_eq_true rfl) sh_82 rfl ?_
    refine G_icmp_ge (pc := 84) 102 X (dg dt_R_wins 49 rfl) (by decide) h (fun h => ?_) (fun h => ?_)
    · exact G_wk (hkx102 v2 h) ⟨rfl, ⟨rfl, trivial⟩⟩
    · refine G_iload_n (pc := 87) 2 X (dg dt_R_wins 50 rfl) rfl rfl ?_
      refine G_aload_n (pc := 88) 0 X (dg dt_R_wins 51 rfl) rfl rfl ?_
      refine G_getI (pc := 89) 13 X (dg dt_R_wins 52 rfl) fc_8 w_1076 rfl (Nat.le_of_ble_eq_true rfl) sh_82 rfl ?_
      refine G_iconst (pc := 92) 1 X (dg dt_R_wins 53 rfl) (by decide) ?_
      refine G_iadd (pc := 93) X (dg dt_R_wins 54 rfl) ?_
      refine G_imul (pc := 94) X (dg dt_R_wins 55 rfl) ?_
      refine G_istore_n_lt (pc := 95) 2 X (dg dt_R_wins 56 rfl) rfl (Nat.le_of_ble_eq_true rfl) rfl h (fun v2_14 h => ?_)
      refine G_iinc (pc := 96) (v3 + 1) X (dg dt_R_wins 57 rfl) rfl (Nat.le_of_ble_eq_true rfl) rfl rfl ?_
      refine G_goto (pc := 99) 79 X (dg dt_R_wins 58 rfl) (by decide) ?_
      exact G_wk (ih v2_14 (v3 + 1) h) ⟨rfl, ⟨rfl, ⟨rfl, trivial⟩⟩⟩
set_option maxRecDepth 100000 in
set_option maxHeartbeats 4000000 in
theorem s_R_wins_L109 {θ : Th} {ad : Nat → Nat}  {rv : Int32} {σe : St} (X : Cx θ [] cX12_wins 5 "QuasigroveModel" 2 52)
     (hq : Rq θ (g_SH, ad) (some .int) (some (.int rv)) σe) {kx144 : Int32 → St → Option (Int32 × St)} (hkx144 : ∀ (v3 : Int32) (σ : St), kx144 v3 σ = some (rv, σe) → G θ (0, 0) (g_SH, ad) σ 144 [none, none, none, some (.int v3), none] []) :
    ∀ (n : Nat) (v3 : Int32) (v4 : Int32) (σ : St), f_R_wins_L109 kx144 n v3 v4 σ = some (rv, σe) → G θ (0, 0) (g_SH, ad) σ 109 [some (.ref (ad 82)), none, none, some (.int v3), some (.int v4)] [] := by
  intro n
  induction n with
  | zero => intro v3 v4 σ h; rw [f_R_wins_L109] at h; cases h
  | succ n ih =>
    intro v3 v4 σ h
    rw [f_R_wins_L109] at h
    refine G_iload (pc := 109) X (dg dt_R_wins 65 rfl) rfl ?_
    refine G_if_lt (pc := 111) 144 X (dg dt_R_wins 66 rfl) (by decide) h (fun h => ?_) (fun h => ?_)
    · exact G_wk (hkx144 v3 σ h) ⟨rfl, trivial⟩
    · refine G_aload_n (pc := 114) 0 X (dg dt_R_wins 67 rfl) rfl rfl ?_
      refine G_iload (pc := 115) X (dg dt_R_wins 68 rfl) rfl ?_
      obtain ⟨r_17, σ_18, hc_16, h⟩ := cal_go h
      refine G_callV (pc := 117) (S := []) [.int v4] nosub X  (dg dt_R_wins 69 rfl) cb_R_winner cv_R_winner w_1448 (s_R_winner _ ad _ _ hc_16) rfl ⟨Nat.le_of_ble_eq_true rfl, Nat.le_of_ble_eq_true rfl⟩ sh_82 rfl (Nat.le_of_ble_eq_true rfl) Rc0 ?_
      refine G_istore_n (pc := 120) 3 X (dg dt_R_wins 70 rfl) rfl (Nat.le_of_ble_eq_true rfl) rfl ?_
      refine G_aload_n (pc := 121) 0 X (dg dt_R_wins 71 rfl) rfl rfl ?_
      refine G_getR (pc := 122) 27 X (dg dt_R_wins 72 rfl) fc_8 w_1090 rfl (Nat.le_of_ble_eq_true rfl) sh_82 rfl ?_
      refine G_iload (pc := 125) X (dg dt_R_wins 73 rfl) rfl ?_
      refine G_iload_n (pc := 127) 3 X (dg dt_R_wins 74 rfl) rfl rfl ?_
      refine G_iconst (pc := 128) (-1) X (dg dt_R_wins 75 rfl) (by decide) ?_
      refine jn_go (fun j137_19 => ∀ (s_20 : Int32), j137_19 s_20 = some (rv, σe) → G θ (0, 0) (g_SH, ad) σ_18 137 [some (.ref (ad 82)), none, none, some (.int r_17), some (.int v4)] [.int s_20, .int v4, .ref (ad 101)]) h ?_ (fun j137_19 hj137_19 h => ?_)
      · intro s_20 h
        refine G_zast (pc := 137) X (dg dt_R_wins 80 rfl) sh_101 h (fun σ_21 h => ?_)
        refine G_iinc (pc := 138) (v4 + (-1)) X (dg dt_R_wins 81 rfl) rfl (Nat.le_of_ble_eq_true rfl) rfl rfl ?_
        refine G_goto (pc := 141) 109 X (dg dt_R_wins 82 rfl) (by decide) ?_
        exact G_wk (ih r_17 (v4 + (-1)) σ_21 h) ⟨rfl, ⟨rfl, ⟨rfl, trivial⟩⟩⟩
      refine G_icmp_eq (pc := 129) 136 X (dg dt_R_wins 76 rfl) (by decide) h (fun h => ?_) (fun h => ?_)
      · refine G_iconst (pc := 136) 0 X (dg dt_R_wins 79 rfl) (by decide) ?_
        exact G_wk (hj137_19 0 h) ⟨rfl, ⟨rfl, ⟨rfl, trivial⟩⟩⟩
      · refine G_iconst (pc := 132) 1 X (dg dt_R_wins 77 rfl) (by decide) ?_
        refine G_goto (pc := 133) 137 X (dg dt_R_wins 78 rfl) (by decide) ?_
        exact G_wk (hj137_19 1 h) ⟨rfl, ⟨rfl, ⟨rfl, trivial⟩⟩⟩
set_option maxRecDepth 100000 in
set_option maxHeartbeats 4000000 in
theorem s_R_wins (l : Launch) (ad : Nat → Nat) (σ : St) (v1 : Int32)  {rv : Int32} {σe : St} (h : f_R_wins σ v1 = some (rv, σe)) : Rt l [] yX12_wins cX12_wins 5 (some .int) 2 52 (g_SH, ad) [.ref (ad 82), .int v1] σ (some (.int rv)) σe := by
  refine Rt.intro (L := [some (.ref (ad 82)), some (.int v1), none, none, none]) (by decide +kernel) (Nat.le_of_ble_eq_true rfl) rfl (fun θ hl X hq => ?_)
  subst hl
  unfold f_R_wins at h
  refine G_aload_n (pc := 0) 0 X (dg dt_R_wins 0 rfl) rfl rfl ?_
  refine G_aload_n (pc := 1) 0 X (dg dt_R_wins 1 rfl) rfl rfl ?_
  refine G_iload_n (pc := 2) 1 X (dg dt_R_wins 2 rfl) rfl rfl ?_
  obtain ⟨r_2, hc_1, h⟩ := cap_go h
  refine G_callV (pc := 3) (S := [.ref (ad 82)]) [.int v1] nosub X  (dg dt_R_wins 3 rfl) cb_R_isGrid cv_R_isGrid w_1183 (s_R_isGrid _ ad _ _ hc_1) rfl ⟨Nat.le_of_ble_eq_true rfl, Nat.le_of_ble_eq_true rfl⟩ sh_82 rfl (Nat.le_of_ble_eq_true rfl) Rc0 ?_
  refine jn_go (fun j14_3 => ∀ (s_4 : Int32), j14_3 s_4 = some (rv, σe) → G θ (0, 0) (g_SH, ad) σ 14 [some (.ref (ad 82)), some (.int v1), none, none, none] [.int s_4, .ref (ad 82)]) h ?_ (fun j14_3 hj14_3 h => ?_)
  · intro s_4 h
    refine G_put (pc := 14) 0 X (dg dt_R_wins 8 rfl) fc_8 w_1063 rfl (Nat.le_of_ble_eq_true rfl) rfl rfl sh_82 rfl h (fun σ_5 h => ?_)
    refine G_aload_n (pc := 17) 0 X (dg dt_R_wins 9 rfl) rfl rfl ?_
    refine G_getI (pc := 18) 0 X (dg dt_R_wins 10 rfl) fc_8 w_1063 rfl (Nat.le_of_ble_eq_true rfl) sh_82 rfl ?_
    refine jn_go (fun j57_6 => ∀ (σ_7 : St), j57_6 σ_7 = some (rv, σe) → G θ (0, 0) (g_SH, ad) σ_7 57 [some (.ref (ad 82)), some (.int v1), none, none, none] []) h ?_ (fun j57_6 hj57_6 h => ?_)
    · intro σ_7 h
      refine G_aload_n (pc := 57) 0 X (dg dt_R_wins 32 rfl) rfl rfl ?_
      refine G_getI (pc := 58) 0 X (dg dt_R_wins 33 rfl) fc_8 w_1063 rfl (Nat.le_of_ble_eq_true rfl) sh_82 rfl ?_
      refine G_if_le (pc := 61) 66 X (dg dt_R_wins 34 rfl) (by decide) h (fun h => ?_) (fun h => ?_)
      · refine G_aload_n (pc := 66) 0 X (dg dt_R_wins 37 rfl) rfl rfl ?_
        refine G_iload_n (pc := 67) 1 X (dg dt_R_wins 38 rfl) rfl rfl ?_
        obtain ⟨r_9, σ_10, hc_8, h⟩ := cal_go h
        refine G_callV (pc := 68) (S := []) [.int v1] nosub X  (dg dt_R_wins 39 rfl) cb_R_copyToWork cv_R_copyToWork w_1219 (s_R_copyToWork _ ad _ _ hc_8) rfl ⟨Nat.le_of_ble_eq_true rfl, Nat.le_of_ble_eq_true rfl⟩ sh_82 rfl (Nat.le_of_ble_eq_true rfl) Rc0 ?_
        refine G_aload_n (pc := 71) 0 X (dg dt_R_wins 40 rfl) rfl rfl ?_
        obtain ⟨r_12, σ_13, hc_11, h⟩ := cal_go h
        refine G_callV (pc := 72) (S := []) [] nosub X  (dg dt_R_wins 41 rfl) cb_R_layEmpties cv_R_layEmpties w_1271 (s_R_layEmpties _ ad _ hc_11) rfl ⟨Nat.le_of_ble_eq_true rfl, Nat.le_of_ble_eq_true rfl⟩ sh_82 rfl (Nat.le_of_ble_eq_true rfl) Rc0 ?_
        refine G_iconst (pc := 75) 1 X (dg dt_R_wins 42 rfl) (by decide) ?_
        refine G_istore_n (pc := 76) 2 X (dg dt_R_wins 43 rfl) rfl (Nat.le_of_ble_eq_true rfl) rfl ?_
        refine G_iconst (pc := 77) 0 X (dg dt_R_wins 44 rfl) (by decide) ?_
        refine G_istore_n (pc := 78) 3 X (dg dt_R_wins 45 rfl) rfl (Nat.le_of_ble_eq_true rfl) rfl ?_
        refine G_weak (L' := [some (.ref (ad 82)), none, some (.int 1), some (.int 0), none]) ⟨rfl, ⟨rfl, ⟨rfl, trivial⟩⟩⟩ ?_
        refine s_R_wins_L79  X hq  (fun v2_15 h => ?_) _ _ _ h
        refine G_iconst (pc := 102) (-1) X (dg dt_R_wins 59 rfl) (by decide) ?_
        refine G_istore_n (pc := 103) 3 X (dg dt_R_wins 60 rfl) rfl (Nat.le_of_ble_eq_true rfl) rfl ?_
        refine G_iload_n (pc := 104) 2 X (dg dt_R_wins 61 rfl) rfl rfl ?_
        refine G_iconst (pc := 105) 1 X (dg dt_R_wins 62 rfl) (by decide) ?_
        refine G_isub (pc := 106) X (dg dt_R_wins 63 rfl) ?_
        refine G_istore (pc := 107) X (dg dt_R_wins 64 rfl) (Nat.le_of_ble_eq_true rfl) rfl ?_
        refine G_weak (L' := [some (.ref (ad 82)), none, none, some (.int (-1)), some (.int (v2_15 - 1))]) ⟨rfl, ⟨rfl, ⟨rfl, trivial⟩⟩⟩ ?_
        refine s_R_wins_L109  X hq  (fun v3_22 σ_23 h => ?_) _ _ _ _ h
        refine G_iload_n (pc := 144) 3 X (dg dt_R_wins 83 rfl) rfl rfl ?_
        exact G_iret (pc := 145) X hq (dg dt_R_wins 84 rfl) h
      · refine G_iconst (pc := 64) 0 X (dg dt_R_wins 35 rfl) (by decide) ?_
        exact G_iret (pc := 65) X hq (dg dt_R_wins 36 rfl) h
    refine G_if_ne (pc := 21) 57 X (dg dt_R_wins 11 rfl) (by decide) h (fun h => ?_) (fun h => ?_)
    · exact G_wk (hj57_6 σ_5 h) ⟨rfl, ⟨rfl, trivial⟩⟩
    · refine G_aload_n (pc := 24) 0 X (dg dt_R_wins 12 rfl) rfl rfl ?_
      refine G_aload_n (pc := 25) 0 X (dg dt_R_wins 13 rfl) rfl rfl ?_
      refine G_getR (pc := 26) 2 X (dg dt_R_wins 14 rfl) fc_8 w_1065 rfl (Nat.le_of_ble_eq_true rfl) sh_82 rfl ?_
      refine G_iload_n (pc := 29) 1 X (dg dt_R_wins 15 rfl) rfl rfl ?_
      refine G_iald (pc := 30) X (dg dt_R_wins 16 rfl) sh_83 h (fun r_24 h => ?_)
      refine G_aload_n (pc := 31) 0 X (dg dt_R_wins 17 rfl) rfl rfl ?_
      refine G_getR (pc := 32) 2 X (dg dt_R_wins 18 rfl) fc_8 w_1065 rfl (Nat.le_of_ble_eq_true rfl) sh_82 rfl ?_
      refine G_iload_n (pc := 35) 1 X (dg dt_R_wins 19 rfl) rfl rfl ?_
      refine G_iald (pc := 36) X (dg dt_R_wins 20 rfl) sh_83 h (fun r_25 h => ?_)
      refine G_imul (pc := 37) X (dg dt_R_wins 21 rfl) ?_
      refine G_aload_n (pc := 38) 0 X (dg dt_R_wins 22 rfl) rfl rfl ?_
      refine G_iload_n (pc := 39) 1 X (dg dt_R_wins 23 rfl) rfl rfl ?_
      obtain ⟨r_27, hc_26, h⟩ := cap_go h
      refine G_callV (pc := 40) (S := [.int (r_24 * r_25), .ref (ad 82)]) [.int v1] nosub X  (dg dt_R_wins 24 rfl) cb_R_filled cv_R_filled w_1215 (s_R_filled _ ad _ _ hc_26) rfl ⟨Nat.le_of_ble_eq_true rfl, Nat.le_of_ble_eq_true rfl⟩ sh_82 rfl (Nat.le_of_ble_eq_true rfl) Rc0 ?_
      refine G_isub (pc := 43) X (dg dt_R_wins 25 rfl) ?_
      refine G_bipush (pc := 44) 6 X (dg dt_R_wins 26 rfl) (by decide) ?_
      refine jn_go (fun j54_28 => ∀ (s_29 : Int32), j54_28 s_29 = some (rv, σe) → G θ (0, 0) (g_SH, ad) σ_5 54 [some (.ref (ad 82)), some (.int v1), none, none, none] [.int s_29, .ref (ad 82)]) h ?_ (fun j54_28 hj54_28 h => ?_)
      · intro s_29 h
        refine G_put (pc := 54) 0 X (dg dt_R_wins 31 rfl) fc_8 w_1063 rfl (Nat.le_of_ble_eq_true rfl) rfl rfl sh_82 rfl h (fun σ_30 h => ?_)
        exact G_wk (hj57_6 σ_30 h) ⟨rfl, ⟨rfl, trivial⟩⟩
      refine G_icmp_le (pc := 46) 53 X (dg dt_R_wins 27 rfl) (by decide) h (fun h => ?_) (fun h => ?_)
      · refine G_iconst (pc := 53) 0 X (dg dt_R_wins 30 rfl) (by decide) ?_
        exact G_wk (hj54_28 0 h) ⟨rfl, ⟨rfl, trivial⟩⟩
      · refine G_iconst (pc := 49) 2 X (dg dt_R_wins 28 rfl) (by decide) ?_
        refine G_goto (pc := 50) 54 X (dg dt_R_wins 29 rfl) (by decide) ?_
        exact G_wk (hj54_28 2 h) ⟨rfl, ⟨rfl, trivial⟩⟩
  refine G_if_ne (pc := 6) 13 X (dg dt_R_wins 4 rfl) (by decide) h (fun h => ?_) (fun h => ?_)
  · refine G_iconst (pc := 13) 0 X (dg dt_R_wins 7 rfl) (by decide) ?_
    exact G_wk (hj14_3 0 h) ⟨rfl, ⟨rfl, trivial⟩⟩
  · refine G_iconst (pc := 9) 1 X (dg dt_R_wins 5 rfl) (by decide) ?_
    refine G_goto (pc := 10) 14 X (dg dt_R_wins 6 rfl) (by decide) ?_
    exact G_wk (hj14_3 1 h) ⟨rfl, ⟨rfl, trivial⟩⟩
set_option maxRecDepth 100000 in
set_option maxHeartbeats 4000000 in
theorem s_R_isSquare (l : Launch) (ad : Nat → Nat) (σ : St) (v1 : Int32)  {rv : Int32} (h : f_R_isSquare σ v1 = some rv) : Rt l [] yX12_isSquare cX12_isSquare 2 (some .boolean) 1 23 (g_SH, ad) [.ref (ad 82), .int v1] σ (some (.int rv)) σ := by
  refine Rt.intro (L := [some (.ref (ad 82)), some (.int v1)]) (by decide +kernel) (Nat.le_of_ble_eq_true rfl) rfl (fun θ hl X hq => ?_)
  subst hl
  unfold f_R_isSquare at h
  refine G_aload_n (pc := 0) 0 X (dg dt_R_isSquare 0 rfl) rfl rfl ?_
  refine G_iload_n (pc := 1) 1 X (dg dt_R_isSquare 1 rfl) rfl rfl ?_
  obtain ⟨r_2, hc_1, h⟩ := cap_go h
  refine G_callV (pc := 2) (S := []) [.int v1] nosub X  (dg dt_R_isSquare 2 rfl) cb_R_filled cv_R_filled w_1215 (s_R_filled _ ad _ _ hc_1) rfl ⟨Nat.le_of_ble_eq_true rfl, Nat.le_of_ble_eq_true rfl⟩ sh_82 rfl (Nat.le_of_ble_eq_true rfl) Rc0 ?_
  refine G_aload_n (pc := 5) 0 X (dg dt_R_isSquare 3 rfl) rfl rfl ?_
  refine G_getR (pc := 6) 2 X (dg dt_R_isSquare 4 rfl) fc_8 w_1065 rfl (Nat.le_of_ble_eq_true rfl) sh_82 rfl ?_
  refine G_iload_n (pc := 9) 1 X (dg dt_R_isSquare 5 rfl) rfl rfl ?_
  refine G_iald (pc := 10) X (dg dt_R_isSquare 6 rfl) sh_83 h (fun r_3 h => ?_)
  refine G_aload_n (pc := 11) 0 X (dg dt_R_isSquare 7 rfl) rfl rfl ?_
  refine G_getR (pc := 12) 2 X (dg dt_R_isSquare 8 rfl) fc_8 w_1065 rfl (Nat.le_of_ble_eq_true rfl) sh_82 rfl ?_
  refine G_iload_n (pc := 15) 1 X (dg dt_R_isSquare 9 rfl) rfl rfl ?_
  refine G_iald (pc := 16) X (dg dt_R_isSquare 10 rfl) sh_83 h (fun r_4 h => ?_)
  refine G_imul (pc := 17) X (dg dt_R_isSquare 11 rfl) ?_
  refine G_icmp_ne (pc := 18) 25 X (dg dt_R_isSquare 12 rfl) (by decide) h (fun h => ?_) (fun h => ?_)
  · refine G_iconst (pc := 25) 0 X (dg dt_R_isSquare 15 rfl) (by decide) ?_
    exact G_zretlp (pc := 26) X hq (dg dt_R_isSquare 16 rfl) rfl h
  · refine G_iconst (pc := 21) 1 X (dg dt_R_isSquare 13 rfl) (by decide) ?_
    refine G_goto (pc := 22) 26 X (dg dt_R_isSquare 14 rfl) (by decide) ?_
    exact G_zretlp (pc := 26) X hq (dg dt_R_isSquare 16 rfl) rfl h
set_option maxRecDepth 100000 in
set_option maxHeartbeats 4000000 in
theorem s_R_canAskWith (l : Launch) (ad : Nat → Nat) (σ : St) (v1 : Int32) (v2 : Int32)  {rv : Int32} {σe : St} (h : f_R_canAskWith σ v1 v2 = some (rv, σe)) : Rt l [] yX12_canAskWith cX12_canAskWith 3 (some .boolean) 2 44 (g_SH, ad) [.ref (ad 82), .int v1, .int v2] σ (some (.int rv)) σe := by
  refine Rt.intro (L := [some (.ref (ad 82)), some (.int v1), some (.int v2)]) (by decide +kernel) (Nat.le_of_ble_eq_true rfl) rfl (fun θ hl X hq => ?_)
  subst hl
  unfold f_R_canAskWith at h
  refine G_aload_n (pc := 0) 0 X (dg dt_R_canAskWith 0 rfl) rfl rfl ?_
  refine G_aload_n (pc := 1) 0 X (dg dt_R_canAskWith 1 rfl) rfl rfl ?_
  refine G_iload_n (pc := 2) 1 X (dg dt_R_canAskWith 2 rfl) rfl rfl ?_
  obtain ⟨r_2, hc_1, h⟩ := cap_go h
  refine G_callV (pc := 3) (S := [.ref (ad 82)]) [.int v1] nosub X  (dg dt_R_canAskWith 3 rfl) cb_R_isGrid cv_R_isGrid w_1183 (s_R_isGrid _ ad _ _ hc_1) rfl ⟨Nat.le_of_ble_eq_true rfl, Nat.le_of_ble_eq_true rfl⟩ sh_82 rfl (Nat.le_of_ble_eq_true rfl) Rc0 ?_
  refine jn_go (fun j22_3 => ∀ (s_4 : Int32), j22_3 s_4 = some (rv, σe) → G θ (0, 0) (g_SH, ad) σ 22 [some (.ref (ad 82)), some (.int v1), none] [.int s_4, .ref (ad 82)]) h ?_ (fun j22_3 hj22_3 h => ?_)
  · intro s_4 h
    refine G_put (pc := 22) 0 X (dg dt_R_canAskWith 12 rfl) fc_8 w_1063 rfl (Nat.le_of_ble_eq_true rfl) rfl rfl sh_82 rfl h (fun σ_5 h => ?_)
    refine G_aload_n (pc := 25) 0 X (dg dt_R_canAskWith 13 rfl) rfl rfl ?_
    refine G_getI (pc := 26) 0 X (dg dt_R_canAskWith 14 rfl) fc_8 w_1063 rfl (Nat.le_of_ble_eq_true rfl) sh_82 rfl ?_
    refine jn_go (fun j49_6 => ∀ (σ_7 : St), j49_6 σ_7 = some (rv, σe) → G θ (0, 0) (g_SH, ad) σ_7 49 [some (.ref (ad 82)), none, none] []) h ?_ (fun j49_6 hj49_6 h => ?_)
    · intro σ_7 h
      refine G_aload_n (pc := 49) 0 X (dg dt_R_canAskWith 25 rfl) rfl rfl ?_
      refine G_getI (pc := 50) 0 X (dg dt_R_canAskWith 26 rfl) fc_8 w_1063 rfl (Nat.le_of_ble_eq_true rfl) sh_82 rfl ?_
      refine G_if_ne (pc := 53) 60 X (dg dt_R_canAskWith 27 rfl) (by decide) h (fun h => ?_) (fun h => ?_)
      · refine G_iconst (pc := 60) 0 X (dg dt_R_canAskWith 30 rfl) (by decide) ?_
        exact G_zretl (pc := 61) X hq (dg dt_R_canAskWith 31 rfl) rfl h
      · refine G_iconst (pc := 56) 1 X (dg dt_R_canAskWith 28 rfl) (by decide) ?_
        refine G_goto (pc := 57) 61 X (dg dt_R_canAskWith 29 rfl) (by decide) ?_
        exact G_zretl (pc := 61) X hq (dg dt_R_canAskWith 31 rfl) rfl h
    refine G_if_ne (pc := 29) 49 X (dg dt_R_canAskWith 15 rfl) (by decide) h (fun h => ?_) (fun h => ?_)
    · exact G_wk (hj49_6 σ_5 h) ⟨rfl, trivial⟩
    · refine G_aload_n (pc := 32) 0 X (dg dt_R_canAskWith 16 rfl) rfl rfl ?_
      refine G_aload_n (pc := 33) 0 X (dg dt_R_canAskWith 17 rfl) rfl rfl ?_
      refine G_iload_n (pc := 34) 1 X (dg dt_R_canAskWith 18 rfl) rfl rfl ?_
      obtain ⟨r_9, hc_8, h⟩ := cap_go h
      refine G_callV (pc := 35) (S := [.ref (ad 82)]) [.int v1] nosub X  (dg dt_R_canAskWith 19 rfl) cb_R_isSquare cv_R_isSquare w_1247 (s_R_isSquare _ ad _ _ hc_8) rfl ⟨Nat.le_of_ble_eq_true rfl, Nat.le_of_ble_eq_true rfl⟩ sh_82 rfl (Nat.le_of_ble_eq_true rfl) Rc0 ?_
      refine jn_go (fun j46_10 => ∀ (s_11 : Int32), j46_10 s_11 = some (rv, σe) → G θ (0, 0) (g_SH, ad) σ_5 46 [some (.ref (ad 82)), none, none] [.int s_11, .ref (ad 82)]) h ?_ (fun j46_10 hj46_10 h => ?_)
      · intro s_11 h
        refine G_put (pc := 46) 0 X (dg dt_R_canAskWith 24 rfl) fc_8 w_1063 rfl (Nat.le_of_ble_eq_true rfl) rfl rfl sh_82 rfl h (fun σ_12 h => ?_)
        exact G_wk (hj49_6 σ_12 h) ⟨rfl, trivial⟩
      refine G_if_ne (pc := 38) 45 X (dg dt_R_canAskWith 20 rfl) (by decide) h (fun h => ?_) (fun h => ?_)
      · refine G_iconst (pc := 45) 0 X (dg dt_R_canAskWith 23 rfl) (by decide) ?_
        exact G_wk (hj46_10 0 h) ⟨rfl, trivial⟩
      · refine G_iconst (pc := 41) 3 X (dg dt_R_canAskWith 21 rfl) (by decide) ?_
        refine G_goto (pc := 42) 46 X (dg dt_R_canAskWith 22 rfl) (by decide) ?_
        exact G_wk (hj46_10 3 h) ⟨rfl, trivial⟩
  refine G_if_ne (pc := 6) 13 X (dg dt_R_canAskWith 4 rfl) (by decide) h (fun h => ?_) (fun h => ?_)
  · refine G_iload_n (pc := 13) 2 X (dg dt_R_canAskWith 7 rfl) rfl rfl ?_
    refine G_if_ne (pc := 14) 21 X (dg dt_R_canAskWith 8 rfl) (by decide) h (fun h => ?_) (fun h => ?_)
    · refine G_iconst (pc := 21) 0 X (dg dt_R_canAskWith 11 rfl) (by decide) ?_
      exact G_wk (hj22_3 0 h) ⟨rfl, ⟨rfl, trivial⟩⟩
    · refine G_iconst (pc := 17) 2 X (dg dt_R_canAskWith 9 rfl) (by decide) ?_
      refine G_goto (pc := 18) 22 X (dg dt_R_canAskWith 10 rfl) (by decide) ?_
      exact G_wk (hj22_3 2 h) ⟨rfl, ⟨rfl, trivial⟩⟩
  · refine G_iconst (pc := 9) 1 X (dg dt_R_canAskWith 5 rfl) (by decide) ?_
    refine G_goto (pc := 10) 22 X (dg dt_R_canAskWith 6 rfl) (by decide) ?_
    exact G_wk (hj22_3 1 h) ⟨rfl, ⟨rfl, trivial⟩⟩
set_option maxRecDepth 100000 in
set_option maxHeartbeats 4000000 in
theorem s_R_at (l : Launch) (ad : Nat → Nat) (σ : St) (v1 : Int32) (v2 : Int32) (v3 : Int32)  {rv : Int32} (h : f_R_at σ v1 v2 v3 = some rv) : Rt l [] yX12_at cX12_at 4 (some .int) 0 0 (g_SH, ad) [.ref (ad 82), .int v1, .int v2, .int v3] σ (some (.int rv)) σ := by
  refine Rt.intro (L := [some (.ref (ad 82)), some (.int v1), some (.int v2), some (.int v3)]) (by decide +kernel) (Nat.le_of_ble_eq_true rfl) rfl (fun θ hl X hq => ?_)
  subst hl
  unfold f_R_at at h
  refine G_aload_n (pc := 0) 0 X (dg dt_R_at 0 rfl) rfl rfl ?_
  refine G_getR (pc := 1) 3 X (dg dt_R_at 1 rfl) fc_8 w_1066 rfl (Nat.le_of_ble_eq_true rfl) sh_82 rfl ?_
  refine G_bipush (pc := 4) 25 X (dg dt_R_at 2 rfl) (by decide) ?_
  refine G_iload_n (pc := 6) 1 X (dg dt_R_at 3 rfl) rfl rfl ?_
  refine G_imul (pc := 7) X (dg dt_R_at 4 rfl) ?_
  refine G_aload_n (pc := 8) 0 X (dg dt_R_at 5 rfl) rfl rfl ?_
  refine G_getR (pc := 9) 2 X (dg dt_R_at 6 rfl) fc_8 w_1065 rfl (Nat.le_of_ble_eq_true rfl) sh_82 rfl ?_
  refine G_iload_n (pc := 12) 1 X (dg dt_R_at 7 rfl) rfl rfl ?_
  refine G_iald (pc := 13) X (dg dt_R_at 8 rfl) sh_83 h (fun r_1 h => ?_)
  refine G_iload_n (pc := 14) 2 X (dg dt_R_at 9 rfl) rfl rfl ?_
  refine G_imul (pc := 15) X (dg dt_R_at 10 rfl) ?_
  refine G_iadd (pc := 16) X (dg dt_R_at 11 rfl) ?_
  refine G_iload_n (pc := 17) 3 X (dg dt_R_at 12 rfl) rfl rfl ?_
  refine G_iadd (pc := 18) X (dg dt_R_at 13 rfl) ?_
  refine G_iald (pc := 19) X (dg dt_R_at 14 rfl) sh_84 h (fun r_2 h => ?_)
  exact G_iretp (pc := 20) X hq (dg dt_R_at 15 rfl) h
set_option maxRecDepth 100000 in
set_option maxHeartbeats 4000000 in
theorem s_R_parity_L36 {θ : Th} {ad : Nat → Nat}  {rv : Int32} {σe : St} (X : Cx θ [] cX12_parity 8 "QuasigroveModel" 3 66)
    {v1 : Int32} {v2 : Int32} {v3 : Int32} {v4 : Int32} (hq : Rq θ (g_SH, ad) (some .int) (some (.int rv)) σe) {kx116 : St → Option (Int32 × St)} (hkx116 : ∀ (σ : St), kx116 σ = some (rv, σe) → G θ (0, 0) (g_SH, ad) σ 116 [some (.ref (ad 82)), some (.int v1), some (.int v2), some (.int v3), some (.int v4), none, none, none] []) :
    ∀ (n : Nat) (v5 : Int32) (σ : St), f_R_parity_L36 v1 v2 v3 v4 kx116 n v5 σ = some (rv, σe) → G θ (0, 0) (g_SH, ad) σ 36 [some (.ref (ad 82)), some (.int v1), some (.int v2), some (.int v3), some (.int v4), some (.int v5), none, none] [] := by
  intro n
  induction n with
  | zero => intro v5 σ h; rw [f_R_parity_L36] at h; cases h
  | succ n ih =>
    intro v5 σ h
    rw [f_R_parity_L36] at h
    refine G_iload (pc := 36) X (dg dt_R_parity 23 rfl) rfl ?_
    refine G_iload_n (pc := 38) 3 X (dg dt_R_parity 24 rfl) rfl rfl ?_
    refine G_icmp_ge (pc := 39) 116 X (dg dt_R_parity 25 rfl) (by decide) h (fun h => ?_) (fun h => ?_)
    · exact G_wk (hkx116 σ h) ⟨rfl, ⟨rfl, ⟨rfl, ⟨rfl, ⟨rfl, trivial⟩⟩⟩⟩⟩
    · refine G_aload_n (pc := 42) 0 X (dg dt_R_parity 26 rfl) rfl rfl ?_
      refine G_iload_n (pc := 43) 1 X (dg dt_R_parity 27 rfl) rfl rfl ?_
      refine G_iload (pc := 44) X (dg dt_R_parity 28 rfl) rfl ?_
      refine G_iload (pc := 46) X (dg dt_R_parity 29 rfl) rfl ?_
      obtain ⟨r_8, hc_7, h⟩ := cap_go h
      refine G_callV (pc := 48) (S := []) [.int v1, .int v4, .int v5] nosub X  (dg dt_R_parity 30 rfl) cb_R_at cv_R_at w_1191 (s_R_at _ ad _ _ _ _ hc_7) rfl ⟨Nat.le_of_ble_eq_true rfl, Nat.le_of_ble_eq_true rfl⟩ sh_82 rfl (Nat.le_of_ble_eq_true rfl) Rc0 ?_
      refine G_istore (pc := 51) X (dg dt_R_parity 31 rfl) (Nat.le_of_ble_eq_true rfl) rfl ?_
      refine G_iload_n (pc := 53) 2 X (dg dt_R_parity 32 rfl) rfl rfl ?_
      refine jn_go (fun j89_9 => ∀ (s_10 : Int32), j89_9 s_10 = some (rv, σe) → G θ (0, 0) (g_SH, ad) σ 89 [some (.ref (ad 82)), some (.int v1), some (.int v2), some (.int v3), some (.int v4), some (.int v5), some (.int r_8), none] [.int s_10]) h ?_ (fun j89_9 hj89_9 h => ?_)
      · intro s_10 h
        refine G_istore (pc := 89) X (dg dt_R_parity 54 rfl) (Nat.le_of_ble_eq_true rfl) rfl ?_
        refine G_aload_n (pc := 91) 0 X (dg dt_R_parity 55 rfl) rfl rfl ?_
        refine G_getR (pc := 92) 14 X (dg dt_R_parity 56 rfl) fc_8 w_1077 rfl (Nat.le_of_ble_eq_true rfl) sh_82 rfl ?_
        refine G_iload (pc := 95) X (dg dt_R_parity 57 rfl) rfl ?_
        refine G_iload_n (pc := 97) 2 X (dg dt_R_parity 58 rfl) rfl rfl ?_
        refine G_iconst (pc := 98) 2 X (dg dt_R_parity 59 rfl) (by decide) ?_
        refine jn_go (fun j109_11 => ∀ (s_12 : Int32), j109_11 s_12 = some (rv, σe) → G θ (0, 0) (g_SH, ad) σ 109 [some (.ref (ad 82)), some (.int v1), some (.int v2), some (.int v3), some (.int v4), some (.int v5), none, none] [.int s_12, .int s_10, .ref (ad 91)]) h ?_ (fun j109_11 hj109_11 h => ?_)
        · intro s_12 h
          refine G_iast (pc := 109) X (dg dt_R_parity 64 rfl) sh_91 h (fun σ_13 h => ?_)
          refine G_iinc (pc := 110) (v5 + 1) X (dg dt_R_parity 65 rfl) rfl (Nat.le_of_ble_eq_true rfl) rfl rfl ?_
          refine G_goto (pc := 113) 36 X (dg dt_R_parity 66 rfl) (by decide) ?_
          exact G_wk (ih (v5 + 1) σ_13 h) ⟨rfl, ⟨rfl, ⟨rfl, ⟨rfl, ⟨rfl, ⟨rfl, trivial⟩⟩⟩⟩⟩⟩
        refine G_icmp_ne (pc := 99) 107 X (dg dt_R_parity 60 rfl) (by decide) h (fun h => ?_) (fun h => ?_)
        · refine G_iload (pc := 107) X (dg dt_R_parity 63 rfl) rfl ?_
          exact G_wk (hj109_11 r_8 h) ⟨rfl, ⟨rfl, ⟨rfl, ⟨rfl, ⟨rfl, ⟨rfl, trivial⟩⟩⟩⟩⟩⟩
        · refine G_iload (pc := 102) X (dg dt_R_parity 61 rfl) rfl ?_
          refine G_goto (pc := 104) 109 X (dg dt_R_parity 62 rfl) (by decide) ?_
          exact G_wk (hj109_11 v5 h) ⟨rfl, ⟨rfl, ⟨rfl, ⟨rfl, ⟨rfl, ⟨rfl, trivial⟩⟩⟩⟩⟩⟩
      refine G_if_ne (pc := 54) 67 X (dg dt_R_parity 33 rfl) (by decide) h (fun h => ?_) (fun h => ?_)
      · refine G_iload_n (pc := 67) 2 X (dg dt_R_parity 40 rfl) rfl rfl ?_
        refine G_iconst (pc := 68) 1 X (dg dt_R_parity 41 rfl) (by decide) ?_
        refine G_icmp_ne (pc := 69) 82 X (dg dt_R_parity 42 rfl) (by decide) h (fun h => ?_) (fun h => ?_)
        · refine G_iload_n (pc := 82) 3 X (dg dt_R_parity 49 rfl) rfl rfl ?_
          refine G_iload (pc := 83) X (dg dt_R_parity 50 rfl) rfl ?_
          refine G_imul (pc := 85) X (dg dt_R_parity 51 rfl) ?_
          refine G_iload (pc := 86) X (dg dt_R_parity 52 rfl) rfl ?_
          refine G_iadd (pc := 88) X (dg dt_R_parity 53 rfl) ?_
          exact G_wk (hj89_9 ((v3 * r_8) + v4) h) ⟨rfl, ⟨rfl, ⟨rfl, ⟨rfl, ⟨rfl, ⟨rfl, ⟨rfl, trivial⟩⟩⟩⟩⟩⟩⟩
        · refine G_iload_n (pc := 72) 3 X (dg dt_R_parity 43 rfl) rfl rfl ?_
          refine G_iload (pc := 73) X (dg dt_R_parity 44 rfl) rfl ?_
          refine G_imul (pc := 75) X (dg dt_R_parity 45 rfl) ?_
          refine G_iload (pc := 76) X (dg dt_R_parity 46 rfl) rfl ?_
          refine G_iadd (pc := 78) X (dg dt_R_parity 47 rfl) ?_
          refine G_goto (pc := 79) 89 X (dg dt_R_parity 48 rfl) (by decide) ?_
          exact G_wk (hj89_9 ((v3 * v5) + v4) h) ⟨rfl, ⟨rfl, ⟨rfl, ⟨rfl, ⟨rfl, ⟨rfl, ⟨rfl, trivial⟩⟩⟩⟩⟩⟩⟩
      · refine G_iload_n (pc := 57) 3 X (dg dt_R_parity 34 rfl) rfl rfl ?_
        refine G_iload (pc := 58) X (dg dt_R_parity 35 rfl) rfl ?_
        refine G_imul (pc := 60) X (dg dt_R_parity 36 rfl) ?_
        refine G_iload (pc := 61) X (dg dt_R_parity 37 rfl) rfl ?_
        refine G_iadd (pc := 63) X (dg dt_R_parity 38 rfl) ?_
        refine G_goto (pc := 64) 89 X (dg dt_R_parity 39 rfl) (by decide) ?_
        exact G_wk (hj89_9 ((v3 * v4) + v5) h) ⟨rfl, ⟨rfl, ⟨rfl, ⟨rfl, ⟨rfl, ⟨rfl, ⟨rfl, trivial⟩⟩⟩⟩⟩⟩⟩
set_option maxRecDepth 100000 in
set_option maxHeartbeats 4000000 in
theorem s_R_parity_L27 {θ : Th} {ad : Nat → Nat}  {rv : Int32} {σe : St} (X : Cx θ [] cX12_parity 8 "QuasigroveModel" 3 66)
    {v1 : Int32} {v2 : Int32} {v3 : Int32} (hq : Rq θ (g_SH, ad) (some .int) (some (.int rv)) σe) {kx122 : St → Option (Int32 × St)} (hkx122 : ∀ (σ : St), kx122 σ = some (rv, σe) → G θ (0, 0) (g_SH, ad) σ 122 [some (.ref (ad 82)), none, none, some (.int v3), none, none, none, none] []) :
    ∀ (n : Nat) (v4 : Int32) (σ : St), f_R_parity_L27 v1 v2 v3 kx122 n v4 σ = some (rv, σe) → G θ (0, 0) (g_SH, ad) σ 27 [some (.ref (ad 82)), some (.int v1), some (.int v2), some (.int v3), some (.int v4), none, none, none] [] := by
  intro n
  induction n with
  | zero => intro v4 σ h; rw [f_R_parity_L27] at h; cases h
  | succ n ih =>
    intro v4 σ h
    rw [f_R_parity_L27] at h
    refine G_iload (pc := 27) X (dg dt_R_parity 18 rfl) rfl ?_
    refine G_iload_n (pc := 29) 3 X (dg dt_R_parity 19 rfl) rfl rfl ?_
    refine G_icmp_ge (pc := 30) 122 X (dg dt_R_parity 20 rfl) (by decide) h (fun h => ?_) (fun h => ?_)
    · exact G_wk (hkx122 σ h) ⟨rfl, ⟨rfl, trivial⟩⟩
    · refine G_iconst (pc := 33) 0 X (dg dt_R_parity 21 rfl) (by decide) ?_
      refine G_istore (pc := 34) X (dg dt_R_parity 22 rfl) (Nat.le_of_ble_eq_true rfl) rfl ?_
      refine G_weak (L' := [some (.ref (ad 82)), some (.int v1), some (.int v2), some (.int v3), some (.int v4), some (.int 0), none, none]) ⟨rfl, ⟨rfl, ⟨rfl, ⟨rfl, ⟨rfl, ⟨rfl, trivial⟩⟩⟩⟩⟩⟩ ?_
      refine s_R_parity_L36  X hq  (fun σ_14 h => ?_) _ _ _ h
      refine G_iinc (pc := 116) (v4 + 1) X (dg dt_R_parity 67 rfl) rfl (Nat.le_of_ble_eq_true rfl) rfl rfl ?_
      refine G_goto (pc := 119) 27 X (dg dt_R_parity 68 rfl) (by decide) ?_
      exact G_wk (ih (v4 + 1) σ_14 h) ⟨rfl, ⟨rfl, ⟨rfl, ⟨rfl, ⟨rfl, trivial⟩⟩⟩⟩⟩
set_option maxRecDepth 100000 in
set_option maxHeartbeats 4000000 in
theorem s_R_parity_L146 {θ : Th} {ad : Nat → Nat}  {rv : Int32} {σe : St} (X : Cx θ [] cX12_parity 8 "QuasigroveModel" 3 66)
    {v3 : Int32} {v5 : Int32} {v6 : Int32} {σ : St} (hq : Rq θ (g_SH, ad) (some .int) (some (.int rv)) σe) {kx196 : Int32 → Option (Int32 × St)} (hkx196 : ∀ (v4 : Int32), kx196 v4 = some (rv, σe) → G θ (0, 0) (g_SH, ad) σ 196 [some (.ref (ad 82)), none, none, some (.int v3), some (.int v4), some (.int v5), some (.int v6), none] []) :
    ∀ (n : Nat) (v4 : Int32) (v7 : Int32), f_R_parity_L146 v3 v5 v6 σ kx196 n v4 v7 = some (rv, σe) → G θ (0, 0) (g_SH, ad) σ 146 [some (.ref (ad 82)), none, none, some (.int v3), some (.int v4), some (.int v5), some (.int v6), some (.int v7)] [] := by
  intro n
  induction n with
  | zero => intro v4 v7 h; rw [f_R_parity_L146] at h; cases h
  | succ n ih =>
    intro v4 v7 h
    rw [f_R_parity_L146] at h
    refine G_iload (pc := 146) X (dg dt_R_parity 83 rfl) rfl ?_
    refine G_iload (pc := 148) X (dg dt_R_parity 84 rfl) rfl ?_
    refine G_icmp_ge (pc := 150) 196 X (dg dt_R_parity 85 rfl) (by decide) h (fun h => ?_) (fun h => ?_)
    · exact G_wk (hkx196 v4 h) ⟨rfl, ⟨rfl, ⟨rfl, ⟨rfl, ⟨rfl, trivial⟩⟩⟩⟩⟩
    · refine G_iload (pc := 153) X (dg dt_R_parity 86 rfl) rfl ?_
      refine G_aload_n (pc := 155) 0 X (dg dt_R_parity 87 rfl) rfl rfl ?_
      refine G_getR (pc := 156) 14 X (dg dt_R_parity 88 rfl) fc_8 w_1077 rfl (Nat.le_of_ble_eq_true rfl) sh_82 rfl ?_
      refine G_iload_n (pc := 159) 3 X (dg dt_R_parity 89 rfl) rfl rfl ?_
      refine G_iload (pc := 160) X (dg dt_R_parity 90 rfl) rfl ?_
      refine G_imul (pc := 162) X (dg dt_R_parity 91 rfl) ?_
      refine G_iload (pc := 163) X (dg dt_R_parity 92 rfl) rfl ?_
      refine G_iadd (pc := 165) X (dg dt_R_parity 93 rfl) ?_
      refine G_iald (pc := 166) X (dg dt_R_parity 94 rfl) sh_91 h (fun r_16 h => ?_)
      refine G_aload_n (pc := 167) 0 X (dg dt_R_parity 95 rfl) rfl rfl ?_
      refine G_getR (pc := 168) 14 X (dg dt_R_parity 96 rfl) fc_8 w_1077 rfl (Nat.le_of_ble_eq_true rfl) sh_82 rfl ?_
      refine G_iload_n (pc := 171) 3 X (dg dt_R_parity 97 rfl) rfl rfl ?_
      refine G_iload (pc := 172) X (dg dt_R_parity 98 rfl) rfl ?_
      refine G_imul (pc := 174) X (dg dt_R_parity 99 rfl) ?_
      refine G_iload (pc := 175) X (dg dt_R_parity 100 rfl) rfl ?_
      refine G_iadd (pc := 177) X (dg dt_R_parity 101 rfl) ?_
      refine G_iald (pc := 178) X (dg dt_R_parity 102 rfl) sh_91 h (fun r_17 h => ?_)
      refine jn_go (fun j187_18 => ∀ (s_19 : Int32), j187_18 s_19 = some (rv, σe) → G θ (0, 0) (g_SH, ad) σ 187 [some (.ref (ad 82)), none, none, some (.int v3), none, some (.int v5), some (.int v6), some (.int v7)] [.int s_19, .int v4]) h ?_ (fun j187_18 hj187_18 h => ?_)
      · intro s_19 h
        refine G_iadd (pc := 187) X (dg dt_R_parity 107 rfl) ?_
        refine G_istore (pc := 188) X (dg dt_R_parity 108 rfl) (Nat.le_of_ble_eq_true rfl) rfl ?_
        refine G_iinc (pc := 190) (v7 + 1) X (dg dt_R_parity 109 rfl) rfl (Nat.le_of_ble_eq_true rfl) rfl rfl ?_
        refine G_goto (pc := 193) 146 X (dg dt_R_parity 110 rfl) (by decide) ?_
        exact G_wk (ih (v4 + s_19) (v7 + 1) h) ⟨rfl, ⟨rfl, ⟨rfl, ⟨rfl, ⟨rfl, ⟨rfl, trivial⟩⟩⟩⟩⟩⟩
      refine G_icmp_ge (pc := 179) 186 X (dg dt_R_parity 103 rfl) (by decide) h (fun h => ?_) (fun h => ?_)
      · refine G_iconst (pc := 186) 0 X (dg dt_R_parity 106 rfl) (by decide) ?_
        exact G_wk (hj187_18 0 h) ⟨rfl, ⟨rfl, ⟨rfl, ⟨rfl, ⟨rfl, trivial⟩⟩⟩⟩⟩
      · refine G_iconst (pc := 182) 1 X (dg dt_R_parity 104 rfl) (by decide) ?_
        refine G_goto (pc := 183) 187 X (dg dt_R_parity 105 rfl) (by decide) ?_
        exact G_wk (hj187_18 1 h) ⟨rfl, ⟨rfl, ⟨rfl, ⟨rfl, ⟨rfl, trivial⟩⟩⟩⟩⟩
set_option maxRecDepth 100000 in
set_option maxHeartbeats 4000000 in
theorem s_R_parity_L137 {θ : Th} {ad : Nat → Nat}  {rv : Int32} {σe : St} (X : Cx θ [] cX12_parity 8 "QuasigroveModel" 3 66)
    {v3 : Int32} {v5 : Int32} {σ : St} (hq : Rq θ (g_SH, ad) (some .int) (some (.int rv)) σe) {kx202 : Int32 → Option (Int32 × St)} (hkx202 : ∀ (v4 : Int32), kx202 v4 = some (rv, σe) → G θ (0, 0) (g_SH, ad) σ 202 [some (.ref (ad 82)), none, none, some (.int v3), some (.int v4), some (.int v5), none, none] []) :
    ∀ (n : Nat) (v4 : Int32) (v6 : Int32), f_R_parity_L137 v3 v5 σ kx202 n v4 v6 = some (rv, σe) → G θ (0, 0) (g_SH, ad) σ 137 [some (.ref (ad 82)), none, none, some (.int v3), some (.int v4), some (.int v5), some (.int v6), none] [] := by
  intro n
  induction n with
  | zero => intro v4 v6 h; rw [f_R_parity_L137] at h; cases h
  | succ n ih =>
    intro v4 v6 h
    rw [f_R_parity_L137] at h
    refine G_iload (pc := 137) X (dg dt_R_parity 78 rfl) rfl ?_
    refine G_iload_n (pc := 139) 3 X (dg dt_R_parity 79 rfl) rfl rfl ?_
    refine G_icmp_ge (pc := 140) 202 X (dg dt_R_parity 80 rfl) (by decide) h (fun h => ?_) (fun h => ?_)
    · exact G_wk (hkx202 v4 h) ⟨rfl, ⟨rfl, ⟨rfl, ⟨rfl, trivial⟩⟩⟩⟩
    · refine G_iconst (pc := 143) 0 X (dg dt_R_parity 81 rfl) (by decide) ?_
      refine G_istore (pc := 144) X (dg dt_R_parity 82 rfl) (Nat.le_of_ble_eq_true rfl) rfl ?_
      refine G_weak (L' := [some (.ref (ad 82)), none, none, some (.int v3), some (.int v4), some (.int v5), some (.int v6), some (.int 0)]) ⟨rfl, ⟨rfl, ⟨rfl, ⟨rfl, ⟨rfl, ⟨rfl, trivial⟩⟩⟩⟩⟩⟩ ?_
      refine s_R_parity_L146  X hq  (fun v4_20 h => ?_) _ _ _ h
      refine G_iinc (pc := 196) (v6 + 1) X (dg dt_R_parity 111 rfl) rfl (Nat.le_of_ble_eq_true rfl) rfl rfl ?_
      refine G_goto (pc := 199) 137 X (dg dt_R_parity 112 rfl) (by decide) ?_
      exact G_wk (ih v4_20 (v6 + 1) h) ⟨rfl, ⟨rfl, ⟨rfl, ⟨rfl, ⟨rfl, trivial⟩⟩⟩⟩⟩
set_option maxRecDepth 100000 in
set_option maxHeartbeats 4000000 in
theorem s_R_parity_L128 {θ : Th} {ad : Nat → Nat}  {rv : Int32} {σe : St} (X : Cx θ [] cX12_parity 8 "QuasigroveModel" 3 66)
    {v3 : Int32} {σ : St} (hq : Rq θ (g_SH, ad) (some .int) (some (.int rv)) σe) {kx208 : Int32 → Option (Int32 × St)} (hkx208 : ∀ (v4 : Int32), kx208 v4 = some (rv, σe) → G θ (0, 0) (g_SH, ad) σ 208 [none, none, none, none, some (.int v4), none, none, none] []) :
    ∀ (n : Nat) (v4 : Int32) (v5 : Int32), f_R_parity_L128 v3 σ kx208 n v4 v5 = some (rv, σe) → G θ (0, 0) (g_SH, ad) σ 128 [some (.ref (ad 82)), none, none, some (.int v3), some (.int v4), some (.int v5), none, none] [] := by
  intro n
  induction n with
  | zero => intro v4 v5 h; rw [f_R_parity_L128] at h; cases h
  | succ n ih =>
    intro v4 v5 h
    rw [f_R_parity_L128] at h
    refine G_iload (pc := 128) X (dg dt_R_parity 73 rfl) rfl ?_
    refine G_iload_n (pc := 130) 3 X (dg dt_R_parity 74 rfl) rfl rfl ?_
    refine G_icmp_ge (pc := 131) 208 X (dg dt_R_parity 75 rfl) (by decide) h (fun h => ?_) (fun h => ?_)
    · exact G_wk (hkx208 v4 h) ⟨rfl, trivial⟩
    · refine G_iconst (pc := 134) 0 X (dg dt_R_parity 76 rfl) (by decide) ?_
      refine G_istore (pc := 135) X (dg dt_R_parity 77 rfl) (Nat.le_of_ble_eq_true rfl) rfl ?_
      refine G_weak (L' := [some (.ref (ad 82)), none, none, some (.int v3), some (.int v4), some (.int v5), some (.int 0), none]) ⟨rfl, ⟨rfl, ⟨rfl, ⟨rfl, ⟨rfl, trivial⟩⟩⟩⟩⟩ ?_
      refine s_R_parity_L137  X hq  (fun v4_21 h => ?_) _ _ _ h
      refine G_iinc (pc := 202) (v5 + 1) X (dg dt_R_parity 113 rfl) rfl (Nat.le_of_ble_eq_true rfl) rfl rfl ?_
      refine G_goto (pc := 205) 128 X (dg dt_R_parity 114 rfl) (by decide) ?_
      exact G_wk (ih v4_21 (v5 + 1) h) ⟨rfl, ⟨rfl, ⟨rfl, ⟨rfl, trivial⟩⟩⟩⟩
set_option maxRecDepth 100000 in
set_option maxHeartbeats 4000000 in
theorem s_R_parity (l : Launch) (ad : Nat → Nat) (σ : St) (v1 : Int32) (v2 : Int32)  {rv : Int32} {σe : St} (h : f_R_parity σ v1 v2 = some (rv, σe)) : Rt l [] yX12_parity cX12_parity 8 (some .int) 3 66 (g_SH, ad) [.ref (ad 82), .int v1, .int v2] σ (some (.int rv)) σe := by
  refine Rt.intro (L := [some (.ref (ad 82)), some (.int v1), some (.int v2), none, none, none, none, none]) (by decide +kernel) (Nat.le_of_ble_eq_true rfl) rfl (fun θ hl X hq => ?_)
  subst hl
  unfold f_R_parity at h
  refine G_aload_n (pc := 0) 0 X (dg dt_R_parity 0 rfl) rfl rfl ?_
  refine G_iload_n (pc := 1) 1 X (dg dt_R_parity 1 rfl) rfl rfl ?_
  refine G_aload_n (pc := 2) 0 X (dg dt_R_parity 2 rfl) rfl rfl ?_
  refine G_iload_n (pc := 3) 2 X (dg dt_R_parity 3 rfl) rfl rfl ?_
  refine G_iconst (pc := 4) 0 X (dg dt_R_parity 4 rfl) (by decide) ?_
  refine G_iconst (pc := 5) 2 X (dg dt_R_parity 5 rfl) (by decide) ?_
  obtain ⟨r_2, hc_1, h⟩ := cap_go h
  refine G_callV (pc := 6) (S := [.int v1, .ref (ad 82)]) [.int v2, .int 0, .int 2] nosub X  (dg dt_R_parity 6 rfl) cb_R_between cv_R_between w_1159 (s_R_between _ ad _ _ _ _ hc_1) rfl ⟨Nat.le_of_ble_eq_true rfl, Nat.le_of_ble_eq_true rfl⟩ sh_82 rfl (Nat.le_of_ble_eq_true rfl) Rc0 ?_
  obtain ⟨r_4, σ_5, hc_3, h⟩ := cal_go h
  refine G_callV (pc := 9) (S := []) [.int v1, .int r_2] nosub X  (dg dt_R_parity 7 rfl) cb_R_canAskWith cv_R_canAskWith w_1352 (s_R_canAskWith _ ad _ _ _ hc_3) rfl ⟨Nat.le_of_ble_eq_true rfl, Nat.le_of_ble_eq_true rfl⟩ sh_82 rfl (Nat.le_of_ble_eq_true rfl) Rc0 ?_
  refine G_if_ne (pc := 12) 17 X (dg dt_R_parity 8 rfl) (by decide) h (fun h => ?_) (fun h => ?_)
  · refine G_aload_n (pc := 17) 0 X (dg dt_R_parity 11 rfl) rfl rfl ?_
    refine G_getR (pc := 18) 2 X (dg dt_R_parity 12 rfl) fc_8 w_1065 rfl (Nat.le_of_ble_eq_true rfl) sh_82 rfl ?_
    refine G_iload_n (pc := 21) 1 X (dg dt_R_parity 13 rfl) rfl rfl ?_
    refine G_iald (pc := 22) X (dg dt_R_parity 14 rfl) sh_83 h (fun r_6 h => ?_)
    refine G_istore_n (pc := 23) 3 X (dg dt_R_parity 15 rfl) rfl (Nat.le_of_ble_eq_true rfl) rfl ?_
    refine G_iconst (pc := 24) 0 X (dg dt_R_parity 16 rfl) (by decide) ?_
    refine G_istore (pc := 25) X (dg dt_R_parity 17 rfl) (Nat.le_of_ble_eq_true rfl) rfl ?_
    refine G_weak (L' := [some (.ref (ad 82)), some (.int v1), some (.int v2), some (.int r_6), some (.int 0), none, none, none]) ⟨rfl, ⟨rfl, ⟨rfl, ⟨rfl, ⟨rfl, trivial⟩⟩⟩⟩⟩ ?_
    refine s_R_parity_L27  X hq  (fun σ_15 h => ?_) _ _ _ h
    refine G_iconst (pc := 122) 0 X (dg dt_R_parity 69 rfl) (by decide) ?_
    refine G_istore (pc := 123) X (dg dt_R_parity 70 rfl) (Nat.le_of_ble_eq_true rfl) rfl ?_
    refine G_iconst (pc := 125) 0 X (dg dt_R_parity 71 rfl) (by decide) ?_
    refine G_istore (pc := 126) X (dg dt_R_parity 72 rfl) (Nat.le_of_ble_eq_true rfl) rfl ?_
    refine G_weak (L' := [some (.ref (ad 82)), none, none, some (.int r_6), some (.int 0), some (.int 0), none, none]) ⟨rfl, ⟨rfl, ⟨rfl, ⟨rfl, trivial⟩⟩⟩⟩ ?_
    refine s_R_parity_L128  X hq  (fun v4_22 h => ?_) _ _ _ h
    refine G_iload (pc := 208) X (dg dt_R_parity 115 rfl) rfl ?_
    refine G_iconst (pc := 210) 2 X (dg dt_R_parity 116 rfl) (by decide) ?_
    refine G_irem (pc := 211) X (dg dt_R_parity 117 rfl) h (fun q_23 h => ?_)
    exact G_iret (pc := 212) X hq (dg dt_R_parity 118 rfl) h
  · refine G_iconst (pc := 15) 0 X (dg dt_R_parity 9 rfl) (by decide) ?_
    exact G_iret (pc := 16) X hq (dg dt_R_parity 10 rfl) h
set_option maxRecDepth 100000 in
set_option maxHeartbeats 4000000 in
theorem s_R_areMates_L94 {θ : Th} {ad : Nat → Nat}  {rv : Int32} {σe : St} (X : Cx θ [] cX12_areMates 7 "QuasigroveModel" 2 44)
    {v1 : Int32} {v2 : Int32} {v3 : Int32} {v4 : Int32} (hq : Rq θ (g_SH, ad) (some .boolean) (some (.int rv)) σe) {kx115 : St → Option (Int32 × St)} (hkx115 : ∀ (σ : St), kx115 σ = some (rv, σe) → G θ (0, 0) (g_SH, ad) σ 115 [some (.ref (ad 82)), some (.int v1), some (.int v2), some (.int v3), some (.int v4), none, none] []) :
    ∀ (n : Nat) (v5 : Int32) (σ : St), f_R_areMates_L94 v1 v2 v3 v4 kx115 n v5 σ = some (rv, σe) → G θ (0, 0) (g_SH, ad) σ 94 [some (.ref (ad 82)), some (.int v1), some (.int v2), some (.int v3), some (.int v4), some (.int v5), none] [] := by
  intro n
  induction n with
  | zero => intro v5 σ h; rw [f_R_areMates_L94] at h; cases h
  | succ n ih =>
    intro v5 σ h
    rw [f_R_areMates_L94] at h
    refine G_iload (pc := 94) X (dg dt_R_areMates 52 rfl) rfl ?_
    refine G_bipush (pc := 96) 25 X (dg dt_R_areMates 53 rfl) (by decide) ?_
    refine G_icmp_ge (pc := 98) 115 X (dg dt_R_areMates 54 rfl) (by decide) h (fun h => ?_) (fun h => ?_)
    · exact G_wk (hkx115 σ h) ⟨rfl, ⟨rfl, ⟨rfl, ⟨rfl, ⟨rfl, trivial⟩⟩⟩⟩⟩
    · refine G_aload_n (pc := 101) 0 X (dg dt_R_areMates 55 rfl) rfl rfl ?_
      refine G_getR (pc := 102) 25 X (dg dt_R_areMates 56 rfl) fc_8 w_1088 rfl (Nat.le_of_ble_eq_true rfl) sh_82 rfl ?_
      refine G_iload (pc := 105) X (dg dt_R_areMates 57 rfl) rfl ?_
      refine G_iconst (pc := 107) 0 X (dg dt_R_areMates 58 rfl) (by decide) ?_
      refine G_zast (pc := 108) X (dg dt_R_areMates 59 rfl) sh_99 h (fun σ_11 h => ?_)
      refine G_iinc (pc := 109) (v5 + 1) X (dg dt_R_areMates 60 rfl) rfl (Nat.le_of_ble_eq_true rfl) rfl rfl ?_
      refine G_goto (pc := 112) 94 X (dg dt_R_areMates 61 rfl) (by decide) ?_
      exact G_wk (ih (v5 + 1) σ_11 h) ⟨rfl, ⟨rfl, ⟨rfl, ⟨rfl, ⟨rfl, ⟨rfl, trivial⟩⟩⟩⟩⟩⟩
set_option maxRecDepth 100000 in
set_option maxHeartbeats 4000000 in
theorem s_R_areMates_L118 {θ : Th} {ad : Nat → Nat}  {rv : Int32} {σe : St} (X : Cx θ [] cX12_areMates 7 "QuasigroveModel" 2 44)
    {v1 : Int32} {v2 : Int32} {v3 : Int32} (hq : Rq θ (g_SH, ad) (some .boolean) (some (.int rv)) σe) {kx191 : Int32 → St → Option (Int32 × St)} (hkx191 : ∀ (v4 : Int32) (σ : St), kx191 v4 σ = some (rv, σe) → G θ (0, 0) (g_SH, ad) σ 191 [none, none, none, none, some (.int v4), none, none] []) :
    ∀ (n : Nat) (v4 : Int32) (v5 : Int32) (σ : St), f_R_areMates_L118 v1 v2 v3 kx191 n v4 v5 σ = some (rv, σe) → G θ (0, 0) (g_SH, ad) σ 118 [some (.ref (ad 82)), some (.int v1), some (.int v2), some (.int v3), some (.int v4), some (.int v5), none] [] := by
  intro n
  induction n with
  | zero => intro v4 v5 σ h; rw [f_R_areMates_L118] at h; cases h
  | succ n ih =>
    intro v4 v5 σ h
    rw [f_R_areMates_L118] at h
    refine G_iload (pc := 118) X (dg dt_R_areMates 64 rfl) rfl ?_
    refine G_iload_n (pc := 120) 3 X (dg dt_R_areMates 65 rfl) rfl rfl ?_
    refine G_iload_n (pc := 121) 3 X (dg dt_R_areMates 66 rfl) rfl rfl ?_
    refine G_imul (pc := 122) X (dg dt_R_areMates 67 rfl) ?_
    refine G_icmp_ge (pc := 123) 191 X (dg dt_R_areMates 68 rfl) (by decide) h (fun h => ?_) (fun h => ?_)
    · exact G_wk (hkx191 v4 σ h) ⟨rfl, trivial⟩
    · refine G_iload_n (pc := 126) 3 X (dg dt_R_areMates 69 rfl) rfl rfl ?_
      refine G_aload_n (pc := 127) 0 X (dg dt_R_areMates 70 rfl) rfl rfl ?_
      refine G_getR (pc := 128) 3 X (dg dt_R_areMates 71 rfl) fc_8 w_1066 rfl (Nat.le_of_ble_eq_true rfl) sh_82 rfl ?_
      refine G_bipush (pc := 131) 25 X (dg dt_R_areMates 72 rfl) (by decide) ?_
      refine G_iload_n (pc := 133) 1 X (dg dt_R_areMates 73 rfl) rfl rfl ?_
      refine G_imul (pc := 134) X (dg dt_R_areMates 74 rfl) ?_
      refine G_iload (pc := 135) X (dg dt_R_areMates 75 rfl) rfl ?_
      refine G_iadd (pc := 137) X (dg dt_R_areMates 76 rfl) ?_
      refine G_iald (pc := 138) X (dg dt_R_areMates 77 rfl) sh_84 h (fun r_13 h => ?_)
      refine G_imul (pc := 139) X (dg dt_R_areMates 78 rfl) ?_
      refine G_aload_n (pc := 140) 0 X (dg dt_R_areMates 79 rfl) rfl rfl ?_
      refine G_getR (pc := 141) 3 X (dg dt_R_areMates 80 rfl) fc_8 w_1066 rfl (Nat.le_of_ble_eq_true rfl) sh_82 rfl ?_
      refine G_bipush (pc := 144) 25 X (dg dt_R_areMates 81 rfl) (by decide) ?_
      refine G_iload_n (pc := 146) 2 X (dg dt_R_areMates 82 rfl) rfl rfl ?_
      refine G_imul (pc := 147) X (dg dt_R_areMates 83 rfl) ?_
      refine G_iload (pc := 148) X (dg dt_R_areMates 84 rfl) rfl ?_
      refine G_iadd (pc := 150) X (dg dt_R_areMates 85 rfl) ?_
      refine G_iald (pc := 151) X (dg dt_R_areMates 86 rfl) sh_84 h (fun r_14 h => ?_)
      refine G_iadd (pc := 152) X (dg dt_R_areMates 87 rfl) ?_
      refine G_istore_lt (pc := 153) X (dg dt_R_areMates 88 rfl) (Nat.le_of_ble_eq_true rfl) rfl h (fun v6_15 h => ?_)
      refine G_iload (pc := 155) X (dg dt_R_areMates 89 rfl) rfl ?_
      refine jn_go (fun j175_16 => ∀ (s_17 : Int32), j175_16 s_17 = some (rv, σe) → G θ (0, 0) (g_SH, ad) σ 175 [some (.ref (ad 82)), some (.int v1), some (.int v2), some (.int v3), none, some (.int v5), some (.int v6_15)] [.int s_17]) h ?_ (fun j175_16 hj175_16 h => ?_)
      · intro s_17 h
        refine G_istore (pc := 175) X (dg dt_R_areMates 99 rfl) (Nat.le_of_ble_eq_true rfl) rfl ?_
        refine G_aload_n (pc := 177) 0 X (dg dt_R_areMates 100 rfl) rfl rfl ?_
        refine G_getR (pc := 178) 25 X (dg dt_R_areMates 101 rfl) fc_8 w_1088 rfl (Nat.le_of_ble_eq_true rfl) sh_82 rfl ?_
        refine G_iload (pc := 181) X (dg dt_R_areMates 102 rfl) rfl ?_
        refine G_iconst (pc := 183) 1 X (dg dt_R_areMates 103 rfl) (by decide) ?_
        refine G_zast (pc := 184) X (dg dt_R_areMates 104 rfl) sh_99 h (fun σ_18 h => ?_)
        refine G_iinc (pc := 185) (v5 + 1) X (dg dt_R_areMates 105 rfl) rfl (Nat.le_of_ble_eq_true rfl) rfl rfl ?_
        refine G_goto (pc := 188) 118 X (dg dt_R_areMates 106 rfl) (by decide) ?_
        exact G_wk (ih s_17 (v5 + 1) σ_18 h) ⟨rfl, ⟨rfl, ⟨rfl, ⟨rfl, ⟨rfl, ⟨rfl, trivial⟩⟩⟩⟩⟩⟩
      refine jn_go (fun j174_19 => j174_19 = some (rv, σe) → G θ (0, 0) (g_SH, ad) σ 174 [some (.ref (ad 82)), some (.int v1), some (.int v2), some (.int v3), none, some (.int v5), some (.int v6_15)] []) h ?_ (fun j174_19 hj174_19 h => ?_)
      · intro  h
        refine G_iconst (pc := 174) 0 X (dg dt_R_areMates 98 rfl) (by decide) ?_
        exact G_wk (hj175_16 0 h) ⟨rfl, ⟨rfl, ⟨rfl, ⟨rfl, ⟨rfl, ⟨rfl, trivial⟩⟩⟩⟩⟩⟩
      refine G_if_eq (pc := 157) 174 X (dg dt_R_areMates 90 rfl) (by decide) h (fun h => ?_) (fun h => ?_)
      · exact G_wk (hj174_19  h) ⟨rfl, ⟨rfl, ⟨rfl, ⟨rfl, ⟨rfl, ⟨rfl, trivial⟩⟩⟩⟩⟩⟩
      · refine G_aload_n (pc := 160) 0 X (dg dt_R_areMates 91 rfl) rfl rfl ?_
        refine G_getR (pc := 161) 25 X (dg dt_R_areMates 92 rfl) fc_8 w_1088 rfl (Nat.le_of_ble_eq_true rfl) sh_82 rfl ?_
        refine G_iload (pc := 164) X (dg dt_R_areMates 93 rfl) rfl ?_
        refine G_zald (pc := 166) X (dg dt_R_areMates 94 rfl) sh_99 h (fun r_20 h => ?_)
        refine G_if_ne (pc := 167) 174 X (dg dt_R_areMates 95 rfl) (by decide) h (fun h => ?_) (fun h => ?_)
        · exact G_wk (hj174_19  h) ⟨rfl, ⟨rfl, ⟨rfl, ⟨rfl, ⟨rfl, ⟨rfl, trivial⟩⟩⟩⟩⟩⟩
        · refine G_iconst (pc := 170) 1 X (dg dt_R_areMates 96 rfl) (by decide) ?_
          refine G_goto (pc := 171) 175 X (dg dt_R_areMates 97 rfl) (by decide) ?_
          exact G_wk (hj175_16 1 h) ⟨rfl, ⟨rfl, ⟨rfl, ⟨rfl, ⟨rfl, ⟨rfl, trivial⟩⟩⟩⟩⟩⟩
set_option maxRecDepth 100000 in
set_option maxHeartbeats 4000000 in
theorem s_R_areMates (l : Launch) (ad : Nat → Nat) (σ : St) (v1 : Int32) (v2 : Int32)  {rv : Int32} {σe : St} (h : f_R_areMates σ v1 v2 = some (rv, σe)) : Rt l [] yX12_areMates cX12_areMates 7 (some .boolean) 2 44 (g_SH, ad) [.ref (ad 82), .int v1, .int v2] σ (some (.int rv)) σe := by
  refine Rt.intro (L := [some (.ref (ad 82)), some (.int v1), some (.int v2), none, none, none, none]) (by decide +kernel) (Nat.le_of_ble_eq_true rfl) rfl (fun θ hl X hq => ?_)
  subst hl
  unfold f_R_areMates at h
  refine G_aload_n (pc := 0) 0 X (dg dt_R_areMates 0 rfl) rfl rfl ?_
  refine G_aload_n (pc := 1) 0 X (dg dt_R_areMates 1 rfl) rfl rfl ?_
  refine G_iload_n (pc := 2) 1 X (dg dt_R_areMates 2 rfl) rfl rfl ?_
  obtain ⟨r_2, hc_1, h⟩ := cap_go h
  refine G_callV (pc := 3) (S := [.ref (ad 82)]) [.int v1] nosub X  (dg dt_R_areMates 3 rfl) cb_R_isGrid cv_R_isGrid w_1183 (s_R_isGrid _ ad _ _ hc_1) rfl ⟨Nat.le_of_ble_eq_true rfl, Nat.le_of_ble_eq_true rfl⟩ sh_82 rfl (Nat.le_of_ble_eq_true rfl) Rc0 ?_
  refine jn_go (fun j22_3 => ∀ (s_4 : Int32), j22_3 s_4 = some (rv, σe) → G θ (0, 0) (g_SH, ad) σ 22 [some (.ref (ad 82)), some (.int v1), some (.int v2), none, none, none, none] [.int s_4, .ref (ad 82)]) h ?_ (fun j22_3 hj22_3 h => ?_)
  · intro s_4 h
    refine G_put (pc := 22) 0 X (dg dt_R_areMates 12 rfl) fc_8 w_1063 rfl (Nat.le_of_ble_eq_true rfl) rfl rfl sh_82 rfl h (fun σ_5 h => ?_)
    refine G_aload_n (pc := 25) 0 X (dg dt_R_areMates 13 rfl) rfl rfl ?_
    refine G_getI (pc := 26) 0 X (dg dt_R_areMates 14 rfl) fc_8 w_1063 rfl (Nat.le_of_ble_eq_true rfl) sh_82 rfl ?_
    refine jn_go (fun j57_6 => ∀ (σ_7 : St), j57_6 σ_7 = some (rv, σe) → G θ (0, 0) (g_SH, ad) σ_7 57 [some (.ref (ad 82)), some (.int v1), some (.int v2), none, none, none, none] []) h ?_ (fun j57_6 hj57_6 h => ?_)
    · intro σ_7 h
      refine G_aload_n (pc := 57) 0 X (dg dt_R_areMates 29 rfl) rfl rfl ?_
      refine G_getI (pc := 58) 0 X (dg dt_R_areMates 30 rfl) fc_8 w_1063 rfl (Nat.le_of_ble_eq_true rfl) sh_82 rfl ?_
      refine G_if_gt (pc := 61) 79 X (dg dt_R_areMates 31 rfl) (by decide) h (fun h => ?_) (fun h => ?_)
      · refine G_iconst (pc := 79) 0 X (dg dt_R_areMates 41 rfl) (by decide) ?_
        exact G_zretl (pc := 80) X hq (dg dt_R_areMates 42 rfl) rfl h
      · refine G_aload_n (pc := 64) 0 X (dg dt_R_areMates 32 rfl) rfl rfl ?_
        refine G_getR (pc := 65) 2 X (dg dt_R_areMates 33 rfl) fc_8 w_1065 rfl (Nat.le_of_ble_eq_true rfl) sh_82 rfl ?_
        refine G_iload_n (pc := 68) 1 X (dg dt_R_areMates 34 rfl) rfl rfl ?_
        refine G_iald (pc := 69) X (dg dt_R_areMates 35 rfl) sh_83 h (fun r_8 h => ?_)
        refine G_aload_n (pc := 70) 0 X (dg dt_R_areMates 36 rfl) rfl rfl ?_
        refine G_getR (pc := 71) 2 X (dg dt_R_areMates 37 rfl) fc_8 w_1065 rfl (Nat.le_of_ble_eq_true rfl) sh_82 rfl ?_
        refine G_iload_n (pc := 74) 2 X (dg dt_R_areMates 38 rfl) rfl rfl ?_
        refine G_iald (pc := 75) X (dg dt_R_areMates 39 rfl) sh_83 h (fun r_9 h => ?_)
        refine G_icmp_eq (pc := 76) 81 X (dg dt_R_areMates 40 rfl) (by decide) h (fun h => ?_) (fun h => ?_)
        · refine G_aload_n (pc := 81) 0 X (dg dt_R_areMates 43 rfl) rfl rfl ?_
          refine G_getR (pc := 82) 2 X (dg dt_R_areMates 44 rfl) fc_8 w_1065 rfl (Nat.le_of_ble_eq_true rfl) sh_82 rfl ?_
          refine G_iload_n (pc := 85) 1 X (dg dt_R_areMates 45 rfl) rfl rfl ?_
          refine G_iald (pc := 86) X (dg dt_R_areMates 46 rfl) sh_83 h (fun r_10 h => ?_)
          refine G_istore_n (pc := 87) 3 X (dg dt_R_areMates 47 rfl) rfl (Nat.le_of_ble_eq_true rfl) rfl ?_
          refine G_iconst (pc := 88) 1 X (dg dt_R_areMates 48 rfl) (by decide) ?_
          refine G_istore (pc := 89) X (dg dt_R_areMates 49 rfl) (Nat.le_of_ble_eq_true rfl) rfl ?_
          refine G_iconst (pc := 91) 0 X (dg dt_R_areMates 50 rfl) (by decide) ?_
          refine G_istore (pc := 92) X (dg dt_R_areMates 51 rfl) (Nat.le_of_ble_eq_true rfl) rfl ?_
          refine G_weak (L' := [some (.ref (ad 82)), some (.int v1), some (.int v2), some (.int r_10), some (.int 1), some (.int 0), none]) ⟨rfl, ⟨rfl, ⟨rfl, ⟨rfl, ⟨rfl, ⟨rfl, trivial⟩⟩⟩⟩⟩⟩ ?_
          refine s_R_areMates_L94  X hq  (fun σ_12 h => ?_) _ _ _ h
          refine G_iconst (pc := 115) 0 X (dg dt_R_areMates 62 rfl) (by decide) ?_
          refine G_istore (pc := 116) X (dg dt_R_areMates 63 rfl) (Nat.le_of_ble_eq_true rfl) rfl ?_
          refine G_weak (L' := [some (.ref (ad 82)), some (.int v1), some (.int v2), some (.int r_10), some (.int 1), some (.int 0), none]) ⟨rfl, ⟨rfl, ⟨rfl, ⟨rfl, ⟨rfl, ⟨rfl, trivial⟩⟩⟩⟩⟩⟩ ?_
          refine s_R_areMates_L118  X hq  (fun v4_21 σ_22 h => ?_) _ _ _ _ h
          refine G_iload (pc := 191) X (dg dt_R_areMates 107 rfl) rfl ?_
          exact G_zret (pc := 193) X hq (dg dt_R_areMates 108 rfl) h
        · refine G_iconst (pc := 79) 0 X (dg dt_R_areMates 41 rfl) (by decide) ?_
          exact G_zretl (pc := 80) X hq (dg dt_R_areMates 42 rfl) rfl h
    refine G_if_ne (pc := 29) 57 X (dg dt_R_areMates 15 rfl) (by decide) h (fun h => ?_) (fun h => ?_)
    · exact G_wk (hj57_6 σ_5 h) ⟨rfl, ⟨rfl, ⟨rfl, trivial⟩⟩⟩
    · refine G_aload_n (pc := 32) 0 X (dg dt_R_areMates 16 rfl) rfl rfl ?_
      refine G_aload_n (pc := 33) 0 X (dg dt_R_areMates 17 rfl) rfl rfl ?_
      refine G_iload_n (pc := 34) 1 X (dg dt_R_areMates 18 rfl) rfl rfl ?_
      obtain ⟨r_24, hc_23, h⟩ := cap_go h
      refine G_callV (pc := 35) (S := [.ref (ad 82)]) [.int v1] nosub X  (dg dt_R_areMates 19 rfl) cb_R_isSquare cv_R_isSquare w_1247 (s_R_isSquare _ ad _ _ hc_23) rfl ⟨Nat.le_of_ble_eq_true rfl, Nat.le_of_ble_eq_true rfl⟩ sh_82 rfl (Nat.le_of_ble_eq_true rfl) Rc0 ?_
      refine jn_go (fun j54_25 => ∀ (s_26 : Int32), j54_25 s_26 = some (rv, σe) → G θ (0, 0) (g_SH, ad) σ_5 54 [some (.ref (ad 82)), some (.int v1), some (.int v2), none, none, none, none] [.int s_26, .ref (ad 82)]) h ?_ (fun j54_25 hj54_25 h => ?_)
      · intro s_26 h
        refine G_put (pc := 54) 0 X (dg dt_R_areMates 28 rfl) fc_8 w_1063 rfl (Nat.le_of_ble_eq_true rfl) rfl rfl sh_82 rfl h (fun σ_27 h => ?_)
        exact G_wk (hj57_6 σ_27 h) ⟨rfl, ⟨rfl, ⟨rfl, trivial⟩⟩⟩
      refine jn_go (fun j49_28 => j49_28 = some (rv, σe) → G θ (0, 0) (g_SH, ad) σ_5 49 [some (.ref (ad 82)), some (.int v1), some (.int v2), none, none, none, none] [.ref (ad 82)]) h ?_ (fun j49_28 hj49_28 h => ?_)
      · intro  h
        refine G_iconst (pc := 49) 2 X (dg dt_R_areMates 25 rfl) (by decide) ?_
        refine G_goto (pc := 50) 54 X (dg dt_R_areMates 26 rfl) (by decide) ?_
        exact G_wk (hj54_25 2 h) ⟨rfl, ⟨rfl, ⟨rfl, trivial⟩⟩⟩
      refine G_if_eq (pc := 38) 49 X (dg dt_R_areMates 20 rfl) (by decide) h (fun h => ?_) (fun h => ?_)
      · exact G_wk (hj49_28  h) ⟨rfl, ⟨rfl, ⟨rfl, trivial⟩⟩⟩
      · refine G_aload_n (pc := 41) 0 X (dg dt_R_areMates 21 rfl) rfl rfl ?_
        refine G_iload_n (pc := 42) 2 X (dg dt_R_areMates 22 rfl) rfl rfl ?_
        obtain ⟨r_30, hc_29, h⟩ := cap_go h
        refine G_callV (pc := 43) (S := [.ref (ad 82)]) [.int v2] nosub X  (dg dt_R_areMates 23 rfl) cb_R_isSquare cv_R_isSquare w_1247 (s_R_isSquare _ ad _ _ hc_29) rfl ⟨Nat.le_of_ble_eq_true rfl, Nat.le_of_ble_eq_true rfl⟩ sh_82 rfl (Nat.le_of_ble_eq_true rfl) Rc0 ?_
        refine G_if_ne (pc := 46) 53 X (dg dt_R_areMates 24 rfl) (by decide) h (fun h => ?_) (fun h => ?_)
        · refine G_iconst (pc := 53) 0 X (dg dt_R_areMates 27 rfl) (by decide) ?_
          exact G_wk (hj54_25 0 h) ⟨rfl, ⟨rfl, ⟨rfl, trivial⟩⟩⟩
        · exact G_wk (hj49_28  h) ⟨rfl, ⟨rfl, ⟨rfl, trivial⟩⟩⟩
  refine jn_go (fun j17_31 => j17_31 = some (rv, σe) → G θ (0, 0) (g_SH, ad) σ 17 [some (.ref (ad 82)), some (.int v1), some (.int v2), none, none, none, none] [.ref (ad 82)]) h ?_ (fun j17_31 hj17_31 h => ?_)
  · intro  h
    refine G_iconst (pc := 17) 1 X (dg dt_R_areMates 9 rfl) (by decide) ?_
    refine G_goto (pc := 18) 22 X (dg dt_R_areMates 10 rfl) (by decide) ?_
    exact G_wk (hj22_3 1 h) ⟨rfl, ⟨rfl, ⟨rfl, trivial⟩⟩⟩
  refine G_if_eq (pc := 6) 17 X (dg dt_R_areMates 4 rfl) (by decide) h (fun h => ?_) (fun h => ?_)
  · exact G_wk (hj17_31  h) ⟨rfl, ⟨rfl, ⟨rfl, trivial⟩⟩⟩
  · refine G_aload_n (pc := 9) 0 X (dg dt_R_areMates 5 rfl) rfl rfl ?_
    refine G_iload_n (pc := 10) 2 X (dg dt_R_areMates 6 rfl) rfl rfl ?_
    obtain ⟨r_33, hc_32, h⟩ := cap_go h
    refine G_callV (pc := 11) (S := [.ref (ad 82)]) [.int v2] nosub X  (dg dt_R_areMates 7 rfl) cb_R_isGrid cv_R_isGrid w_1183 (s_R_isGrid _ ad _ _ hc_32) rfl ⟨Nat.le_of_ble_eq_true rfl, Nat.le_of_ble_eq_true rfl⟩ sh_82 rfl (Nat.le_of_ble_eq_true rfl) Rc0 ?_
    refine G_if_ne (pc := 14) 21 X (dg dt_R_areMates 8 rfl) (by decide) h (fun h => ?_) (fun h => ?_)
    · refine G_iconst (pc := 21) 0 X (dg dt_R_areMates 11 rfl) (by decide) ?_
      exact G_wk (hj22_3 0 h) ⟨rfl, ⟨rfl, ⟨rfl, trivial⟩⟩⟩
    · exact G_wk (hj17_31  h) ⟨rfl, ⟨rfl, ⟨rfl, trivial⟩⟩⟩
set_option maxRecDepth 100000 in
set_option maxHeartbeats 4000000 in
theorem s_R_canAsk (l : Launch) (ad : Nat → Nat) (σ : St) (v1 : Int32)  {rv : Int32} {σe : St} (h : f_R_canAsk σ v1 = some (rv, σe)) : Rt l [] yX12_canAsk cX12_canAsk 2 (some .boolean) 2 44 (g_SH, ad) [.ref (ad 82), .int v1] σ (some (.int rv)) σe := by
  refine Rt.intro (L := [some (.ref (ad 82)), some (.int v1)]) (by decide +kernel) (Nat.le_of_ble_eq_true rfl) rfl (fun θ hl X hq => ?_)
  subst hl
  unfold f_R_canAsk at h
  refine G_aload_n (pc := 0) 0 X (dg dt_R_canAsk 0 rfl) rfl rfl ?_
  refine G_aload_n (pc := 1) 0 X (dg dt_R_canAsk 1 rfl) rfl rfl ?_
  refine G_iload_n (pc := 2) 1 X (dg dt_R_canAsk 2 rfl) rfl rfl ?_
  obtain ⟨r_2, hc_1, h⟩ := cap_go h
  refine G_callV (pc := 3) (S := [.ref (ad 82)]) [.int v1] nosub X  (dg dt_R_canAsk 3 rfl) cb_R_isGrid cv_R_isGrid w_1183 (s_R_isGrid _ ad _ _ hc_1) rfl ⟨Nat.le_of_ble_eq_true rfl, Nat.le_of_ble_eq_true rfl⟩ sh_82 rfl (Nat.le_of_ble_eq_true rfl) Rc0 ?_
  refine jn_go (fun j14_3 => ∀ (s_4 : Int32), j14_3 s_4 = some (rv, σe) → G θ (0, 0) (g_SH, ad) σ 14 [some (.ref (ad 82)), some (.int v1)] [.int s_4, .ref (ad 82)]) h ?_ (fun j14_3 hj14_3 h => ?_)
  · intro s_4 h
    refine G_put (pc := 14) 0 X (dg dt_R_canAsk 8 rfl) fc_8 w_1063 rfl (Nat.le_of_ble_eq_true rfl) rfl rfl sh_82 rfl h (fun σ_5 h => ?_)
    refine G_aload_n (pc := 17) 0 X (dg dt_R_canAsk 9 rfl) rfl rfl ?_
    refine G_getI (pc := 18) 0 X (dg dt_R_canAsk 10 rfl) fc_8 w_1063 rfl (Nat.le_of_ble_eq_true rfl) sh_82 rfl ?_
    refine jn_go (fun j41_6 => ∀ (σ_7 : St), j41_6 σ_7 = some (rv, σe) → G θ (0, 0) (g_SH, ad) σ_7 41 [some (.ref (ad 82)), none] []) h ?_ (fun j41_6 hj41_6 h => ?_)
    · intro σ_7 h
      refine G_aload_n (pc := 41) 0 X (dg dt_R_canAsk 21 rfl) rfl rfl ?_
      refine G_getI (pc := 42) 0 X (dg dt_R_canAsk 22 rfl) fc_8 w_1063 rfl (Nat.le_of_ble_eq_true rfl) sh_82 rfl ?_
      refine G_if_ne (pc := 45) 52 X (dg dt_R_canAsk 23 rfl) (by decide) h (fun h => ?_) (fun h => ?_)
      · refine G_iconst (pc := 52) 0 X (dg dt_R_canAsk 26 rfl) (by decide) ?_
        exact G_zretl (pc := 53) X hq (dg dt_R_canAsk 27 rfl) rfl h
      · refine G_iconst (pc := 48) 1 X (dg dt_R_canAsk 24 rfl) (by decide) ?_
        refine G_goto (pc := 49) 53 X (dg dt_R_canAsk 25 rfl) (by decide) ?_
        exact G_zretl (pc := 53) X hq (dg dt_R_canAsk 27 rfl) rfl h
    refine G_if_ne (pc := 21) 41 X (dg dt_R_canAsk 11 rfl) (by decide) h (fun h => ?_) (fun h => ?_)
    · exact G_wk (hj41_6 σ_5 h) ⟨rfl, trivial⟩
    · refine G_aload_n (pc := 24) 0 X (dg dt_R_canAsk 12 rfl) rfl rfl ?_
      refine G_aload_n (pc := 25) 0 X (dg dt_R_canAsk 13 rfl) rfl rfl ?_
      refine G_iload_n (pc := 26) 1 X (dg dt_R_canAsk 14 rfl) rfl rfl ?_
      obtain ⟨r_9, hc_8, h⟩ := cap_go h
      refine G_callV (pc := 27) (S := [.ref (ad 82)]) [.int v1] nosub X  (dg dt_R_canAsk 15 rfl) cb_R_isSquare cv_R_isSquare w_1247 (s_R_isSquare _ ad _ _ hc_8) rfl ⟨Nat.le_of_ble_eq_true rfl, Nat.le_of_ble_eq_true rfl⟩ sh_82 rfl (Nat.le_of_ble_eq_true rfl) Rc0 ?_
      refine jn_go (fun j38_10 => ∀ (s_11 : Int32), j38_10 s_11 = some (rv, σe) → G θ (0, 0) (g_SH, ad) σ_5 38 [some (.ref (ad 82)), none] [.int s_11, .ref (ad 82)]) h ?_ (fun j38_10 hj38_10 h => ?_)
      · intro s_11 h
        refine G_put (pc := 38) 0 X (dg dt_R_canAsk 20 rfl) fc_8 w_1063 rfl (Nat.le_of_ble_eq_true rfl) rfl rfl sh_82 rfl h (fun σ_12 h => ?_)
        exact G_wk (hj41_6 σ_12 h) ⟨rfl, trivial⟩
      refine G_if_ne (pc := 30) 37 X (dg dt_R_canAsk 16 rfl) (by decide) h (fun h => ?_) (fun h => ?_)
      · refine G_iconst (pc := 37) 0 X (dg dt_R_canAsk 19 rfl) (by decide) ?_
        exact G_wk (hj38_10 0 h) ⟨rfl, trivial⟩
      · refine G_iconst (pc := 33) 2 X (dg dt_R_canAsk 17 rfl) (by decide) ?_
        refine G_goto (pc := 34) 38 X (dg dt_R_canAsk 18 rfl) (by decide) ?_
        exact G_wk (hj38_10 2 h) ⟨rfl, trivial⟩
  refine G_if_ne (pc := 6) 13 X (dg dt_R_canAsk 4 rfl) (by decide) h (fun h => ?_) (fun h => ?_)
  · refine G_iconst (pc := 13) 0 X (dg dt_R_canAsk 7 rfl) (by decide) ?_
    exact G_wk (hj14_3 0 h) ⟨rfl, ⟨rfl, trivial⟩⟩
  · refine G_iconst (pc := 9) 1 X (dg dt_R_canAsk 5 rfl) (by decide) ?_
    refine G_goto (pc := 10) 14 X (dg dt_R_canAsk 6 rfl) (by decide) ?_
    exact G_wk (hj14_3 1 h) ⟨rfl, ⟨rfl, trivial⟩⟩
set_option maxRecDepth 100000 in
set_option maxHeartbeats 4000000 in
theorem s_R_layAll_L21 {θ : Th} {ad : Nat → Nat}  {rv : Unit} {σe : St} (X : Cx θ [] cX12_layAll 9 "QuasigroveModel" 0 0)
    {v1 : Int32} (hq : Rq θ (g_SH, ad) none none σe) {kx42 : St → Option (Unit × St)} (hkx42 : ∀ (σ : St), kx42 σ = some (rv, σe) → G θ (0, 0) (g_SH, ad) σ 42 [some (.ref (ad 82)), some (.int v1), none, none, none, none, none, none, none] []) :
    ∀ (n : Nat) (v2 : Int32) (σ : St), f_R_layAll_L21 v1 kx42 n v2 σ = some (rv, σe) → G θ (0, 0) (g_SH, ad) σ 21 [some (.ref (ad 82)), some (.int v1), some (.int v2), none, none, none, none, none, none] [] := by
  intro n
  induction n with
  | zero => intro v2 σ h; rw [f_R_layAll_L21] at h; cases h
  | succ n ih =>
    intro v2 σ h
    rw [f_R_layAll_L21] at h
    refine G_iload_n (pc := 21) 2 X (dg dt_R_layAll 13 rfl) rfl rfl ?_
    refine G_iload_n (pc := 22) 1 X (dg dt_R_layAll 14 rfl) rfl rfl ?_
    refine G_icmp_gt (pc := 23) 42 X (dg dt_R_layAll 15 rfl) (by decide) h (fun h => ?_) (fun h => ?_)
    · exact G_wk (hkx42 σ h) ⟨rfl, ⟨rfl, trivial⟩⟩
    · refine G_aload_n (pc := 26) 0 X (dg dt_R_layAll 16 rfl) rfl rfl ?_
      refine G_dup (pc := 27) X (dg dt_R_layAll 17 rfl) rfl ?_
      refine G_getI (pc := 28) 10 X (dg dt_R_layAll 18 rfl) fc_8 w_1073 rfl (Nat.le_of_ble_eq_true rfl) sh_82 rfl ?_
      refine G_iload_n (pc := 31) 2 X (dg dt_R_layAll 19 rfl) rfl rfl ?_
      refine G_imul (pc := 32) X (dg dt_R_layAll 20 rfl) ?_
      refine G_put (pc := 33) 10 X (dg dt_R_layAll 21 rfl) fc_8 w_1073 rfl (Nat.le_of_ble_eq_true rfl) rfl rfl sh_82 rfl h (fun σ_3 h => ?_)
      refine G_iinc (pc := 36) (v2 + 1) X (dg dt_R_layAll 22 rfl) rfl (Nat.le_of_ble_eq_true rfl) rfl rfl ?_
      refine G_goto (pc := 39) 21 X (dg dt_R_layAll 23 rfl) (by decide) ?_
      exact G_wk (ih (v2 + 1) σ_3 h) ⟨rfl, ⟨rfl, ⟨rfl, trivial⟩⟩⟩
set_option maxRecDepth 100000 in
set_option maxHeartbeats 4000000 in
theorem s_R_layAll_L95 {θ : Th} {ad : Nat → Nat}  {rv : Unit} {σe : St} (X : Cx θ [] cX12_layAll 9 "QuasigroveModel" 0 0)
    {v1 : Int32} {v2 : Int32} {v3 : Int32} {v4 : Int32} {v5 : Int32} {v6 : Int32} {σ : St} (hq : Rq θ (g_SH, ad) none none σe) {kx138 : Int32 → Option (Unit × St)} (hkx138 : ∀ (v8 : Int32), kx138 v8 = some (rv, σe) → G θ (0, 0) (g_SH, ad) σ 138 [some (.ref (ad 82)), some (.int v1), some (.int v2), some (.int v3), some (.int v4), some (.int v5), some (.int v6), none, some (.int v8)] []) :
    ∀ (n : Nat) (v7 : Int32) (v8 : Int32), f_R_layAll_L95 v1 v2 v3 v4 v5 v6 σ kx138 n v7 v8 = some (rv, σe) → G θ (0, 0) (g_SH, ad) σ 95 [some (.ref (ad 82)), some (.int v1), some (.int v2), some (.int v3), some (.int v4), some (.int v5), some (.int v6), some (.int v7), some (.int v8)] [] := by
  intro n
  induction n with
  | zero => intro v7 v8 h; rw [f_R_layAll_L95] at h; cases h
  | succ n ih =>
    intro v7 v8 h
    rw [f_R_layAll_L95] at h
    refine G_iload (pc := 95) X (dg dt_R_layAll 58 rfl) rfl ?_
    refine G_iload (pc := 97) X (dg dt_R_layAll 59 rfl) rfl ?_
    refine G_ishr (pc := 99) X (dg dt_R_layAll 60 rfl) ?_
    refine G_iconst (pc := 100) 1 X (dg dt_R_layAll 61 rfl) (by decide) ?_
    refine G_iand (pc := 101) X (dg dt_R_layAll 62 rfl) ?_
    refine G_iconst (pc := 102) 1 X (dg dt_R_layAll 63 rfl) (by decide) ?_
    refine jn_go (fun j111_8 => j111_8 = some (rv, σe) → G θ (0, 0) (g_SH, ad) σ 111 [some (.ref (ad 82)), some (.int v1), some (.int v2), some (.int v3), some (.int v4), some (.int v5), some (.int v6), some (.int v7), some (.int v8)] []) h ?_ (fun j111_8 hj111_8 h => ?_)
    · intro  h
      refine G_iload (pc := 111) X (dg dt_R_layAll 67 rfl) rfl ?_
      refine G_iload (pc := 113) X (dg dt_R_layAll 68 rfl) rfl ?_
      refine G_iload (pc := 115) X (dg dt_R_layAll 69 rfl) rfl ?_
      refine G_ishr (pc := 117) X (dg dt_R_layAll 70 rfl) ?_
      refine G_iconst (pc := 118) 1 X (dg dt_R_layAll 71 rfl) (by decide) ?_
      refine G_iand (pc := 119) X (dg dt_R_layAll 72 rfl) ?_
      refine G_iconst (pc := 120) 1 X (dg dt_R_layAll 73 rfl) (by decide) ?_
      refine jn_go (fun j129_9 => ∀ (s_10 : Int32), j129_9 s_10 = some (rv, σe) → G θ (0, 0) (g_SH, ad) σ 129 [some (.ref (ad 82)), some (.int v1), some (.int v2), some (.int v3), some (.int v4), some (.int v5), some (.int v6), none, some (.int v8)] [.int s_10, .int v7]) h ?_ (fun j129_9 hj129_9 h => ?_)
      · intro s_10 h
        refine G_isub (pc := 129) X (dg dt_R_layAll 78 rfl) ?_
        refine G_istore (pc := 130) X (dg dt_R_layAll 79 rfl) (Nat.le_of_ble_eq_true rfl) rfl ?_
        refine G_iinc (pc := 132) (v8 + 1) X (dg dt_R_layAll 80 rfl) rfl (Nat.le_of_ble_eq_true rfl) rfl rfl ?_
        refine G_goto (pc := 135) 95 X (dg dt_R_layAll 81 rfl) (by decide) ?_
        exact G_wk (ih (v7 - s_10) (v8 + 1) h) ⟨rfl, ⟨rfl, ⟨rfl, ⟨rfl, ⟨rfl, ⟨rfl, ⟨rfl, ⟨rfl, ⟨rfl, trivial⟩⟩⟩⟩⟩⟩⟩⟩⟩
      refine G_icmp_ne (pc := 121) 128 X (dg dt_R_layAll 74 rfl) (by decide) h (fun h => ?_) (fun h => ?_)
      · refine G_iconst (pc := 128) 1 X (dg dt_R_layAll 77 rfl) (by decide) ?_
        exact G_wk (hj129_9 1 h) ⟨rfl, ⟨rfl, ⟨rfl, ⟨rfl, ⟨rfl, ⟨rfl, ⟨rfl, ⟨rfl, trivial⟩⟩⟩⟩⟩⟩⟩⟩
      · refine G_iconst (pc := 124) 0 X (dg dt_R_layAll 75 rfl) (by decide) ?_
        refine G_goto (pc := 125) 129 X (dg dt_R_layAll 76 rfl) (by decide) ?_
        exact G_wk (hj129_9 0 h) ⟨rfl, ⟨rfl, ⟨rfl, ⟨rfl, ⟨rfl, ⟨rfl, ⟨rfl, ⟨rfl, trivial⟩⟩⟩⟩⟩⟩⟩⟩
    refine G_icmp_eq (pc := 103) 111 X (dg dt_R_layAll 64 rfl) (by decide) h (fun h => ?_) (fun h => ?_)
    · exact G_wk (hj111_8  h) ⟨rfl, ⟨rfl, ⟨rfl, ⟨rfl, ⟨rfl, ⟨rfl, ⟨rfl, ⟨rfl, ⟨rfl, trivial⟩⟩⟩⟩⟩⟩⟩⟩⟩
    · refine G_iload (pc := 106) X (dg dt_R_layAll 65 rfl) rfl ?_
      refine G_if_le (pc := 108) 138 X (dg dt_R_layAll 66 rfl) (by decide) h (fun h => ?_) (fun h => ?_)
      · exact G_wk (hkx138 v8 h) ⟨rfl, ⟨rfl, ⟨rfl, ⟨rfl, ⟨rfl, ⟨rfl, ⟨rfl, ⟨rfl, trivial⟩⟩⟩⟩⟩⟩⟩⟩
      · exact G_wk (hj111_8  h) ⟨rfl, ⟨rfl, ⟨rfl, ⟨rfl, ⟨rfl, ⟨rfl, ⟨rfl, ⟨rfl, ⟨rfl, trivial⟩⟩⟩⟩⟩⟩⟩⟩⟩
set_option maxRecDepth 100000 in
set_option maxHeartbeats 4000000 in
theorem s_R_layAll_L66 {θ : Th} {ad : Nat → Nat}  {rv : Unit} {σe : St} (X : Cx θ [] cX12_layAll 9 "QuasigroveModel" 0 0)
    {v1 : Int32} {v2 : Int32} (hq : Rq θ (g_SH, ad) none none σe) {kx166 : St → Option (Unit × St)} (hkx166 : ∀ (σ : St), kx166 σ = some (rv, σe) → G θ (0, 0) (g_SH, ad) σ 166 [some (.ref (ad 82)), some (.int v1), some (.int v2), none, none, none, none, none, none] []) :
    ∀ (n : Nat) (v3 : Int32) (v4 : Int32) (v5 : Int32) (v6 : Int32) (σ : St), f_R_layAll_L66 v1 v2 kx166 n v3 v4 v5 v6 σ = some (rv, σe) → G θ (0, 0) (g_SH, ad) σ 66 [some (.ref (ad 82)), some (.int v1), some (.int v2), some (.int v3), some (.int v4), some (.int v5), some (.int v6), none, none] [] := by
  intro n
  induction n with
  | zero => intro v3 v4 v5 v6 σ h; rw [f_R_layAll_L66] at h; cases h
  | succ n ih =>
    intro v3 v4 v5 v6 σ h
    rw [f_R_layAll_L66] at h
    refine G_iload (pc := 66) X (dg dt_R_layAll 39 rfl) rfl ?_
    refine G_iload_n (pc := 68) 1 X (dg dt_R_layAll 40 rfl) rfl rfl ?_
    refine G_icmp_ge (pc := 69) 166 X (dg dt_R_layAll 41 rfl) (by decide) h (fun h => ?_) (fun h => ?_)
    · exact G_wk (hkx166 σ h) ⟨rfl, ⟨rfl, ⟨rfl, trivial⟩⟩⟩
    · refine G_iload (pc := 72) X (dg dt_R_layAll 42 rfl) rfl ?_
      refine G_iload_n (pc := 74) 1 X (dg dt_R_layAll 43 rfl) rfl rfl ?_
      refine G_iload (pc := 75) X (dg dt_R_layAll 44 rfl) rfl ?_
      refine G_isub (pc := 77) X (dg dt_R_layAll 45 rfl) ?_
      refine G_idiv (pc := 78) X (dg dt_R_layAll 46 rfl) h (fun q_5 h => ?_)
      refine G_istore (pc := 79) X (dg dt_R_layAll 47 rfl) (Nat.le_of_ble_eq_true rfl) rfl ?_
      refine G_iload_n (pc := 81) 3 X (dg dt_R_layAll 48 rfl) rfl rfl ?_
      refine G_iload (pc := 82) X (dg dt_R_layAll 49 rfl) rfl ?_
      refine G_idiv (pc := 84) X (dg dt_R_layAll 50 rfl) h (fun q_6 h => ?_)
      refine G_istore (pc := 85) X (dg dt_R_layAll 51 rfl) (Nat.le_of_ble_eq_true rfl) rfl ?_
      refine G_iload_n (pc := 87) 3 X (dg dt_R_layAll 52 rfl) rfl rfl ?_
      refine G_iload (pc := 88) X (dg dt_R_layAll 53 rfl) rfl ?_
      refine G_irem (pc := 90) X (dg dt_R_layAll 54 rfl) h (fun q_7 h => ?_)
      refine G_istore_n (pc := 91) 3 X (dg dt_R_layAll 55 rfl) rfl (Nat.le_of_ble_eq_true rfl) rfl ?_
      refine G_iconst (pc := 92) 0 X (dg dt_R_layAll 56 rfl) (by decide) ?_
      refine G_istore (pc := 93) X (dg dt_R_layAll 57 rfl) (Nat.le_of_ble_eq_true rfl) rfl ?_
      refine G_weak (L' := [some (.ref (ad 82)), some (.int v1), some (.int v2), some (.int q_7), some (.int q_5), some (.int v5), some (.int v6), some (.int q_6), some (.int 0)]) ⟨rfl, ⟨rfl, ⟨rfl, ⟨rfl, ⟨rfl, ⟨rfl, ⟨rfl, ⟨rfl, ⟨rfl, trivial⟩⟩⟩⟩⟩⟩⟩⟩⟩ ?_
      refine s_R_layAll_L95  X hq  (fun v8_11 h => ?_) _ _ _ h
      refine G_iload (pc := 138) X (dg dt_R_layAll 82 rfl) rfl ?_
      refine G_iconst (pc := 140) 1 X (dg dt_R_layAll 83 rfl) (by decide) ?_
      refine G_iload (pc := 141) X (dg dt_R_layAll 84 rfl) rfl ?_
      refine G_ishl (pc := 143) X (dg dt_R_layAll 85 rfl) ?_
      refine G_ior (pc := 144) X (dg dt_R_layAll 86 rfl) ?_
      refine G_istore_lt (pc := 145) X (dg dt_R_layAll 87 rfl) (Nat.le_of_ble_eq_true rfl) rfl h (fun v5_12 h => ?_)
      refine G_aload_n (pc := 147) 0 X (dg dt_R_layAll 88 rfl) rfl rfl ?_
      refine G_getR (pc := 148) 11 X (dg dt_R_layAll 89 rfl) fc_8 w_1074 rfl (Nat.le_of_ble_eq_true rfl) sh_82 rfl ?_
      refine G_iconst (pc := 151) 5 X (dg dt_R_layAll 90 rfl) (by decide) ?_
      refine G_iload_n (pc := 152) 2 X (dg dt_R_layAll 91 rfl) rfl rfl ?_
      refine G_imul (pc := 153) X (dg dt_R_layAll 92 rfl) ?_
      refine G_iload (pc := 154) X (dg dt_R_layAll 93 rfl) rfl ?_
      refine G_iadd (pc := 156) X (dg dt_R_layAll 94 rfl) ?_
      refine G_iload (pc := 157) X (dg dt_R_layAll 95 rfl) rfl ?_
      refine G_iast (pc := 159) X (dg dt_R_layAll 96 rfl) sh_89 h (fun σ_13 h => ?_)
      refine G_iinc (pc := 160) (v6 + 1) X (dg dt_R_layAll 97 rfl) rfl (Nat.le_of_ble_eq_true rfl) rfl rfl ?_
      refine G_goto (pc := 163) 66 X (dg dt_R_layAll 98 rfl) (by decide) ?_
      exact G_wk (ih q_7 q_5 v5_12 (v6 + 1) σ_13 h) ⟨rfl, ⟨rfl, ⟨rfl, ⟨rfl, ⟨rfl, ⟨rfl, ⟨rfl, trivial⟩⟩⟩⟩⟩⟩⟩
set_option maxRecDepth 100000 in
set_option maxHeartbeats 4000000 in
theorem s_R_layAll_L44 {θ : Th} {ad : Nat → Nat}  {rv : Unit} {σe : St} (X : Cx θ [] cX12_layAll 9 "QuasigroveModel" 0 0)
    {v1 : Int32} (hq : Rq θ (g_SH, ad) none none σe)  :
    ∀ (n : Nat) (v2 : Int32) (σ : St), f_R_layAll_L44 v1 n v2 σ = some (rv, σe) → G θ (0, 0) (g_SH, ad) σ 44 [some (.ref (ad 82)), some (.int v1), some (.int v2), none, none, none, none, none, none] [] := by
  intro n
  induction n with
  | zero => intro v2 σ h; rw [f_R_layAll_L44] at h; cases h
  | succ n ih =>
    intro v2 σ h
    rw [f_R_layAll_L44] at h
    refine G_iload_n (pc := 44) 2 X (dg dt_R_layAll 26 rfl) rfl rfl ?_
    refine G_aload_n (pc := 45) 0 X (dg dt_R_layAll 27 rfl) rfl rfl ?_
    refine G_getI (pc := 46) 10 X (dg dt_R_layAll 28 rfl) fc_8 w_1073 rfl (Nat.le_of_ble_eq_true rfl) sh_82 rfl ?_
    refine G_icmp_ge (pc := 49) 172 X (dg dt_R_layAll 29 rfl) (by decide) h (fun h => ?_) (fun h => ?_)
    · exact G_vret (pc := 172) X hq (dg dt_R_layAll 101 rfl) h
    · refine G_iload_n (pc := 52) 2 X (dg dt_R_layAll 30 rfl) rfl rfl ?_
      refine G_istore_n (pc := 53) 3 X (dg dt_R_layAll 31 rfl) rfl (Nat.le_of_ble_eq_true rfl) rfl ?_
      refine G_aload_n (pc := 54) 0 X (dg dt_R_layAll 32 rfl) rfl rfl ?_
      refine G_getI (pc := 55) 10 X (dg dt_R_layAll 33 rfl) fc_8 w_1073 rfl (Nat.le_of_ble_eq_true rfl) sh_82 rfl ?_
      refine G_istore (pc := 58) X (dg dt_R_layAll 34 rfl) (Nat.le_of_ble_eq_true rfl) rfl ?_
      refine G_iconst (pc := 60) 0 X (dg dt_R_layAll 35 rfl) (by decide) ?_
      refine G_istore (pc := 61) X (dg dt_R_layAll 36 rfl) (Nat.le_of_ble_eq_true rfl) rfl ?_
      refine G_iconst (pc := 63) 0 X (dg dt_R_layAll 37 rfl) (by decide) ?_
      refine G_istore (pc := 64) X (dg dt_R_layAll 38 rfl) (Nat.le_of_ble_eq_true rfl) rfl ?_
      refine G_weak (L' := [some (.ref (ad 82)), some (.int v1), some (.int v2), some (.int v2), some (.int (σ 82 10)), some (.int 0), some (.int 0), none, none]) ⟨rfl, ⟨rfl, ⟨rfl, ⟨rfl, ⟨rfl, ⟨rfl, ⟨rfl, trivial⟩⟩⟩⟩⟩⟩⟩ ?_
      refine s_R_layAll_L66  X hq  (fun σ_14 h => ?_) _ _ _ _ _ _ h
      refine G_iinc (pc := 166) (v2 + 1) X (dg dt_R_layAll 99 rfl) rfl (Nat.le_of_ble_eq_true rfl) rfl rfl ?_
      refine G_goto (pc := 169) 44 X (dg dt_R_layAll 100 rfl) (by decide) ?_
      exact G_wk (ih (v2 + 1) σ_14 h) ⟨rfl, ⟨rfl, ⟨rfl, trivial⟩⟩⟩
set_option maxRecDepth 100000 in
set_option maxHeartbeats 4000000 in
theorem s_R_layAll (l : Launch) (ad : Nat → Nat) (σ : St) (v1 : Int32)  {rv : Unit} {σe : St} (h : f_R_layAll σ v1 = some (rv, σe)) : Rt l [] yX12_layAll cX12_layAll 9 none 0 0 (g_SH, ad) [.ref (ad 82), .int v1] σ none σe := by
  refine Rt.intro (L := [some (.ref (ad 82)), some (.int v1), none, none, none, none, none, none, none]) (by decide +kernel) (Nat.le_of_ble_eq_true rfl) rfl (fun θ hl X hq => ?_)
  subst hl
  unfold f_R_layAll at h
  refine G_aload_n (pc := 0) 0 X (dg dt_R_layAll 0 rfl) rfl rfl ?_
  refine G_getI (pc := 1) 9 X (dg dt_R_layAll 1 rfl) fc_8 w_1072 rfl (Nat.le_of_ble_eq_true rfl) sh_82 rfl ?_
  refine G_iload_n (pc := 4) 1 X (dg dt_R_layAll 2 rfl) rfl rfl ?_
  refine G_icmp_ne (pc := 5) 9 X (dg dt_R_layAll 3 rfl) (by decide) h (fun h => ?_) (fun h => ?_)
  · refine G_aload_n (pc := 9) 0 X (dg dt_R_layAll 5 rfl) rfl rfl ?_
    refine G_iload_n (pc := 10) 1 X (dg dt_R_layAll 6 rfl) rfl rfl ?_
    refine G_put (pc := 11) 9 X (dg dt_R_layAll 7 rfl) fc_8 w_1072 rfl (Nat.le_of_ble_eq_true rfl) rfl rfl sh_82 rfl h (fun σ_1 h => ?_)
    refine G_aload_n (pc := 14) 0 X (dg dt_R_layAll 8 rfl) rfl rfl ?_
    refine G_iconst (pc := 15) 1 X (dg dt_R_layAll 9 rfl) (by decide) ?_
    refine G_put (pc := 16) 10 X (dg dt_R_layAll 10 rfl) fc_8 w_1073 rfl (Nat.le_of_ble_eq_true rfl) rfl rfl sh_82 rfl h (fun σ_2 h => ?_)
    refine G_iconst (pc := 19) 2 X (dg dt_R_layAll 11 rfl) (by decide) ?_
    refine G_istore_n (pc := 20) 2 X (dg dt_R_layAll 12 rfl) rfl (Nat.le_of_ble_eq_true rfl) rfl ?_
    refine G_weak (L' := [some (.ref (ad 82)), some (.int v1), some (.int 2), none, none, none, none, none, none]) ⟨rfl, ⟨rfl, ⟨rfl, trivial⟩⟩⟩ ?_
    refine s_R_layAll_L21  X hq  (fun σ_4 h => ?_) _ _ _ h
    refine G_iconst (pc := 42) 0 X (dg dt_R_layAll 24 rfl) (by decide) ?_
    refine G_istore_n (pc := 43) 2 X (dg dt_R_layAll 25 rfl) rfl (Nat.le_of_ble_eq_true rfl) rfl ?_
    refine G_weak (L' := [some (.ref (ad 82)), some (.int v1), some (.int 0), none, none, none, none, none, none]) ⟨rfl, ⟨rfl, ⟨rfl, trivial⟩⟩⟩ ?_
    refine s_R_layAll_L44  X hq   _ _ _ h
  · exact G_vret (pc := 8) X hq (dg dt_R_layAll 4 rfl) h
set_option maxRecDepth 100000 in
set_option maxHeartbeats 4000000 in
theorem s_R_layCrosses_L33 {θ : Th} {ad : Nat → Nat}  {rv : Unit} {σe : St} (X : Cx θ [] cX12_layCrosses 6 "QuasigroveModel" 1 28)
    {v1 : Int32} {v2 : Int32} {v3 : Int32} {σ : St} (hq : Rq θ (g_SH, ad) none none σe) {kx70 : Int32 → Option (Unit × St)} (hkx70 : ∀ (v4 : Int32), kx70 v4 = some (rv, σe) → G θ (0, 0) (g_SH, ad) σ 70 [some (.ref (ad 82)), some (.int v1), some (.int v2), some (.int v3), some (.int v4), none] []) :
    ∀ (n : Nat) (v4 : Int32) (v5 : Int32), f_R_layCrosses_L33 v1 v2 v3 σ kx70 n v4 v5 = some (rv, σe) → G θ (0, 0) (g_SH, ad) σ 33 [some (.ref (ad 82)), some (.int v1), some (.int v2), some (.int v3), some (.int v4), some (.int v5)] [] := by
  intro n
  induction n with
  | zero => intro v4 v5 h; rw [f_R_layCrosses_L33] at h; cases h
  | succ n ih =>
    intro v4 v5 h
    rw [f_R_layCrosses_L33] at h
    refine G_iload (pc := 33) X (dg dt_R_layCrosses 21 rfl) rfl ?_
    refine G_iload_n (pc := 35) 2 X (dg dt_R_layCrosses 22 rfl) rfl rfl ?_
    refine G_icmp_ge (pc := 36) 70 X (dg dt_R_layCrosses 23 rfl) (by decide) h (fun h => ?_) (fun h => ?_)
    · exact G_wk (hkx70 v4 h) ⟨rfl, ⟨rfl, ⟨rfl, ⟨rfl, ⟨rfl, trivial⟩⟩⟩⟩⟩
    · refine G_iload (pc := 39) X (dg dt_R_layCrosses 24 rfl) rfl ?_
      refine G_iconst (pc := 41) 1 X (dg dt_R_layCrosses 25 rfl) (by decide) ?_
      refine G_aload_n (pc := 42) 0 X (dg dt_R_layCrosses 26 rfl) rfl rfl ?_
      refine G_iload_n (pc := 43) 1 X (dg dt_R_layCrosses 27 rfl) rfl rfl ?_
      refine G_iload (pc := 44) X (dg dt_R_layCrosses 28 rfl) rfl ?_
      refine G_aload_n (pc := 46) 0 X (dg dt_R_layCrosses 29 rfl) rfl rfl ?_
      refine G_getR (pc := 47) 11 X (dg dt_R_layCrosses 30 rfl) fc_8 w_1074 rfl (Nat.le_of_ble_eq_true rfl) sh_82 rfl ?_
      refine G_iconst (pc := 50) 5 X (dg dt_R_layCrosses 31 rfl) (by decide) ?_
      refine G_iload_n (pc := 51) 3 X (dg dt_R_layCrosses 32 rfl) rfl rfl ?_
      refine G_imul (pc := 52) X (dg dt_R_layCrosses 33 rfl) ?_
      refine G_iload (pc := 53) X (dg dt_R_layCrosses 34 rfl) rfl ?_
      refine G_iadd (pc := 55) X (dg dt_R_layCrosses 35 rfl) ?_
      refine G_iald (pc := 56) X (dg dt_R_layCrosses 36 rfl) sh_89 h (fun r_6 h => ?_)
      obtain ⟨r_8, hc_7, h⟩ := cap_go h
      refine G_callV (pc := 57) (S := [.int 1, .int v4]) [.int v1, .int v5, .int r_6] nosub X  (dg dt_R_layCrosses 37 rfl) cb_R_at cv_R_at w_1191 (s_R_at _ ad _ _ _ _ hc_7) rfl ⟨Nat.le_of_ble_eq_true rfl, Nat.le_of_ble_eq_true rfl⟩ sh_82 rfl (Nat.le_of_ble_eq_true rfl) Rc0 ?_
      refine G_ishl (pc := 60) X (dg dt_R_layCrosses 38 rfl) ?_
      refine G_ior (pc := 61) X (dg dt_R_layCrosses 39 rfl) ?_
      refine G_istore_lt (pc := 62) X (dg dt_R_layCrosses 40 rfl) (Nat.le_of_ble_eq_true rfl) rfl h (fun v4_9 h => ?_)
      refine G_iinc (pc := 64) (v5 + 1) X (dg dt_R_layCrosses 41 rfl) rfl (Nat.le_of_ble_eq_true rfl) rfl rfl ?_
      refine G_goto (pc := 67) 33 X (dg dt_R_layCrosses 42 rfl) (by decide) ?_
      exact G_wk (ih v4_9 (v5 + 1) h) ⟨rfl, ⟨rfl, ⟨rfl, ⟨rfl, ⟨rfl, ⟨rfl, trivial⟩⟩⟩⟩⟩⟩
set_option maxRecDepth 100000 in
set_option maxHeartbeats 4000000 in
theorem s_R_layCrosses_L19 {θ : Th} {ad : Nat → Nat}  {rv : Unit} {σe : St} (X : Cx θ [] cX12_layCrosses 6 "QuasigroveModel" 1 28)
    {v1 : Int32} {v2 : Int32} (hq : Rq θ (g_SH, ad) none none σe)  :
    ∀ (n : Nat) (v3 : Int32) (σ : St), f_R_layCrosses_L19 v1 v2 n v3 σ = some (rv, σe) → G θ (0, 0) (g_SH, ad) σ 19 [some (.ref (ad 82)), some (.int v1), some (.int v2), some (.int v3), none, none] [] := by
  intro n
  induction n with
  | zero => intro v3 σ h; rw [f_R_layCrosses_L19] at h; cases h
  | succ n ih =>
    intro v3 σ h
    rw [f_R_layCrosses_L19] at h
    refine G_iload_n (pc := 19) 3 X (dg dt_R_layCrosses 13 rfl) rfl rfl ?_
    refine G_aload_n (pc := 20) 0 X (dg dt_R_layCrosses 14 rfl) rfl rfl ?_
    refine G_getI (pc := 21) 10 X (dg dt_R_layCrosses 15 rfl) fc_8 w_1073 rfl (Nat.le_of_ble_eq_true rfl) sh_82 rfl ?_
    refine G_icmp_ge (pc := 24) 106 X (dg dt_R_layCrosses 16 rfl) (by decide) h (fun h => ?_) (fun h => ?_)
    · exact G_vret (pc := 106) X hq (dg dt_R_layCrosses 64 rfl) h
    · refine G_iconst (pc := 27) 0 X (dg dt_R_layCrosses 17 rfl) (by decide) ?_
      refine G_istore (pc := 28) X (dg dt_R_layCrosses 18 rfl) (Nat.le_of_ble_eq_true rfl) rfl ?_
      refine G_iconst (pc := 30) 0 X (dg dt_R_layCrosses 19 rfl) (by decide) ?_
      refine G_istore (pc := 31) X (dg dt_R_layCrosses 20 rfl) (Nat.le_of_ble_eq_true rfl) rfl ?_
      refine G_weak (L' := [some (.ref (ad 82)), some (.int v1), some (.int v2), some (.int v3), some (.int 0), some (.int 0)]) ⟨rfl, ⟨rfl, ⟨rfl, ⟨rfl, ⟨rfl, ⟨rfl, trivial⟩⟩⟩⟩⟩⟩ ?_
      refine s_R_layCrosses_L33  X hq  (fun v4_10 h => ?_) _ _ _ h
      refine G_iload (pc := 70) X (dg dt_R_layCrosses 43 rfl) rfl ?_
      refine G_iconst (pc := 72) 1 X (dg dt_R_layCrosses 44 rfl) (by decide) ?_
      refine G_iload_n (pc := 73) 2 X (dg dt_R_layCrosses 45 rfl) rfl rfl ?_
      refine G_ishl (pc := 74) X (dg dt_R_layCrosses 46 rfl) ?_
      refine G_iconst (pc := 75) 1 X (dg dt_R_layCrosses 47 rfl) (by decide) ?_
      refine G_isub (pc := 76) X (dg dt_R_layCrosses 48 rfl) ?_
      refine jn_go (fun j100_11 => ∀ (σ_12 : St), j100_11 σ_12 = some (rv, σe) → G θ (0, 0) (g_SH, ad) σ_12 100 [some (.ref (ad 82)), some (.int v1), some (.int v2), some (.int v3), none, none] []) h ?_ (fun j100_11 hj100_11 h => ?_)
      · intro σ_12 h
        refine G_iinc (pc := 100) (v3 + 1) X (dg dt_R_layCrosses 62 rfl) rfl (Nat.le_of_ble_eq_true rfl) rfl rfl ?_
        refine G_goto (pc := 103) 19 X (dg dt_R_layCrosses 63 rfl) (by decide) ?_
        exact G_wk (ih (v3 + 1) σ_12 h) ⟨rfl, ⟨rfl, ⟨rfl, ⟨rfl, trivial⟩⟩⟩⟩
      refine G_icmp_ne (pc := 77) 100 X (dg dt_R_layCrosses 49 rfl) (by decide) h (fun h => ?_) (fun h => ?_)
      · exact G_wk (hj100_11 σ h) ⟨rfl, ⟨rfl, ⟨rfl, ⟨rfl, trivial⟩⟩⟩⟩
      · refine G_aload_n (pc := 80) 0 X (dg dt_R_layCrosses 50 rfl) rfl rfl ?_
        refine G_getR (pc := 81) 23 X (dg dt_R_layCrosses 51 rfl) fc_8 w_1086 rfl (Nat.le_of_ble_eq_true rfl) sh_82 rfl ?_
        refine G_aload_n (pc := 84) 0 X (dg dt_R_layCrosses 52 rfl) rfl rfl ?_
        refine G_getI (pc := 85) 22 X (dg dt_R_layCrosses 53 rfl) fc_8 w_1085 rfl (Nat.le_of_ble_eq_true rfl) sh_82 rfl ?_
        refine G_iload_n (pc := 88) 3 X (dg dt_R_layCrosses 54 rfl) rfl rfl ?_
        refine G_iast (pc := 89) X (dg dt_R_layCrosses 55 rfl) sh_97 h (fun σ_13 h => ?_)
        refine G_aload_n (pc := 90) 0 X (dg dt_R_layCrosses 56 rfl) rfl rfl ?_
        refine G_dup (pc := 91) X (dg dt_R_layCrosses 57 rfl) rfl ?_
        refine G_getI (pc := 92) 22 X (dg dt_R_layCrosses 58 rfl) fc_8 w_1085 rfl (Nat.le_of_ble_eq_true rfl) sh_82 rfl ?_
        refine G_iconst (pc := 95) 1 X (dg dt_R_layCrosses 59 rfl) (by decide) ?_
        refine G_iadd (pc := 96) X (dg dt_R_layCrosses 60 rfl) ?_
        refine G_put (pc := 97) 22 X (dg dt_R_layCrosses 61 rfl) fc_8 w_1085 rfl (Nat.le_of_ble_eq_true rfl) rfl rfl sh_82 rfl h (fun σ_14 h => ?_)
        exact G_wk (hj100_11 σ_14 h) ⟨rfl, ⟨rfl, ⟨rfl, ⟨rfl, trivial⟩⟩⟩⟩
set_option maxRecDepth 100000 in
set_option maxHeartbeats 4000000 in
theorem s_R_layCrosses (l : Launch) (ad : Nat → Nat) (σ : St) (v1 : Int32)  {rv : Unit} {σe : St} (h : f_R_layCrosses σ v1 = some (rv, σe)) : Rt l [] yX12_layCrosses cX12_layCrosses 6 none 1 28 (g_SH, ad) [.ref (ad 82), .int v1] σ none σe := by
  refine Rt.intro (L := [some (.ref (ad 82)), some (.int v1), none, none, none, none]) (by decide +kernel) (Nat.le_of_ble_eq_true rfl) rfl (fun θ hl X hq => ?_)
  subst hl
  unfold f_R_layCrosses at h
  refine G_aload_n (pc := 0) 0 X (dg dt_R_layCrosses 0 rfl) rfl rfl ?_
  refine G_getR (pc := 1) 2 X (dg dt_R_layCrosses 1 rfl) fc_8 w_1065 rfl (Nat.le_of_ble_eq_true rfl) sh_82 rfl ?_
  refine G_iload_n (pc := 4) 1 X (dg dt_R_layCrosses 2 rfl) rfl rfl ?_
  refine G_iald (pc := 5) X (dg dt_R_layCrosses 3 rfl) sh_83 h (fun r_1 h => ?_)
  refine G_istore_n (pc := 6) 2 X (dg dt_R_layCrosses 4 rfl) rfl (Nat.le_of_ble_eq_true rfl) rfl ?_
  refine G_aload_n (pc := 7) 0 X (dg dt_R_layCrosses 5 rfl) rfl rfl ?_
  refine G_iload_n (pc := 8) 2 X (dg dt_R_layCrosses 6 rfl) rfl rfl ?_
  obtain ⟨r_3, σ_4, hc_2, h⟩ := cal_go h
  refine G_callV (pc := 9) (S := []) [.int r_1] nosub X  (dg dt_R_layCrosses 7 rfl) cb_R_layAll cv_R_layAll w_1384 (s_R_layAll _ ad _ _ hc_2) rfl ⟨Nat.le_of_ble_eq_true rfl, Nat.le_of_ble_eq_true rfl⟩ sh_82 rfl (Nat.le_of_ble_eq_true rfl) Rc0 ?_
  refine G_aload_n (pc := 12) 0 X (dg dt_R_layCrosses 8 rfl) rfl rfl ?_
  refine G_iconst (pc := 13) 0 X (dg dt_R_layCrosses 9 rfl) (by decide) ?_
  refine G_put (pc := 14) 22 X (dg dt_R_layCrosses 10 rfl) fc_8 w_1085 rfl (Nat.le_of_ble_eq_true rfl) rfl rfl sh_82 rfl h (fun σ_5 h => ?_)
  refine G_iconst (pc := 17) 0 X (dg dt_R_layCrosses 11 rfl) (by decide) ?_
  refine G_istore_n (pc := 18) 3 X (dg dt_R_layCrosses 12 rfl) rfl (Nat.le_of_ble_eq_true rfl) rfl ?_
  refine G_weak (L' := [some (.ref (ad 82)), some (.int v1), some (.int r_1), some (.int 0), none, none]) ⟨rfl, ⟨rfl, ⟨rfl, ⟨rfl, trivial⟩⟩⟩⟩ ?_
  refine s_R_layCrosses_L19  X hq   _ _ _ h
set_option maxRecDepth 100000 in
set_option maxHeartbeats 4000000 in
theorem s_R_keepLower_L10 {θ : Th} {ad : Nat → Nat}  {rv : Unit} {σe : St} (X : Cx θ [] cX12_keepLower 6 "QuasigroveModel" 0 0)
    {v1 : Int32} {v2 : Int32} {v3 : Int32} (hq : Rq θ (g_SH, ad) none none σe) {kx54 : St → Option (Unit × St)} (hkx54 : ∀ (σ : St), kx54 σ = some (rv, σe) → G θ (0, 0) (g_SH, ad) σ 54 [some (.ref (ad 82)), some (.int v1), some (.int v2), some (.int v3), none, none] []) :
    ∀ (n : Nat) (v4 : Int32) (σ : St), f_R_keepLower_L10 v1 v2 v3 kx54 n v4 σ = some (rv, σe) → G θ (0, 0) (g_SH, ad) σ 10 [some (.ref (ad 82)), some (.int v1), some (.int v2), some (.int v3), some (.int v4), none] [] := by
  intro n
  induction n with
  | zero => intro v4 σ h; rw [f_R_keepLower_L10] at h; cases h
  | succ n ih =>
    intro v4 σ h
    rw [f_R_keepLower_L10] at h
    refine G_iload (pc := 10) X (dg dt_R_keepLower 7 rfl) rfl ?_
    refine G_iload_n (pc := 12) 1 X (dg dt_R_keepLower 8 rfl) rfl rfl ?_
    refine G_icmp_ge (pc := 13) 54 X (dg dt_R_keepLower 9 rfl) (by decide) h (fun h => ?_) (fun h => ?_)
    · exact G_wk (hkx54 σ h) ⟨rfl, ⟨rfl, ⟨rfl, ⟨rfl, trivial⟩⟩⟩⟩
    · refine G_aload_n (pc := 16) 0 X (dg dt_R_keepLower 10 rfl) rfl rfl ?_
      refine G_getR (pc := 17) 14 X (dg dt_R_keepLower 11 rfl) fc_8 w_1077 rfl (Nat.le_of_ble_eq_true rfl) sh_82 rfl ?_
      refine G_iload_n (pc := 20) 1 X (dg dt_R_keepLower 12 rfl) rfl rfl ?_
      refine G_iload (pc := 21) X (dg dt_R_keepLower 13 rfl) rfl ?_
      refine G_imul (pc := 23) X (dg dt_R_keepLower 14 rfl) ?_
      refine G_aload_n (pc := 24) 0 X (dg dt_R_keepLower 15 rfl) rfl rfl ?_
      refine G_getR (pc := 25) 11 X (dg dt_R_keepLower 16 rfl) fc_8 w_1074 rfl (Nat.le_of_ble_eq_true rfl) sh_82 rfl ?_
      refine G_iconst (pc := 28) 5 X (dg dt_R_keepLower 17 rfl) (by decide) ?_
      refine G_aload_n (pc := 29) 0 X (dg dt_R_keepLower 18 rfl) rfl rfl ?_
      refine G_getR (pc := 30) 23 X (dg dt_R_keepLower 19 rfl) fc_8 w_1086 rfl (Nat.le_of_ble_eq_true rfl) sh_82 rfl ?_
      refine G_aload_n (pc := 33) 0 X (dg dt_R_keepLower 20 rfl) rfl rfl ?_
      refine G_getR (pc := 34) 24 X (dg dt_R_keepLower 21 rfl) fc_8 w_1087 rfl (Nat.le_of_ble_eq_true rfl) sh_82 rfl ?_
      refine G_iload_n (pc := 37) 3 X (dg dt_R_keepLower 22 rfl) rfl rfl ?_
      refine G_iald (pc := 38) X (dg dt_R_keepLower 23 rfl) sh_98 h (fun r_1 h => ?_)
      refine G_iald (pc := 39) X (dg dt_R_keepLower 24 rfl) sh_97 h (fun r_2 h => ?_)
      refine G_imul (pc := 40) X (dg dt_R_keepLower 25 rfl) ?_
      refine G_iload (pc := 41) X (dg dt_R_keepLower 26 rfl) rfl ?_
      refine G_iadd (pc := 43) X (dg dt_R_keepLower 27 rfl) ?_
      refine G_iald (pc := 44) X (dg dt_R_keepLower 28 rfl) sh_89 h (fun r_3 h => ?_)
      refine G_iadd (pc := 45) X (dg dt_R_keepLower 29 rfl) ?_
      refine G_iload_n (pc := 46) 3 X (dg dt_R_keepLower 30 rfl) rfl rfl ?_
      refine G_iast (pc := 47) X (dg dt_R_keepLower 31 rfl) sh_91 h (fun σ_4 h => ?_)
      refine G_iinc (pc := 48) (v4 + 1) X (dg dt_R_keepLower 32 rfl) rfl (Nat.le_of_ble_eq_true rfl) rfl rfl ?_
      refine G_goto (pc := 51) 10 X (dg dt_R_keepLower 33 rfl) (by decide) ?_
      exact G_wk (ih (v4 + 1) σ_4 h) ⟨rfl, ⟨rfl, ⟨rfl, ⟨rfl, ⟨rfl, trivial⟩⟩⟩⟩⟩
set_option maxRecDepth 100000 in
set_option maxHeartbeats 4000000 in
theorem s_R_keepLower_L2 {θ : Th} {ad : Nat → Nat}  {rv : Unit} {σe : St} (X : Cx θ [] cX12_keepLower 6 "QuasigroveModel" 0 0)
    {v1 : Int32} {v2 : Int32} (hq : Rq θ (g_SH, ad) none none σe) {kx60 : St → Option (Unit × St)} (hkx60 : ∀ (σ : St), kx60 σ = some (rv, σe) → G θ (0, 0) (g_SH, ad) σ 60 [some (.ref (ad 82)), some (.int v1), some (.int v2), none, none, none] []) :
    ∀ (n : Nat) (v3 : Int32) (σ : St), f_R_keepLower_L2 v1 v2 kx60 n v3 σ = some (rv, σe) → G θ (0, 0) (g_SH, ad) σ 2 [some (.ref (ad 82)), some (.int v1), some (.int v2), some (.int v3), none, none] [] := by
  intro n
  induction n with
  | zero => intro v3 σ h; rw [f_R_keepLower_L2] at h; cases h
  | succ n ih =>
    intro v3 σ h
    rw [f_R_keepLower_L2] at h
    refine G_iload_n (pc := 2) 3 X (dg dt_R_keepLower 2 rfl) rfl rfl ?_
    refine G_iload_n (pc := 3) 1 X (dg dt_R_keepLower 3 rfl) rfl rfl ?_
    refine G_icmp_ge (pc := 4) 60 X (dg dt_R_keepLower 4 rfl) (by decide) h (fun h => ?_) (fun h => ?_)
    · exact G_wk (hkx60 σ h) ⟨rfl, ⟨rfl, ⟨rfl, trivial⟩⟩⟩
    · refine G_iconst (pc := 7) 0 X (dg dt_R_keepLower 5 rfl) (by decide) ?_
      refine G_istore (pc := 8) X (dg dt_R_keepLower 6 rfl) (Nat.le_of_ble_eq_true rfl) rfl ?_
      refine G_weak (L' := [some (.ref (ad 82)), some (.int v1), some (.int v2), some (.int v3), some (.int 0), none]) ⟨rfl, ⟨rfl, ⟨rfl, ⟨rfl, ⟨rfl, trivial⟩⟩⟩⟩⟩ ?_
      refine s_R_keepLower_L10  X hq  (fun σ_5 h => ?_) _ _ _ h
      refine G_iinc (pc := 54) (v3 + 1) X (dg dt_R_keepLower 34 rfl) rfl (Nat.le_of_ble_eq_true rfl) rfl rfl ?_
      refine G_goto (pc := 57) 2 X (dg dt_R_keepLower 35 rfl) (by decide) ?_
      exact G_wk (ih (v3 + 1) σ_5 h) ⟨rfl, ⟨rfl, ⟨rfl, ⟨rfl, trivial⟩⟩⟩⟩
set_option maxRecDepth 100000 in
set_option maxHeartbeats 4000000 in
theorem s_R_keepLower_L62 {θ : Th} {ad : Nat → Nat}  {rv : Unit} {σe : St} (X : Cx θ [] cX12_keepLower 6 "QuasigroveModel" 0 0)
    {v1 : Int32} {v2 : Int32} {σ : St} (hq : Rq θ (g_SH, ad) none none σe) {kx92 : Int32 → Option (Unit × St)} (hkx92 : ∀ (v3 : Int32), kx92 v3 = some (rv, σe) → G θ (0, 0) (g_SH, ad) σ 92 [some (.ref (ad 82)), some (.int v1), some (.int v2), some (.int v3), none, none] []) :
    ∀ (n : Nat) (v3 : Int32), f_R_keepLower_L62 v1 v2 σ kx92 n v3 = some (rv, σe) → G θ (0, 0) (g_SH, ad) σ 62 [some (.ref (ad 82)), some (.int v1), some (.int v2), some (.int v3), none, none] [] := by
  intro n
  induction n with
  | zero => intro v3 h; rw [f_R_keepLower_L62] at h; cases h
  | succ n ih =>
    intro v3 h
    rw [f_R_keepLower_L62] at h
    refine G_iload_n (pc := 62) 3 X (dg dt_R_keepLower 38 rfl) rfl rfl ?_
    refine G_iload_n (pc := 63) 1 X (dg dt_R_keepLower 39 rfl) rfl rfl ?_
    refine G_iload_n (pc := 64) 1 X (dg dt_R_keepLower 40 rfl) rfl rfl ?_
    refine G_imul (pc := 65) X (dg dt_R_keepLower 41 rfl) ?_
    refine G_iconst (pc := 66) 1 X (dg dt_R_keepLower 42 rfl) (by decide) ?_
    refine G_isub (pc := 67) X (dg dt_R_keepLower 43 rfl) ?_
    refine G_icmp_ge (pc := 68) 92 X (dg dt_R_keepLower 44 rfl) (by decide) h (fun h => ?_) (fun h => ?_)
    · exact G_wk (hkx92 v3 h) ⟨rfl, ⟨rfl, ⟨rfl, ⟨rfl, trivial⟩⟩⟩⟩
    · refine G_aload_n (pc := 71) 0 X (dg dt_R_keepLower 45 rfl) rfl rfl ?_
      refine G_getR (pc := 72) 14 X (dg dt_R_keepLower 46 rfl) fc_8 w_1077 rfl (Nat.le_of_ble_eq_true rfl) sh_82 rfl ?_
      refine G_iload_n (pc := 75) 3 X (dg dt_R_keepLower 47 rfl) rfl rfl ?_
      refine G_iald (pc := 76) X (dg dt_R_keepLower 48 rfl) sh_91 h (fun r_7 h => ?_)
      refine G_aload_n (pc := 77) 0 X (dg dt_R_keepLower 49 rfl) rfl rfl ?_
      refine G_getR (pc := 78) 17 X (dg dt_R_keepLower 50 rfl) fc_8 w_1080 rfl (Nat.le_of_ble_eq_true rfl) sh_82 rfl ?_
      refine G_iload_n (pc := 81) 3 X (dg dt_R_keepLower 51 rfl) rfl rfl ?_
      refine G_iald (pc := 82) X (dg dt_R_keepLower 52 rfl) sh_93 h (fun r_8 h => ?_)
      refine G_icmp_ne (pc := 83) 92 X (dg dt_R_keepLower 53 rfl) (by decide) h (fun h => ?_) (fun h => ?_)
      · exact G_wk (hkx92 v3 h) ⟨rfl, ⟨rfl, ⟨rfl, ⟨rfl, trivial⟩⟩⟩⟩
      · refine G_iinc (pc := 86) (v3 + 1) X (dg dt_R_keepLower 54 rfl) rfl (Nat.le_of_ble_eq_true rfl) rfl rfl ?_
        refine G_goto (pc := 89) 62 X (dg dt_R_keepLower 55 rfl) (by decide) ?_
        exact G_wk (ih (v3 + 1) h) ⟨rfl, ⟨rfl, ⟨rfl, ⟨rfl, trivial⟩⟩⟩⟩
set_option maxRecDepth 100000 in
set_option maxHeartbeats 4000000 in
theorem s_R_keepLower_L121 {θ : Th} {ad : Nat → Nat}  {rv : Unit} {σe : St} (X : Cx θ [] cX12_keepLower 6 "QuasigroveModel" 0 0)
    {v1 : Int32} {v4 : Int32} (hq : Rq θ (g_SH, ad) none none σe)  :
    ∀ (n : Nat) (v5 : Int32) (σ : St), f_R_keepLower_L121 v1 v4 n v5 σ = some (rv, σe) → G θ (0, 0) (g_SH, ad) σ 121 [some (.ref (ad 82)), some (.int v1), none, none, some (.int v4), some (.int v5)] [] := by
  intro n
  induction n with
  | zero => intro v5 σ h; rw [f_R_keepLower_L121] at h; cases h
  | succ n ih =>
    intro v5 σ h
    rw [f_R_keepLower_L121] at h
    refine G_iload (pc := 121) X (dg dt_R_keepLower 73 rfl) rfl ?_
    refine G_iload_n (pc := 123) 1 X (dg dt_R_keepLower 74 rfl) rfl rfl ?_
    refine G_iload_n (pc := 124) 1 X (dg dt_R_keepLower 75 rfl) rfl rfl ?_
    refine G_imul (pc := 125) X (dg dt_R_keepLower 76 rfl) ?_
    refine G_icmp_ge (pc := 126) 154 X (dg dt_R_keepLower 77 rfl) (by decide) h (fun h => ?_) (fun h => ?_)
    · exact G_vret (pc := 154) X hq (dg dt_R_keepLower 90 rfl) h
    · refine G_iload (pc := 129) X (dg dt_R_keepLower 78 rfl) rfl ?_
      refine G_if_eq (pc := 131) 154 X (dg dt_R_keepLower 79 rfl) (by decide) h (fun h => ?_) (fun h => ?_)
      · exact G_vret (pc := 154) X hq (dg dt_R_keepLower 90 rfl) h
      · refine G_aload_n (pc := 134) 0 X (dg dt_R_keepLower 80 rfl) rfl rfl ?_
        refine G_getR (pc := 135) 17 X (dg dt_R_keepLower 81 rfl) fc_8 w_1080 rfl (Nat.le_of_ble_eq_true rfl) sh_82 rfl ?_
        refine G_iload (pc := 138) X (dg dt_R_keepLower 82 rfl) rfl ?_
        refine G_aload_n (pc := 140) 0 X (dg dt_R_keepLower 83 rfl) rfl rfl ?_
        refine G_getR (pc := 141) 14 X (dg dt_R_keepLower 84 rfl) fc_8 w_1077 rfl (Nat.le_of_ble_eq_true rfl) sh_82 rfl ?_
        refine G_iload (pc := 144) X (dg dt_R_keepLower 85 rfl) rfl ?_
        refine G_iald (pc := 146) X (dg dt_R_keepLower 86 rfl) sh_91 h (fun r_12 h => ?_)
        refine G_iast (pc := 147) X (dg dt_R_keepLower 87 rfl) sh_93 h (fun σ_13 h => ?_)
        refine G_iinc (pc := 148) (v5 + 1) X (dg dt_R_keepLower 88 rfl) rfl (Nat.le_of_ble_eq_true rfl) rfl rfl ?_
        refine G_goto (pc := 151) 121 X (dg dt_R_keepLower 89 rfl) (by decide) ?_
        exact G_wk (ih (v5 + 1) σ_13 h) ⟨rfl, ⟨rfl, ⟨rfl, ⟨rfl, trivial⟩⟩⟩⟩
set_option maxRecDepth 100000 in
set_option maxHeartbeats 4000000 in
theorem s_R_keepLower (l : Launch) (ad : Nat → Nat) (σ : St) (v1 : Int32) (v2 : Int32)  {rv : Unit} {σe : St} (h : f_R_keepLower σ v1 v2 = some (rv, σe)) : Rt l [] yX12_keepLower cX12_keepLower 6 none 0 0 (g_SH, ad) [.ref (ad 82), .int v1, .int v2] σ none σe := by
  refine Rt.intro (L := [some (.ref (ad 82)), some (.int v1), some (.int v2), none, none, none]) (by decide +kernel) (Nat.le_of_ble_eq_true rfl) rfl (fun θ hl X hq => ?_)
  subst hl
  unfold f_R_keepLower at h
  refine G_iconst (pc := 0) 0 X (dg dt_R_keepLower 0 rfl) (by decide) ?_
  refine G_istore_n (pc := 1) 3 X (dg dt_R_keepLower 1 rfl) rfl (Nat.le_of_ble_eq_true rfl) rfl ?_
  refine G_weak (L' := [some (.ref (ad 82)), some (.int v1), some (.int v2), some (.int 0), none, none]) ⟨rfl, ⟨rfl, ⟨rfl, ⟨rfl, trivial⟩⟩⟩⟩ ?_
  refine s_R_keepLower_L2  X hq  (fun σ_6 h => ?_) _ _ _ h
  refine G_iconst (pc := 60) 0 X (dg dt_R_keepLower 36 rfl) (by decide) ?_
  refine G_istore_n (pc := 61) 3 X (dg dt_R_keepLower 37 rfl) rfl (Nat.le_of_ble_eq_true rfl) rfl ?_
  refine G_weak (L' := [some (.ref (ad 82)), some (.int v1), some (.int v2), some (.int 0), none, none]) ⟨rfl, ⟨rfl, ⟨rfl, ⟨rfl, trivial⟩⟩⟩⟩ ?_
  refine s_R_keepLower_L62  X hq  (fun v3_9 h => ?_) _ _ h
  refine G_iload_n (pc := 92) 2 X (dg dt_R_keepLower 56 rfl) rfl rfl ?_
  refine jn_go (fun j116_10 => ∀ (s_11 : Int32), j116_10 s_11 = some (rv, σe) → G θ (0, 0) (g_SH, ad) σ_6 116 [some (.ref (ad 82)), some (.int v1), none, none, none, none] [.int s_11]) h ?_ (fun j116_10 hj116_10 h => ?_)
  · intro s_11 h
    refine G_istore (pc := 116) X (dg dt_R_keepLower 70 rfl) (Nat.le_of_ble_eq_true rfl) rfl ?_
    refine G_iconst (pc := 118) 0 X (dg dt_R_keepLower 71 rfl) (by decide) ?_
    refine G_istore (pc := 119) X (dg dt_R_keepLower 72 rfl) (Nat.le_of_ble_eq_true rfl) rfl ?_
    refine G_weak (L' := [some (.ref (ad 82)), some (.int v1), none, none, some (.int s_11), some (.int 0)]) ⟨rfl, ⟨rfl, ⟨rfl, ⟨rfl, trivial⟩⟩⟩⟩ ?_
    refine s_R_keepLower_L121  X hq   _ _ _ h
  refine jn_go (fun j111_14 => j111_14 = some (rv, σe) → G θ (0, 0) (g_SH, ad) σ_6 111 [some (.ref (ad 82)), some (.int v1), none, none, none, none] []) h ?_ (fun j111_14 hj111_14 h => ?_)
  · intro  h
    refine G_iconst (pc := 111) 1 X (dg dt_R_keepLower 67 rfl) (by decide) ?_
    refine G_goto (pc := 112) 116 X (dg dt_R_keepLower 68 rfl) (by decide) ?_
    exact G_wk (hj116_10 1 h) ⟨rfl, ⟨rfl, trivial⟩⟩
  refine G_if_ne (pc := 93) 111 X (dg dt_R_keepLower 57 rfl) (by decide) h (fun h => ?_) (fun h => ?_)
  · exact G_wk (hj111_14  h) ⟨rfl, ⟨rfl, trivial⟩⟩
  · refine G_aload_n (pc := 96) 0 X (dg dt_R_keepLower 58 rfl) rfl rfl ?_
    refine G_getR (pc := 97) 14 X (dg dt_R_keepLower 59 rfl) fc_8 w_1077 rfl (Nat.le_of_ble_eq_true rfl) sh_82 rfl ?_
    refine G_iload_n (pc := 100) 3 X (dg dt_R_keepLower 60 rfl) rfl rfl ?_
    refine G_iald (pc := 101) X (dg dt_R_keepLower 61 rfl) sh_91 h (fun r_15 h => ?_)
    refine G_aload_n (pc := 102) 0 X (dg dt_R_keepLower 62 rfl) rfl rfl ?_
    refine G_getR (pc := 103) 17 X (dg dt_R_keepLower 63 rfl) fc_8 w_1080 rfl (Nat.le_of_ble_eq_true rfl) sh_82 rfl ?_
    refine G_iload_n (pc := 106) 3 X (dg dt_R_keepLower 64 rfl) rfl rfl ?_
    refine G_iald (pc := 107) X (dg dt_R_keepLower 65 rfl) sh_93 h (fun r_16 h => ?_)
    refine G_icmp_ge (pc := 108) 115 X (dg dt_R_keepLower 66 rfl) (by decide) h (fun h => ?_) (fun h => ?_)
    · refine G_iconst (pc := 115) 0 X (dg dt_R_keepLower 69 rfl) (by decide) ?_
      exact G_wk (hj116_10 0 h) ⟨rfl, ⟨rfl, trivial⟩⟩
    · exact G_wk (hj111_14  h) ⟨rfl, ⟨rfl, trivial⟩⟩
set_option maxRecDepth 100000 in
set_option maxHeartbeats 4000000 in
theorem s_R_canTake_L41 {θ : Th} {ad : Nat → Nat}  {rv : Int32} (X : Cx θ [] cX12_canTake 7 "QuasigroveModel" 0 0)
    {v1 : Int32} {v2 : Int32} {v3 : Int32} {v5 : Int32} {σ : St} (hq : Rq θ (g_SH, ad) (some .boolean) (some (.int rv)) σ) {kx106 : Int32 → Option Int32} (hkx106 : ∀ (v4 : Int32), kx106 v4 = some rv → G θ (0, 0) (g_SH, ad) σ 106 [some (.ref (ad 82)), some (.int v1), some (.int v2), some (.int v3), some (.int v4), some (.int v5), none] []) :
    ∀ (n : Nat) (v4 : Int32) (v6 : Int32), f_R_canTake_L41 v1 v2 v3 v5 σ kx106 n v4 v6 = some rv → G θ (0, 0) (g_SH, ad) σ 41 [some (.ref (ad 82)), some (.int v1), some (.int v2), some (.int v3), some (.int v4), some (.int v5), some (.int v6)] [] := by
  intro n
  induction n with
  | zero => intro v4 v6 h; rw [f_R_canTake_L41] at h; cases h
  | succ n ih =>
    intro v4 v6 h
    rw [f_R_canTake_L41] at h
    refine G_iload (pc := 41) X (dg dt_R_canTake 24 rfl) rfl ?_
    refine G_iload_n (pc := 43) 1 X (dg dt_R_canTake 25 rfl) rfl rfl ?_
    refine G_icmp_ge (pc := 44) 106 X (dg dt_R_canTake 26 rfl) (by decide) h (fun h => ?_) (fun h => ?_)
    · exact G_wk (hkx106 v4 h) ⟨rfl, ⟨rfl, ⟨rfl, ⟨rfl, ⟨rfl, ⟨rfl, trivial⟩⟩⟩⟩⟩⟩
    · refine G_iload (pc := 47) X (dg dt_R_canTake 27 rfl) rfl ?_
      refine jn_go (fun j98_5 => ∀ (s_6 : Int32), j98_5 s_6 = some rv → G θ (0, 0) (g_SH, ad) σ 98 [some (.ref (ad 82)), some (.int v1), some (.int v2), some (.int v3), none, some (.int v5), some (.int v6)] [.int s_6]) h ?_ (fun j98_5 hj98_5 h => ?_)
      · intro s_6 h
        refine G_istore (pc := 98) X (dg dt_R_canTake 58 rfl) (Nat.le_of_ble_eq_true rfl) rfl ?_
        refine G_iinc (pc := 100) (v6 + 1) X (dg dt_R_canTake 59 rfl) rfl (Nat.le_of_ble_eq_true rfl) rfl rfl ?_
        refine G_goto (pc := 103) 41 X (dg dt_R_canTake 60 rfl) (by decide) ?_
        exact G_wk (ih s_6 (v6 + 1) h) ⟨rfl, ⟨rfl, ⟨rfl, ⟨rfl, ⟨rfl, ⟨rfl, ⟨rfl, trivial⟩⟩⟩⟩⟩⟩⟩
      refine jn_go (fun j97_7 => j97_7 = some rv → G θ (0, 0) (g_SH, ad) σ 97 [some (.ref (ad 82)), some (.int v1), some (.int v2), some (.int v3), none, some (.int v5), some (.int v6)] []) h ?_ (fun j97_7 hj97_7 h => ?_)
      · intro  h
        refine G_iconst (pc := 97) 0 X (dg dt_R_canTake 57 rfl) (by decide) ?_
        exact G_wk (hj98_5 0 h) ⟨rfl, ⟨rfl, ⟨rfl, ⟨rfl, ⟨rfl, ⟨rfl, trivial⟩⟩⟩⟩⟩⟩
      refine G_if_eq (pc := 49) 97 X (dg dt_R_canTake 28 rfl) (by decide) h (fun h => ?_) (fun h => ?_)
      · exact G_wk (hj97_7  h) ⟨rfl, ⟨rfl, ⟨rfl, ⟨rfl, ⟨rfl, ⟨rfl, trivial⟩⟩⟩⟩⟩⟩
      · refine G_aload_n (pc := 52) 0 X (dg dt_R_canTake 29 rfl) rfl rfl ?_
        refine G_getR (pc := 53) 11 X (dg dt_R_canTake 30 rfl) fc_8 w_1074 rfl (Nat.le_of_ble_eq_true rfl) sh_82 rfl ?_
        refine G_iconst (pc := 56) 5 X (dg dt_R_canTake 31 rfl) (by decide) ?_
        refine G_aload_n (pc := 57) 0 X (dg dt_R_canTake 32 rfl) rfl rfl ?_
        refine G_getR (pc := 58) 23 X (dg dt_R_canTake 33 rfl) fc_8 w_1086 rfl (Nat.le_of_ble_eq_true rfl) sh_82 rfl ?_
        refine G_iload_n (pc := 61) 2 X (dg dt_R_canTake 34 rfl) rfl rfl ?_
        refine G_iald (pc := 62) X (dg dt_R_canTake 35 rfl) sh_97 h (fun r_8 h => ?_)
        refine G_imul (pc := 63) X (dg dt_R_canTake 36 rfl) ?_
        refine G_iload (pc := 64) X (dg dt_R_canTake 37 rfl) rfl ?_
        refine G_iadd (pc := 66) X (dg dt_R_canTake 38 rfl) ?_
        refine G_iald (pc := 67) X (dg dt_R_canTake 39 rfl) sh_89 h (fun r_9 h => ?_)
        refine G_aload_n (pc := 68) 0 X (dg dt_R_canTake 40 rfl) rfl rfl ?_
        refine G_getR (pc := 69) 11 X (dg dt_R_canTake 41 rfl) fc_8 w_1074 rfl (Nat.le_of_ble_eq_true rfl) sh_82 rfl ?_
        refine G_iconst (pc := 72) 5 X (dg dt_R_canTake 42 rfl) (by decide) ?_
        refine G_aload_n (pc := 73) 0 X (dg dt_R_canTake 43 rfl) rfl rfl ?_
        refine G_getR (pc := 74) 23 X (dg dt_R_canTake 44 rfl) fc_8 w_1086 rfl (Nat.le_of_ble_eq_true rfl) sh_82 rfl ?_
        refine G_aload_n (pc := 77) 0 X (dg dt_R_canTake 45 rfl) rfl rfl ?_
        refine G_getR (pc := 78) 24 X (dg dt_R_canTake 46 rfl) fc_8 w_1087 rfl (Nat.le_of_ble_eq_true rfl) sh_82 rfl ?_
        refine G_iload (pc := 81) X (dg dt_R_canTake 47 rfl) rfl ?_
        refine G_iald (pc := 83) X (dg dt_R_canTake 48 rfl) sh_98 h (fun r_10 h => ?_)
        refine G_iald (pc := 84) X (dg dt_R_canTake 49 rfl) sh_97 h (fun r_11 h => ?_)
        refine G_imul (pc := 85) X (dg dt_R_canTake 50 rfl) ?_
        refine G_iload (pc := 86) X (dg dt_R_canTake 51 rfl) rfl ?_
        refine G_iadd (pc := 88) X (dg dt_R_canTake 52 rfl) ?_
        refine G_iald (pc := 89) X (dg dt_R_canTake 53 rfl) sh_89 h (fun r_12 h => ?_)
        refine G_icmp_eq (pc := 90) 97 X (dg dt_R_canTake 54 rfl) (by decide) h (fun h => ?_) (fun h => ?_)
        · exact G_wk (hj97_7  h) ⟨rfl, ⟨rfl, ⟨rfl, ⟨rfl, ⟨rfl, ⟨rfl, trivial⟩⟩⟩⟩⟩⟩
        · refine G_iconst (pc := 93) 1 X (dg dt_R_canTake 55 rfl) (by decide) ?_
          refine G_goto (pc := 94) 98 X (dg dt_R_canTake 56 rfl) (by decide) ?_
          exact G_wk (hj98_5 1 h) ⟨rfl, ⟨rfl, ⟨rfl, ⟨rfl, ⟨rfl, ⟨rfl, trivial⟩⟩⟩⟩⟩⟩
set_option maxRecDepth 100000 in
set_option maxHeartbeats 4000000 in
theorem s_R_canTake_L27 {θ : Th} {ad : Nat → Nat}  {rv : Int32} (X : Cx θ [] cX12_canTake 7 "QuasigroveModel" 0 0)
    {v1 : Int32} {v2 : Int32} {v3 : Int32} {σ : St} (hq : Rq θ (g_SH, ad) (some .boolean) (some (.int rv)) σ) {kx112 : Int32 → Option Int32} (hkx112 : ∀ (v4 : Int32), kx112 v4 = some rv → G θ (0, 0) (g_SH, ad) σ 112 [none, none, none, none, some (.int v4), none, none] []) :
    ∀ (n : Nat) (v4 : Int32) (v5 : Int32), f_R_canTake_L27 v1 v2 v3 σ kx112 n v4 v5 = some rv → G θ (0, 0) (g_SH, ad) σ 27 [some (.ref (ad 82)), some (.int v1), some (.int v2), some (.int v3), some (.int v4), some (.int v5), none] [] := by
  intro n
  induction n with
  | zero => intro v4 v5 h; rw [f_R_canTake_L27] at h; cases h
  | succ n ih =>
    intro v4 v5 h
    rw [f_R_canTake_L27] at h
    refine G_iload (pc := 27) X (dg dt_R_canTake 17 rfl) rfl ?_
    refine G_iload_n (pc := 29) 3 X (dg dt_R_canTake 18 rfl) rfl rfl ?_
    refine G_icmp_ge (pc := 30) 112 X (dg dt_R_canTake 19 rfl) (by decide) h (fun h => ?_) (fun h => ?_)
    · exact G_wk (hkx112 v4 h) ⟨rfl, trivial⟩
    · refine G_iload (pc := 33) X (dg dt_R_canTake 20 rfl) rfl ?_
      refine G_if_eq (pc := 35) 112 X (dg dt_R_canTake 21 rfl) (by decide) h (fun h => ?_) (fun h => ?_)
      · exact G_wk (hkx112 v4 h) ⟨rfl, trivial⟩
      · refine G_iconst (pc := 38) 0 X (dg dt_R_canTake 22 rfl) (by decide) ?_
        refine G_istore (pc := 39) X (dg dt_R_canTake 23 rfl) (Nat.le_of_ble_eq_true rfl) rfl ?_
        refine G_weak (L' := [some (.ref (ad 82)), some (.int v1), some (.int v2), some (.int v3), some (.int v4), some (.int v5), some (.int 0)]) ⟨rfl, ⟨rfl, ⟨rfl, ⟨rfl, ⟨rfl, ⟨rfl, ⟨rfl, trivial⟩⟩⟩⟩⟩⟩⟩ ?_
        refine s_R_canTake_L41  X hq  (fun v4_13 h => ?_) _ _ _ h
        refine G_iinc (pc := 106) (v5 + 1) X (dg dt_R_canTake 61 rfl) rfl (Nat.le_of_ble_eq_true rfl) rfl rfl ?_
        refine G_goto (pc := 109) 27 X (dg dt_R_canTake 62 rfl) (by decide) ?_
        exact G_wk (ih v4_13 (v5 + 1) h) ⟨rfl, ⟨rfl, ⟨rfl, ⟨rfl, ⟨rfl, ⟨rfl, trivial⟩⟩⟩⟩⟩⟩
set_option maxRecDepth 100000 in
set_option maxHeartbeats 4000000 in
theorem s_R_canTake (l : Launch) (ad : Nat → Nat) (σ : St) (v1 : Int32) (v2 : Int32) (v3 : Int32)  {rv : Int32} (h : f_R_canTake σ v1 v2 v3 = some rv) : Rt l [] yX12_canTake cX12_canTake 7 (some .boolean) 0 0 (g_SH, ad) [.ref (ad 82), .int v1, .int v2, .int v3] σ (some (.int rv)) σ := by
  refine Rt.intro (L := [some (.ref (ad 82)), some (.int v1), some (.int v2), some (.int v3), none, none, none]) (by decide +kernel) (Nat.le_of_ble_eq_true rfl) rfl (fun θ hl X hq => ?_)
  subst hl
  unfold f_R_canTake at h
  refine G_aload_n (pc := 0) 0 X (dg dt_R_canTake 0 rfl) rfl rfl ?_
  refine G_getR (pc := 1) 11 X (dg dt_R_canTake 1 rfl) fc_8 w_1074 rfl (Nat.le_of_ble_eq_true rfl) sh_82 rfl ?_
  refine G_iconst (pc := 4) 5 X (dg dt_R_canTake 2 rfl) (by decide) ?_
  refine G_aload_n (pc := 5) 0 X (dg dt_R_canTake 3 rfl) rfl rfl ?_
  refine G_getR (pc := 6) 23 X (dg dt_R_canTake 4 rfl) fc_8 w_1086 rfl (Nat.le_of_ble_eq_true rfl) sh_82 rfl ?_
  refine G_iload_n (pc := 9) 2 X (dg dt_R_canTake 5 rfl) rfl rfl ?_
  refine G_iald (pc := 10) X (dg dt_R_canTake 6 rfl) sh_97 h (fun r_1 h => ?_)
  refine G_imul (pc := 11) X (dg dt_R_canTake 7 rfl) ?_
  refine G_iald (pc := 12) X (dg dt_R_canTake 8 rfl) sh_89 h (fun r_2 h => ?_)
  refine G_iload_n (pc := 13) 3 X (dg dt_R_canTake 9 rfl) rfl rfl ?_
  refine jn_go (fun j22_3 => ∀ (s_4 : Int32), j22_3 s_4 = some rv → G θ (0, 0) (g_SH, ad) σ 22 [some (.ref (ad 82)), some (.int v1), some (.int v2), some (.int v3), none, none, none] [.int s_4]) h ?_ (fun j22_3 hj22_3 h => ?_)
  · intro s_4 h
    refine G_istore (pc := 22) X (dg dt_R_canTake 14 rfl) (Nat.le_of_ble_eq_true rfl) rfl ?_
    refine G_iconst (pc := 24) 0 X (dg dt_R_canTake 15 rfl) (by decide) ?_
    refine G_istore (pc := 25) X (dg dt_R_canTake 16 rfl) (Nat.le_of_ble_eq_true rfl) rfl ?_
    refine G_weak (L' := [some (.ref (ad 82)), some (.int v1), some (.int v2), some (.int v3), some (.int s_4), some (.int 0), none]) ⟨rfl, ⟨rfl, ⟨rfl, ⟨rfl, ⟨rfl, ⟨rfl, trivial⟩⟩⟩⟩⟩⟩ ?_
    refine s_R_canTake_L27  X hq  (fun v4_14 h => ?_) _ _ _ h
    refine G_iload (pc := 112) X (dg dt_R_canTake 63 rfl) rfl ?_
    exact G_zretp (pc := 114) X hq (dg dt_R_canTake 64 rfl) h
  refine G_icmp_ne (pc := 14) 21 X (dg dt_R_canTake 10 rfl) (by decide) h (fun h => ?_) (fun h => ?_)
  · refine G_iconst (pc := 21) 0 X (dg dt_R_canTake 13 rfl) (by decide) ?_
    exact G_wk (hj22_3 0 h) ⟨rfl, ⟨rfl, ⟨rfl, ⟨rfl, trivial⟩⟩⟩⟩
  · refine G_iconst (pc := 17) 1 X (dg dt_R_canTake 11 rfl) (by decide) ?_
    refine G_goto (pc := 18) 22 X (dg dt_R_canTake 12 rfl) (by decide) ?_
    exact G_wk (hj22_3 1 h) ⟨rfl, ⟨rfl, ⟨rfl, ⟨rfl, trivial⟩⟩⟩⟩
set_option maxRecDepth 100000 in
set_option maxHeartbeats 4000000 in
theorem s_R_matesOf_L69 {θ : Th} {ad : Nat → Nat}  {rv : Int32} {σe : St} (X : Cx θ [] cX12_matesOf 6 "QuasigroveModel" 2 53)
    {v2 : Int32} {v3 : Int32} {v4 : Int32} {σ : St} (hq : Rq θ (g_SH, ad) (some .int) (some (.int rv)) σe) {kx96 : Int32 → Option (Int32 × St)} (hkx96 : ∀ (v5 : Int32), kx96 v5 = some (rv, σe) → G θ (0, 0) (g_SH, ad) σ 96 [some (.ref (ad 82)), none, some (.int v2), some (.int v3), some (.int v4), some (.int v5)] []) :
    ∀ (n : Nat) (v5 : Int32), f_R_matesOf_L69 v2 v3 v4 σ kx96 n v5 = some (rv, σe) → G θ (0, 0) (g_SH, ad) σ 69 [some (.ref (ad 82)), none, some (.int v2), some (.int v3), some (.int v4), some (.int v5)] [] := by
  intro n
  induction n with
  | zero => intro v5 h; rw [f_R_matesOf_L69] at h; cases h
  | succ n ih =>
    intro v5 h
    rw [f_R_matesOf_L69] at h
    refine G_iload (pc := 69) X (dg dt_R_matesOf 40 rfl) rfl ?_
    refine G_aload_n (pc := 71) 0 X (dg dt_R_matesOf 41 rfl) rfl rfl ?_
    refine G_getI (pc := 72) 22 X (dg dt_R_matesOf 42 rfl) fc_8 w_1085 rfl (Nat.le_of_ble_eq_true rfl) sh_82 rfl ?_
    refine G_icmp_ge (pc := 75) 96 X (dg dt_R_matesOf 43 rfl) (by decide) h (fun h => ?_) (fun h => ?_)
    · exact G_wk (hkx96 v5 h) ⟨rfl, ⟨rfl, ⟨rfl, ⟨rfl, ⟨rfl, trivial⟩⟩⟩⟩⟩
    · refine G_aload_n (pc := 78) 0 X (dg dt_R_matesOf 44 rfl) rfl rfl ?_
      refine G_iload_n (pc := 79) 2 X (dg dt_R_matesOf 45 rfl) rfl rfl ?_
      refine G_iload (pc := 80) X (dg dt_R_matesOf 46 rfl) rfl ?_
      refine G_iload (pc := 82) X (dg dt_R_matesOf 47 rfl) rfl ?_
      obtain ⟨r_8, hc_7, h⟩ := cap_go h
      refine G_callV (pc := 84) (S := []) [.int v2, .int v5, .int v4] nosub X  (dg dt_R_matesOf 48 rfl) cb_R_canTake cv_R_canTake w_1428 (s_R_canTake _ ad _ _ _ _ hc_7) rfl ⟨Nat.le_of_ble_eq_true rfl, Nat.le_of_ble_eq_true rfl⟩ sh_82 rfl (Nat.le_of_ble_eq_true rfl) Rc0 ?_
      refine G_if_ne (pc := 87) 96 X (dg dt_R_matesOf 49 rfl) (by decide) h (fun h => ?_) (fun h => ?_)
      · exact G_wk (hkx96 v5 h) ⟨rfl, ⟨rfl, ⟨rfl, ⟨rfl, ⟨rfl, trivial⟩⟩⟩⟩⟩
      · refine G_iinc (pc := 90) (v5 + 1) X (dg dt_R_matesOf 50 rfl) rfl (Nat.le_of_ble_eq_true rfl) rfl rfl ?_
        refine G_goto (pc := 93) 69 X (dg dt_R_matesOf 51 rfl) (by decide) ?_
        exact G_wk (ih (v5 + 1) h) ⟨rfl, ⟨rfl, ⟨rfl, ⟨rfl, ⟨rfl, trivial⟩⟩⟩⟩⟩
set_option maxRecDepth 100000 in
set_option maxHeartbeats 4000000 in
theorem s_R_matesOf_L24 {θ : Th} {ad : Nat → Nat}  {rv : Int32} {σe : St} (X : Cx θ [] cX12_matesOf 6 "QuasigroveModel" 2 53)
    {v2 : Int32} (hq : Rq θ (g_SH, ad) (some .int) (some (.int rv)) σe) {kx140 : Int32 → St → Option (Int32 × St)} (hkx140 : ∀ (v3 : Int32) (σ : St), kx140 v3 σ = some (rv, σe) → G θ (0, 0) (g_SH, ad) σ 140 [none, none, none, some (.int v3), none, none] []) :
    ∀ (n : Nat) (v3 : Int32) (v4 : Int32) (σ : St), f_R_matesOf_L24 v2 kx140 n v3 v4 σ = some (rv, σe) → G θ (0, 0) (g_SH, ad) σ 24 [some (.ref (ad 82)), none, some (.int v2), some (.int v3), some (.int v4), none] [] := by
  intro n
  induction n with
  | zero => intro v3 v4 σ h; rw [f_R_matesOf_L24] at h; cases h
  | succ n ih =>
    intro v3 v4 σ h
    rw [f_R_matesOf_L24] at h
    refine G_iload (pc := 24) X (dg dt_R_matesOf 17 rfl) rfl ?_
    refine G_if_lt (pc := 26) 140 X (dg dt_R_matesOf 18 rfl) (by decide) h (fun h => ?_) (fun h => ?_)
    · exact G_wk (hkx140 v3 σ h) ⟨rfl, trivial⟩
    · refine G_iload (pc := 29) X (dg dt_R_matesOf 19 rfl) rfl ?_
      refine G_iload_n (pc := 31) 2 X (dg dt_R_matesOf 20 rfl) rfl rfl ?_
      refine G_icmp_ne (pc := 32) 58 X (dg dt_R_matesOf 21 rfl) (by decide) h (fun h => ?_) (fun h => ?_)
      · refine G_aload_n (pc := 58) 0 X (dg dt_R_matesOf 33 rfl) rfl rfl ?_
        refine G_getR (pc := 59) 24 X (dg dt_R_matesOf 34 rfl) fc_8 w_1087 rfl (Nat.le_of_ble_eq_true rfl) sh_82 rfl ?_
        refine G_iload (pc := 62) X (dg dt_R_matesOf 35 rfl) rfl ?_
        refine G_iald (pc := 64) X (dg dt_R_matesOf 36 rfl) sh_98 h (fun r_6 h => ?_)
        refine G_iconst (pc := 65) 1 X (dg dt_R_matesOf 37 rfl) (by decide) ?_
        refine G_iadd (pc := 66) X (dg dt_R_matesOf 38 rfl) ?_
        refine G_istore (pc := 67) X (dg dt_R_matesOf 39 rfl) (Nat.le_of_ble_eq_true rfl) rfl ?_
        refine G_weak (L' := [some (.ref (ad 82)), none, some (.int v2), some (.int v3), some (.int v4), some (.int (r_6 + 1))]) ⟨rfl, ⟨rfl, ⟨rfl, ⟨rfl, ⟨rfl, trivial⟩⟩⟩⟩⟩ ?_
        refine s_R_matesOf_L69  X hq  (fun v5_9 h => ?_) _ _ h
        refine G_aload_n (pc := 96) 0 X (dg dt_R_matesOf 52 rfl) rfl rfl ?_
        refine G_getR (pc := 97) 24 X (dg dt_R_matesOf 53 rfl) fc_8 w_1087 rfl (Nat.le_of_ble_eq_true rfl) sh_82 rfl ?_
        refine G_iload (pc := 100) X (dg dt_R_matesOf 54 rfl) rfl ?_
        refine G_iload (pc := 102) X (dg dt_R_matesOf 55 rfl) rfl ?_
        refine G_iast (pc := 104) X (dg dt_R_matesOf 56 rfl) sh_98 h (fun σ_10 h => ?_)
        refine G_iload (pc := 105) X (dg dt_R_matesOf 57 rfl) rfl ?_
        refine G_aload_n (pc := 107) 0 X (dg dt_R_matesOf 58 rfl) rfl rfl ?_
        refine G_getI (pc := 108) 22 X (dg dt_R_matesOf 59 rfl) fc_8 w_1085 rfl (Nat.le_of_ble_eq_true rfl) sh_82 rfl ?_
        refine jn_go (fun j137_11 => ∀ (v4_12 : Int32) (σ_13 : St), j137_11 v4_12 σ_13 = some (rv, σe) → G θ (0, 0) (g_SH, ad) σ_13 137 [some (.ref (ad 82)), none, some (.int v2), some (.int v3), some (.int v4_12), none] []) h ?_ (fun j137_11 hj137_11 h => ?_)
        · intro v4_12 σ_13 h
          refine G_goto (pc := 137) 24 X (dg dt_R_matesOf 72 rfl) (by decide) ?_
          exact G_wk (ih v3 v4_12 σ_13 h) ⟨rfl, ⟨rfl, ⟨rfl, ⟨rfl, trivial⟩⟩⟩⟩
        refine G_icmp_ge (pc := 111) 134 X (dg dt_R_matesOf 60 rfl) (by decide) h (fun h => ?_) (fun h => ?_)
        · refine G_iinc (pc := 134) (v4 + (-1)) X (dg dt_R_matesOf 71 rfl) rfl (Nat.le_of_ble_eq_true rfl) rfl rfl ?_
          exact G_wk (hj137_11 (v4 + (-1)) σ_10 h) ⟨rfl, ⟨rfl, ⟨rfl, ⟨rfl, trivial⟩⟩⟩⟩
        · refine G_iinc (pc := 114) (v4 + 1) X (dg dt_R_matesOf 61 rfl) rfl (Nat.le_of_ble_eq_true rfl) rfl rfl ?_
          refine G_iload (pc := 117) X (dg dt_R_matesOf 62 rfl) rfl ?_
          refine G_iload_n (pc := 119) 2 X (dg dt_R_matesOf 63 rfl) rfl rfl ?_
          refine G_icmp_ge (pc := 120) 137 X (dg dt_R_matesOf 64 rfl) (by decide) h (fun h => ?_) (fun h => ?_)
          · exact G_wk (hj137_11 (v4 + 1) σ_10 h) ⟨rfl, ⟨rfl, ⟨rfl, ⟨rfl, trivial⟩⟩⟩⟩
          · refine G_aload_n (pc := 123) 0 X (dg dt_R_matesOf 65 rfl) rfl rfl ?_
            refine G_getR (pc := 124) 24 X (dg dt_R_matesOf 66 rfl) fc_8 w_1087 rfl (Nat.le_of_ble_eq_true rfl) sh_82 rfl ?_
            refine G_iload (pc := 127) X (dg dt_R_matesOf 67 rfl) rfl ?_
            refine G_iconst (pc := 129) (-1) X (dg dt_R_matesOf 68 rfl) (by decide) ?_
            refine G_iast (pc := 130) X (dg dt_R_matesOf 69 rfl) sh_98 h (fun σ_14 h => ?_)
            refine G_goto (pc := 131) 137 X (dg dt_R_matesOf 70 rfl) (by decide) ?_
            exact G_wk (hj137_11 (v4 + 1) σ_14 h) ⟨rfl, ⟨rfl, ⟨rfl, ⟨rfl, trivial⟩⟩⟩⟩
      · refine G_aload_n (pc := 35) 0 X (dg dt_R_matesOf 22 rfl) rfl rfl ?_
        refine G_iload_n (pc := 36) 2 X (dg dt_R_matesOf 23 rfl) rfl rfl ?_
        refine G_iload_n (pc := 37) 3 X (dg dt_R_matesOf 24 rfl) rfl rfl ?_
        refine jn_go (fun j46_15 => ∀ (s_16 : Int32), j46_15 s_16 = some (rv, σe) → G θ (0, 0) (g_SH, ad) σ 46 [some (.ref (ad 82)), none, some (.int v2), some (.int v3), some (.int v4), none] [.int s_16, .int v2, .ref (ad 82)]) h ?_ (fun j46_15 hj46_15 h => ?_)
        · intro s_16 h
          obtain ⟨r_18, σ_19, hc_17, h⟩ := cal_go h
          refine G_callV (pc := 46) (S := []) [.int v2, .int s_16] nosub X  (dg dt_R_matesOf 29 rfl) cb_R_keepLower cv_R_keepLower w_1424 (s_R_keepLower _ ad _ _ _ hc_17) rfl ⟨Nat.le_of_ble_eq_true rfl, Nat.le_of_ble_eq_true rfl⟩ sh_82 rfl (Nat.le_of_ble_eq_true rfl) Rc0 ?_
          refine G_iinc (pc := 49) (v3 + 1) X (dg dt_R_matesOf 30 rfl) rfl (Nat.le_of_ble_eq_true rfl) rfl rfl ?_
          refine G_iinc (pc := 52) (v4 + (-1)) X (dg dt_R_matesOf 31 rfl) rfl (Nat.le_of_ble_eq_true rfl) rfl rfl ?_
          refine G_goto (pc := 55) 24 X (dg dt_R_matesOf 32 rfl) (by decide) ?_
          exact G_wk (ih (v3 + 1) (v4 + (-1)) σ_19 h) ⟨rfl, ⟨rfl, ⟨rfl, ⟨rfl, trivial⟩⟩⟩⟩
        refine G_if_ne (pc := 38) 45 X (dg dt_R_matesOf 25 rfl) (by decide) h (fun h => ?_) (fun h => ?_)
        · refine G_iconst (pc := 45) 0 X (dg dt_R_matesOf 28 rfl) (by decide) ?_
          exact G_wk (hj46_15 0 h) ⟨rfl, ⟨rfl, ⟨rfl, ⟨rfl, trivial⟩⟩⟩⟩
        · refine G_iconst (pc := 41) 1 X (dg dt_R_matesOf 26 rfl) (by decide) ?_
          refine G_goto (pc := 42) 46 X (dg dt_R_matesOf 27 rfl) (by decide) ?_
          exact G_wk (hj46_15 1 h) ⟨rfl, ⟨rfl, ⟨rfl, ⟨rfl, trivial⟩⟩⟩⟩
set_option maxRecDepth 100000 in
set_option maxHeartbeats 4000000 in
theorem s_R_matesOf (l : Launch) (ad : Nat → Nat) (σ : St) (v1 : Int32)  {rv : Int32} {σe : St} (h : f_R_matesOf σ v1 = some (rv, σe)) : Rt l [] yX12_matesOf cX12_matesOf 6 (some .int) 2 53 (g_SH, ad) [.ref (ad 82), .int v1] σ (some (.int rv)) σe := by
  refine Rt.intro (L := [some (.ref (ad 82)), some (.int v1), none, none, none, none]) (by decide +kernel) (Nat.le_of_ble_eq_true rfl) rfl (fun θ hl X hq => ?_)
  subst hl
  unfold f_R_matesOf at h
  refine G_aload_n (pc := 0) 0 X (dg dt_R_matesOf 0 rfl) rfl rfl ?_
  refine G_getR (pc := 1) 2 X (dg dt_R_matesOf 1 rfl) fc_8 w_1065 rfl (Nat.le_of_ble_eq_true rfl) sh_82 rfl ?_
  refine G_iload_n (pc := 4) 1 X (dg dt_R_matesOf 2 rfl) rfl rfl ?_
  refine G_iald (pc := 5) X (dg dt_R_matesOf 3 rfl) sh_83 h (fun r_1 h => ?_)
  refine G_istore_n (pc := 6) 2 X (dg dt_R_matesOf 4 rfl) rfl (Nat.le_of_ble_eq_true rfl) rfl ?_
  refine G_aload_n (pc := 7) 0 X (dg dt_R_matesOf 5 rfl) rfl rfl ?_
  refine G_iload_n (pc := 8) 1 X (dg dt_R_matesOf 6 rfl) rfl rfl ?_
  obtain ⟨r_3, σ_4, hc_2, h⟩ := cal_go h
  refine G_callV (pc := 9) (S := []) [.int v1] nosub X  (dg dt_R_matesOf 7 rfl) cb_R_layCrosses cv_R_layCrosses w_1412 (s_R_layCrosses _ ad _ _ hc_2) rfl ⟨Nat.le_of_ble_eq_true rfl, Nat.le_of_ble_eq_true rfl⟩ sh_82 rfl (Nat.le_of_ble_eq_true rfl) Rc0 ?_
  refine G_iconst (pc := 12) 0 X (dg dt_R_matesOf 8 rfl) (by decide) ?_
  refine G_istore_n (pc := 13) 3 X (dg dt_R_matesOf 9 rfl) rfl (Nat.le_of_ble_eq_true rfl) rfl ?_
  refine G_iconst (pc := 14) 0 X (dg dt_R_matesOf 10 rfl) (by decide) ?_
  refine G_istore (pc := 15) X (dg dt_R_matesOf 11 rfl) (Nat.le_of_ble_eq_true rfl) rfl ?_
  refine G_aload_n (pc := 17) 0 X (dg dt_R_matesOf 12 rfl) rfl rfl ?_
  refine G_getR (pc := 18) 24 X (dg dt_R_matesOf 13 rfl) fc_8 w_1087 rfl (Nat.le_of_ble_eq_true rfl) sh_82 rfl ?_
  refine G_iconst (pc := 21) 0 X (dg dt_R_matesOf 14 rfl) (by decide) ?_
  refine G_iconst (pc := 22) (-1) X (dg dt_R_matesOf 15 rfl) (by decide) ?_
  refine G_iast (pc := 23) X (dg dt_R_matesOf 16 rfl) sh_98 h (fun σ_5 h => ?_)
  refine G_weak (L' := [some (.ref (ad 82)), none, some (.int r_1), some (.int 0), some (.int 0), none]) ⟨rfl, ⟨rfl, ⟨rfl, ⟨rfl, trivial⟩⟩⟩⟩ ?_
  refine s_R_matesOf_L24  X hq  (fun v3_20 σ_21 h => ?_) _ _ _ _ h
  refine G_iload_n (pc := 140) 3 X (dg dt_R_matesOf 73 rfl) rfl rfl ?_
  exact G_iret (pc := 141) X hq (dg dt_R_matesOf 74 rfl) h
set_option maxRecDepth 100000 in
set_option maxHeartbeats 4000000 in
theorem s_R_make_L12 {θ : Th} {ad : Nat → Nat}  {rv : Int32} {σe : St} (X : Cx θ [] cX12_make 3 "QuasigroveModel" 0 0)
     (hq : Rq θ (g_SH, ad) (some .int) (some (.int rv)) σe) {kx39 : St → Option (Int32 × St)} (hkx39 : ∀ (σ : St), kx39 σ = some (rv, σe) → G θ (0, 0) (g_SH, ad) σ 39 [some (.ref (ad 82)), none, none] []) :
    ∀ (n : Nat) (v2 : Int32) (σ : St), f_R_make_L12 kx39 n v2 σ = some (rv, σe) → G θ (0, 0) (g_SH, ad) σ 12 [some (.ref (ad 82)), none, some (.int v2)] [] := by
  intro n
  induction n with
  | zero => intro v2 σ h; rw [f_R_make_L12] at h; cases h
  | succ n ih =>
    intro v2 σ h
    rw [f_R_make_L12] at h
    refine G_iload_n (pc := 12) 2 X (dg dt_R_make 8 rfl) rfl rfl ?_
    refine G_bipush (pc := 13) 25 X (dg dt_R_make 9 rfl) (by decide) ?_
    refine G_icmp_ge (pc := 15) 39 X (dg dt_R_make 10 rfl) (by decide) h (fun h => ?_) (fun h => ?_)
    · exact G_wk (hkx39 σ h) ⟨rfl, trivial⟩
    · refine G_aload_n (pc := 18) 0 X (dg dt_R_make 11 rfl) rfl rfl ?_
      refine G_getR (pc := 19) 3 X (dg dt_R_make 12 rfl) fc_8 w_1066 rfl (Nat.le_of_ble_eq_true rfl) sh_82 rfl ?_
      refine G_bipush (pc := 22) 25 X (dg dt_R_make 13 rfl) (by decide) ?_
      refine G_aload_n (pc := 24) 0 X (dg dt_R_make 14 rfl) rfl rfl ?_
      refine G_getI (pc := 25) 1 X (dg dt_R_make 15 rfl) fc_8 w_1064 rfl (Nat.le_of_ble_eq_true rfl) sh_82 rfl ?_
      refine G_imul (pc := 28) X (dg dt_R_make 16 rfl) ?_
      refine G_iload_n (pc := 29) 2 X (dg dt_R_make 17 rfl) rfl rfl ?_
      refine G_iadd (pc := 30) X (dg dt_R_make 18 rfl) ?_
      refine G_iconst (pc := 31) (-1) X (dg dt_R_make 19 rfl) (by decide) ?_
      refine G_iast (pc := 32) X (dg dt_R_make 20 rfl) sh_84 h (fun σ_2 h => ?_)
      refine G_iinc (pc := 33) (v2 + 1) X (dg dt_R_make 21 rfl) rfl (Nat.le_of_ble_eq_true rfl) rfl rfl ?_
      refine G_goto (pc := 36) 12 X (dg dt_R_make 22 rfl) (by decide) ?_
      exact G_wk (ih (v2 + 1) σ_2 h) ⟨rfl, ⟨rfl, trivial⟩⟩
set_option maxRecDepth 100000 in
set_option maxHeartbeats 4000000 in
theorem s_R_make (l : Launch) (ad : Nat → Nat) (σ : St) (v1 : Int32)  {rv : Int32} {σe : St} (h : f_R_make σ v1 = some (rv, σe)) : Rt l [] yX12_make cX12_make 3 (some .int) 0 0 (g_SH, ad) [.ref (ad 82), .int v1] σ (some (.int rv)) σe := by
  refine Rt.intro (L := [some (.ref (ad 82)), some (.int v1), none]) (by decide +kernel) (Nat.le_of_ble_eq_true rfl) rfl (fun θ hl X hq => ?_)
  subst hl
  unfold f_R_make at h
  refine G_aload_n (pc := 0) 0 X (dg dt_R_make 0 rfl) rfl rfl ?_
  refine G_getR (pc := 1) 2 X (dg dt_R_make 1 rfl) fc_8 w_1065 rfl (Nat.le_of_ble_eq_true rfl) sh_82 rfl ?_
  refine G_aload_n (pc := 4) 0 X (dg dt_R_make 2 rfl) rfl rfl ?_
  refine G_getI (pc := 5) 1 X (dg dt_R_make 3 rfl) fc_8 w_1064 rfl (Nat.le_of_ble_eq_true rfl) sh_82 rfl ?_
  refine G_iload_n (pc := 8) 1 X (dg dt_R_make 4 rfl) rfl rfl ?_
  refine G_iast (pc := 9) X (dg dt_R_make 5 rfl) sh_83 h (fun σ_1 h => ?_)
  refine G_iconst (pc := 10) 0 X (dg dt_R_make 6 rfl) (by decide) ?_
  refine G_istore_n (pc := 11) 2 X (dg dt_R_make 7 rfl) rfl (Nat.le_of_ble_eq_true rfl) rfl ?_
  refine G_weak (L' := [some (.ref (ad 82)), none, some (.int 0)]) ⟨rfl, ⟨rfl, trivial⟩⟩ ?_
  refine s_R_make_L12  X hq  (fun σ_3 h => ?_) _ _ _ h
  refine G_aload_n (pc := 39) 0 X (dg dt_R_make 23 rfl) rfl rfl ?_
  refine G_dup (pc := 40) X (dg dt_R_make 24 rfl) rfl ?_
  refine G_getI (pc := 41) 1 X (dg dt_R_make 25 rfl) fc_8 w_1064 rfl (Nat.le_of_ble_eq_true rfl) sh_82 rfl ?_
  refine G_iconst (pc := 44) 1 X (dg dt_R_make 26 rfl) (by decide) ?_
  refine G_iadd (pc := 45) X (dg dt_R_make 27 rfl) ?_
  refine G_put (pc := 46) 1 X (dg dt_R_make 28 rfl) fc_8 w_1064 rfl (Nat.le_of_ble_eq_true rfl) rfl rfl sh_82 rfl h (fun σ_4 h => ?_)
  refine G_aload_n (pc := 49) 0 X (dg dt_R_make 29 rfl) rfl rfl ?_
  refine G_getI (pc := 50) 1 X (dg dt_R_make 30 rfl) fc_8 w_1064 rfl (Nat.le_of_ble_eq_true rfl) sh_82 rfl ?_
  refine G_iconst (pc := 53) 1 X (dg dt_R_make 31 rfl) (by decide) ?_
  refine G_isub (pc := 54) X (dg dt_R_make 32 rfl) ?_
  exact G_iret (pc := 55) X hq (dg dt_R_make 33 rfl) h
set_option maxRecDepth 100000 in
set_option maxHeartbeats 4000000 in
theorem s_R_mate_L58 {θ : Th} {ad : Nat → Nat}  {rv : Int32} {σe : St} (X : Cx θ [] cX12_mate 4 "QuasigroveModel" 3 78)
    {v1 : Int32} {v2 : Int32} (hq : Rq θ (g_SH, ad) (some .int) (some (.int rv)) σe) {kx98 : St → Option (Int32 × St)} (hkx98 : ∀ (σ : St), kx98 σ = some (rv, σe) → G θ (0, 0) (g_SH, ad) σ 98 [none, none, some (.int v2), none] []) :
    ∀ (n : Nat) (v3 : Int32) (σ : St), f_R_mate_L58 v1 v2 kx98 n v3 σ = some (rv, σe) → G θ (0, 0) (g_SH, ad) σ 58 [some (.ref (ad 82)), some (.int v1), some (.int v2), some (.int v3)] [] := by
  intro n
  induction n with
  | zero => intro v3 σ h; rw [f_R_mate_L58] at h; cases h
  | succ n ih =>
    intro v3 σ h
    rw [f_R_mate_L58] at h
    refine G_iload_n (pc := 58) 3 X (dg dt_R_mate 33 rfl) rfl rfl ?_
    refine G_aload_n (pc := 59) 0 X (dg dt_R_mate 34 rfl) rfl rfl ?_
    refine G_getR (pc := 60) 2 X (dg dt_R_mate 35 rfl) fc_8 w_1065 rfl (Nat.le_of_ble_eq_true rfl) sh_82 rfl ?_
    refine G_iload_n (pc := 63) 1 X (dg dt_R_mate 36 rfl) rfl rfl ?_
    refine G_iald (pc := 64) X (dg dt_R_mate 37 rfl) sh_83 h (fun r_14 h => ?_)
    refine G_aload_n (pc := 65) 0 X (dg dt_R_mate 38 rfl) rfl rfl ?_
    refine G_getR (pc := 66) 2 X (dg dt_R_mate 39 rfl) fc_8 w_1065 rfl (Nat.le_of_ble_eq_true rfl) sh_82 rfl ?_
    refine G_iload_n (pc := 69) 1 X (dg dt_R_mate 40 rfl) rfl rfl ?_
    refine G_iald (pc := 70) X (dg dt_R_mate 41 rfl) sh_83 h (fun r_15 h => ?_)
    refine G_imul (pc := 71) X (dg dt_R_mate 42 rfl) ?_
    refine G_icmp_ge (pc := 72) 98 X (dg dt_R_mate 43 rfl) (by decide) h (fun h => ?_) (fun h => ?_)
    · exact G_wk (hkx98 σ h) ⟨rfl, trivial⟩
    · refine G_aload_n (pc := 75) 0 X (dg dt_R_mate 44 rfl) rfl rfl ?_
      refine G_getR (pc := 76) 3 X (dg dt_R_mate 45 rfl) fc_8 w_1066 rfl (Nat.le_of_ble_eq_true rfl) sh_82 rfl ?_
      refine G_bipush (pc := 79) 25 X (dg dt_R_mate 46 rfl) (by decide) ?_
      refine G_iload_n (pc := 81) 2 X (dg dt_R_mate 47 rfl) rfl rfl ?_
      refine G_imul (pc := 82) X (dg dt_R_mate 48 rfl) ?_
      refine G_iload_n (pc := 83) 3 X (dg dt_R_mate 49 rfl) rfl rfl ?_
      refine G_iadd (pc := 84) X (dg dt_R_mate 50 rfl) ?_
      refine G_aload_n (pc := 85) 0 X (dg dt_R_mate 51 rfl) rfl rfl ?_
      refine G_getR (pc := 86) 17 X (dg dt_R_mate 52 rfl) fc_8 w_1080 rfl (Nat.le_of_ble_eq_true rfl) sh_82 rfl ?_
      refine G_iload_n (pc := 89) 3 X (dg dt_R_mate 53 rfl) rfl rfl ?_
      refine G_iald (pc := 90) X (dg dt_R_mate 54 rfl) sh_93 h (fun r_16 h => ?_)
      refine G_iast (pc := 91) X (dg dt_R_mate 55 rfl) sh_84 h (fun σ_17 h => ?_)
      refine G_iinc (pc := 92) (v3 + 1) X (dg dt_R_mate 56 rfl) rfl (Nat.le_of_ble_eq_true rfl) rfl rfl ?_
      refine G_goto (pc := 95) 58 X (dg dt_R_mate 57 rfl) (by decide) ?_
      exact G_wk (ih (v3 + 1) σ_17 h) ⟨rfl, ⟨rfl, ⟨rfl, ⟨rfl, trivial⟩⟩⟩⟩
set_option maxRecDepth 100000 in
set_option maxHeartbeats 4000000 in
theorem s_R_mate (l : Launch) (ad : Nat → Nat) (σ : St) (v1 : Int32)  {rv : Int32} {σe : St} (h : f_R_mate σ v1 = some (rv, σe)) : Rt l [] yX12_mate cX12_mate 4 (some .int) 3 78 (g_SH, ad) [.ref (ad 82), .int v1] σ (some (.int rv)) σe := by
  refine Rt.intro (L := [some (.ref (ad 82)), some (.int v1), none, none]) (by decide +kernel) (Nat.le_of_ble_eq_true rfl) rfl (fun θ hl X hq => ?_)
  subst hl
  unfold f_R_mate at h
  refine G_aload_n (pc := 0) 0 X (dg dt_R_mate 0 rfl) rfl rfl ?_
  refine G_iload_n (pc := 1) 1 X (dg dt_R_mate 1 rfl) rfl rfl ?_
  obtain ⟨r_2, σ_3, hc_1, h⟩ := cal_go h
  refine G_callV (pc := 2) (S := []) [.int v1] nosub X  (dg dt_R_mate 2 rfl) cb_R_canAsk cv_R_canAsk w_1344 (s_R_canAsk _ ad _ _ hc_1) rfl ⟨Nat.le_of_ble_eq_true rfl, Nat.le_of_ble_eq_true rfl⟩ sh_82 rfl (Nat.le_of_ble_eq_true rfl) Rc0 ?_
  refine G_if_ne (pc := 5) 10 X (dg dt_R_mate 3 rfl) (by decide) h (fun h => ?_) (fun h => ?_)
  · refine G_aload_n (pc := 10) 0 X (dg dt_R_mate 6 rfl) rfl rfl ?_
    refine G_aload_n (pc := 11) 0 X (dg dt_R_mate 7 rfl) rfl rfl ?_
    refine G_iload_n (pc := 12) 1 X (dg dt_R_mate 8 rfl) rfl rfl ?_
    obtain ⟨r_5, σ_6, hc_4, h⟩ := cal_go h
    refine G_callV (pc := 13) (S := [.ref (ad 82)]) [.int v1] nosub X  (dg dt_R_mate 9 rfl) cb_R_matesOf cv_R_matesOf w_1420 (s_R_matesOf _ ad _ _ hc_4) rfl ⟨Nat.le_of_ble_eq_true rfl, Nat.le_of_ble_eq_true rfl⟩ sh_82 rfl (Nat.le_of_ble_eq_true rfl) Rc0 ?_
    refine jn_go (fun j33_7 => ∀ (s_8 : Int32), j33_7 s_8 = some (rv, σe) → G θ (0, 0) (g_SH, ad) σ_6 33 [some (.ref (ad 82)), some (.int v1), none, none] [.int s_8, .ref (ad 82)]) h ?_ (fun j33_7 hj33_7 h => ?_)
    · intro s_8 h
      refine G_put (pc := 33) 0 X (dg dt_R_mate 18 rfl) fc_8 w_1063 rfl (Nat.le_of_ble_eq_true rfl) rfl rfl sh_82 rfl h (fun σ_9 h => ?_)
      refine G_aload_n (pc := 36) 0 X (dg dt_R_mate 19 rfl) rfl rfl ?_
      refine G_getI (pc := 37) 0 X (dg dt_R_mate 20 rfl) fc_8 w_1063 rfl (Nat.le_of_ble_eq_true rfl) sh_82 rfl ?_
      refine G_if_le (pc := 40) 45 X (dg dt_R_mate 21 rfl) (by decide) h (fun h => ?_) (fun h => ?_)
      · refine G_aload_n (pc := 45) 0 X (dg dt_R_mate 24 rfl) rfl rfl ?_
        refine G_aload_n (pc := 46) 0 X (dg dt_R_mate 25 rfl) rfl rfl ?_
        refine G_getR (pc := 47) 2 X (dg dt_R_mate 26 rfl) fc_8 w_1065 rfl (Nat.le_of_ble_eq_true rfl) sh_82 rfl ?_
        refine G_iload_n (pc := 50) 1 X (dg dt_R_mate 27 rfl) rfl rfl ?_
        refine G_iald (pc := 51) X (dg dt_R_mate 28 rfl) sh_83 h (fun r_10 h => ?_)
        obtain ⟨r_12, σ_13, hc_11, h⟩ := cal_go h
        refine G_callV (pc := 52) (S := []) [.int r_10] nosub X  (dg dt_R_mate 29 rfl) cb_R_make cv_R_make w_1163 (s_R_make _ ad _ _ hc_11) rfl ⟨Nat.le_of_ble_eq_true rfl, Nat.le_of_ble_eq_true rfl⟩ sh_82 rfl (Nat.le_of_ble_eq_true rfl) Rc0 ?_
        refine G_istore_n (pc := 55) 2 X (dg dt_R_mate 30 rfl) rfl (Nat.le_of_ble_eq_true rfl) rfl ?_
        refine G_iconst (pc := 56) 0 X (dg dt_R_mate 31 rfl) (by decide) ?_
        refine G_istore_n (pc := 57) 3 X (dg dt_R_mate 32 rfl) rfl (Nat.le_of_ble_eq_true rfl) rfl ?_
        refine G_weak (L' := [some (.ref (ad 82)), some (.int v1), some (.int r_12), some (.int 0)]) ⟨rfl, ⟨rfl, ⟨rfl, ⟨rfl, trivial⟩⟩⟩⟩ ?_
        refine s_R_mate_L58  X hq  (fun σ_18 h => ?_) _ _ _ h
        refine G_iload_n (pc := 98) 2 X (dg dt_R_mate 58 rfl) rfl rfl ?_
        exact G_iret (pc := 99) X hq (dg dt_R_mate 59 rfl) h
      · refine G_iconst (pc := 43) 0 X (dg dt_R_mate 22 rfl) (by decide) ?_
        exact G_iret (pc := 44) X hq (dg dt_R_mate 23 rfl) h
    refine jn_go (fun j28_19 => j28_19 = some (rv, σe) → G θ (0, 0) (g_SH, ad) σ_6 28 [some (.ref (ad 82)), some (.int v1), none, none] [.ref (ad 82)]) h ?_ (fun j28_19 hj28_19 h => ?_)
    · intro  h
      refine G_iconst (pc := 28) 2 X (dg dt_R_mate 15 rfl) (by decide) ?_
      refine G_goto (pc := 29) 33 X (dg dt_R_mate 16 rfl) (by decide) ?_
      exact G_wk (hj33_7 2 h) ⟨rfl, ⟨rfl, trivial⟩⟩
    refine G_if_eq (pc := 16) 28 X (dg dt_R_mate 10 rfl) (by decide) h (fun h => ?_) (fun h => ?_)
    · exact G_wk (hj28_19  h) ⟨rfl, ⟨rfl, trivial⟩⟩
    · refine G_aload_n (pc := 19) 0 X (dg dt_R_mate 11 rfl) rfl rfl ?_
      refine G_getI (pc := 20) 1 X (dg dt_R_mate 12 rfl) fc_8 w_1064 rfl (Nat.le_of_ble_eq_true rfl) sh_82 rfl ?_
      refine G_bipush (pc := 23) 12 X (dg dt_R_mate 13 rfl) (by decide) ?_
      refine G_icmp_ne (pc := 25) 32 X (dg dt_R_mate 14 rfl) (by decide) h (fun h => ?_) (fun h => ?_)
      · refine G_iconst (pc := 32) 0 X (dg dt_R_mate 17 rfl) (by decide) ?_
        exact G_wk (hj33_7 0 h) ⟨rfl, ⟨rfl, trivial⟩⟩
      · exact G_wk (hj28_19  h) ⟨rfl, ⟨rfl, trivial⟩⟩
  · refine G_iconst (pc := 8) 0 X (dg dt_R_mate 4 rfl) (by decide) ?_
    exact G_iret (pc := 9) X hq (dg dt_R_mate 5 rfl) h
set_option maxRecDepth 100000 in
set_option maxHeartbeats 4000000 in
theorem s_R_mates (l : Launch) (ad : Nat → Nat) (σ : St) (v1 : Int32)  {rv : Int32} {σe : St} (h : f_R_mates σ v1 = some (rv, σe)) : Rt l [] yX12_mates cX12_mates 2 (some .int) 3 78 (g_SH, ad) [.ref (ad 82), .int v1] σ (some (.int rv)) σe := by
  refine Rt.intro (L := [some (.ref (ad 82)), some (.int v1)]) (by decide +kernel) (Nat.le_of_ble_eq_true rfl) rfl (fun θ hl X hq => ?_)
  subst hl
  unfold f_R_mates at h
  refine G_aload_n (pc := 0) 0 X (dg dt_R_mates 0 rfl) rfl rfl ?_
  refine G_iload_n (pc := 1) 1 X (dg dt_R_mates 1 rfl) rfl rfl ?_
  obtain ⟨r_2, σ_3, hc_1, h⟩ := cal_go h
  refine G_callV (pc := 2) (S := []) [.int v1] nosub X  (dg dt_R_mates 2 rfl) cb_R_canAsk cv_R_canAsk w_1344 (s_R_canAsk _ ad _ _ hc_1) rfl ⟨Nat.le_of_ble_eq_true rfl, Nat.le_of_ble_eq_true rfl⟩ sh_82 rfl (Nat.le_of_ble_eq_true rfl) Rc0 ?_
  refine G_if_eq (pc := 5) 16 X (dg dt_R_mates 3 rfl) (by decide) h (fun h => ?_) (fun h => ?_)
  · refine G_iconst (pc := 16) 0 X (dg dt_R_mates 8 rfl) (by decide) ?_
    exact G_iret (pc := 17) X hq (dg dt_R_mates 9 rfl) h
  · refine G_aload_n (pc := 8) 0 X (dg dt_R_mates 4 rfl) rfl rfl ?_
    refine G_iload_n (pc := 9) 1 X (dg dt_R_mates 5 rfl) rfl rfl ?_
    obtain ⟨r_5, σ_6, hc_4, h⟩ := cal_go h
    refine G_callV (pc := 10) (S := []) [.int v1] nosub X  (dg dt_R_mates 6 rfl) cb_R_matesOf cv_R_matesOf w_1420 (s_R_matesOf _ ad _ _ hc_4) rfl ⟨Nat.le_of_ble_eq_true rfl, Nat.le_of_ble_eq_true rfl⟩ sh_82 rfl (Nat.le_of_ble_eq_true rfl) Rc0 ?_
    refine G_goto (pc := 13) 17 X (dg dt_R_mates 7 rfl) (by decide) ?_
    exact G_iret (pc := 17) X hq (dg dt_R_mates 9 rfl) h
set_option maxRecDepth 100000 in
set_option maxHeartbeats 4000000 in
theorem s_R_transversals (l : Launch) (ad : Nat → Nat) (σ : St) (v1 : Int32)  {rv : Int32} {σe : St} (h : f_R_transversals σ v1 = some (rv, σe)) : Rt l [] yX12_transversals cX12_transversals 2 (some .int) 3 65 (g_SH, ad) [.ref (ad 82), .int v1] σ (some (.int rv)) σe := by
  refine Rt.intro (L := [some (.ref (ad 82)), some (.int v1)]) (by decide +kernel) (Nat.le_of_ble_eq_true rfl) rfl (fun θ hl X hq => ?_)
  subst hl
  unfold f_R_transversals at h
  refine G_aload_n (pc := 0) 0 X (dg dt_R_transversals 0 rfl) rfl rfl ?_
  refine G_iload_n (pc := 1) 1 X (dg dt_R_transversals 1 rfl) rfl rfl ?_
  obtain ⟨r_2, σ_3, hc_1, h⟩ := cal_go h
  refine G_callV (pc := 2) (S := []) [.int v1] nosub X  (dg dt_R_transversals 2 rfl) cb_R_canAsk cv_R_canAsk w_1344 (s_R_canAsk _ ad _ _ hc_1) rfl ⟨Nat.le_of_ble_eq_true rfl, Nat.le_of_ble_eq_true rfl⟩ sh_82 rfl (Nat.le_of_ble_eq_true rfl) Rc0 ?_
  refine G_if_ne (pc := 5) 10 X (dg dt_R_transversals 3 rfl) (by decide) h (fun h => ?_) (fun h => ?_)
  · refine G_aload_n (pc := 10) 0 X (dg dt_R_transversals 6 rfl) rfl rfl ?_
    refine G_iload_n (pc := 11) 1 X (dg dt_R_transversals 7 rfl) rfl rfl ?_
    obtain ⟨r_5, σ_6, hc_4, h⟩ := cal_go h
    refine G_callV (pc := 12) (S := []) [.int v1] nosub X  (dg dt_R_transversals 8 rfl) cb_R_layCrosses cv_R_layCrosses w_1412 (s_R_layCrosses _ ad _ _ hc_4) rfl ⟨Nat.le_of_ble_eq_true rfl, Nat.le_of_ble_eq_true rfl⟩ sh_82 rfl (Nat.le_of_ble_eq_true rfl) Rc0 ?_
    refine G_aload_n (pc := 15) 0 X (dg dt_R_transversals 9 rfl) rfl rfl ?_
    refine G_getI (pc := 16) 22 X (dg dt_R_transversals 10 rfl) fc_8 w_1085 rfl (Nat.le_of_ble_eq_true rfl) sh_82 rfl ?_
    exact G_iret (pc := 19) X hq (dg dt_R_transversals 11 rfl) h
  · refine G_iconst (pc := 8) 0 X (dg dt_R_transversals 4 rfl) (by decide) ?_
    exact G_iret (pc := 9) X hq (dg dt_R_transversals 5 rfl) h
set_option maxRecDepth 100000 in
set_option maxHeartbeats 4000000 in
theorem s_R_brings_L11 {θ : Th} {ad : Nat → Nat}  {rv : Int32} {σe : St} (X : Cx θ [] cX12_brings 9 "QuasigroveModel" 1 23)
    {v1 : Int32} {v2 : Int32} {v3 : Int32} {v4 : Int32} {v5 : Int32} (hq : Rq θ (g_SH, ad) (some .boolean) (some (.int rv)) σe) {kx62 : St → Option (Int32 × St)} (hkx62 : ∀ (σ : St), kx62 σ = some (rv, σe) → G θ (0, 0) (g_SH, ad) σ 62 [some (.ref (ad 82)), some (.int v1), some (.int v2), some (.int v3), some (.int v4), some (.int v5), none, none, none] []) :
    ∀ (n : Nat) (v6 : Int32) (σ : St), f_R_brings_L11 v1 v2 v3 v4 v5 kx62 n v6 σ = some (rv, σe) → G θ (0, 0) (g_SH, ad) σ 11 [some (.ref (ad 82)), some (.int v1), some (.int v2), some (.int v3), some (.int v4), some (.int v5), some (.int v6), none, none] [] := by
  intro n
  induction n with
  | zero => intro v6 σ h; rw [f_R_brings_L11] at h; cases h
  | succ n ih =>
    intro v6 σ h
    rw [f_R_brings_L11] at h
    refine G_iload (pc := 11) X (dg dt_R_brings 7 rfl) rfl ?_
    refine G_iload (pc := 13) X (dg dt_R_brings 8 rfl) rfl ?_
    refine G_icmp_ge (pc := 15) 62 X (dg dt_R_brings 9 rfl) (by decide) h (fun h => ?_) (fun h => ?_)
    · exact G_wk (hkx62 σ h) ⟨rfl, ⟨rfl, ⟨rfl, ⟨rfl, ⟨rfl, ⟨rfl, trivial⟩⟩⟩⟩⟩⟩
    · refine G_aload_n (pc := 18) 0 X (dg dt_R_brings 10 rfl) rfl rfl ?_
      refine G_getR (pc := 19) 12 X (dg dt_R_brings 11 rfl) fc_8 w_1075 rfl (Nat.le_of_ble_eq_true rfl) sh_82 rfl ?_
      refine G_aload_n (pc := 22) 0 X (dg dt_R_brings 12 rfl) rfl rfl ?_
      refine G_iload_n (pc := 23) 1 X (dg dt_R_brings 13 rfl) rfl rfl ?_
      refine G_iconst (pc := 24) 0 X (dg dt_R_brings 14 rfl) (by decide) ?_
      refine G_iload (pc := 25) X (dg dt_R_brings 15 rfl) rfl ?_
      obtain ⟨r_3, hc_2, h⟩ := cap_go h
      refine G_callV (pc := 27) (S := [.ref (ad 90)]) [.int v1, .int 0, .int v6] nosub X  (dg dt_R_brings 16 rfl) cb_R_at cv_R_at w_1191 (s_R_at _ ad _ _ _ _ hc_2) rfl ⟨Nat.le_of_ble_eq_true rfl, Nat.le_of_ble_eq_true rfl⟩ sh_82 rfl (Nat.le_of_ble_eq_true rfl) Rc0 ?_
      refine G_aload_n (pc := 30) 0 X (dg dt_R_brings 17 rfl) rfl rfl ?_
      refine G_iload_n (pc := 31) 2 X (dg dt_R_brings 18 rfl) rfl rfl ?_
      refine G_aload_n (pc := 32) 0 X (dg dt_R_brings 19 rfl) rfl rfl ?_
      refine G_getR (pc := 33) 11 X (dg dt_R_brings 20 rfl) fc_8 w_1074 rfl (Nat.le_of_ble_eq_true rfl) sh_82 rfl ?_
      refine G_iconst (pc := 36) 5 X (dg dt_R_brings 21 rfl) (by decide) ?_
      refine G_iload_n (pc := 37) 3 X (dg dt_R_brings 22 rfl) rfl rfl ?_
      refine G_imul (pc := 38) X (dg dt_R_brings 23 rfl) ?_
      refine G_iald (pc := 39) X (dg dt_R_brings 24 rfl) sh_89 h (fun r_4 h => ?_)
      refine G_aload_n (pc := 40) 0 X (dg dt_R_brings 25 rfl) rfl rfl ?_
      refine G_getR (pc := 41) 11 X (dg dt_R_brings 26 rfl) fc_8 w_1074 rfl (Nat.le_of_ble_eq_true rfl) sh_82 rfl ?_
      refine G_iconst (pc := 44) 5 X (dg dt_R_brings 27 rfl) (by decide) ?_
      refine G_iload (pc := 45) X (dg dt_R_brings 28 rfl) rfl ?_
      refine G_imul (pc := 47) X (dg dt_R_brings 29 rfl) ?_
      refine G_iload (pc := 48) X (dg dt_R_brings 30 rfl) rfl ?_
      refine G_iadd (pc := 50) X (dg dt_R_brings 31 rfl) ?_
      refine G_iald (pc := 51) X (dg dt_R_brings 32 rfl) sh_89 h (fun r_5 h => ?_)
      obtain ⟨r_7, hc_6, h⟩ := cap_go h
      refine G_callV (pc := 52) (S := [.int r_3, .ref (ad 90)]) [.int v2, .int r_4, .int r_5] nosub X  (dg dt_R_brings 33 rfl) cb_R_at cv_R_at w_1191 (s_R_at _ ad _ _ _ _ hc_6) rfl ⟨Nat.le_of_ble_eq_true rfl, Nat.le_of_ble_eq_true rfl⟩ sh_82 rfl (Nat.le_of_ble_eq_true rfl) Rc0 ?_
      refine G_iast (pc := 55) X (dg dt_R_brings 34 rfl) sh_90 h (fun σ_8 h => ?_)
      refine G_iinc (pc := 56) (v6 + 1) X (dg dt_R_brings 35 rfl) rfl (Nat.le_of_ble_eq_true rfl) rfl rfl ?_
      refine G_goto (pc := 59) 11 X (dg dt_R_brings 36 rfl) (by decide) ?_
      exact G_wk (ih (v6 + 1) σ_8 h) ⟨rfl, ⟨rfl, ⟨rfl, ⟨rfl, ⟨rfl, ⟨rfl, ⟨rfl, trivial⟩⟩⟩⟩⟩⟩⟩
set_option maxRecDepth 100000 in
set_option maxHeartbeats 4000000 in
theorem s_R_brings_L83 {θ : Th} {ad : Nat → Nat}  {rv : Int32} {σe : St} (X : Cx θ [] cX12_brings 9 "QuasigroveModel" 1 23)
    {v1 : Int32} {v2 : Int32} {v3 : Int32} {v4 : Int32} {v5 : Int32} {v7 : Int32} {σ : St} (hq : Rq θ (g_SH, ad) (some .boolean) (some (.int rv)) σe) {kx153 : Int32 → Option (Int32 × St)} (hkx153 : ∀ (v6 : Int32), kx153 v6 = some (rv, σe) → G θ (0, 0) (g_SH, ad) σ 153 [some (.ref (ad 82)), some (.int v1), some (.int v2), some (.int v3), some (.int v4), some (.int v5), some (.int v6), some (.int v7), none] []) :
    ∀ (n : Nat) (v6 : Int32) (v8 : Int32), f_R_brings_L83 v1 v2 v3 v4 v5 v7 σ kx153 n v6 v8 = some (rv, σe) → G θ (0, 0) (g_SH, ad) σ 83 [some (.ref (ad 82)), some (.int v1), some (.int v2), some (.int v3), some (.int v4), some (.int v5), some (.int v6), some (.int v7), some (.int v8)] [] := by
  intro n
  induction n with
  | zero => intro v6 v8 h; rw [f_R_brings_L83] at h; cases h
  | succ n ih =>
    intro v6 v8 h
    rw [f_R_brings_L83] at h
    refine G_iload (pc := 83) X (dg dt_R_brings 48 rfl) rfl ?_
    refine G_iload (pc := 85) X (dg dt_R_brings 49 rfl) rfl ?_
    refine G_icmp_ge (pc := 87) 153 X (dg dt_R_brings 50 rfl) (by decide) h (fun h => ?_) (fun h => ?_)
    · exact G_wk (hkx153 v6 h) ⟨rfl, ⟨rfl, ⟨rfl, ⟨rfl, ⟨rfl, ⟨rfl, ⟨rfl, ⟨rfl, trivial⟩⟩⟩⟩⟩⟩⟩⟩
    · refine G_iload (pc := 90) X (dg dt_R_brings 51 rfl) rfl ?_
      refine jn_go (fun j145_10 => ∀ (s_11 : Int32), j145_10 s_11 = some (rv, σe) → G θ (0, 0) (g_SH, ad) σ 145 [some (.ref (ad 82)), some (.int v1), some (.int v2), some (.int v3), some (.int v4), some (.int v5), none, some (.int v7), some (.int v8)] [.int s_11]) h ?_ (fun j145_10 hj145_10 h => ?_)
      · intro s_11 h
        refine G_istore (pc := 145) X (dg dt_R_brings 84 rfl) (Nat.le_of_ble_eq_true rfl) rfl ?_
        refine G_iinc (pc := 147) (v8 + 1) X (dg dt_R_brings 85 rfl) rfl (Nat.le_of_ble_eq_true rfl) rfl rfl ?_
        refine G_goto (pc := 150) 83 X (dg dt_R_brings 86 rfl) (by decide) ?_
        exact G_wk (ih s_11 (v8 + 1) h) ⟨rfl, ⟨rfl, ⟨rfl, ⟨rfl, ⟨rfl, ⟨rfl, ⟨rfl, ⟨rfl, ⟨rfl, trivial⟩⟩⟩⟩⟩⟩⟩⟩⟩
      refine jn_go (fun j144_12 => j144_12 = some (rv, σe) → G θ (0, 0) (g_SH, ad) σ 144 [some (.ref (ad 82)), some (.int v1), some (.int v2), some (.int v3), some (.int v4), some (.int v5), none, some (.int v7), some (.int v8)] []) h ?_ (fun j144_12 hj144_12 h => ?_)
      · intro  h
        refine G_iconst (pc := 144) 0 X (dg dt_R_brings 83 rfl) (by decide) ?_
        exact G_wk (hj145_10 0 h) ⟨rfl, ⟨rfl, ⟨rfl, ⟨rfl, ⟨rfl, ⟨rfl, ⟨rfl, ⟨rfl, trivial⟩⟩⟩⟩⟩⟩⟩⟩
      refine G_if_eq (pc := 92) 144 X (dg dt_R_brings 52 rfl) (by decide) h (fun h => ?_) (fun h => ?_)
      · exact G_wk (hj144_12  h) ⟨rfl, ⟨rfl, ⟨rfl, ⟨rfl, ⟨rfl, ⟨rfl, ⟨rfl, ⟨rfl, trivial⟩⟩⟩⟩⟩⟩⟩⟩
      · refine G_aload_n (pc := 95) 0 X (dg dt_R_brings 53 rfl) rfl rfl ?_
        refine G_getR (pc := 96) 12 X (dg dt_R_brings 54 rfl) fc_8 w_1075 rfl (Nat.le_of_ble_eq_true rfl) sh_82 rfl ?_
        refine G_aload_n (pc := 99) 0 X (dg dt_R_brings 55 rfl) rfl rfl ?_
        refine G_iload_n (pc := 100) 1 X (dg dt_R_brings 56 rfl) rfl rfl ?_
        refine G_iload (pc := 101) X (dg dt_R_brings 57 rfl) rfl ?_
        refine G_iload (pc := 103) X (dg dt_R_brings 58 rfl) rfl ?_
        obtain ⟨r_14, hc_13, h⟩ := cap_go h
        refine G_callV (pc := 105) (S := [.ref (ad 90)]) [.int v1, .int v7, .int v8] nosub X  (dg dt_R_brings 59 rfl) cb_R_at cv_R_at w_1191 (s_R_at _ ad _ _ _ _ hc_13) rfl ⟨Nat.le_of_ble_eq_true rfl, Nat.le_of_ble_eq_true rfl⟩ sh_82 rfl (Nat.le_of_ble_eq_true rfl) Rc0 ?_
        refine G_iald (pc := 108) X (dg dt_R_brings 60 rfl) sh_90 h (fun r_15 h => ?_)
        refine G_aload_n (pc := 109) 0 X (dg dt_R_brings 61 rfl) rfl rfl ?_
        refine G_iload_n (pc := 110) 2 X (dg dt_R_brings 62 rfl) rfl rfl ?_
        refine G_aload_n (pc := 111) 0 X (dg dt_R_brings 63 rfl) rfl rfl ?_
        refine G_getR (pc := 112) 11 X (dg dt_R_brings 64 rfl) fc_8 w_1074 rfl (Nat.le_of_ble_eq_true rfl) sh_82 rfl ?_
        refine G_iconst (pc := 115) 5 X (dg dt_R_brings 65 rfl) (by decide) ?_
        refine G_iload_n (pc := 116) 3 X (dg dt_R_brings 66 rfl) rfl rfl ?_
        refine G_imul (pc := 117) X (dg dt_R_brings 67 rfl) ?_
        refine G_iload (pc := 118) X (dg dt_R_brings 68 rfl) rfl ?_
        refine G_iadd (pc := 120) X (dg dt_R_brings 69 rfl) ?_
        refine G_iald (pc := 121) X (dg dt_R_brings 70 rfl) sh_89 h (fun r_16 h => ?_)
        refine G_aload_n (pc := 122) 0 X (dg dt_R_brings 71 rfl) rfl rfl ?_
        refine G_getR (pc := 123) 11 X (dg dt_R_brings 72 rfl) fc_8 w_1074 rfl (Nat.le_of_ble_eq_true rfl) sh_82 rfl ?_
        refine G_iconst (pc := 126) 5 X (dg dt_R_brings 73 rfl) (by decide) ?_
        refine G_iload (pc := 127) X (dg dt_R_brings 74 rfl) rfl ?_
        refine G_imul (pc := 129) X (dg dt_R_brings 75 rfl) ?_
        refine G_iload (pc := 130) X (dg dt_R_brings 76 rfl) rfl ?_
        refine G_iadd (pc := 132) X (dg dt_R_brings 77 rfl) ?_
        refine G_iald (pc := 133) X (dg dt_R_brings 78 rfl) sh_89 h (fun r_17 h => ?_)
        obtain ⟨r_19, hc_18, h⟩ := cap_go h
        refine G_callV (pc := 134) (S := [.int r_15]) [.int v2, .int r_16, .int r_17] nosub X  (dg dt_R_brings 79 rfl) cb_R_at cv_R_at w_1191 (s_R_at _ ad _ _ _ _ hc_18) rfl ⟨Nat.le_of_ble_eq_true rfl, Nat.le_of_ble_eq_true rfl⟩ sh_82 rfl (Nat.le_of_ble_eq_true rfl) Rc0 ?_
        refine G_icmp_ne (pc := 137) 144 X (dg dt_R_brings 80 rfl) (by decide) h (fun h => ?_) (fun h => ?_)
        · exact G_wk (hj144_12  h) ⟨rfl, ⟨rfl, ⟨rfl, ⟨rfl, ⟨rfl, ⟨rfl, ⟨rfl, ⟨rfl, trivial⟩⟩⟩⟩⟩⟩⟩⟩
        · refine G_iconst (pc := 140) 1 X (dg dt_R_brings 81 rfl) (by decide) ?_
          refine G_goto (pc := 141) 145 X (dg dt_R_brings 82 rfl) (by decide) ?_
          exact G_wk (hj145_10 1 h) ⟨rfl, ⟨rfl, ⟨rfl, ⟨rfl, ⟨rfl, ⟨rfl, ⟨rfl, ⟨rfl, trivial⟩⟩⟩⟩⟩⟩⟩⟩
set_option maxRecDepth 100000 in
set_option maxHeartbeats 4000000 in
theorem s_R_brings_L68 {θ : Th} {ad : Nat → Nat}  {rv : Int32} {σe : St} (X : Cx θ [] cX12_brings 9 "QuasigroveModel" 1 23)
    {v1 : Int32} {v2 : Int32} {v3 : Int32} {v4 : Int32} {v5 : Int32} {σ : St} (hq : Rq θ (g_SH, ad) (some .boolean) (some (.int rv)) σe) {kx159 : Int32 → Option (Int32 × St)} (hkx159 : ∀ (v6 : Int32), kx159 v6 = some (rv, σe) → G θ (0, 0) (g_SH, ad) σ 159 [none, none, none, none, none, none, some (.int v6), none, none] []) :
    ∀ (n : Nat) (v6 : Int32) (v7 : Int32), f_R_brings_L68 v1 v2 v3 v4 v5 σ kx159 n v6 v7 = some (rv, σe) → G θ (0, 0) (g_SH, ad) σ 68 [some (.ref (ad 82)), some (.int v1), some (.int v2), some (.int v3), some (.int v4), some (.int v5), some (.int v6), some (.int v7), none] [] := by
  intro n
  induction n with
  | zero => intro v6 v7 h; rw [f_R_brings_L68] at h; cases h
  | succ n ih =>
    intro v6 v7 h
    rw [f_R_brings_L68] at h
    refine G_iload (pc := 68) X (dg dt_R_brings 41 rfl) rfl ?_
    refine G_iload (pc := 70) X (dg dt_R_brings 42 rfl) rfl ?_
    refine G_icmp_ge (pc := 72) 159 X (dg dt_R_brings 43 rfl) (by decide) h (fun h => ?_) (fun h => ?_)
    · exact G_wk (hkx159 v6 h) ⟨rfl, trivial⟩
    · refine G_iload (pc := 75) X (dg dt_R_brings 44 rfl) rfl ?_
      refine G_if_eq (pc := 77) 159 X (dg dt_R_brings 45 rfl) (by decide) h (fun h => ?_) (fun h => ?_)
      · exact G_wk (hkx159 v6 h) ⟨rfl, trivial⟩
      · refine G_iconst (pc := 80) 0 X (dg dt_R_brings 46 rfl) (by decide) ?_
        refine G_istore (pc := 81) X (dg dt_R_brings 47 rfl) (Nat.le_of_ble_eq_true rfl) rfl ?_
        refine G_weak (L' := [some (.ref (ad 82)), some (.int v1), some (.int v2), some (.int v3), some (.int v4), some (.int v5), some (.int v6), some (.int v7), some (.int 0)]) ⟨rfl, ⟨rfl, ⟨rfl, ⟨rfl, ⟨rfl, ⟨rfl, ⟨rfl, ⟨rfl, ⟨rfl, trivial⟩⟩⟩⟩⟩⟩⟩⟩⟩ ?_
        refine s_R_brings_L83  X hq  (fun v6_20 h => ?_) _ _ _ h
        refine G_iinc (pc := 153) (v7 + 1) X (dg dt_R_brings 87 rfl) rfl (Nat.le_of_ble_eq_true rfl) rfl rfl ?_
        refine G_goto (pc := 156) 68 X (dg dt_R_brings 88 rfl) (by decide) ?_
        exact G_wk (ih v6_20 (v7 + 1) h) ⟨rfl, ⟨rfl, ⟨rfl, ⟨rfl, ⟨rfl, ⟨rfl, ⟨rfl, ⟨rfl, trivial⟩⟩⟩⟩⟩⟩⟩⟩
set_option maxRecDepth 100000 in
set_option maxHeartbeats 4000000 in
theorem s_R_brings (l : Launch) (ad : Nat → Nat) (σ : St) (v1 : Int32) (v2 : Int32) (v3 : Int32) (v4 : Int32)  {rv : Int32} {σe : St} (h : f_R_brings σ v1 v2 v3 v4 = some (rv, σe)) : Rt l [] yX12_brings cX12_brings 9 (some .boolean) 1 23 (g_SH, ad) [.ref (ad 82), .int v1, .int v2, .int v3, .int v4] σ (some (.int rv)) σe := by
  refine Rt.intro (L := [some (.ref (ad 82)), some (.int v1), some (.int v2), some (.int v3), some (.int v4), none, none, none, none]) (by decide +kernel) (Nat.le_of_ble_eq_true rfl) rfl (fun θ hl X hq => ?_)
  subst hl
  unfold f_R_brings at h
  refine G_aload_n (pc := 0) 0 X (dg dt_R_brings 0 rfl) rfl rfl ?_
  refine G_getR (pc := 1) 2 X (dg dt_R_brings 1 rfl) fc_8 w_1065 rfl (Nat.le_of_ble_eq_true rfl) sh_82 rfl ?_
  refine G_iload_n (pc := 4) 1 X (dg dt_R_brings 2 rfl) rfl rfl ?_
  refine G_iald (pc := 5) X (dg dt_R_brings 3 rfl) sh_83 h (fun r_1 h => ?_)
  refine G_istore (pc := 6) X (dg dt_R_brings 4 rfl) (Nat.le_of_ble_eq_true rfl) rfl ?_
  refine G_iconst (pc := 8) 0 X (dg dt_R_brings 5 rfl) (by decide) ?_
  refine G_istore (pc := 9) X (dg dt_R_brings 6 rfl) (Nat.le_of_ble_eq_true rfl) rfl ?_
  refine G_weak (L' := [some (.ref (ad 82)), some (.int v1), some (.int v2), some (.int v3), some (.int v4), some (.int r_1), some (.int 0), none, none]) ⟨rfl, ⟨rfl, ⟨rfl, ⟨rfl, ⟨rfl, ⟨rfl, ⟨rfl, trivial⟩⟩⟩⟩⟩⟩⟩ ?_
  refine s_R_brings_L11  X hq  (fun σ_9 h => ?_) _ _ _ h
  refine G_iconst (pc := 62) 1 X (dg dt_R_brings 37 rfl) (by decide) ?_
  refine G_istore (pc := 63) X (dg dt_R_brings 38 rfl) (Nat.le_of_ble_eq_true rfl) rfl ?_
  refine G_iconst (pc := 65) 1 X (dg dt_R_brings 39 rfl) (by decide) ?_
  refine G_istore (pc := 66) X (dg dt_R_brings 40 rfl) (Nat.le_of_ble_eq_true rfl) rfl ?_
  refine G_weak (L' := [some (.ref (ad 82)), some (.int v1), some (.int v2), some (.int v3), some (.int v4), some (.int r_1), some (.int 1), some (.int 1), none]) ⟨rfl, ⟨rfl, ⟨rfl, ⟨rfl, ⟨rfl, ⟨rfl, ⟨rfl, ⟨rfl, trivial⟩⟩⟩⟩⟩⟩⟩⟩ ?_
  refine s_R_brings_L68  X hq  (fun v6_21 h => ?_) _ _ _ h
  refine G_iload (pc := 159) X (dg dt_R_brings 89 rfl) rfl ?_
  exact G_zret (pc := 161) X hq (dg dt_R_brings 90 rfl) h
set_option maxRecDepth 100000 in
set_option maxHeartbeats 4000000 in
theorem s_R_isotopies_L108 {θ : Th} {ad : Nat → Nat}  {rv : Int32} {σe : St} (X : Cx θ [] cX12_isotopies 6 "QuasigroveModel" 2 51)
    {v1 : Int32} {v2 : Int32} {v4 : Int32} (hq : Rq θ (g_SH, ad) (some .int) (some (.int rv)) σe) {kx144 : Int32 → St → Option (Int32 × St)} (hkx144 : ∀ (v3 : Int32) (σ : St), kx144 v3 σ = some (rv, σe) → G θ (0, 0) (g_SH, ad) σ 144 [some (.ref (ad 82)), some (.int v1), some (.int v2), some (.int v3), some (.int v4), none] []) :
    ∀ (n : Nat) (v3 : Int32) (v5 : Int32) (σ : St), f_R_isotopies_L108 v1 v2 v4 kx144 n v3 v5 σ = some (rv, σe) → G θ (0, 0) (g_SH, ad) σ 108 [some (.ref (ad 82)), some (.int v1), some (.int v2), some (.int v3), some (.int v4), some (.int v5)] [] := by
  intro n
  induction n with
  | zero => intro v3 v5 σ h; rw [f_R_isotopies_L108] at h; cases h
  | succ n ih =>
    intro v3 v5 σ h
    rw [f_R_isotopies_L108] at h
    refine G_iload (pc := 108) X (dg dt_R_isotopies 59 rfl) rfl ?_
    refine G_aload_n (pc := 110) 0 X (dg dt_R_isotopies 60 rfl) rfl rfl ?_
    refine G_getI (pc := 111) 10 X (dg dt_R_isotopies 61 rfl) fc_8 w_1073 rfl (Nat.le_of_ble_eq_true rfl) sh_82 rfl ?_
    refine G_icmp_ge (pc := 114) 144 X (dg dt_R_isotopies 62 rfl) (by decide) h (fun h => ?_) (fun h => ?_)
    · exact G_wk (hkx144 v3 σ h) ⟨rfl, ⟨rfl, ⟨rfl, ⟨rfl, ⟨rfl, trivial⟩⟩⟩⟩⟩
    · refine G_iload_n (pc := 117) 3 X (dg dt_R_isotopies 63 rfl) rfl rfl ?_
      refine G_aload_n (pc := 118) 0 X (dg dt_R_isotopies 64 rfl) rfl rfl ?_
      refine G_iload_n (pc := 119) 1 X (dg dt_R_isotopies 65 rfl) rfl rfl ?_
      refine G_iload_n (pc := 120) 2 X (dg dt_R_isotopies 66 rfl) rfl rfl ?_
      refine G_iload (pc := 121) X (dg dt_R_isotopies 67 rfl) rfl ?_
      refine G_iload (pc := 123) X (dg dt_R_isotopies 68 rfl) rfl ?_
      obtain ⟨r_15, σ_16, hc_14, h⟩ := cal_go h
      refine G_callV (pc := 125) (S := [.int v3]) [.int v1, .int v2, .int v4, .int v5] nosub X  (dg dt_R_isotopies 69 rfl) cb_R_brings cv_R_brings w_1404 (s_R_brings _ ad _ _ _ _ _ hc_14) rfl ⟨Nat.le_of_ble_eq_true rfl, Nat.le_of_ble_eq_true rfl⟩ sh_82 rfl (Nat.le_of_ble_eq_true rfl) Rc0 ?_
      refine jn_go (fun j136_17 => ∀ (s_18 : Int32), j136_17 s_18 = some (rv, σe) → G θ (0, 0) (g_SH, ad) σ_16 136 [some (.ref (ad 82)), some (.int v1), some (.int v2), none, some (.int v4), some (.int v5)] [.int s_18, .int v3]) h ?_ (fun j136_17 hj136_17 h => ?_)
      · intro s_18 h
        refine G_iadd (pc := 136) X (dg dt_R_isotopies 74 rfl) ?_
        refine G_istore_n (pc := 137) 3 X (dg dt_R_isotopies 75 rfl) rfl (Nat.le_of_ble_eq_true rfl) rfl ?_
        refine G_iinc (pc := 138) (v5 + 1) X (dg dt_R_isotopies 76 rfl) rfl (Nat.le_of_ble_eq_true rfl) rfl rfl ?_
        refine G_goto (pc := 141) 108 X (dg dt_R_isotopies 77 rfl) (by decide) ?_
        exact G_wk (ih (v3 + s_18) (v5 + 1) σ_16 h) ⟨rfl, ⟨rfl, ⟨rfl, ⟨rfl, ⟨rfl, ⟨rfl, trivial⟩⟩⟩⟩⟩⟩
      refine G_if_eq (pc := 128) 135 X (dg dt_R_isotopies 70 rfl) (by decide) h (fun h => ?_) (fun h => ?_)
      · refine G_iconst (pc := 135) 0 X (dg dt_R_isotopies 73 rfl) (by decide) ?_
        exact G_wk (hj136_17 0 h) ⟨rfl, ⟨rfl, ⟨rfl, ⟨rfl, ⟨rfl, trivial⟩⟩⟩⟩⟩
      · refine G_iconst (pc := 131) 1 X (dg dt_R_isotopies 71 rfl) (by decide) ?_
        refine G_goto (pc := 132) 136 X (dg dt_R_isotopies 72 rfl) (by decide) ?_
        exact G_wk (hj136_17 1 h) ⟨rfl, ⟨rfl, ⟨rfl, ⟨rfl, ⟨rfl, trivial⟩⟩⟩⟩⟩
set_option maxRecDepth 100000 in
set_option maxHeartbeats 4000000 in
theorem s_R_isotopies_L96 {θ : Th} {ad : Nat → Nat}  {rv : Int32} {σe : St} (X : Cx θ [] cX12_isotopies 6 "QuasigroveModel" 2 51)
    {v1 : Int32} {v2 : Int32} (hq : Rq θ (g_SH, ad) (some .int) (some (.int rv)) σe) {kx150 : Int32 → St → Option (Int32 × St)} (hkx150 : ∀ (v3 : Int32) (σ : St), kx150 v3 σ = some (rv, σe) → G θ (0, 0) (g_SH, ad) σ 150 [none, none, none, some (.int v3), none, none] []) :
    ∀ (n : Nat) (v3 : Int32) (v4 : Int32) (σ : St), f_R_isotopies_L96 v1 v2 kx150 n v3 v4 σ = some (rv, σe) → G θ (0, 0) (g_SH, ad) σ 96 [some (.ref (ad 82)), some (.int v1), some (.int v2), some (.int v3), some (.int v4), none] [] := by
  intro n
  induction n with
  | zero => intro v3 v4 σ h; rw [f_R_isotopies_L96] at h; cases h
  | succ n ih =>
    intro v3 v4 σ h
    rw [f_R_isotopies_L96] at h
    refine G_iload (pc := 96) X (dg dt_R_isotopies 53 rfl) rfl ?_
    refine G_aload_n (pc := 98) 0 X (dg dt_R_isotopies 54 rfl) rfl rfl ?_
    refine G_getI (pc := 99) 10 X (dg dt_R_isotopies 55 rfl) fc_8 w_1073 rfl (Nat.le_of_ble_eq_true rfl) sh_82 rfl ?_
    refine G_icmp_ge (pc := 102) 150 X (dg dt_R_isotopies 56 rfl) (by decide) h (fun h => ?_) (fun h => ?_)
    · exact G_wk (hkx150 v3 σ h) ⟨rfl, trivial⟩
    · refine G_iconst (pc := 105) 0 X (dg dt_R_isotopies 57 rfl) (by decide) ?_
      refine G_istore (pc := 106) X (dg dt_R_isotopies 58 rfl) (Nat.le_of_ble_eq_true rfl) rfl ?_
      refine G_weak (L' := [some (.ref (ad 82)), some (.int v1), some (.int v2), some (.int v3), some (.int v4), some (.int 0)]) ⟨rfl, ⟨rfl, ⟨rfl, ⟨rfl, ⟨rfl, ⟨rfl, trivial⟩⟩⟩⟩⟩⟩ ?_
      refine s_R_isotopies_L108  X hq  (fun v3_19 σ_20 h => ?_) _ _ _ _ h
      refine G_iinc (pc := 144) (v4 + 1) X (dg dt_R_isotopies 78 rfl) rfl (Nat.le_of_ble_eq_true rfl) rfl rfl ?_
      refine G_goto (pc := 147) 96 X (dg dt_R_isotopies 79 rfl) (by decide) ?_
      exact G_wk (ih v3_19 (v4 + 1) σ_20 h) ⟨rfl, ⟨rfl, ⟨rfl, ⟨rfl, ⟨rfl, trivial⟩⟩⟩⟩⟩
set_option maxRecDepth 100000 in
set_option maxHeartbeats 4000000 in
theorem s_R_isotopies (l : Launch) (ad : Nat → Nat) (σ : St) (v1 : Int32) (v2 : Int32)  {rv : Int32} {σe : St} (h : f_R_isotopies σ v1 v2 = some (rv, σe)) : Rt l [] yX12_isotopies cX12_isotopies 6 (some .int) 2 51 (g_SH, ad) [.ref (ad 82), .int v1, .int v2] σ (some (.int rv)) σe := by
  refine Rt.intro (L := [some (.ref (ad 82)), some (.int v1), some (.int v2), none, none, none]) (by decide +kernel) (Nat.le_of_ble_eq_true rfl) rfl (fun θ hl X hq => ?_)
  subst hl
  unfold f_R_isotopies at h
  refine G_aload_n (pc := 0) 0 X (dg dt_R_isotopies 0 rfl) rfl rfl ?_
  refine G_aload_n (pc := 1) 0 X (dg dt_R_isotopies 1 rfl) rfl rfl ?_
  refine G_iload_n (pc := 2) 1 X (dg dt_R_isotopies 2 rfl) rfl rfl ?_
  obtain ⟨r_2, hc_1, h⟩ := cap_go h
  refine G_callV (pc := 3) (S := [.ref (ad 82)]) [.int v1] nosub X  (dg dt_R_isotopies 3 rfl) cb_R_isGrid cv_R_isGrid w_1183 (s_R_isGrid _ ad _ _ hc_1) rfl ⟨Nat.le_of_ble_eq_true rfl, Nat.le_of_ble_eq_true rfl⟩ sh_82 rfl (Nat.le_of_ble_eq_true rfl) Rc0 ?_
  refine jn_go (fun j22_3 => ∀ (s_4 : Int32), j22_3 s_4 = some (rv, σe) → G θ (0, 0) (g_SH, ad) σ 22 [some (.ref (ad 82)), some (.int v1), some (.int v2), none, none, none] [.int s_4, .ref (ad 82)]) h ?_ (fun j22_3 hj22_3 h => ?_)
  · intro s_4 h
    refine G_put (pc := 22) 0 X (dg dt_R_isotopies 12 rfl) fc_8 w_1063 rfl (Nat.le_of_ble_eq_true rfl) rfl rfl sh_82 rfl h (fun σ_5 h => ?_)
    refine G_aload_n (pc := 25) 0 X (dg dt_R_isotopies 13 rfl) rfl rfl ?_
    refine G_getI (pc := 26) 0 X (dg dt_R_isotopies 14 rfl) fc_8 w_1063 rfl (Nat.le_of_ble_eq_true rfl) sh_82 rfl ?_
    refine jn_go (fun j57_6 => ∀ (σ_7 : St), j57_6 σ_7 = some (rv, σe) → G θ (0, 0) (g_SH, ad) σ_7 57 [some (.ref (ad 82)), some (.int v1), some (.int v2), none, none, none] []) h ?_ (fun j57_6 hj57_6 h => ?_)
    · intro σ_7 h
      refine G_aload_n (pc := 57) 0 X (dg dt_R_isotopies 29 rfl) rfl rfl ?_
      refine G_getI (pc := 58) 0 X (dg dt_R_isotopies 30 rfl) fc_8 w_1063 rfl (Nat.le_of_ble_eq_true rfl) sh_82 rfl ?_
      refine G_if_gt (pc := 61) 79 X (dg dt_R_isotopies 31 rfl) (by decide) h (fun h => ?_) (fun h => ?_)
      · refine G_iconst (pc := 79) 0 X (dg dt_R_isotopies 41 rfl) (by decide) ?_
        exact G_iret (pc := 80) X hq (dg dt_R_isotopies 42 rfl) h
      · refine G_aload_n (pc := 64) 0 X (dg dt_R_isotopies 32 rfl) rfl rfl ?_
        refine G_getR (pc := 65) 2 X (dg dt_R_isotopies 33 rfl) fc_8 w_1065 rfl (Nat.le_of_ble_eq_true rfl) sh_82 rfl ?_
        refine G_iload_n (pc := 68) 1 X (dg dt_R_isotopies 34 rfl) rfl rfl ?_
        refine G_iald (pc := 69) X (dg dt_R_isotopies 35 rfl) sh_83 h (fun r_8 h => ?_)
        refine G_aload_n (pc := 70) 0 X (dg dt_R_isotopies 36 rfl) rfl rfl ?_
        refine G_getR (pc := 71) 2 X (dg dt_R_isotopies 37 rfl) fc_8 w_1065 rfl (Nat.le_of_ble_eq_true rfl) sh_82 rfl ?_
        refine G_iload_n (pc := 74) 2 X (dg dt_R_isotopies 38 rfl) rfl rfl ?_
        refine G_iald (pc := 75) X (dg dt_R_isotopies 39 rfl) sh_83 h (fun r_9 h => ?_)
        refine G_icmp_eq (pc := 76) 81 X (dg dt_R_isotopies 40 rfl) (by decide) h (fun h => ?_) (fun h => ?_)
        · refine G_aload_n (pc := 81) 0 X (dg dt_R_isotopies 43 rfl) rfl rfl ?_
          refine G_aload_n (pc := 82) 0 X (dg dt_R_isotopies 44 rfl) rfl rfl ?_
          refine G_getR (pc := 83) 2 X (dg dt_R_isotopies 45 rfl) fc_8 w_1065 rfl (Nat.le_of_ble_eq_true rfl) sh_82 rfl ?_
          refine G_iload_n (pc := 86) 1 X (dg dt_R_isotopies 46 rfl) rfl rfl ?_
          refine G_iald (pc := 87) X (dg dt_R_isotopies 47 rfl) sh_83 h (fun r_10 h => ?_)
          obtain ⟨r_12, σ_13, hc_11, h⟩ := cal_go h
          refine G_callV (pc := 88) (S := []) [.int r_10] nosub X  (dg dt_R_isotopies 48 rfl) cb_R_layAll cv_R_layAll w_1384 (s_R_layAll _ ad _ _ hc_11) rfl ⟨Nat.le_of_ble_eq_true rfl, Nat.le_of_ble_eq_true rfl⟩ sh_82 rfl (Nat.le_of_ble_eq_true rfl) Rc0 ?_
          refine G_iconst (pc := 91) 0 X (dg dt_R_isotopies 49 rfl) (by decide) ?_
          refine G_istore_n (pc := 92) 3 X (dg dt_R_isotopies 50 rfl) rfl (Nat.le_of_ble_eq_true rfl) rfl ?_
          refine G_iconst (pc := 93) 0 X (dg dt_R_isotopies 51 rfl) (by decide) ?_
          refine G_istore (pc := 94) X (dg dt_R_isotopies 52 rfl) (Nat.le_of_ble_eq_true rfl) rfl ?_
          refine G_weak (L' := [some (.ref (ad 82)), some (.int v1), some (.int v2), some (.int 0), some (.int 0), none]) ⟨rfl, ⟨rfl, ⟨rfl, ⟨rfl, ⟨rfl, trivial⟩⟩⟩⟩⟩ ?_
          refine s_R_isotopies_L96  X hq  (fun v3_21 σ_22 h => ?_) _ _ _ _ h
          refine G_iload_n (pc := 150) 3 X (dg dt_R_isotopies 80 rfl) rfl rfl ?_
          exact G_iret (pc := 151) X hq (dg dt_R_isotopies 81 rfl) h
        · refine G_iconst (pc := 79) 0 X (dg dt_R_isotopies 41 rfl) (by decide) ?_
          exact G_iret (pc := 80) X hq (dg dt_R_isotopies 42 rfl) h
    refine G_if_ne (pc := 29) 57 X (dg dt_R_isotopies 15 rfl) (by decide) h (fun h => ?_) (fun h => ?_)
    · exact G_wk (hj57_6 σ_5 h) ⟨rfl, ⟨rfl, ⟨rfl, trivial⟩⟩⟩
    · refine G_aload_n (pc := 32) 0 X (dg dt_R_isotopies 16 rfl) rfl rfl ?_
      refine G_aload_n (pc := 33) 0 X (dg dt_R_isotopies 17 rfl) rfl rfl ?_
      refine G_iload_n (pc := 34) 1 X (dg dt_R_isotopies 18 rfl) rfl rfl ?_
      obtain ⟨r_24, hc_23, h⟩ := cap_go h
      refine G_callV (pc := 35) (S := [.ref (ad 82)]) [.int v1] nosub X  (dg dt_R_isotopies 19 rfl) cb_R_isSquare cv_R_isSquare w_1247 (s_R_isSquare _ ad _ _ hc_23) rfl ⟨Nat.le_of_ble_eq_true rfl, Nat.le_of_ble_eq_true rfl⟩ sh_82 rfl (Nat.le_of_ble_eq_true rfl) Rc0 ?_
      refine jn_go (fun j54_25 => ∀ (s_26 : Int32), j54_25 s_26 = some (rv, σe) → G θ (0, 0) (g_SH, ad) σ_5 54 [some (.ref (ad 82)), some (.int v1), some (.int v2), none, none, none] [.int s_26, .ref (ad 82)]) h ?_ (fun j54_25 hj54_25 h => ?_)
      · intro s_26 h
        refine G_put (pc := 54) 0 X (dg dt_R_isotopies 28 rfl) fc_8 w_1063 rfl (Nat.le_of_ble_eq_true rfl) rfl rfl sh_82 rfl h (fun σ_27 h => ?_)
        exact G_wk (hj57_6 σ_27 h) ⟨rfl, ⟨rfl, ⟨rfl, trivial⟩⟩⟩
      refine jn_go (fun j49_28 => j49_28 = some (rv, σe) → G θ (0, 0) (g_SH, ad) σ_5 49 [some (.ref (ad 82)), some (.int v1), some (.int v2), none, none, none] [.ref (ad 82)]) h ?_ (fun j49_28 hj49_28 h => ?_)
      · intro  h
        refine G_iconst (pc := 49) 2 X (dg dt_R_isotopies 25 rfl) (by decide) ?_
        refine G_goto (pc := 50) 54 X (dg dt_R_isotopies 26 rfl) (by decide) ?_
        exact G_wk (hj54_25 2 h) ⟨rfl, ⟨rfl, ⟨rfl, trivial⟩⟩⟩
      refine G_if_eq (pc := 38) 49 X (dg dt_R_isotopies 20 rfl) (by decide) h (fun h => ?_) (fun h => ?_)
      · exact G_wk (hj49_28  h) ⟨rfl, ⟨rfl, ⟨rfl, trivial⟩⟩⟩
      · refine G_aload_n (pc := 41) 0 X (dg dt_R_isotopies 21 rfl) rfl rfl ?_
        refine G_iload_n (pc := 42) 2 X (dg dt_R_isotopies 22 rfl) rfl rfl ?_
        obtain ⟨r_30, hc_29, h⟩ := cap_go h
        refine G_callV (pc := 43) (S := [.ref (ad 82)]) [.int v2] nosub X  (dg dt_R_isotopies 23 rfl) cb_R_isSquare cv_R_isSquare w_1247 (s_R_isSquare _ ad _ _ hc_29) rfl ⟨Nat.le_of_ble_eq_true rfl, Nat.le_of_ble_eq_true rfl⟩ sh_82 rfl (Nat.le_of_ble_eq_true rfl) Rc0 ?_
        refine G_if_ne (pc := 46) 53 X (dg dt_R_isotopies 24 rfl) (by decide) h (fun h => ?_) (fun h => ?_)
        · refine G_iconst (pc := 53) 0 X (dg dt_R_isotopies 27 rfl) (by decide) ?_
          exact G_wk (hj54_25 0 h) ⟨rfl, ⟨rfl, ⟨rfl, trivial⟩⟩⟩
        · exact G_wk (hj49_28  h) ⟨rfl, ⟨rfl, ⟨rfl, trivial⟩⟩⟩
  refine jn_go (fun j17_31 => j17_31 = some (rv, σe) → G θ (0, 0) (g_SH, ad) σ 17 [some (.ref (ad 82)), some (.int v1), some (.int v2), none, none, none] [.ref (ad 82)]) h ?_ (fun j17_31 hj17_31 h => ?_)
  · intro  h
    refine G_iconst (pc := 17) 1 X (dg dt_R_isotopies 9 rfl) (by decide) ?_
    refine G_goto (pc := 18) 22 X (dg dt_R_isotopies 10 rfl) (by decide) ?_
    exact G_wk (hj22_3 1 h) ⟨rfl, ⟨rfl, ⟨rfl, trivial⟩⟩⟩
  refine G_if_eq (pc := 6) 17 X (dg dt_R_isotopies 4 rfl) (by decide) h (fun h => ?_) (fun h => ?_)
  · exact G_wk (hj17_31  h) ⟨rfl, ⟨rfl, ⟨rfl, trivial⟩⟩⟩
  · refine G_aload_n (pc := 9) 0 X (dg dt_R_isotopies 5 rfl) rfl rfl ?_
    refine G_iload_n (pc := 10) 2 X (dg dt_R_isotopies 6 rfl) rfl rfl ?_
    obtain ⟨r_33, hc_32, h⟩ := cap_go h
    refine G_callV (pc := 11) (S := [.ref (ad 82)]) [.int v2] nosub X  (dg dt_R_isotopies 7 rfl) cb_R_isGrid cv_R_isGrid w_1183 (s_R_isGrid _ ad _ _ hc_32) rfl ⟨Nat.le_of_ble_eq_true rfl, Nat.le_of_ble_eq_true rfl⟩ sh_82 rfl (Nat.le_of_ble_eq_true rfl) Rc0 ?_
    refine G_if_ne (pc := 14) 21 X (dg dt_R_isotopies 8 rfl) (by decide) h (fun h => ?_) (fun h => ?_)
    · refine G_iconst (pc := 21) 0 X (dg dt_R_isotopies 11 rfl) (by decide) ?_
      exact G_wk (hj22_3 0 h) ⟨rfl, ⟨rfl, ⟨rfl, trivial⟩⟩⟩
    · exact G_wk (hj17_31  h) ⟨rfl, ⟨rfl, ⟨rfl, trivial⟩⟩⟩
set_option maxRecDepth 100000 in
set_option maxHeartbeats 4000000 in
theorem s_R_products_L19 {θ : Th} {ad : Nat → Nat}  {rv : Int32} (X : Cx θ [] cX12_products 7 "QuasigroveModel" 1 23)
    {v1 : Int32} {v2 : Int32} {v4 : Int32} {σ : St} (hq : Rq θ (g_SH, ad) (some .int) (some (.int rv)) σ) {kx86 : Int32 → Option Int32} (hkx86 : ∀ (v3 : Int32), kx86 v3 = some rv → G θ (0, 0) (g_SH, ad) σ 86 [some (.ref (ad 82)), some (.int v1), some (.int v2), some (.int v3), some (.int v4), none, none] []) :
    ∀ (n : Nat) (v3 : Int32) (v5 : Int32), f_R_products_L19 v1 v2 v4 σ kx86 n v3 v5 = some rv → G θ (0, 0) (g_SH, ad) σ 19 [some (.ref (ad 82)), some (.int v1), some (.int v2), some (.int v3), some (.int v4), some (.int v5), none] [] := by
  intro n
  induction n with
  | zero => intro v3 v5 h; rw [f_R_products_L19] at h; cases h
  | succ n ih =>
    intro v3 v5 h
    rw [f_R_products_L19] at h
    refine G_iload (pc := 19) X (dg dt_R_products 12 rfl) rfl ?_
    refine G_aload_n (pc := 21) 0 X (dg dt_R_products 13 rfl) rfl rfl ?_
    refine G_getR (pc := 22) 2 X (dg dt_R_products 14 rfl) fc_8 w_1065 rfl (Nat.le_of_ble_eq_true rfl) sh_82 rfl ?_
    refine G_iload_n (pc := 25) 1 X (dg dt_R_products 15 rfl) rfl rfl ?_
    refine G_iald (pc := 26) X (dg dt_R_products 16 rfl) sh_83 h (fun r_2 h => ?_)
    refine G_icmp_ge (pc := 27) 86 X (dg dt_R_products 17 rfl) (by decide) h (fun h => ?_) (fun h => ?_)
    · exact G_wk (hkx86 v3 h) ⟨rfl, ⟨rfl, ⟨rfl, ⟨rfl, ⟨rfl, trivial⟩⟩⟩⟩⟩
    · refine G_iload_n (pc := 30) 2 X (dg dt_R_products 18 rfl) rfl rfl ?_
      refine G_iload (pc := 31) X (dg dt_R_products 19 rfl) rfl ?_
      refine G_ishr (pc := 33) X (dg dt_R_products 20 rfl) ?_
      refine G_iconst (pc := 34) 1 X (dg dt_R_products 21 rfl) (by decide) ?_
      refine G_iand (pc := 35) X (dg dt_R_products 22 rfl) ?_
      refine G_iconst (pc := 36) 1 X (dg dt_R_products 23 rfl) (by decide) ?_
      refine jn_go (fun j55_3 => ∀ (s_4 : Int32), j55_3 s_4 = some rv → G θ (0, 0) (g_SH, ad) σ 55 [some (.ref (ad 82)), some (.int v1), some (.int v2), some (.int v3), some (.int v4), some (.int v5), none] [.int s_4]) h ?_ (fun j55_3 hj55_3 h => ?_)
      · intro s_4 h
        refine G_istore (pc := 55) X (dg dt_R_products 35 rfl) (Nat.le_of_ble_eq_true rfl) rfl ?_
        refine G_iload_n (pc := 57) 3 X (dg dt_R_products 36 rfl) rfl rfl ?_
        refine G_iload (pc := 58) X (dg dt_R_products 37 rfl) rfl ?_
        refine jn_go (fun j78_5 => ∀ (s_6 : Int32), j78_5 s_6 = some rv → G θ (0, 0) (g_SH, ad) σ 78 [some (.ref (ad 82)), some (.int v1), some (.int v2), none, some (.int v4), some (.int v5), none] [.int s_6, .int v3]) h ?_ (fun j78_5 hj78_5 h => ?_)
        · intro s_6 h
          refine G_ior (pc := 78) X (dg dt_R_products 48 rfl) ?_
          refine G_istore_n (pc := 79) 3 X (dg dt_R_products 49 rfl) rfl (Nat.le_of_ble_eq_true rfl) rfl ?_
          refine G_iinc (pc := 80) (v5 + 1) X (dg dt_R_products 50 rfl) rfl (Nat.le_of_ble_eq_true rfl) rfl rfl ?_
          refine G_goto (pc := 83) 19 X (dg dt_R_products 51 rfl) (by decide) ?_
          exact G_wk (ih (v3 ||| s_6) (v5 + 1) h) ⟨rfl, ⟨rfl, ⟨rfl, ⟨rfl, ⟨rfl, ⟨rfl, trivial⟩⟩⟩⟩⟩⟩
        refine G_if_eq (pc := 60) 77 X (dg dt_R_products 38 rfl) (by decide) h (fun h => ?_) (fun h => ?_)
        · refine G_iconst (pc := 77) 0 X (dg dt_R_products 47 rfl) (by decide) ?_
          exact G_wk (hj78_5 0 h) ⟨rfl, ⟨rfl, ⟨rfl, ⟨rfl, ⟨rfl, trivial⟩⟩⟩⟩⟩
        · refine G_iconst (pc := 63) 1 X (dg dt_R_products 39 rfl) (by decide) ?_
          refine G_aload_n (pc := 64) 0 X (dg dt_R_products 40 rfl) rfl rfl ?_
          refine G_iload_n (pc := 65) 1 X (dg dt_R_products 41 rfl) rfl rfl ?_
          refine G_iload (pc := 66) X (dg dt_R_products 42 rfl) rfl ?_
          refine G_iload (pc := 68) X (dg dt_R_products 43 rfl) rfl ?_
          obtain ⟨r_8, hc_7, h⟩ := cap_go h
          refine G_callV (pc := 70) (S := [.int 1, .int v3]) [.int v1, .int v4, .int v5] nosub X  (dg dt_R_products 44 rfl) cb_R_at cv_R_at w_1191 (s_R_at _ ad _ _ _ _ hc_7) rfl ⟨Nat.le_of_ble_eq_true rfl, Nat.le_of_ble_eq_true rfl⟩ sh_82 rfl (Nat.le_of_ble_eq_true rfl) Rc0 ?_
          refine G_ishl (pc := 73) X (dg dt_R_products 45 rfl) ?_
          refine G_goto (pc := 74) 78 X (dg dt_R_products 46 rfl) (by decide) ?_
          exact G_wk (hj78_5 (1 <<< (r_8 &&& 31)) h) ⟨rfl, ⟨rfl, ⟨rfl, ⟨rfl, ⟨rfl, trivial⟩⟩⟩⟩⟩
      refine jn_go (fun j54_9 => j54_9 = some rv → G θ (0, 0) (g_SH, ad) σ 54 [some (.ref (ad 82)), some (.int v1), some (.int v2), some (.int v3), some (.int v4), some (.int v5), none] []) h ?_ (fun j54_9 hj54_9 h => ?_)
      · intro  h
        refine G_iconst (pc := 54) 0 X (dg dt_R_products 34 rfl) (by decide) ?_
        exact G_wk (hj55_3 0 h) ⟨rfl, ⟨rfl, ⟨rfl, ⟨rfl, ⟨rfl, ⟨rfl, trivial⟩⟩⟩⟩⟩⟩
      refine G_icmp_ne (pc := 37) 54 X (dg dt_R_products 24 rfl) (by decide) h (fun h => ?_) (fun h => ?_)
      · exact G_wk (hj54_9  h) ⟨rfl, ⟨rfl, ⟨rfl, ⟨rfl, ⟨rfl, ⟨rfl, trivial⟩⟩⟩⟩⟩⟩
      · refine G_iload_n (pc := 40) 2 X (dg dt_R_products 25 rfl) rfl rfl ?_
        refine G_iload (pc := 41) X (dg dt_R_products 26 rfl) rfl ?_
        refine G_ishr (pc := 43) X (dg dt_R_products 27 rfl) ?_
        refine G_iconst (pc := 44) 1 X (dg dt_R_products 28 rfl) (by decide) ?_
        refine G_iand (pc := 45) X (dg dt_R_products 29 rfl) ?_
        refine G_iconst (pc := 46) 1 X (dg dt_R_products 30 rfl) (by decide) ?_
        refine G_icmp_ne (pc := 47) 54 X (dg dt_R_products 31 rfl) (by decide) h (fun h => ?_) (fun h => ?_)
        · exact G_wk (hj54_9  h) ⟨rfl, ⟨rfl, ⟨rfl, ⟨rfl, ⟨rfl, ⟨rfl, trivial⟩⟩⟩⟩⟩⟩
        · refine G_iconst (pc := 50) 1 X (dg dt_R_products 32 rfl) (by decide) ?_
          refine G_goto (pc := 51) 55 X (dg dt_R_products 33 rfl) (by decide) ?_
          exact G_wk (hj55_3 1 h) ⟨rfl, ⟨rfl, ⟨rfl, ⟨rfl, ⟨rfl, ⟨rfl, trivial⟩⟩⟩⟩⟩⟩
set_option maxRecDepth 100000 in
set_option maxHeartbeats 4000000 in
theorem s_R_products_L5 {θ : Th} {ad : Nat → Nat}  {rv : Int32} (X : Cx θ [] cX12_products 7 "QuasigroveModel" 1 23)
    {v1 : Int32} {v2 : Int32} {σ : St} (hq : Rq θ (g_SH, ad) (some .int) (some (.int rv)) σ) {kx92 : Int32 → Option Int32} (hkx92 : ∀ (v3 : Int32), kx92 v3 = some rv → G θ (0, 0) (g_SH, ad) σ 92 [none, none, none, some (.int v3), none, none, none] []) :
    ∀ (n : Nat) (v3 : Int32) (v4 : Int32), f_R_products_L5 v1 v2 σ kx92 n v3 v4 = some rv → G θ (0, 0) (g_SH, ad) σ 5 [some (.ref (ad 82)), some (.int v1), some (.int v2), some (.int v3), some (.int v4), none, none] [] := by
  intro n
  induction n with
  | zero => intro v3 v4 h; rw [f_R_products_L5] at h; cases h
  | succ n ih =>
    intro v3 v4 h
    rw [f_R_products_L5] at h
    refine G_iload (pc := 5) X (dg dt_R_products 4 rfl) rfl ?_
    refine G_aload_n (pc := 7) 0 X (dg dt_R_products 5 rfl) rfl rfl ?_
    refine G_getR (pc := 8) 2 X (dg dt_R_products 6 rfl) fc_8 w_1065 rfl (Nat.le_of_ble_eq_true rfl) sh_82 rfl ?_
    refine G_iload_n (pc := 11) 1 X (dg dt_R_products 7 rfl) rfl rfl ?_
    refine G_iald (pc := 12) X (dg dt_R_products 8 rfl) sh_83 h (fun r_1 h => ?_)
    refine G_icmp_ge (pc := 13) 92 X (dg dt_R_products 9 rfl) (by decide) h (fun h => ?_) (fun h => ?_)
    · exact G_wk (hkx92 v3 h) ⟨rfl, trivial⟩
    · refine G_iconst (pc := 16) 0 X (dg dt_R_products 10 rfl) (by decide) ?_
      refine G_istore (pc := 17) X (dg dt_R_products 11 rfl) (Nat.le_of_ble_eq_true rfl) rfl ?_
      refine G_weak (L' := [some (.ref (ad 82)), some (.int v1), some (.int v2), some (.int v3), some (.int v4), some (.int 0), none]) ⟨rfl, ⟨rfl, ⟨rfl, ⟨rfl, ⟨rfl, ⟨rfl, trivial⟩⟩⟩⟩⟩⟩ ?_
      refine s_R_products_L19  X hq  (fun v3_10 h => ?_) _ _ _ h
      refine G_iinc (pc := 86) (v4 + 1) X (dg dt_R_products 52 rfl) rfl (Nat.le_of_ble_eq_true rfl) rfl rfl ?_
      refine G_goto (pc := 89) 5 X (dg dt_R_products 53 rfl) (by decide) ?_
      exact G_wk (ih v3_10 (v4 + 1) h) ⟨rfl, ⟨rfl, ⟨rfl, ⟨rfl, ⟨rfl, trivial⟩⟩⟩⟩⟩
set_option maxRecDepth 100000 in
set_option maxHeartbeats 4000000 in
theorem s_R_products (l : Launch) (ad : Nat → Nat) (σ : St) (v1 : Int32) (v2 : Int32)  {rv : Int32} (h : f_R_products σ v1 v2 = some rv) : Rt l [] yX12_products cX12_products 7 (some .int) 1 23 (g_SH, ad) [.ref (ad 82), .int v1, .int v2] σ (some (.int rv)) σ := by
  refine Rt.intro (L := [some (.ref (ad 82)), some (.int v1), some (.int v2), none, none, none, none]) (by decide +kernel) (Nat.le_of_ble_eq_true rfl) rfl (fun θ hl X hq => ?_)
  subst hl
  unfold f_R_products at h
  refine G_iload_n (pc := 0) 2 X (dg dt_R_products 0 rfl) rfl rfl ?_
  refine G_istore_n (pc := 1) 3 X (dg dt_R_products 1 rfl) rfl (Nat.le_of_ble_eq_true rfl) rfl ?_
  refine G_iconst (pc := 2) 0 X (dg dt_R_products 2 rfl) (by decide) ?_
  refine G_istore (pc := 3) X (dg dt_R_products 3 rfl) (Nat.le_of_ble_eq_true rfl) rfl ?_
  refine G_weak (L' := [some (.ref (ad 82)), some (.int v1), some (.int v2), some (.int v2), some (.int 0), none, none]) ⟨rfl, ⟨rfl, ⟨rfl, ⟨rfl, ⟨rfl, trivial⟩⟩⟩⟩⟩ ?_
  refine s_R_products_L5  X hq  (fun v3_11 h => ?_) _ _ _ h
  refine G_iload_n (pc := 92) 3 X (dg dt_R_products 54 rfl) rfl rfl ?_
  exact G_iretp (pc := 93) X hq (dg dt_R_products 55 rfl) h
set_option maxRecDepth 100000 in
set_option maxHeartbeats 4000000 in
theorem s_R_closedSets_L4 {θ : Th} {ad : Nat → Nat}  {rv : Int32} (X : Cx θ [] cX12_closedSets 4 "QuasigroveModel" 2 49)
    {v1 : Int32} {σ : St} (hq : Rq θ (g_SH, ad) (some .int) (some (.int rv)) σ) {kx40 : Int32 → Option Int32} (hkx40 : ∀ (v2 : Int32), kx40 v2 = some rv → G θ (0, 0) (g_SH, ad) σ 40 [none, none, some (.int v2), none] []) :
    ∀ (n : Nat) (v2 : Int32) (v3 : Int32), f_R_closedSets_L4 v1 σ kx40 n v2 v3 = some rv → G θ (0, 0) (g_SH, ad) σ 4 [some (.ref (ad 82)), some (.int v1), some (.int v2), some (.int v3)] [] := by
  intro n
  induction n with
  | zero => intro v2 v3 h; rw [f_R_closedSets_L4] at h; cases h
  | succ n ih =>
    intro v2 v3 h
    rw [f_R_closedSets_L4] at h
    refine G_iload_n (pc := 4) 3 X (dg dt_R_closedSets 4 rfl) rfl rfl ?_
    refine G_iconst (pc := 5) 1 X (dg dt_R_closedSets 5 rfl) (by decide) ?_
    refine G_aload_n (pc := 6) 0 X (dg dt_R_closedSets 6 rfl) rfl rfl ?_
    refine G_getR (pc := 7) 2 X (dg dt_R_closedSets 7 rfl) fc_8 w_1065 rfl (Nat.le_of_ble_eq_true rfl) sh_82 rfl ?_
    refine G_iload_n (pc := 10) 1 X (dg dt_R_closedSets 8 rfl) rfl rfl ?_
    refine G_iald (pc := 11) X (dg dt_R_closedSets 9 rfl) sh_83 h (fun r_1 h => ?_)
    refine G_ishl (pc := 12) X (dg dt_R_closedSets 10 rfl) ?_
    refine G_icmp_ge (pc := 13) 40 X (dg dt_R_closedSets 11 rfl) (by decide) h (fun h => ?_) (fun h => ?_)
    · exact G_wk (hkx40 v2 h) ⟨rfl, trivial⟩
    · refine G_iload_n (pc := 16) 2 X (dg dt_R_closedSets 12 rfl) rfl rfl ?_
      refine G_aload_n (pc := 17) 0 X (dg dt_R_closedSets 13 rfl) rfl rfl ?_
      refine G_iload_n (pc := 18) 1 X (dg dt_R_closedSets 14 rfl) rfl rfl ?_
      refine G_iload_n (pc := 19) 3 X (dg dt_R_closedSets 15 rfl) rfl rfl ?_
      obtain ⟨r_3, hc_2, h⟩ := cap_go h
      refine G_callV (pc := 20) (S := [.int v2]) [.int v1, .int v3] nosub X  (dg dt_R_closedSets 16 rfl) cb_R_products cv_R_products w_1368 (s_R_products _ ad _ _ _ hc_2) rfl ⟨Nat.le_of_ble_eq_true rfl, Nat.le_of_ble_eq_true rfl⟩ sh_82 rfl (Nat.le_of_ble_eq_true rfl) Rc0 ?_
      refine G_iload_n (pc := 23) 3 X (dg dt_R_closedSets 17 rfl) rfl rfl ?_
      refine jn_go (fun j32_4 => ∀ (s_5 : Int32), j32_4 s_5 = some rv → G θ (0, 0) (g_SH, ad) σ 32 [some (.ref (ad 82)), some (.int v1), none, some (.int v3)] [.int s_5, .int v2]) h ?_ (fun j32_4 hj32_4 h => ?_)
      · intro s_5 h
        refine G_iadd (pc := 32) X (dg dt_R_closedSets 22 rfl) ?_
        refine G_istore_n (pc := 33) 2 X (dg dt_R_closedSets 23 rfl) rfl (Nat.le_of_ble_eq_true rfl) rfl ?_
        refine G_iinc (pc := 34) (v3 + 1) X (dg dt_R_closedSets 24 rfl) rfl (Nat.le_of_ble_eq_true rfl) rfl rfl ?_
        refine G_goto (pc := 37) 4 X (dg dt_R_closedSets 25 rfl) (by decide) ?_
        exact G_wk (ih (v2 + s_5) (v3 + 1) h) ⟨rfl, ⟨rfl, ⟨rfl, ⟨rfl, trivial⟩⟩⟩⟩
      refine G_icmp_ne (pc := 24) 31 X (dg dt_R_closedSets 18 rfl) (by decide) h (fun h => ?_) (fun h => ?_)
      · refine G_iconst (pc := 31) 0 X (dg dt_R_closedSets 21 rfl) (by decide) ?_
        exact G_wk (hj32_4 0 h) ⟨rfl, ⟨rfl, ⟨rfl, trivial⟩⟩⟩
      · refine G_iconst (pc := 27) 1 X (dg dt_R_closedSets 19 rfl) (by decide) ?_
        refine G_goto (pc := 28) 32 X (dg dt_R_closedSets 20 rfl) (by decide) ?_
        exact G_wk (hj32_4 1 h) ⟨rfl, ⟨rfl, ⟨rfl, trivial⟩⟩⟩
set_option maxRecDepth 100000 in
set_option maxHeartbeats 4000000 in
theorem s_R_closedSets (l : Launch) (ad : Nat → Nat) (σ : St) (v1 : Int32)  {rv : Int32} (h : f_R_closedSets σ v1 = some rv) : Rt l [] yX12_closedSets cX12_closedSets 4 (some .int) 2 49 (g_SH, ad) [.ref (ad 82), .int v1] σ (some (.int rv)) σ := by
  refine Rt.intro (L := [some (.ref (ad 82)), some (.int v1), none, none]) (by decide +kernel) (Nat.le_of_ble_eq_true rfl) rfl (fun θ hl X hq => ?_)
  subst hl
  unfold f_R_closedSets at h
  refine G_iconst (pc := 0) 0 X (dg dt_R_closedSets 0 rfl) (by decide) ?_
  refine G_istore_n (pc := 1) 2 X (dg dt_R_closedSets 1 rfl) rfl (Nat.le_of_ble_eq_true rfl) rfl ?_
  refine G_iconst (pc := 2) 1 X (dg dt_R_closedSets 2 rfl) (by decide) ?_
  refine G_istore_n (pc := 3) 3 X (dg dt_R_closedSets 3 rfl) rfl (Nat.le_of_ble_eq_true rfl) rfl ?_
  refine G_weak (L' := [some (.ref (ad 82)), some (.int v1), some (.int 0), some (.int 1)]) ⟨rfl, ⟨rfl, ⟨rfl, ⟨rfl, trivial⟩⟩⟩⟩ ?_
  refine s_R_closedSets_L4  X hq  (fun v2_6 h => ?_) _ _ _ h
  refine G_iload_n (pc := 40) 2 X (dg dt_R_closedSets 26 rfl) rfl rfl ?_
  exact G_iretp (pc := 41) X hq (dg dt_R_closedSets 27 rfl) h
set_option maxRecDepth 100000 in
set_option maxHeartbeats 4000000 in
theorem s_R_automorphisms_L41 {θ : Th} {ad : Nat → Nat}  {rv : Int32} {σe : St} (X : Cx θ [] cX12_automorphisms 8 "QuasigroveModel" 1 28)
    {v1 : Int32} {v2 : Int32} {v3 : Int32} {v4 : Int32} {v6 : Int32} {σ : St} (hq : Rq θ (g_SH, ad) (some .int) (some (.int rv)) σe) {kx116 : Int32 → Option (Int32 × St)} (hkx116 : ∀ (v5 : Int32), kx116 v5 = some (rv, σe) → G θ (0, 0) (g_SH, ad) σ 116 [some (.ref (ad 82)), some (.int v1), some (.int v2), some (.int v3), some (.int v4), some (.int v5), some (.int v6), none] []) :
    ∀ (n : Nat) (v5 : Int32) (v7 : Int32), f_R_automorphisms_L41 v1 v2 v3 v4 v6 σ kx116 n v5 v7 = some (rv, σe) → G θ (0, 0) (g_SH, ad) σ 41 [some (.ref (ad 82)), some (.int v1), some (.int v2), some (.int v3), some (.int v4), some (.int v5), some (.int v6), some (.int v7)] [] := by
  intro n
  induction n with
  | zero => intro v5 v7 h; rw [f_R_automorphisms_L41] at h; cases h
  | succ n ih =>
    intro v5 v7 h
    rw [f_R_automorphisms_L41] at h
    refine G_iload (pc := 41) X (dg dt_R_automorphisms 25 rfl) rfl ?_
    refine G_iload_n (pc := 43) 2 X (dg dt_R_automorphisms 26 rfl) rfl rfl ?_
    refine G_icmp_ge (pc := 44) 116 X (dg dt_R_automorphisms 27 rfl) (by decide) h (fun h => ?_) (fun h => ?_)
    · exact G_wk (hkx116 v5 h) ⟨rfl, ⟨rfl, ⟨rfl, ⟨rfl, ⟨rfl, ⟨rfl, ⟨rfl, trivial⟩⟩⟩⟩⟩⟩⟩
    · refine G_iload (pc := 47) X (dg dt_R_automorphisms 28 rfl) rfl ?_
      refine jn_go (fun j108_5 => ∀ (s_6 : Int32), j108_5 s_6 = some (rv, σe) → G θ (0, 0) (g_SH, ad) σ 108 [some (.ref (ad 82)), some (.int v1), some (.int v2), some (.int v3), some (.int v4), none, some (.int v6), some (.int v7)] [.int s_6]) h ?_ (fun j108_5 hj108_5 h => ?_)
      · intro s_6 h
        refine G_istore (pc := 108) X (dg dt_R_automorphisms 65 rfl) (Nat.le_of_ble_eq_true rfl) rfl ?_
        refine G_iinc (pc := 110) (v7 + 1) X (dg dt_R_automorphisms 66 rfl) rfl (Nat.le_of_ble_eq_true rfl) rfl rfl ?_
        refine G_goto (pc := 113) 41 X (dg dt_R_automorphisms 67 rfl) (by decide) ?_
        exact G_wk (ih s_6 (v7 + 1) h) ⟨rfl, ⟨rfl, ⟨rfl, ⟨rfl, ⟨rfl, ⟨rfl, ⟨rfl, ⟨rfl, trivial⟩⟩⟩⟩⟩⟩⟩⟩
      refine jn_go (fun j107_7 => j107_7 = some (rv, σe) → G θ (0, 0) (g_SH, ad) σ 107 [some (.ref (ad 82)), some (.int v1), some (.int v2), some (.int v3), some (.int v4), none, some (.int v6), some (.int v7)] []) h ?_ (fun j107_7 hj107_7 h => ?_)
      · intro  h
        refine G_iconst (pc := 107) 0 X (dg dt_R_automorphisms 64 rfl) (by decide) ?_
        exact G_wk (hj108_5 0 h) ⟨rfl, ⟨rfl, ⟨rfl, ⟨rfl, ⟨rfl, ⟨rfl, ⟨rfl, trivial⟩⟩⟩⟩⟩⟩⟩
      refine G_if_eq (pc := 49) 107 X (dg dt_R_automorphisms 29 rfl) (by decide) h (fun h => ?_) (fun h => ?_)
      · exact G_wk (hj107_7  h) ⟨rfl, ⟨rfl, ⟨rfl, ⟨rfl, ⟨rfl, ⟨rfl, ⟨rfl, trivial⟩⟩⟩⟩⟩⟩⟩
      · refine G_aload_n (pc := 52) 0 X (dg dt_R_automorphisms 30 rfl) rfl rfl ?_
        refine G_getR (pc := 53) 11 X (dg dt_R_automorphisms 31 rfl) fc_8 w_1074 rfl (Nat.le_of_ble_eq_true rfl) sh_82 rfl ?_
        refine G_iconst (pc := 56) 5 X (dg dt_R_automorphisms 32 rfl) (by decide) ?_
        refine G_iload (pc := 57) X (dg dt_R_automorphisms 33 rfl) rfl ?_
        refine G_imul (pc := 59) X (dg dt_R_automorphisms 34 rfl) ?_
        refine G_aload_n (pc := 60) 0 X (dg dt_R_automorphisms 35 rfl) rfl rfl ?_
        refine G_iload_n (pc := 61) 1 X (dg dt_R_automorphisms 36 rfl) rfl rfl ?_
        refine G_iload (pc := 62) X (dg dt_R_automorphisms 37 rfl) rfl ?_
        refine G_iload (pc := 64) X (dg dt_R_automorphisms 38 rfl) rfl ?_
        obtain ⟨r_9, hc_8, h⟩ := cap_go h
        refine G_callV (pc := 66) (S := [.int (5 * v4), .ref (ad 89)]) [.int v1, .int v6, .int v7] nosub X  (dg dt_R_automorphisms 39 rfl) cb_R_at cv_R_at w_1191 (s_R_at _ ad _ _ _ _ hc_8) rfl ⟨Nat.le_of_ble_eq_true rfl, Nat.le_of_ble_eq_true rfl⟩ sh_82 rfl (Nat.le_of_ble_eq_true rfl) Rc0 ?_
        refine G_iadd (pc := 69) X (dg dt_R_automorphisms 40 rfl) ?_
        refine G_iald (pc := 70) X (dg dt_R_automorphisms 41 rfl) sh_89 h (fun r_10 h => ?_)
        refine G_aload_n (pc := 71) 0 X (dg dt_R_automorphisms 42 rfl) rfl rfl ?_
        refine G_iload_n (pc := 72) 1 X (dg dt_R_automorphisms 43 rfl) rfl rfl ?_
        refine G_aload_n (pc := 73) 0 X (dg dt_R_automorphisms 44 rfl) rfl rfl ?_
        refine G_getR (pc := 74) 11 X (dg dt_R_automorphisms 45 rfl) fc_8 w_1074 rfl (Nat.le_of_ble_eq_true rfl) sh_82 rfl ?_
        refine G_iconst (pc := 77) 5 X (dg dt_R_automorphisms 46 rfl) (by decide) ?_
        refine G_iload (pc := 78) X (dg dt_R_automorphisms 47 rfl) rfl ?_
        refine G_imul (pc := 80) X (dg dt_R_automorphisms 48 rfl) ?_
        refine G_iload (pc := 81) X (dg dt_R_automorphisms 49 rfl) rfl ?_
        refine G_iadd (pc := 83) X (dg dt_R_automorphisms 50 rfl) ?_
        refine G_iald (pc := 84) X (dg dt_R_automorphisms 51 rfl) sh_89 h (fun r_11 h => ?_)
        refine G_aload_n (pc := 85) 0 X (dg dt_R_automorphisms 52 rfl) rfl rfl ?_
        refine G_getR (pc := 86) 11 X (dg dt_R_automorphisms 53 rfl) fc_8 w_1074 rfl (Nat.le_of_ble_eq_true rfl) sh_82 rfl ?_
        refine G_iconst (pc := 89) 5 X (dg dt_R_automorphisms 54 rfl) (by decide) ?_
        refine G_iload (pc := 90) X (dg dt_R_automorphisms 55 rfl) rfl ?_
        refine G_imul (pc := 92) X (dg dt_R_automorphisms 56 rfl) ?_
        refine G_iload (pc := 93) X (dg dt_R_automorphisms 57 rfl) rfl ?_
        refine G_iadd (pc := 95) X (dg dt_R_automorphisms 58 rfl) ?_
        refine G_iald (pc := 96) X (dg dt_R_automorphisms 59 rfl) sh_89 h (fun r_12 h => ?_)
        obtain ⟨r_14, hc_13, h⟩ := cap_go h
        refine G_callV (pc := 97) (S := [.int r_10]) [.int v1, .int r_11, .int r_12] nosub X  (dg dt_R_automorphisms 60 rfl) cb_R_at cv_R_at w_1191 (s_R_at _ ad _ _ _ _ hc_13) rfl ⟨Nat.le_of_ble_eq_true rfl, Nat.le_of_ble_eq_true rfl⟩ sh_82 rfl (Nat.le_of_ble_eq_true rfl) Rc0 ?_
        refine G_icmp_ne (pc := 100) 107 X (dg dt_R_automorphisms 61 rfl) (by decide) h (fun h => ?_) (fun h => ?_)
        · exact G_wk (hj107_7  h) ⟨rfl, ⟨rfl, ⟨rfl, ⟨rfl, ⟨rfl, ⟨rfl, ⟨rfl, trivial⟩⟩⟩⟩⟩⟩⟩
        · refine G_iconst (pc := 103) 1 X (dg dt_R_automorphisms 62 rfl) (by decide) ?_
          refine G_goto (pc := 104) 108 X (dg dt_R_automorphisms 63 rfl) (by decide) ?_
          exact G_wk (hj108_5 1 h) ⟨rfl, ⟨rfl, ⟨rfl, ⟨rfl, ⟨rfl, ⟨rfl, ⟨rfl, trivial⟩⟩⟩⟩⟩⟩⟩
set_option maxRecDepth 100000 in
set_option maxHeartbeats 4000000 in
theorem s_R_automorphisms_L32 {θ : Th} {ad : Nat → Nat}  {rv : Int32} {σe : St} (X : Cx θ [] cX12_automorphisms 8 "QuasigroveModel" 1 28)
    {v1 : Int32} {v2 : Int32} {v3 : Int32} {v4 : Int32} {σ : St} (hq : Rq θ (g_SH, ad) (some .int) (some (.int rv)) σe) {kx122 : Int32 → Option (Int32 × St)} (hkx122 : ∀ (v5 : Int32), kx122 v5 = some (rv, σe) → G θ (0, 0) (g_SH, ad) σ 122 [some (.ref (ad 82)), some (.int v1), some (.int v2), some (.int v3), some (.int v4), some (.int v5), none, none] []) :
    ∀ (n : Nat) (v5 : Int32) (v6 : Int32), f_R_automorphisms_L32 v1 v2 v3 v4 σ kx122 n v5 v6 = some (rv, σe) → G θ (0, 0) (g_SH, ad) σ 32 [some (.ref (ad 82)), some (.int v1), some (.int v2), some (.int v3), some (.int v4), some (.int v5), some (.int v6), none] [] := by
  intro n
  induction n with
  | zero => intro v5 v6 h; rw [f_R_automorphisms_L32] at h; cases h
  | succ n ih =>
    intro v5 v6 h
    rw [f_R_automorphisms_L32] at h
    refine G_iload (pc := 32) X (dg dt_R_automorphisms 20 rfl) rfl ?_
    refine G_iload_n (pc := 34) 2 X (dg dt_R_automorphisms 21 rfl) rfl rfl ?_
    refine G_icmp_ge (pc := 35) 122 X (dg dt_R_automorphisms 22 rfl) (by decide) h (fun h => ?_) (fun h => ?_)
    · exact G_wk (hkx122 v5 h) ⟨rfl, ⟨rfl, ⟨rfl, ⟨rfl, ⟨rfl, ⟨rfl, trivial⟩⟩⟩⟩⟩⟩
    · refine G_iconst (pc := 38) 0 X (dg dt_R_automorphisms 23 rfl) (by decide) ?_
      refine G_istore (pc := 39) X (dg dt_R_automorphisms 24 rfl) (Nat.le_of_ble_eq_true rfl) rfl ?_
      refine G_weak (L' := [some (.ref (ad 82)), some (.int v1), some (.int v2), some (.int v3), some (.int v4), some (.int v5), some (.int v6), some (.int 0)]) ⟨rfl, ⟨rfl, ⟨rfl, ⟨rfl, ⟨rfl, ⟨rfl, ⟨rfl, ⟨rfl, trivial⟩⟩⟩⟩⟩⟩⟩⟩ ?_
      refine s_R_automorphisms_L41  X hq  (fun v5_15 h => ?_) _ _ _ h
      refine G_iinc (pc := 116) (v6 + 1) X (dg dt_R_automorphisms 68 rfl) rfl (Nat.le_of_ble_eq_true rfl) rfl rfl ?_
      refine G_goto (pc := 119) 32 X (dg dt_R_automorphisms 69 rfl) (by decide) ?_
      exact G_wk (ih v5_15 (v6 + 1) h) ⟨rfl, ⟨rfl, ⟨rfl, ⟨rfl, ⟨rfl, ⟨rfl, ⟨rfl, trivial⟩⟩⟩⟩⟩⟩⟩
set_option maxRecDepth 100000 in
set_option maxHeartbeats 4000000 in
theorem s_R_automorphisms_L17 {θ : Th} {ad : Nat → Nat}  {rv : Int32} {σe : St} (X : Cx θ [] cX12_automorphisms 8 "QuasigroveModel" 1 28)
    {v1 : Int32} {v2 : Int32} {σ : St} (hq : Rq θ (g_SH, ad) (some .int) (some (.int rv)) σe) {kx141 : Int32 → Option (Int32 × St)} (hkx141 : ∀ (v3 : Int32), kx141 v3 = some (rv, σe) → G θ (0, 0) (g_SH, ad) σ 141 [none, none, none, some (.int v3), none, none, none, none] []) :
    ∀ (n : Nat) (v3 : Int32) (v4 : Int32), f_R_automorphisms_L17 v1 v2 σ kx141 n v3 v4 = some (rv, σe) → G θ (0, 0) (g_SH, ad) σ 17 [some (.ref (ad 82)), some (.int v1), some (.int v2), some (.int v3), some (.int v4), none, none, none] [] := by
  intro n
  induction n with
  | zero => intro v3 v4 h; rw [f_R_automorphisms_L17] at h; cases h
  | succ n ih =>
    intro v3 v4 h
    rw [f_R_automorphisms_L17] at h
    refine G_iload (pc := 17) X (dg dt_R_automorphisms 12 rfl) rfl ?_
    refine G_aload_n (pc := 19) 0 X (dg dt_R_automorphisms 13 rfl) rfl rfl ?_
    refine G_getI (pc := 20) 10 X (dg dt_R_automorphisms 14 rfl) fc_8 w_1073 rfl (Nat.le_of_ble_eq_true rfl) sh_82 rfl ?_
    refine G_icmp_ge (pc := 23) 141 X (dg dt_R_automorphisms 15 rfl) (by decide) h (fun h => ?_) (fun h => ?_)
    · exact G_wk (hkx141 v3 h) ⟨rfl, trivial⟩
    · refine G_iconst (pc := 26) 1 X (dg dt_R_automorphisms 16 rfl) (by decide) ?_
      refine G_istore (pc := 27) X (dg dt_R_automorphisms 17 rfl) (Nat.le_of_ble_eq_true rfl) rfl ?_
      refine G_iconst (pc := 29) 0 X (dg dt_R_automorphisms 18 rfl) (by decide) ?_
      refine G_istore (pc := 30) X (dg dt_R_automorphisms 19 rfl) (Nat.le_of_ble_eq_true rfl) rfl ?_
      refine G_weak (L' := [some (.ref (ad 82)), some (.int v1), some (.int v2), some (.int v3), some (.int v4), some (.int 1), some (.int 0), none]) ⟨rfl, ⟨rfl, ⟨rfl, ⟨rfl, ⟨rfl, ⟨rfl, ⟨rfl, trivial⟩⟩⟩⟩⟩⟩⟩ ?_
      refine s_R_automorphisms_L32  X hq  (fun v5_16 h => ?_) _ _ _ h
      refine G_iload_n (pc := 122) 3 X (dg dt_R_automorphisms 70 rfl) rfl rfl ?_
      refine G_iload (pc := 123) X (dg dt_R_automorphisms 71 rfl) rfl ?_
      refine jn_go (fun j133_17 => ∀ (s_18 : Int32), j133_17 s_18 = some (rv, σe) → G θ (0, 0) (g_SH, ad) σ 133 [some (.ref (ad 82)), some (.int v1), some (.int v2), none, some (.int v4), none, none, none] [.int s_18, .int v3]) h ?_ (fun j133_17 hj133_17 h => ?_)
      · intro s_18 h
        refine G_iadd (pc := 133) X (dg dt_R_automorphisms 76 rfl) ?_
        refine G_istore_n (pc := 134) 3 X (dg dt_R_automorphisms 77 rfl) rfl (Nat.le_of_ble_eq_true rfl) rfl ?_
        refine G_iinc (pc := 135) (v4 + 1) X (dg dt_R_automorphisms 78 rfl) rfl (Nat.le_of_ble_eq_true rfl) rfl rfl ?_
        refine G_goto (pc := 138) 17 X (dg dt_R_automorphisms 79 rfl) (by decide) ?_
        exact G_wk (ih (v3 + s_18) (v4 + 1) h) ⟨rfl, ⟨rfl, ⟨rfl, ⟨rfl, ⟨rfl, trivial⟩⟩⟩⟩⟩
      refine G_if_eq (pc := 125) 132 X (dg dt_R_automorphisms 72 rfl) (by decide) h (fun h => ?_) (fun h => ?_)
      · refine G_iconst (pc := 132) 0 X (dg dt_R_automorphisms 75 rfl) (by decide) ?_
        exact G_wk (hj133_17 0 h) ⟨rfl, ⟨rfl, ⟨rfl, ⟨rfl, trivial⟩⟩⟩⟩
      · refine G_iconst (pc := 128) 1 X (dg dt_R_automorphisms 73 rfl) (by decide) ?_
        refine G_goto (pc := 129) 133 X (dg dt_R_automorphisms 74 rfl) (by decide) ?_
        exact G_wk (hj133_17 1 h) ⟨rfl, ⟨rfl, ⟨rfl, ⟨rfl, trivial⟩⟩⟩⟩
set_option maxRecDepth 100000 in
set_option maxHeartbeats 4000000 in
theorem s_R_automorphisms (l : Launch) (ad : Nat → Nat) (σ : St) (v1 : Int32)  {rv : Int32} {σe : St} (h : f_R_automorphisms σ v1 = some (rv, σe)) : Rt l [] yX12_automorphisms cX12_automorphisms 8 (some .int) 1 28 (g_SH, ad) [.ref (ad 82), .int v1] σ (some (.int rv)) σe := by
  refine Rt.intro (L := [some (.ref (ad 82)), some (.int v1), none, none, none, none, none, none]) (by decide +kernel) (Nat.le_of_ble_eq_true rfl) rfl (fun θ hl X hq => ?_)
  subst hl
  unfold f_R_automorphisms at h
  refine G_aload_n (pc := 0) 0 X (dg dt_R_automorphisms 0 rfl) rfl rfl ?_
  refine G_getR (pc := 1) 2 X (dg dt_R_automorphisms 1 rfl) fc_8 w_1065 rfl (Nat.le_of_ble_eq_true rfl) sh_82 rfl ?_
  refine G_iload_n (pc := 4) 1 X (dg dt_R_automorphisms 2 rfl) rfl rfl ?_
  refine G_iald (pc := 5) X (dg dt_R_automorphisms 3 rfl) sh_83 h (fun r_1 h => ?_)
  refine G_istore_n (pc := 6) 2 X (dg dt_R_automorphisms 4 rfl) rfl (Nat.le_of_ble_eq_true rfl) rfl ?_
  refine G_aload_n (pc := 7) 0 X (dg dt_R_automorphisms 5 rfl) rfl rfl ?_
  refine G_iload_n (pc := 8) 2 X (dg dt_R_automorphisms 6 rfl) rfl rfl ?_
  obtain ⟨r_3, σ_4, hc_2, h⟩ := cal_go h
  refine G_callV (pc := 9) (S := []) [.int r_1] nosub X  (dg dt_R_automorphisms 7 rfl) cb_R_layAll cv_R_layAll w_1384 (s_R_layAll _ ad _ _ hc_2) rfl ⟨Nat.le_of_ble_eq_true rfl, Nat.le_of_ble_eq_true rfl⟩ sh_82 rfl (Nat.le_of_ble_eq_true rfl) Rc0 ?_
  refine G_iconst (pc := 12) 0 X (dg dt_R_automorphisms 8 rfl) (by decide) ?_
  refine G_istore_n (pc := 13) 3 X (dg dt_R_automorphisms 9 rfl) rfl (Nat.le_of_ble_eq_true rfl) rfl ?_
  refine G_iconst (pc := 14) 0 X (dg dt_R_automorphisms 10 rfl) (by decide) ?_
  refine G_istore (pc := 15) X (dg dt_R_automorphisms 11 rfl) (Nat.le_of_ble_eq_true rfl) rfl ?_
  refine G_weak (L' := [some (.ref (ad 82)), some (.int v1), some (.int r_1), some (.int 0), some (.int 0), none, none, none]) ⟨rfl, ⟨rfl, ⟨rfl, ⟨rfl, ⟨rfl, trivial⟩⟩⟩⟩⟩ ?_
  refine s_R_automorphisms_L17  X hq  (fun v3_19 h => ?_) _ _ _ h
  refine G_iload_n (pc := 141) 3 X (dg dt_R_automorphisms 80 rfl) rfl rfl ?_
  exact G_iret (pc := 142) X hq (dg dt_R_automorphisms 81 rfl) h
set_option maxRecDepth 100000 in
set_option maxHeartbeats 4000000 in
theorem s_R_numberOf_L19 {θ : Th} {ad : Nat → Nat}  {rv : Int32} (X : Cx θ [] cX12_numberOf 7 "QuasigroveModel" 0 0)
    {v1 : Int32} {v2 : Int32} {v3 : Int32} {v4 : Int32} {σ : St} (hq : Rq θ (g_SH, ad) (some .int) (some (.int rv)) σ) {kx50 : Int32 → Option Int32} (hkx50 : ∀ (v5 : Int32), kx50 v5 = some rv → G θ (0, 0) (g_SH, ad) σ 50 [some (.ref (ad 82)), some (.int v1), some (.int v2), some (.int v3), some (.int v4), some (.int v5), none] []) :
    ∀ (n : Nat) (v5 : Int32) (v6 : Int32), f_R_numberOf_L19 v1 v2 v3 v4 σ kx50 n v5 v6 = some rv → G θ (0, 0) (g_SH, ad) σ 19 [some (.ref (ad 82)), some (.int v1), some (.int v2), some (.int v3), some (.int v4), some (.int v5), some (.int v6)] [] := by
  intro n
  induction n with
  | zero => intro v5 v6 h; rw [f_R_numberOf_L19] at h; cases h
  | succ n ih =>
    intro v5 v6 h
    rw [f_R_numberOf_L19] at h
    refine G_iload (pc := 19) X (dg dt_R_numberOf 13 rfl) rfl ?_
    refine G_aload_n (pc := 21) 0 X (dg dt_R_numberOf 14 rfl) rfl rfl ?_
    refine G_getR (pc := 22) 12 X (dg dt_R_numberOf 15 rfl) fc_8 w_1075 rfl (Nat.le_of_ble_eq_true rfl) sh_82 rfl ?_
    refine G_iload (pc := 25) X (dg dt_R_numberOf 16 rfl) rfl ?_
    refine G_iald (pc := 27) X (dg dt_R_numberOf 17 rfl) sh_90 h (fun r_1 h => ?_)
    refine G_icmp_ge (pc := 28) 50 X (dg dt_R_numberOf 18 rfl) (by decide) h (fun h => ?_) (fun h => ?_)
    · exact G_wk (hkx50 v5 h) ⟨rfl, ⟨rfl, ⟨rfl, ⟨rfl, ⟨rfl, ⟨rfl, trivial⟩⟩⟩⟩⟩⟩
    · refine G_iload (pc := 31) X (dg dt_R_numberOf 19 rfl) rfl ?_
      refine G_iload_n (pc := 33) 3 X (dg dt_R_numberOf 20 rfl) rfl rfl ?_
      refine G_iload (pc := 34) X (dg dt_R_numberOf 21 rfl) rfl ?_
      refine G_ishr (pc := 36) X (dg dt_R_numberOf 22 rfl) ?_
      refine G_iconst (pc := 37) 1 X (dg dt_R_numberOf 23 rfl) (by decide) ?_
      refine G_iand (pc := 38) X (dg dt_R_numberOf 24 rfl) ?_
      refine G_iconst (pc := 39) 1 X (dg dt_R_numberOf 25 rfl) (by decide) ?_
      refine G_ixor (pc := 40) X (dg dt_R_numberOf 26 rfl) ?_
      refine G_iadd (pc := 41) X (dg dt_R_numberOf 27 rfl) ?_
      refine G_istore_lt (pc := 42) X (dg dt_R_numberOf 28 rfl) (Nat.le_of_ble_eq_true rfl) rfl h (fun v5_2 h => ?_)
      refine G_iinc (pc := 44) (v6 + 1) X (dg dt_R_numberOf 29 rfl) rfl (Nat.le_of_ble_eq_true rfl) rfl rfl ?_
      refine G_goto (pc := 47) 19 X (dg dt_R_numberOf 30 rfl) (by decide) ?_
      exact G_wk (ih v5_2 (v6 + 1) h) ⟨rfl, ⟨rfl, ⟨rfl, ⟨rfl, ⟨rfl, ⟨rfl, ⟨rfl, trivial⟩⟩⟩⟩⟩⟩⟩
set_option maxRecDepth 100000 in
set_option maxHeartbeats 4000000 in
theorem s_R_numberOf_L7 {θ : Th} {ad : Nat → Nat}  {rv : Int32} (X : Cx θ [] cX12_numberOf 7 "QuasigroveModel" 0 0)
    {v1 : Int32} {σ : St} (hq : Rq θ (g_SH, ad) (some .int) (some (.int rv)) σ) {kx78 : Int32 → Option Int32} (hkx78 : ∀ (v2 : Int32), kx78 v2 = some rv → G θ (0, 0) (g_SH, ad) σ 78 [none, none, some (.int v2), none, none, none, none] []) :
    ∀ (n : Nat) (v2 : Int32) (v3 : Int32) (v4 : Int32), f_R_numberOf_L7 v1 σ kx78 n v2 v3 v4 = some rv → G θ (0, 0) (g_SH, ad) σ 7 [some (.ref (ad 82)), some (.int v1), some (.int v2), some (.int v3), some (.int v4), none, none] [] := by
  intro n
  induction n with
  | zero => intro v2 v3 v4 h; rw [f_R_numberOf_L7] at h; cases h
  | succ n ih =>
    intro v2 v3 v4 h
    rw [f_R_numberOf_L7] at h
    refine G_iload (pc := 7) X (dg dt_R_numberOf 6 rfl) rfl ?_
    refine G_iload_n (pc := 9) 1 X (dg dt_R_numberOf 7 rfl) rfl rfl ?_
    refine G_icmp_ge (pc := 10) 78 X (dg dt_R_numberOf 8 rfl) (by decide) h (fun h => ?_) (fun h => ?_)
    · exact G_wk (hkx78 v2 h) ⟨rfl, trivial⟩
    · refine G_iconst (pc := 13) 0 X (dg dt_R_numberOf 9 rfl) (by decide) ?_
      refine G_istore (pc := 14) X (dg dt_R_numberOf 10 rfl) (Nat.le_of_ble_eq_true rfl) rfl ?_
      refine G_iconst (pc := 16) 0 X (dg dt_R_numberOf 11 rfl) (by decide) ?_
      refine G_istore (pc := 17) X (dg dt_R_numberOf 12 rfl) (Nat.le_of_ble_eq_true rfl) rfl ?_
      refine G_weak (L' := [some (.ref (ad 82)), some (.int v1), some (.int v2), some (.int v3), some (.int v4), some (.int 0), some (.int 0)]) ⟨rfl, ⟨rfl, ⟨rfl, ⟨rfl, ⟨rfl, ⟨rfl, ⟨rfl, trivial⟩⟩⟩⟩⟩⟩⟩ ?_
      refine s_R_numberOf_L19  X hq  (fun v5_3 h => ?_) _ _ _ h
      refine G_iload_n (pc := 50) 2 X (dg dt_R_numberOf 31 rfl) rfl rfl ?_
      refine G_iload_n (pc := 51) 1 X (dg dt_R_numberOf 32 rfl) rfl rfl ?_
      refine G_iload (pc := 52) X (dg dt_R_numberOf 33 rfl) rfl ?_
      refine G_isub (pc := 54) X (dg dt_R_numberOf 34 rfl) ?_
      refine G_imul (pc := 55) X (dg dt_R_numberOf 35 rfl) ?_
      refine G_iload (pc := 56) X (dg dt_R_numberOf 36 rfl) rfl ?_
      refine G_iadd (pc := 58) X (dg dt_R_numberOf 37 rfl) ?_
      refine G_istore_n_lt (pc := 59) 2 X (dg dt_R_numberOf 38 rfl) rfl (Nat.le_of_ble_eq_true rfl) rfl h (fun v2_4 h => ?_)
      refine G_iload_n (pc := 60) 3 X (dg dt_R_numberOf 39 rfl) rfl rfl ?_
      refine G_iconst (pc := 61) 1 X (dg dt_R_numberOf 40 rfl) (by decide) ?_
      refine G_aload_n (pc := 62) 0 X (dg dt_R_numberOf 41 rfl) rfl rfl ?_
      refine G_getR (pc := 63) 12 X (dg dt_R_numberOf 42 rfl) fc_8 w_1075 rfl (Nat.le_of_ble_eq_true rfl) sh_82 rfl ?_
      refine G_iload (pc := 66) X (dg dt_R_numberOf 43 rfl) rfl ?_
      refine G_iald (pc := 68) X (dg dt_R_numberOf 44 rfl) sh_90 h (fun r_5 h => ?_)
      refine G_ishl (pc := 69) X (dg dt_R_numberOf 45 rfl) ?_
      refine G_ior (pc := 70) X (dg dt_R_numberOf 46 rfl) ?_
      refine G_istore_n_lt (pc := 71) 3 X (dg dt_R_numberOf 47 rfl) rfl (Nat.le_of_ble_eq_true rfl) rfl h (fun v3_6 h => ?_)
      refine G_iinc (pc := 72) (v4 + 1) X (dg dt_R_numberOf 48 rfl) rfl (Nat.le_of_ble_eq_true rfl) rfl rfl ?_
      refine G_goto (pc := 75) 7 X (dg dt_R_numberOf 49 rfl) (by decide) ?_
      exact G_wk (ih v2_4 v3_6 (v4 + 1) h) ⟨rfl, ⟨rfl, ⟨rfl, ⟨rfl, ⟨rfl, trivial⟩⟩⟩⟩⟩
set_option maxRecDepth 100000 in
set_option maxHeartbeats 4000000 in
theorem s_R_numberOf (l : Launch) (ad : Nat → Nat) (σ : St) (v1 : Int32)  {rv : Int32} (h : f_R_numberOf σ v1 = some rv) : Rt l [] yX12_numberOf cX12_numberOf 7 (some .int) 0 0 (g_SH, ad) [.ref (ad 82), .int v1] σ (some (.int rv)) σ := by
  refine Rt.intro (L := [some (.ref (ad 82)), some (.int v1), none, none, none, none, none]) (by decide +kernel) (Nat.le_of_ble_eq_true rfl) rfl (fun θ hl X hq => ?_)
  subst hl
  unfold f_R_numberOf at h
  refine G_iconst (pc := 0) 0 X (dg dt_R_numberOf 0 rfl) (by decide) ?_
  refine G_istore_n (pc := 1) 2 X (dg dt_R_numberOf 1 rfl) rfl (Nat.le_of_ble_eq_true rfl) rfl ?_
  refine G_iconst (pc := 2) 0 X (dg dt_R_numberOf 2 rfl) (by decide) ?_
  refine G_istore_n (pc := 3) 3 X (dg dt_R_numberOf 3 rfl) rfl (Nat.le_of_ble_eq_true rfl) rfl ?_
  refine G_iconst (pc := 4) 0 X (dg dt_R_numberOf 4 rfl) (by decide) ?_
  refine G_istore (pc := 5) X (dg dt_R_numberOf 5 rfl) (Nat.le_of_ble_eq_true rfl) rfl ?_
  refine G_weak (L' := [some (.ref (ad 82)), some (.int v1), some (.int 0), some (.int 0), some (.int 0), none, none]) ⟨rfl, ⟨rfl, ⟨rfl, ⟨rfl, ⟨rfl, trivial⟩⟩⟩⟩⟩ ?_
  refine s_R_numberOf_L7  X hq  (fun v2_7 h => ?_) _ _ _ _ h
  refine G_iload_n (pc := 78) 2 X (dg dt_R_numberOf 50 rfl) rfl rfl ?_
  exact G_iretp (pc := 79) X hq (dg dt_R_numberOf 51 rfl) h
set_option maxRecDepth 100000 in
set_option maxHeartbeats 4000000 in
theorem s_R_join (l : Launch) (ad : Nat → Nat) (σ : St) (v1 : Int32)  {rv : Unit} {σe : St} (h : f_R_join σ v1 = some (rv, σe)) : Rt l [] yX12_join cX12_join 2 none 0 0 (g_SH, ad) [.ref (ad 82), .int v1] σ none σe := by
  refine Rt.intro (L := [some (.ref (ad 82)), some (.int v1)]) (by decide +kernel) (Nat.le_of_ble_eq_true rfl) rfl (fun θ hl X hq => ?_)
  subst hl
  unfold f_R_join at h
  refine G_aload_n (pc := 0) 0 X (dg dt_R_join 0 rfl) rfl rfl ?_
  refine G_getR (pc := 1) 20 X (dg dt_R_join 1 rfl) fc_8 w_1083 rfl (Nat.le_of_ble_eq_true rfl) sh_82 rfl ?_
  refine G_iload_n (pc := 4) 1 X (dg dt_R_join 2 rfl) rfl rfl ?_
  refine G_zald (pc := 5) X (dg dt_R_join 3 rfl) sh_95 h (fun r_1 h => ?_)
  refine G_if_ne (pc := 6) 36 X (dg dt_R_join 4 rfl) (by decide) h (fun h => ?_) (fun h => ?_)
  · exact G_vret (pc := 36) X hq (dg dt_R_join 22 rfl) h
  · refine G_aload_n (pc := 9) 0 X (dg dt_R_join 5 rfl) rfl rfl ?_
    refine G_getR (pc := 10) 20 X (dg dt_R_join 6 rfl) fc_8 w_1083 rfl (Nat.le_of_ble_eq_true rfl) sh_82 rfl ?_
    refine G_iload_n (pc := 13) 1 X (dg dt_R_join 7 rfl) rfl rfl ?_
    refine G_iconst (pc := 14) 1 X (dg dt_R_join 8 rfl) (by decide) ?_
    refine G_zast (pc := 15) X (dg dt_R_join 9 rfl) sh_95 h (fun σ_2 h => ?_)
    refine G_aload_n (pc := 16) 0 X (dg dt_R_join 10 rfl) rfl rfl ?_
    refine G_getR (pc := 17) 19 X (dg dt_R_join 11 rfl) fc_8 w_1082 rfl (Nat.le_of_ble_eq_true rfl) sh_82 rfl ?_
    refine G_aload_n (pc := 20) 0 X (dg dt_R_join 12 rfl) rfl rfl ?_
    refine G_getI (pc := 21) 18 X (dg dt_R_join 13 rfl) fc_8 w_1081 rfl (Nat.le_of_ble_eq_true rfl) sh_82 rfl ?_
    refine G_iload_n (pc := 24) 1 X (dg dt_R_join 14 rfl) rfl rfl ?_
    refine G_iast (pc := 25) X (dg dt_R_join 15 rfl) sh_94 h (fun σ_3 h => ?_)
    refine G_aload_n (pc := 26) 0 X (dg dt_R_join 16 rfl) rfl rfl ?_
    refine G_dup (pc := 27) X (dg dt_R_join 17 rfl) rfl ?_
    refine G_getI (pc := 28) 18 X (dg dt_R_join 18 rfl) fc_8 w_1081 rfl (Nat.le_of_ble_eq_true rfl) sh_82 rfl ?_
    refine G_iconst (pc := 31) 1 X (dg dt_R_join 19 rfl) (by decide) ?_
    refine G_iadd (pc := 32) X (dg dt_R_join 20 rfl) ?_
    refine G_put (pc := 33) 18 X (dg dt_R_join 21 rfl) fc_8 w_1081 rfl (Nat.le_of_ble_eq_true rfl) rfl rfl sh_82 rfl h (fun σ_4 h => ?_)
    exact G_vret (pc := 36) X hq (dg dt_R_join 22 rfl) h
set_option maxRecDepth 100000 in
set_option maxHeartbeats 4000000 in
theorem s_R_groupOf_L25 {θ : Th} {ad : Nat → Nat}  {rv : Int32} {σe : St} (X : Cx θ [] cX12_groupOf 9 "QuasigroveModel" 1 28)
    {v1 : Int32} {v2 : Int32} {v3 : Int32} {v4 : Int32} {v5 : Int32} (hq : Rq θ (g_SH, ad) (some .int) (some (.int rv)) σe) {kx46 : St → Option (Int32 × St)} (hkx46 : ∀ (σ : St), kx46 σ = some (rv, σe) → G θ (0, 0) (g_SH, ad) σ 46 [some (.ref (ad 82)), some (.int v1), some (.int v2), some (.int v3), some (.int v4), some (.int v5), none, none, none] []) :
    ∀ (n : Nat) (v6 : Int32) (σ : St), f_R_groupOf_L25 v1 v2 v3 v4 v5 kx46 n v6 σ = some (rv, σe) → G θ (0, 0) (g_SH, ad) σ 25 [some (.ref (ad 82)), some (.int v1), some (.int v2), some (.int v3), some (.int v4), some (.int v5), some (.int v6), none, none] [] := by
  intro n
  induction n with
  | zero => intro v6 σ h; rw [f_R_groupOf_L25] at h; cases h
  | succ n ih =>
    intro v6 σ h
    rw [f_R_groupOf_L25] at h
    refine G_iload (pc := 25) X (dg dt_R_groupOf 15 rfl) rfl ?_
    refine G_bipush (pc := 27) 120 X (dg dt_R_groupOf 16 rfl) (by decide) ?_
    refine G_icmp_ge (pc := 29) 46 X (dg dt_R_groupOf 17 rfl) (by decide) h (fun h => ?_) (fun h => ?_)
    · exact G_wk (hkx46 σ h) ⟨rfl, ⟨rfl, ⟨rfl, ⟨rfl, ⟨rfl, ⟨rfl, trivial⟩⟩⟩⟩⟩⟩
    · refine G_aload_n (pc := 32) 0 X (dg dt_R_groupOf 18 rfl) rfl rfl ?_
      refine G_getR (pc := 33) 20 X (dg dt_R_groupOf 19 rfl) fc_8 w_1083 rfl (Nat.le_of_ble_eq_true rfl) sh_82 rfl ?_
      refine G_iload (pc := 36) X (dg dt_R_groupOf 20 rfl) rfl ?_
      refine G_iconst (pc := 38) 0 X (dg dt_R_groupOf 21 rfl) (by decide) ?_
      refine G_zast (pc := 39) X (dg dt_R_groupOf 22 rfl) sh_95 h (fun σ_6 h => ?_)
      refine G_iinc (pc := 40) (v6 + 1) X (dg dt_R_groupOf 23 rfl) rfl (Nat.le_of_ble_eq_true rfl) rfl rfl ?_
      refine G_goto (pc := 43) 25 X (dg dt_R_groupOf 24 rfl) (by decide) ?_
      exact G_wk (ih (v6 + 1) σ_6 h) ⟨rfl, ⟨rfl, ⟨rfl, ⟨rfl, ⟨rfl, ⟨rfl, ⟨rfl, trivial⟩⟩⟩⟩⟩⟩⟩
set_option maxRecDepth 100000 in
set_option maxHeartbeats 4000000 in
theorem s_R_groupOf_L75 {θ : Th} {ad : Nat → Nat}  {rv : Int32} {σe : St} (X : Cx θ [] cX12_groupOf 9 "QuasigroveModel" 1 28)
    {v1 : Int32} {v2 : Int32} {v3 : Int32} {v4 : Int32} {v5 : Int32} {v6 : Int32} {v7 : Int32} (hq : Rq θ (g_SH, ad) (some .int) (some (.int rv)) σe) {kx124 : St → Option (Int32 × St)} (hkx124 : ∀ (σ : St), kx124 σ = some (rv, σe) → G θ (0, 0) (g_SH, ad) σ 124 [some (.ref (ad 82)), some (.int v1), some (.int v2), some (.int v3), some (.int v4), some (.int v5), some (.int v6), some (.int v7), none] []) :
    ∀ (n : Nat) (v8 : Int32) (σ : St), f_R_groupOf_L75 v1 v2 v3 v4 v5 v6 v7 kx124 n v8 σ = some (rv, σe) → G θ (0, 0) (g_SH, ad) σ 75 [some (.ref (ad 82)), some (.int v1), some (.int v2), some (.int v3), some (.int v4), some (.int v5), some (.int v6), some (.int v7), some (.int v8)] [] := by
  intro n
  induction n with
  | zero => intro v8 σ h; rw [f_R_groupOf_L75] at h; cases h
  | succ n ih =>
    intro v8 σ h
    rw [f_R_groupOf_L75] at h
    refine G_iload (pc := 75) X (dg dt_R_groupOf 41 rfl) rfl ?_
    refine G_iload (pc := 77) X (dg dt_R_groupOf 42 rfl) rfl ?_
    refine G_icmp_ge (pc := 79) 124 X (dg dt_R_groupOf 43 rfl) (by decide) h (fun h => ?_) (fun h => ?_)
    · exact G_wk (hkx124 σ h) ⟨rfl, ⟨rfl, ⟨rfl, ⟨rfl, ⟨rfl, ⟨rfl, ⟨rfl, ⟨rfl, trivial⟩⟩⟩⟩⟩⟩⟩⟩
    · refine G_aload_n (pc := 82) 0 X (dg dt_R_groupOf 44 rfl) rfl rfl ?_
      refine G_getR (pc := 83) 12 X (dg dt_R_groupOf 45 rfl) fc_8 w_1075 rfl (Nat.le_of_ble_eq_true rfl) sh_82 rfl ?_
      refine G_iload (pc := 86) X (dg dt_R_groupOf 46 rfl) rfl ?_
      refine G_iload (pc := 88) X (dg dt_R_groupOf 47 rfl) rfl ?_
      refine jn_go (fun j117_10 => ∀ (s_11 : Int32), j117_10 s_11 = some (rv, σe) → G θ (0, 0) (g_SH, ad) σ 117 [some (.ref (ad 82)), some (.int v1), some (.int v2), some (.int v3), some (.int v4), some (.int v5), some (.int v6), some (.int v7), some (.int v8)] [.int s_11, .int v8, .ref (ad 90)]) h ?_ (fun j117_10 hj117_10 h => ?_)
      · intro s_11 h
        refine G_iast (pc := 117) X (dg dt_R_groupOf 62 rfl) sh_90 h (fun σ_12 h => ?_)
        refine G_iinc (pc := 118) (v8 + 1) X (dg dt_R_groupOf 63 rfl) rfl (Nat.le_of_ble_eq_true rfl) rfl rfl ?_
        refine G_goto (pc := 121) 75 X (dg dt_R_groupOf 64 rfl) (by decide) ?_
        exact G_wk (ih (v8 + 1) σ_12 h) ⟨rfl, ⟨rfl, ⟨rfl, ⟨rfl, ⟨rfl, ⟨rfl, ⟨rfl, ⟨rfl, ⟨rfl, trivial⟩⟩⟩⟩⟩⟩⟩⟩⟩
      refine G_if_eq (pc := 90) 105 X (dg dt_R_groupOf 48 rfl) (by decide) h (fun h => ?_) (fun h => ?_)
      · refine G_aload_n (pc := 105) 0 X (dg dt_R_groupOf 55 rfl) rfl rfl ?_
        refine G_iload_n (pc := 106) 1 X (dg dt_R_groupOf 56 rfl) rfl rfl ?_
        refine G_iload (pc := 107) X (dg dt_R_groupOf 57 rfl) rfl ?_
        refine G_iload (pc := 109) X (dg dt_R_groupOf 58 rfl) rfl ?_
        refine G_iload (pc := 111) X (dg dt_R_groupOf 59 rfl) rfl ?_
        refine G_isub (pc := 113) X (dg dt_R_groupOf 60 rfl) ?_
        obtain ⟨r_14, hc_13, h⟩ := cap_go h
        refine G_callV (pc := 114) (S := [.int v8, .ref (ad 90)]) [.int v1, .int v8, .int (v6 - v4)] nosub X  (dg dt_R_groupOf 61 rfl) cb_R_at cv_R_at w_1191 (s_R_at _ ad _ _ _ _ hc_13) rfl ⟨Nat.le_of_ble_eq_true rfl, Nat.le_of_ble_eq_true rfl⟩ sh_82 rfl (Nat.le_of_ble_eq_true rfl) Rc0 ?_
        exact G_wk (hj117_10 r_14 h) ⟨rfl, ⟨rfl, ⟨rfl, ⟨rfl, ⟨rfl, ⟨rfl, ⟨rfl, ⟨rfl, ⟨rfl, trivial⟩⟩⟩⟩⟩⟩⟩⟩⟩
      · refine G_aload_n (pc := 93) 0 X (dg dt_R_groupOf 49 rfl) rfl rfl ?_
        refine G_iload_n (pc := 94) 1 X (dg dt_R_groupOf 50 rfl) rfl rfl ?_
        refine G_iload (pc := 95) X (dg dt_R_groupOf 51 rfl) rfl ?_
        refine G_iload (pc := 97) X (dg dt_R_groupOf 52 rfl) rfl ?_
        obtain ⟨r_16, hc_15, h⟩ := cap_go h
        refine G_callV (pc := 99) (S := [.int v8, .ref (ad 90)]) [.int v1, .int v6, .int v8] nosub X  (dg dt_R_groupOf 53 rfl) cb_R_at cv_R_at w_1191 (s_R_at _ ad _ _ _ _ hc_15) rfl ⟨Nat.le_of_ble_eq_true rfl, Nat.le_of_ble_eq_true rfl⟩ sh_82 rfl (Nat.le_of_ble_eq_true rfl) Rc0 ?_
        refine G_goto (pc := 102) 117 X (dg dt_R_groupOf 54 rfl) (by decide) ?_
        exact G_wk (hj117_10 r_16 h) ⟨rfl, ⟨rfl, ⟨rfl, ⟨rfl, ⟨rfl, ⟨rfl, ⟨rfl, ⟨rfl, ⟨rfl, trivial⟩⟩⟩⟩⟩⟩⟩⟩⟩
set_option maxRecDepth 100000 in
set_option maxHeartbeats 4000000 in
theorem s_R_groupOf_L49 {θ : Th} {ad : Nat → Nat}  {rv : Int32} {σe : St} (X : Cx θ [] cX12_groupOf 9 "QuasigroveModel" 1 28)
    {v1 : Int32} {v2 : Int32} {v3 : Int32} {v4 : Int32} (hq : Rq θ (g_SH, ad) (some .int) (some (.int rv)) σe) {kx162 : Int32 → St → Option (Int32 × St)} (hkx162 : ∀ (v5 : Int32) (σ : St), kx162 v5 σ = some (rv, σe) → G θ (0, 0) (g_SH, ad) σ 162 [some (.ref (ad 82)), none, none, none, some (.int v4), some (.int v5), none, none, none] []) :
    ∀ (n : Nat) (v5 : Int32) (v6 : Int32) (σ : St), f_R_groupOf_L49 v1 v2 v3 v4 kx162 n v5 v6 σ = some (rv, σe) → G θ (0, 0) (g_SH, ad) σ 49 [some (.ref (ad 82)), some (.int v1), some (.int v2), some (.int v3), some (.int v4), some (.int v5), some (.int v6), none, none] [] := by
  intro n
  induction n with
  | zero => intro v5 v6 σ h; rw [f_R_groupOf_L49] at h; cases h
  | succ n ih =>
    intro v5 v6 σ h
    rw [f_R_groupOf_L49] at h
    refine G_iload (pc := 49) X (dg dt_R_groupOf 27 rfl) rfl ?_
    refine G_iconst (pc := 51) 2 X (dg dt_R_groupOf 28 rfl) (by decide) ?_
    refine G_iload (pc := 52) X (dg dt_R_groupOf 29 rfl) rfl ?_
    refine G_imul (pc := 54) X (dg dt_R_groupOf 30 rfl) ?_
    refine G_icmp_ge (pc := 55) 162 X (dg dt_R_groupOf 31 rfl) (by decide) h (fun h => ?_) (fun h => ?_)
    · exact G_wk (hkx162 v5 σ h) ⟨rfl, ⟨rfl, ⟨rfl, trivial⟩⟩⟩
    · refine G_iload (pc := 58) X (dg dt_R_groupOf 32 rfl) rfl ?_
      refine G_iload (pc := 60) X (dg dt_R_groupOf 33 rfl) rfl ?_
      refine jn_go (fun j70_8 => ∀ (s_9 : Int32), j70_8 s_9 = some (rv, σe) → G θ (0, 0) (g_SH, ad) σ 70 [some (.ref (ad 82)), some (.int v1), some (.int v2), some (.int v3), some (.int v4), some (.int v5), some (.int v6), none, none] [.int s_9]) h ?_ (fun j70_8 hj70_8 h => ?_)
      · intro s_9 h
        refine G_istore (pc := 70) X (dg dt_R_groupOf 38 rfl) (Nat.le_of_ble_eq_true rfl) rfl ?_
        refine G_iconst (pc := 72) 0 X (dg dt_R_groupOf 39 rfl) (by decide) ?_
        refine G_istore (pc := 73) X (dg dt_R_groupOf 40 rfl) (Nat.le_of_ble_eq_true rfl) rfl ?_
        refine G_weak (L' := [some (.ref (ad 82)), some (.int v1), some (.int v2), some (.int v3), some (.int v4), some (.int v5), some (.int v6), some (.int s_9), some (.int 0)]) ⟨rfl, ⟨rfl, ⟨rfl, ⟨rfl, ⟨rfl, ⟨rfl, ⟨rfl, ⟨rfl, ⟨rfl, trivial⟩⟩⟩⟩⟩⟩⟩⟩⟩ ?_
        refine s_R_groupOf_L75  X hq  (fun σ_17 h => ?_) _ _ _ h
        refine G_iload (pc := 124) X (dg dt_R_groupOf 65 rfl) rfl ?_
        refine jn_go (fun j156_18 => ∀ (v5_19 : Int32) (σ_20 : St), j156_18 v5_19 σ_20 = some (rv, σe) → G θ (0, 0) (g_SH, ad) σ_20 156 [some (.ref (ad 82)), some (.int v1), some (.int v2), some (.int v3), some (.int v4), some (.int v5_19), some (.int v6), none, none] []) h ?_ (fun j156_18 hj156_18 h => ?_)
        · intro v5_19 σ_20 h
          refine G_iinc (pc := 156) (v6 + 1) X (dg dt_R_groupOf 80 rfl) rfl (Nat.le_of_ble_eq_true rfl) rfl rfl ?_
          refine G_goto (pc := 159) 49 X (dg dt_R_groupOf 81 rfl) (by decide) ?_
          exact G_wk (ih v5_19 (v6 + 1) σ_20 h) ⟨rfl, ⟨rfl, ⟨rfl, ⟨rfl, ⟨rfl, ⟨rfl, ⟨rfl, trivial⟩⟩⟩⟩⟩⟩⟩
        refine jn_go (fun j140_21 => j140_21 = some (rv, σe) → G θ (0, 0) (g_SH, ad) σ_17 140 [some (.ref (ad 82)), some (.int v1), some (.int v2), some (.int v3), some (.int v4), some (.int v5), some (.int v6), none, none] []) h ?_ (fun j140_21 hj140_21 h => ?_)
        · intro  h
          refine G_aload_n (pc := 140) 0 X (dg dt_R_groupOf 72 rfl) rfl rfl ?_
          refine G_getR (pc := 141) 21 X (dg dt_R_groupOf 73 rfl) fc_8 w_1084 rfl (Nat.le_of_ble_eq_true rfl) sh_82 rfl ?_
          refine G_iload (pc := 144) X (dg dt_R_groupOf 74 rfl) rfl ?_
          refine G_aload_n (pc := 146) 0 X (dg dt_R_groupOf 75 rfl) rfl rfl ?_
          refine G_iload (pc := 147) X (dg dt_R_groupOf 76 rfl) rfl ?_
          obtain ⟨r_23, hc_22, h⟩ := cap_go h
          refine G_callV (pc := 149) (S := [.int v5, .ref (ad 96)]) [.int v4] nosub X  (dg dt_R_groupOf 77 rfl) cb_R_numberOf cv_R_numberOf w_1392 (s_R_numberOf _ ad _ _ hc_22) rfl ⟨Nat.le_of_ble_eq_true rfl, Nat.le_of_ble_eq_true rfl⟩ sh_82 rfl (Nat.le_of_ble_eq_true rfl) Rc0 ?_
          refine G_iast (pc := 152) X (dg dt_R_groupOf 78 rfl) sh_96 h (fun σ_24 h => ?_)
          refine G_iinc (pc := 153) (v5 + 1) X (dg dt_R_groupOf 79 rfl) rfl (Nat.le_of_ble_eq_true rfl) rfl rfl ?_
          exact G_wk (hj156_18 (v5 + 1) σ_24 h) ⟨rfl, ⟨rfl, ⟨rfl, ⟨rfl, ⟨rfl, ⟨rfl, ⟨rfl, trivial⟩⟩⟩⟩⟩⟩⟩
        refine G_if_eq (pc := 126) 136 X (dg dt_R_groupOf 66 rfl) (by decide) h (fun h => ?_) (fun h => ?_)
        · refine G_iload_n (pc := 136) 3 X (dg dt_R_groupOf 70 rfl) rfl rfl ?_
          refine G_if_eq (pc := 137) 156 X (dg dt_R_groupOf 71 rfl) (by decide) h (fun h => ?_) (fun h => ?_)
          · exact G_wk (hj156_18 v5 σ_17 h) ⟨rfl, ⟨rfl, ⟨rfl, ⟨rfl, ⟨rfl, ⟨rfl, ⟨rfl, trivial⟩⟩⟩⟩⟩⟩⟩
          · exact G_wk (hj140_21  h) ⟨rfl, ⟨rfl, ⟨rfl, ⟨rfl, ⟨rfl, ⟨rfl, ⟨rfl, trivial⟩⟩⟩⟩⟩⟩⟩
        · refine G_iload_n (pc := 129) 2 X (dg dt_R_groupOf 67 rfl) rfl rfl ?_
          refine G_if_eq (pc := 130) 156 X (dg dt_R_groupOf 68 rfl) (by decide) h (fun h => ?_) (fun h => ?_)
          · exact G_wk (hj156_18 v5 σ_17 h) ⟨rfl, ⟨rfl, ⟨rfl, ⟨rfl, ⟨rfl, ⟨rfl, ⟨rfl, trivial⟩⟩⟩⟩⟩⟩⟩
          · refine G_goto (pc := 133) 140 X (dg dt_R_groupOf 69 rfl) (by decide) ?_
            exact G_wk (hj140_21  h) ⟨rfl, ⟨rfl, ⟨rfl, ⟨rfl, ⟨rfl, ⟨rfl, ⟨rfl, trivial⟩⟩⟩⟩⟩⟩⟩
      refine G_icmp_ge (pc := 62) 69 X (dg dt_R_groupOf 34 rfl) (by decide) h (fun h => ?_) (fun h => ?_)
      · refine G_iconst (pc := 69) 0 X (dg dt_R_groupOf 37 rfl) (by decide) ?_
        exact G_wk (hj70_8 0 h) ⟨rfl, ⟨rfl, ⟨rfl, ⟨rfl, ⟨rfl, ⟨rfl, ⟨rfl, trivial⟩⟩⟩⟩⟩⟩⟩
      · refine G_iconst (pc := 65) 1 X (dg dt_R_groupOf 35 rfl) (by decide) ?_
        refine G_goto (pc := 66) 70 X (dg dt_R_groupOf 36 rfl) (by decide) ?_
        exact G_wk (hj70_8 1 h) ⟨rfl, ⟨rfl, ⟨rfl, ⟨rfl, ⟨rfl, ⟨rfl, ⟨rfl, trivial⟩⟩⟩⟩⟩⟩⟩
set_option maxRecDepth 100000 in
set_option maxHeartbeats 4000000 in
theorem s_R_groupOf_L192 {θ : Th} {ad : Nat → Nat}  {rv : Int32} {σe : St} (X : Cx θ [] cX12_groupOf 9 "QuasigroveModel" 1 28)
    {v4 : Int32} {v5 : Int32} {v6 : Int32} {v7 : Int32} (hq : Rq θ (g_SH, ad) (some .int) (some (.int rv)) σe) {kx244 : St → Option (Int32 × St)} (hkx244 : ∀ (σ : St), kx244 σ = some (rv, σe) → G θ (0, 0) (g_SH, ad) σ 244 [some (.ref (ad 82)), none, none, none, some (.int v4), some (.int v5), some (.int v6), some (.int v7), none] []) :
    ∀ (n : Nat) (v8 : Int32) (σ : St), f_R_groupOf_L192 v4 v5 v6 v7 kx244 n v8 σ = some (rv, σe) → G θ (0, 0) (g_SH, ad) σ 192 [some (.ref (ad 82)), none, none, none, some (.int v4), some (.int v5), some (.int v6), some (.int v7), some (.int v8)] [] := by
  intro n
  induction n with
  | zero => intro v8 σ h; rw [f_R_groupOf_L192] at h; cases h
  | succ n ih =>
    intro v8 σ h
    rw [f_R_groupOf_L192] at h
    refine G_iload (pc := 192) X (dg dt_R_groupOf 98 rfl) rfl ?_
    refine G_iload (pc := 194) X (dg dt_R_groupOf 99 rfl) rfl ?_
    refine G_icmp_ge (pc := 196) 244 X (dg dt_R_groupOf 100 rfl) (by decide) h (fun h => ?_) (fun h => ?_)
    · exact G_wk (hkx244 σ h) ⟨rfl, ⟨rfl, ⟨rfl, ⟨rfl, ⟨rfl, trivial⟩⟩⟩⟩⟩
    · refine G_aload_n (pc := 199) 0 X (dg dt_R_groupOf 101 rfl) rfl rfl ?_
      refine G_getR (pc := 200) 12 X (dg dt_R_groupOf 102 rfl) fc_8 w_1075 rfl (Nat.le_of_ble_eq_true rfl) sh_82 rfl ?_
      refine G_iload (pc := 203) X (dg dt_R_groupOf 103 rfl) rfl ?_
      refine G_aload_n (pc := 205) 0 X (dg dt_R_groupOf 104 rfl) rfl rfl ?_
      refine G_getR (pc := 206) 11 X (dg dt_R_groupOf 105 rfl) fc_8 w_1074 rfl (Nat.le_of_ble_eq_true rfl) sh_82 rfl ?_
      refine G_iconst (pc := 209) 5 X (dg dt_R_groupOf 106 rfl) (by decide) ?_
      refine G_aload_n (pc := 210) 0 X (dg dt_R_groupOf 107 rfl) rfl rfl ?_
      refine G_getR (pc := 211) 21 X (dg dt_R_groupOf 108 rfl) fc_8 w_1084 rfl (Nat.le_of_ble_eq_true rfl) sh_82 rfl ?_
      refine G_iload (pc := 214) X (dg dt_R_groupOf 109 rfl) rfl ?_
      refine G_iald (pc := 216) X (dg dt_R_groupOf 110 rfl) sh_96 h (fun r_30 h => ?_)
      refine G_imul (pc := 217) X (dg dt_R_groupOf 111 rfl) ?_
      refine G_aload_n (pc := 218) 0 X (dg dt_R_groupOf 112 rfl) rfl rfl ?_
      refine G_getR (pc := 219) 11 X (dg dt_R_groupOf 113 rfl) fc_8 w_1074 rfl (Nat.le_of_ble_eq_true rfl) sh_82 rfl ?_
      refine G_iconst (pc := 222) 5 X (dg dt_R_groupOf 114 rfl) (by decide) ?_
      refine G_aload_n (pc := 223) 0 X (dg dt_R_groupOf 115 rfl) rfl rfl ?_
      refine G_getR (pc := 224) 19 X (dg dt_R_groupOf 116 rfl) fc_8 w_1082 rfl (Nat.le_of_ble_eq_true rfl) sh_82 rfl ?_
      refine G_iload (pc := 227) X (dg dt_R_groupOf 117 rfl) rfl ?_
      refine G_iald (pc := 229) X (dg dt_R_groupOf 118 rfl) sh_94 h (fun r_31 h => ?_)
      refine G_imul (pc := 230) X (dg dt_R_groupOf 119 rfl) ?_
      refine G_iload (pc := 231) X (dg dt_R_groupOf 120 rfl) rfl ?_
      refine G_iadd (pc := 233) X (dg dt_R_groupOf 121 rfl) ?_
      refine G_iald (pc := 234) X (dg dt_R_groupOf 122 rfl) sh_89 h (fun r_32 h => ?_)
      refine G_iadd (pc := 235) X (dg dt_R_groupOf 123 rfl) ?_
      refine G_iald (pc := 236) X (dg dt_R_groupOf 124 rfl) sh_89 h (fun r_33 h => ?_)
      refine G_iast (pc := 237) X (dg dt_R_groupOf 125 rfl) sh_90 h (fun σ_34 h => ?_)
      refine G_iinc (pc := 238) (v8 + 1) X (dg dt_R_groupOf 126 rfl) rfl (Nat.le_of_ble_eq_true rfl) rfl rfl ?_
      refine G_goto (pc := 241) 192 X (dg dt_R_groupOf 127 rfl) (by decide) ?_
      exact G_wk (ih (v8 + 1) σ_34 h) ⟨rfl, ⟨rfl, ⟨rfl, ⟨rfl, ⟨rfl, ⟨rfl, trivial⟩⟩⟩⟩⟩⟩
set_option maxRecDepth 100000 in
set_option maxHeartbeats 4000000 in
theorem s_R_groupOf_L182 {θ : Th} {ad : Nat → Nat}  {rv : Int32} {σe : St} (X : Cx θ [] cX12_groupOf 9 "QuasigroveModel" 1 28)
    {v4 : Int32} {v5 : Int32} {v6 : Int32} (hq : Rq θ (g_SH, ad) (some .int) (some (.int rv)) σe) {kx260 : St → Option (Int32 × St)} (hkx260 : ∀ (σ : St), kx260 σ = some (rv, σe) → G θ (0, 0) (g_SH, ad) σ 260 [some (.ref (ad 82)), none, none, none, some (.int v4), some (.int v5), some (.int v6), none, none] []) :
    ∀ (n : Nat) (v7 : Int32) (σ : St), f_R_groupOf_L182 v4 v5 v6 kx260 n v7 σ = some (rv, σe) → G θ (0, 0) (g_SH, ad) σ 182 [some (.ref (ad 82)), none, none, none, some (.int v4), some (.int v5), some (.int v6), some (.int v7), none] [] := by
  intro n
  induction n with
  | zero => intro v7 σ h; rw [f_R_groupOf_L182] at h; cases h
  | succ n ih =>
    intro v7 σ h
    rw [f_R_groupOf_L182] at h
    refine G_iload (pc := 182) X (dg dt_R_groupOf 93 rfl) rfl ?_
    refine G_iload (pc := 184) X (dg dt_R_groupOf 94 rfl) rfl ?_
    refine G_icmp_ge (pc := 186) 260 X (dg dt_R_groupOf 95 rfl) (by decide) h (fun h => ?_) (fun h => ?_)
    · exact G_wk (hkx260 σ h) ⟨rfl, ⟨rfl, ⟨rfl, ⟨rfl, trivial⟩⟩⟩⟩
    · refine G_iconst (pc := 189) 0 X (dg dt_R_groupOf 96 rfl) (by decide) ?_
      refine G_istore (pc := 190) X (dg dt_R_groupOf 97 rfl) (Nat.le_of_ble_eq_true rfl) rfl ?_
      refine G_weak (L' := [some (.ref (ad 82)), none, none, none, some (.int v4), some (.int v5), some (.int v6), some (.int v7), some (.int 0)]) ⟨rfl, ⟨rfl, ⟨rfl, ⟨rfl, ⟨rfl, ⟨rfl, trivial⟩⟩⟩⟩⟩⟩ ?_
      refine s_R_groupOf_L192  X hq  (fun σ_35 h => ?_) _ _ _ h
      refine G_aload_n (pc := 244) 0 X (dg dt_R_groupOf 128 rfl) rfl rfl ?_
      refine G_aload_n (pc := 245) 0 X (dg dt_R_groupOf 129 rfl) rfl rfl ?_
      refine G_iload (pc := 246) X (dg dt_R_groupOf 130 rfl) rfl ?_
      obtain ⟨r_37, hc_36, h⟩ := cap_go h
      refine G_callV (pc := 248) (S := [.ref (ad 82)]) [.int v4] nosub X  (dg dt_R_groupOf 131 rfl) cb_R_numberOf cv_R_numberOf w_1392 (s_R_numberOf _ ad _ _ hc_36) rfl ⟨Nat.le_of_ble_eq_true rfl, Nat.le_of_ble_eq_true rfl⟩ sh_82 rfl (Nat.le_of_ble_eq_true rfl) Rc0 ?_
      obtain ⟨r_39, σ_40, hc_38, h⟩ := cal_go h
      refine G_callV (pc := 251) (S := []) [.int r_37] nosub X  (dg dt_R_groupOf 132 rfl) cb_R_join cv_R_join w_1396 (s_R_join _ ad _ _ hc_38) rfl ⟨Nat.le_of_ble_eq_true rfl, Nat.le_of_ble_eq_true rfl⟩ sh_82 rfl (Nat.le_of_ble_eq_true rfl) Rc0 ?_
      refine G_iinc (pc := 254) (v7 + 1) X (dg dt_R_groupOf 133 rfl) rfl (Nat.le_of_ble_eq_true rfl) rfl rfl ?_
      refine G_goto (pc := 257) 182 X (dg dt_R_groupOf 134 rfl) (by decide) ?_
      exact G_wk (ih (v7 + 1) σ_40 h) ⟨rfl, ⟨rfl, ⟨rfl, ⟨rfl, ⟨rfl, trivial⟩⟩⟩⟩⟩
set_option maxRecDepth 100000 in
set_option maxHeartbeats 4000000 in
theorem s_R_groupOf_L170 {θ : Th} {ad : Nat → Nat}  {rv : Int32} {σe : St} (X : Cx θ [] cX12_groupOf 9 "QuasigroveModel" 1 28)
    {v4 : Int32} {v5 : Int32} (hq : Rq θ (g_SH, ad) (some .int) (some (.int rv)) σe) {kx266 : St → Option (Int32 × St)} (hkx266 : ∀ (σ : St), kx266 σ = some (rv, σe) → G θ (0, 0) (g_SH, ad) σ 266 [some (.ref (ad 82)), none, none, none, none, none, none, none, none] []) :
    ∀ (n : Nat) (v6 : Int32) (σ : St), f_R_groupOf_L170 v4 v5 kx266 n v6 σ = some (rv, σe) → G θ (0, 0) (g_SH, ad) σ 170 [some (.ref (ad 82)), none, none, none, some (.int v4), some (.int v5), some (.int v6), none, none] [] := by
  intro n
  induction n with
  | zero => intro v6 σ h; rw [f_R_groupOf_L170] at h; cases h
  | succ n ih =>
    intro v6 σ h
    rw [f_R_groupOf_L170] at h
    refine G_iload (pc := 170) X (dg dt_R_groupOf 87 rfl) rfl ?_
    refine G_aload_n (pc := 172) 0 X (dg dt_R_groupOf 88 rfl) rfl rfl ?_
    refine G_getI (pc := 173) 18 X (dg dt_R_groupOf 89 rfl) fc_8 w_1081 rfl (Nat.le_of_ble_eq_true rfl) sh_82 rfl ?_
    refine G_icmp_ge (pc := 176) 266 X (dg dt_R_groupOf 90 rfl) (by decide) h (fun h => ?_) (fun h => ?_)
    · exact G_wk (hkx266 σ h) ⟨rfl, trivial⟩
    · refine G_iconst (pc := 179) 0 X (dg dt_R_groupOf 91 rfl) (by decide) ?_
      refine G_istore (pc := 180) X (dg dt_R_groupOf 92 rfl) (Nat.le_of_ble_eq_true rfl) rfl ?_
      refine G_weak (L' := [some (.ref (ad 82)), none, none, none, some (.int v4), some (.int v5), some (.int v6), some (.int 0), none]) ⟨rfl, ⟨rfl, ⟨rfl, ⟨rfl, ⟨rfl, trivial⟩⟩⟩⟩⟩ ?_
      refine s_R_groupOf_L182  X hq  (fun σ_41 h => ?_) _ _ _ h
      refine G_iinc (pc := 260) (v6 + 1) X (dg dt_R_groupOf 135 rfl) rfl (Nat.le_of_ble_eq_true rfl) rfl rfl ?_
      refine G_goto (pc := 263) 170 X (dg dt_R_groupOf 136 rfl) (by decide) ?_
      exact G_wk (ih (v6 + 1) σ_41 h) ⟨rfl, ⟨rfl, ⟨rfl, ⟨rfl, trivial⟩⟩⟩⟩
set_option maxRecDepth 100000 in
set_option maxHeartbeats 4000000 in
theorem s_R_groupOf (l : Launch) (ad : Nat → Nat) (σ : St) (v1 : Int32) (v2 : Int32) (v3 : Int32)  {rv : Int32} {σe : St} (h : f_R_groupOf σ v1 v2 v3 = some (rv, σe)) : Rt l [] yX12_groupOf cX12_groupOf 9 (some .int) 1 28 (g_SH, ad) [.ref (ad 82), .int v1, .int v2, .int v3] σ (some (.int rv)) σe := by
  refine Rt.intro (L := [some (.ref (ad 82)), some (.int v1), some (.int v2), some (.int v3), none, none, none, none, none]) (by decide +kernel) (Nat.le_of_ble_eq_true rfl) rfl (fun θ hl X hq => ?_)
  subst hl
  unfold f_R_groupOf at h
  refine G_aload_n (pc := 0) 0 X (dg dt_R_groupOf 0 rfl) rfl rfl ?_
  refine G_getR (pc := 1) 2 X (dg dt_R_groupOf 1 rfl) fc_8 w_1065 rfl (Nat.le_of_ble_eq_true rfl) sh_82 rfl ?_
  refine G_iload_n (pc := 4) 1 X (dg dt_R_groupOf 2 rfl) rfl rfl ?_
  refine G_iald (pc := 5) X (dg dt_R_groupOf 3 rfl) sh_83 h (fun r_1 h => ?_)
  refine G_istore (pc := 6) X (dg dt_R_groupOf 4 rfl) (Nat.le_of_ble_eq_true rfl) rfl ?_
  refine G_aload_n (pc := 8) 0 X (dg dt_R_groupOf 5 rfl) rfl rfl ?_
  refine G_iload (pc := 9) X (dg dt_R_groupOf 6 rfl) rfl ?_
  obtain ⟨r_3, σ_4, hc_2, h⟩ := cal_go h
  refine G_callV (pc := 11) (S := []) [.int r_1] nosub X  (dg dt_R_groupOf 7 rfl) cb_R_layAll cv_R_layAll w_1384 (s_R_layAll _ ad _ _ hc_2) rfl ⟨Nat.le_of_ble_eq_true rfl, Nat.le_of_ble_eq_true rfl⟩ sh_82 rfl (Nat.le_of_ble_eq_true rfl) Rc0 ?_
  refine G_iconst (pc := 14) 0 X (dg dt_R_groupOf 8 rfl) (by decide) ?_
  refine G_istore (pc := 15) X (dg dt_R_groupOf 9 rfl) (Nat.le_of_ble_eq_true rfl) rfl ?_
  refine G_aload_n (pc := 17) 0 X (dg dt_R_groupOf 10 rfl) rfl rfl ?_
  refine G_iconst (pc := 18) 0 X (dg dt_R_groupOf 11 rfl) (by decide) ?_
  refine G_put (pc := 19) 18 X (dg dt_R_groupOf 12 rfl) fc_8 w_1081 rfl (Nat.le_of_ble_eq_true rfl) rfl rfl sh_82 rfl h (fun σ_5 h => ?_)
  refine G_iconst (pc := 22) 0 X (dg dt_R_groupOf 13 rfl) (by decide) ?_
  refine G_istore (pc := 23) X (dg dt_R_groupOf 14 rfl) (Nat.le_of_ble_eq_true rfl) rfl ?_
  refine G_weak (L' := [some (.ref (ad 82)), some (.int v1), some (.int v2), some (.int v3), some (.int r_1), some (.int 0), some (.int 0), none, none]) ⟨rfl, ⟨rfl, ⟨rfl, ⟨rfl, ⟨rfl, ⟨rfl, ⟨rfl, trivial⟩⟩⟩⟩⟩⟩⟩ ?_
  refine s_R_groupOf_L25  X hq  (fun σ_7 h => ?_) _ _ _ h
  refine G_iconst (pc := 46) 0 X (dg dt_R_groupOf 25 rfl) (by decide) ?_
  refine G_istore (pc := 47) X (dg dt_R_groupOf 26 rfl) (Nat.le_of_ble_eq_true rfl) rfl ?_
  refine G_weak (L' := [some (.ref (ad 82)), some (.int v1), some (.int v2), some (.int v3), some (.int r_1), some (.int 0), some (.int 0), none, none]) ⟨rfl, ⟨rfl, ⟨rfl, ⟨rfl, ⟨rfl, ⟨rfl, ⟨rfl, trivial⟩⟩⟩⟩⟩⟩⟩ ?_
  refine s_R_groupOf_L49  X hq  (fun v5_25 σ_26 h => ?_) _ _ _ _ h
  refine G_aload_n (pc := 162) 0 X (dg dt_R_groupOf 82 rfl) rfl rfl ?_
  refine G_iconst (pc := 163) 0 X (dg dt_R_groupOf 83 rfl) (by decide) ?_
  obtain ⟨r_28, σ_29, hc_27, h⟩ := cal_go h
  refine G_callV (pc := 164) (S := []) [.int 0] nosub X  (dg dt_R_groupOf 84 rfl) cb_R_join cv_R_join w_1396 (s_R_join _ ad _ _ hc_27) rfl ⟨Nat.le_of_ble_eq_true rfl, Nat.le_of_ble_eq_true rfl⟩ sh_82 rfl (Nat.le_of_ble_eq_true rfl) Rc0 ?_
  refine G_iconst (pc := 167) 0 X (dg dt_R_groupOf 85 rfl) (by decide) ?_
  refine G_istore (pc := 168) X (dg dt_R_groupOf 86 rfl) (Nat.le_of_ble_eq_true rfl) rfl ?_
  refine G_weak (L' := [some (.ref (ad 82)), none, none, none, some (.int r_1), some (.int v5_25), some (.int 0), none, none]) ⟨rfl, ⟨rfl, ⟨rfl, ⟨rfl, trivial⟩⟩⟩⟩ ?_
  refine s_R_groupOf_L170  X hq  (fun σ_42 h => ?_) _ _ _ h
  refine G_aload_n (pc := 266) 0 X (dg dt_R_groupOf 137 rfl) rfl rfl ?_
  refine G_getI (pc := 267) 18 X (dg dt_R_groupOf 138 rfl) fc_8 w_1081 rfl (Nat.le_of_ble_eq_true rfl) sh_82 rfl ?_
  exact G_iret (pc := 270) X hq (dg dt_R_groupOf 139 rfl) h
set_option maxRecDepth 100000 in
set_option maxHeartbeats 4000000 in
theorem s_R_count (l : Launch) (ad : Nat → Nat) (σ : St) (v1 : Int32) (v2 : Int32)  {rv : Int32} {σe : St} (h : f_R_count σ v1 v2 = some (rv, σe)) : Rt l [] yX12_count cX12_count 3 (some .int) 3 72 (g_SH, ad) [.ref (ad 82), .int v1, .int v2] σ (some (.int rv)) σe := by
  refine Rt.intro (L := [some (.ref (ad 82)), some (.int v1), some (.int v2)]) (by decide +kernel) (Nat.le_of_ble_eq_true rfl) rfl (fun θ hl X hq => ?_)
  subst hl
  unfold f_R_count at h
  refine G_aload_n (pc := 0) 0 X (dg dt_R_count 0 rfl) rfl rfl ?_
  refine G_iload_n (pc := 1) 1 X (dg dt_R_count 1 rfl) rfl rfl ?_
  refine G_aload_n (pc := 2) 0 X (dg dt_R_count 2 rfl) rfl rfl ?_
  refine G_iload_n (pc := 3) 2 X (dg dt_R_count 3 rfl) rfl rfl ?_
  refine G_iconst (pc := 4) 0 X (dg dt_R_count 4 rfl) (by decide) ?_
  refine G_iconst (pc := 5) 4 X (dg dt_R_count 5 rfl) (by decide) ?_
  obtain ⟨r_2, hc_1, h⟩ := cap_go h
  refine G_callV (pc := 6) (S := [.int v1, .ref (ad 82)]) [.int v2, .int 0, .int 4] nosub X  (dg dt_R_count 6 rfl) cb_R_between cv_R_between w_1159 (s_R_between _ ad _ _ _ _ hc_1) rfl ⟨Nat.le_of_ble_eq_true rfl, Nat.le_of_ble_eq_true rfl⟩ sh_82 rfl (Nat.le_of_ble_eq_true rfl) Rc0 ?_
  obtain ⟨r_4, σ_5, hc_3, h⟩ := cal_go h
  refine G_callV (pc := 9) (S := []) [.int v1, .int r_2] nosub X  (dg dt_R_count 7 rfl) cb_R_canAskWith cv_R_canAskWith w_1352 (s_R_canAskWith _ ad _ _ _ hc_3) rfl ⟨Nat.le_of_ble_eq_true rfl, Nat.le_of_ble_eq_true rfl⟩ sh_82 rfl (Nat.le_of_ble_eq_true rfl) Rc0 ?_
  refine G_if_ne (pc := 12) 17 X (dg dt_R_count 8 rfl) (by decide) h (fun h => ?_) (fun h => ?_)
  · refine G_iload_n (pc := 17) 2 X (dg dt_R_count 11 rfl) rfl rfl ?_
    refine G_if_ne (pc := 18) 29 X (dg dt_R_count 12 rfl) (by decide) h (fun h => ?_) (fun h => ?_)
    · refine G_iload_n (pc := 29) 2 X (dg dt_R_count 17 rfl) rfl rfl ?_
      refine G_iconst (pc := 30) 1 X (dg dt_R_count 18 rfl) (by decide) ?_
      refine G_icmp_ne (pc := 31) 42 X (dg dt_R_count 19 rfl) (by decide) h (fun h => ?_) (fun h => ?_)
      · refine G_aload_n (pc := 42) 0 X (dg dt_R_count 24 rfl) rfl rfl ?_
        refine G_iload_n (pc := 43) 1 X (dg dt_R_count 25 rfl) rfl rfl ?_
        refine G_iload_n (pc := 44) 2 X (dg dt_R_count 26 rfl) rfl rfl ?_
        refine G_iconst (pc := 45) 3 X (dg dt_R_count 27 rfl) (by decide) ?_
        refine jn_go (fun j54_6 => ∀ (s_7 : Int32), j54_6 s_7 = some (rv, σe) → G θ (0, 0) (g_SH, ad) σ_5 54 [none, none, some (.int v2)] [.int s_7, .int v1, .ref (ad 82)]) h ?_ (fun j54_6 hj54_6 h => ?_)
        · intro s_7 h
          refine G_iload_n (pc := 54) 2 X (dg dt_R_count 32 rfl) rfl rfl ?_
          refine G_iconst (pc := 55) 2 X (dg dt_R_count 33 rfl) (by decide) ?_
          refine jn_go (fun j64_8 => ∀ (s_9 : Int32), j64_8 s_9 = some (rv, σe) → G θ (0, 0) (g_SH, ad) σ_5 64 [none, none, none] [.int s_9, .int s_7, .int v1, .ref (ad 82)]) h ?_ (fun j64_8 hj64_8 h => ?_)
          · intro s_9 h
            obtain ⟨r_11, σ_12, hc_10, h⟩ := cal_go h
            refine G_callV (pc := 64) (S := []) [.int v1, .int s_7, .int s_9] nosub X  (dg dt_R_count 38 rfl) cb_R_groupOf cv_R_groupOf w_1388 (s_R_groupOf _ ad _ _ _ _ hc_10) rfl ⟨Nat.le_of_ble_eq_true rfl, Nat.le_of_ble_eq_true rfl⟩ sh_82 rfl (Nat.le_of_ble_eq_true rfl) Rc0 ?_
            exact G_iret (pc := 67) X hq (dg dt_R_count 39 rfl) h
          refine G_icmp_eq (pc := 56) 63 X (dg dt_R_count 34 rfl) (by decide) h (fun h => ?_) (fun h => ?_)
          · refine G_iconst (pc := 63) 0 X (dg dt_R_count 37 rfl) (by decide) ?_
            exact G_wk (hj64_8 0 h) trivial
          · refine G_iconst (pc := 59) 1 X (dg dt_R_count 35 rfl) (by decide) ?_
            refine G_goto (pc := 60) 64 X (dg dt_R_count 36 rfl) (by decide) ?_
            exact G_wk (hj64_8 1 h) trivial
        refine G_icmp_eq (pc := 46) 53 X (dg dt_R_count 28 rfl) (by decide) h (fun h => ?_) (fun h => ?_)
        · refine G_iconst (pc := 53) 0 X (dg dt_R_count 31 rfl) (by decide) ?_
          exact G_wk (hj54_6 0 h) ⟨rfl, trivial⟩
        · refine G_iconst (pc := 49) 1 X (dg dt_R_count 29 rfl) (by decide) ?_
          refine G_goto (pc := 50) 54 X (dg dt_R_count 30 rfl) (by decide) ?_
          exact G_wk (hj54_6 1 h) ⟨rfl, trivial⟩
      · refine G_aload_n (pc := 34) 0 X (dg dt_R_count 20 rfl) rfl rfl ?_
        refine G_iload_n (pc := 35) 1 X (dg dt_R_count 21 rfl) rfl rfl ?_
        obtain ⟨r_14, σ_15, hc_13, h⟩ := cal_go h
        refine G_callV (pc := 36) (S := []) [.int v1] nosub X  (dg dt_R_count 22 rfl) cb_R_automorphisms cv_R_automorphisms w_1380 (s_R_automorphisms _ ad _ _ hc_13) rfl ⟨Nat.le_of_ble_eq_true rfl, Nat.le_of_ble_eq_true rfl⟩ sh_82 rfl (Nat.le_of_ble_eq_true rfl) Rc0 ?_
        refine G_goto (pc := 39) 67 X (dg dt_R_count 23 rfl) (by decide) ?_
        exact G_iret (pc := 67) X hq (dg dt_R_count 39 rfl) h
    · refine G_aload_n (pc := 21) 0 X (dg dt_R_count 13 rfl) rfl rfl ?_
      refine G_iload_n (pc := 22) 1 X (dg dt_R_count 14 rfl) rfl rfl ?_
      obtain ⟨r_17, hc_16, h⟩ := cap_go h
      refine G_callV (pc := 23) (S := []) [.int v1] nosub X  (dg dt_R_count 15 rfl) cb_R_closedSets cv_R_closedSets w_1376 (s_R_closedSets _ ad _ _ hc_16) rfl ⟨Nat.le_of_ble_eq_true rfl, Nat.le_of_ble_eq_true rfl⟩ sh_82 rfl (Nat.le_of_ble_eq_true rfl) Rc0 ?_
      refine G_goto (pc := 26) 67 X (dg dt_R_count 16 rfl) (by decide) ?_
      exact G_iret (pc := 67) X hq (dg dt_R_count 39 rfl) h
  · refine G_iconst (pc := 15) 0 X (dg dt_R_count 9 rfl) (by decide) ?_
    exact G_iret (pc := 16) X hq (dg dt_R_count 10 rfl) h
set_option maxRecDepth 100000 in
set_option maxHeartbeats 4000000 in
theorem s_R_closed_L47 {θ : Th} {ad : Nat → Nat}  {rv : Int32} {σe : St} (X : Cx θ [] cX12_closed 5 "QuasigroveModel" 3 66)
    {v1 : Int32} {σ : St} (hq : Rq θ (g_SH, ad) (some .int) (some (.int rv)) σe) {kx71 : Int32 → Option (Int32 × St)} (hkx71 : ∀ (v4 : Int32), kx71 v4 = some (rv, σe) → G θ (0, 0) (g_SH, ad) σ 71 [none, none, none, none, some (.int v4)] []) :
    ∀ (n : Nat) (v4 : Int32), f_R_closed_L47 v1 σ kx71 n v4 = some (rv, σe) → G θ (0, 0) (g_SH, ad) σ 47 [some (.ref (ad 82)), some (.int v1), none, none, some (.int v4)] [] := by
  intro n
  induction n with
  | zero => intro v4 h; rw [f_R_closed_L47] at h; cases h
  | succ n ih =>
    intro v4 h
    rw [f_R_closed_L47] at h
    refine G_aload_n (pc := 47) 0 X (dg dt_R_closed 30 rfl) rfl rfl ?_
    refine G_iload_n (pc := 48) 1 X (dg dt_R_closed 31 rfl) rfl rfl ?_
    refine G_iload (pc := 49) X (dg dt_R_closed 32 rfl) rfl ?_
    obtain ⟨r_9, hc_8, h⟩ := cap_go h
    refine G_callV (pc := 51) (S := []) [.int v1, .int v4] nosub X  (dg dt_R_closed 33 rfl) cb_R_products cv_R_products w_1368 (s_R_products _ ad _ _ _ hc_8) rfl ⟨Nat.le_of_ble_eq_true rfl, Nat.le_of_ble_eq_true rfl⟩ sh_82 rfl (Nat.le_of_ble_eq_true rfl) Rc0 ?_
    refine G_iload (pc := 54) X (dg dt_R_closed 34 rfl) rfl ?_
    refine G_icmp_eq (pc := 56) 71 X (dg dt_R_closed 35 rfl) (by decide) h (fun h => ?_) (fun h => ?_)
    · exact G_wk (hkx71 v4 h) ⟨rfl, trivial⟩
    · refine G_aload_n (pc := 59) 0 X (dg dt_R_closed 36 rfl) rfl rfl ?_
      refine G_iload_n (pc := 60) 1 X (dg dt_R_closed 37 rfl) rfl rfl ?_
      refine G_iload (pc := 61) X (dg dt_R_closed 38 rfl) rfl ?_
      obtain ⟨r_11, hc_10, h⟩ := cap_go h
      refine G_callV (pc := 63) (S := []) [.int v1, .int v4] nosub X  (dg dt_R_closed 39 rfl) cb_R_products cv_R_products w_1368 (s_R_products _ ad _ _ _ hc_10) rfl ⟨Nat.le_of_ble_eq_true rfl, Nat.le_of_ble_eq_true rfl⟩ sh_82 rfl (Nat.le_of_ble_eq_true rfl) Rc0 ?_
      refine G_istore (pc := 66) X (dg dt_R_closed 40 rfl) (Nat.le_of_ble_eq_true rfl) rfl ?_
      refine G_goto (pc := 68) 47 X (dg dt_R_closed 41 rfl) (by decide) ?_
      exact G_wk (ih r_11 h) ⟨rfl, ⟨rfl, ⟨rfl, trivial⟩⟩⟩
set_option maxRecDepth 100000 in
set_option maxHeartbeats 4000000 in
theorem s_R_closed (l : Launch) (ad : Nat → Nat) (σ : St) (v1 : Int32) (v2 : Int32)  {rv : Int32} {σe : St} (h : f_R_closed σ v1 v2 = some (rv, σe)) : Rt l [] yX12_closed cX12_closed 5 (some .int) 3 66 (g_SH, ad) [.ref (ad 82), .int v1, .int v2] σ (some (.int rv)) σe := by
  refine Rt.intro (L := [some (.ref (ad 82)), some (.int v1), some (.int v2), none, none]) (by decide +kernel) (Nat.le_of_ble_eq_true rfl) rfl (fun θ hl X hq => ?_)
  subst hl
  unfold f_R_closed at h
  refine G_aload_n (pc := 0) 0 X (dg dt_R_closed 0 rfl) rfl rfl ?_
  refine G_iload_n (pc := 1) 1 X (dg dt_R_closed 1 rfl) rfl rfl ?_
  obtain ⟨r_2, hc_1, h⟩ := cap_go h
  refine G_callV (pc := 2) (S := []) [.int v1] nosub X  (dg dt_R_closed 2 rfl) cb_R_isGrid cv_R_isGrid w_1183 (s_R_isGrid _ ad _ _ hc_1) rfl ⟨Nat.le_of_ble_eq_true rfl, Nat.le_of_ble_eq_true rfl⟩ sh_82 rfl (Nat.le_of_ble_eq_true rfl) Rc0 ?_
  refine jn_go (fun j32_3 => ∀ (s_4 : Int32), j32_3 s_4 = some (rv, σe) → G θ (0, 0) (g_SH, ad) σ 32 [some (.ref (ad 82)), some (.int v1), some (.int v2), none, none] [.int s_4]) h ?_ (fun j32_3 hj32_3 h => ?_)
  · intro s_4 h
    refine G_istore_n (pc := 32) 3 X (dg dt_R_closed 20 rfl) rfl (Nat.le_of_ble_eq_true rfl) rfl ?_
    refine G_aload_n (pc := 33) 0 X (dg dt_R_closed 21 rfl) rfl rfl ?_
    refine G_iload_n (pc := 34) 1 X (dg dt_R_closed 22 rfl) rfl rfl ?_
    refine G_iload_n (pc := 35) 3 X (dg dt_R_closed 23 rfl) rfl rfl ?_
    obtain ⟨r_6, σ_7, hc_5, h⟩ := cal_go h
    refine G_callV (pc := 36) (S := []) [.int v1, .int s_4] nosub X  (dg dt_R_closed 24 rfl) cb_R_canAskWith cv_R_canAskWith w_1352 (s_R_canAskWith _ ad _ _ _ hc_5) rfl ⟨Nat.le_of_ble_eq_true rfl, Nat.le_of_ble_eq_true rfl⟩ sh_82 rfl (Nat.le_of_ble_eq_true rfl) Rc0 ?_
    refine G_if_ne (pc := 39) 44 X (dg dt_R_closed 25 rfl) (by decide) h (fun h => ?_) (fun h => ?_)
    · refine G_iload_n (pc := 44) 2 X (dg dt_R_closed 28 rfl) rfl rfl ?_
      refine G_istore (pc := 45) X (dg dt_R_closed 29 rfl) (Nat.le_of_ble_eq_true rfl) rfl ?_
      refine G_weak (L' := [some (.ref (ad 82)), some (.int v1), none, none, some (.int v2)]) ⟨rfl, ⟨rfl, ⟨rfl, trivial⟩⟩⟩ ?_
      refine s_R_closed_L47  X hq  (fun v4_12 h => ?_) _ _ h
      refine G_iload (pc := 71) X (dg dt_R_closed 42 rfl) rfl ?_
      exact G_iret (pc := 73) X hq (dg dt_R_closed 43 rfl) h
    · refine G_iconst (pc := 42) 0 X (dg dt_R_closed 26 rfl) (by decide) ?_
      exact G_iret (pc := 43) X hq (dg dt_R_closed 27 rfl) h
  refine jn_go (fun j31_13 => j31_13 = some (rv, σe) → G θ (0, 0) (g_SH, ad) σ 31 [some (.ref (ad 82)), some (.int v1), some (.int v2), none, none] []) h ?_ (fun j31_13 hj31_13 h => ?_)
  · intro  h
    refine G_iconst (pc := 31) 0 X (dg dt_R_closed 19 rfl) (by decide) ?_
    exact G_wk (hj32_3 0 h) ⟨rfl, ⟨rfl, ⟨rfl, trivial⟩⟩⟩
  refine G_if_eq (pc := 5) 31 X (dg dt_R_closed 3 rfl) (by decide) h (fun h => ?_) (fun h => ?_)
  · exact G_wk (hj31_13  h) ⟨rfl, ⟨rfl, ⟨rfl, trivial⟩⟩⟩
  · refine G_aload_n (pc := 8) 0 X (dg dt_R_closed 4 rfl) rfl rfl ?_
    refine G_iload_n (pc := 9) 2 X (dg dt_R_closed 5 rfl) rfl rfl ?_
    refine G_iconst (pc := 10) 1 X (dg dt_R_closed 6 rfl) (by decide) ?_
    refine G_iconst (pc := 11) 1 X (dg dt_R_closed 7 rfl) (by decide) ?_
    refine G_aload_n (pc := 12) 0 X (dg dt_R_closed 8 rfl) rfl rfl ?_
    refine G_getR (pc := 13) 2 X (dg dt_R_closed 9 rfl) fc_8 w_1065 rfl (Nat.le_of_ble_eq_true rfl) sh_82 rfl ?_
    refine G_iload_n (pc := 16) 1 X (dg dt_R_closed 10 rfl) rfl rfl ?_
    refine G_iald (pc := 17) X (dg dt_R_closed 11 rfl) sh_83 h (fun r_14 h => ?_)
    refine G_ishl (pc := 18) X (dg dt_R_closed 12 rfl) ?_
    refine G_iconst (pc := 19) 1 X (dg dt_R_closed 13 rfl) (by decide) ?_
    refine G_isub (pc := 20) X (dg dt_R_closed 14 rfl) ?_
    obtain ⟨r_16, hc_15, h⟩ := cap_go h
    refine G_callV (pc := 21) (S := []) [.int v2, .int 1, .int ((1 <<< (r_14 &&& 31)) - 1)] nosub X  (dg dt_R_closed 15 rfl) cb_R_between cv_R_between w_1159 (s_R_between _ ad _ _ _ _ hc_15) rfl ⟨Nat.le_of_ble_eq_true rfl, Nat.le_of_ble_eq_true rfl⟩ sh_82 rfl (Nat.le_of_ble_eq_true rfl) Rc0 ?_
    refine G_if_eq (pc := 24) 31 X (dg dt_R_closed 16 rfl) (by decide) h (fun h => ?_) (fun h => ?_)
    · exact G_wk (hj31_13  h) ⟨rfl, ⟨rfl, ⟨rfl, trivial⟩⟩⟩
    · refine G_iconst (pc := 27) 1 X (dg dt_R_closed 17 rfl) (by decide) ?_
      refine G_goto (pc := 28) 32 X (dg dt_R_closed 18 rfl) (by decide) ?_
      exact G_wk (hj32_3 1 h) ⟨rfl, ⟨rfl, ⟨rfl, trivial⟩⟩⟩
set_option maxRecDepth 100000 in
set_option maxHeartbeats 4000000 in
theorem s_R_associates (l : Launch) (ad : Nat → Nat) (σ : St) (v1 : Int32) (v2 : Int32) (v3 : Int32) (v4 : Int32)  {rv : Int32} (h : f_R_associates σ v1 v2 v3 v4 = some rv) : Rt l [] yX12_associates cX12_associates 5 (some .boolean) 1 23 (g_SH, ad) [.ref (ad 82), .int v1, .int v2, .int v3, .int v4] σ (some (.int rv)) σ := by
  refine Rt.intro (L := [some (.ref (ad 82)), some (.int v1), some (.int v2), some (.int v3), some (.int v4)]) (by decide +kernel) (Nat.le_of_ble_eq_true rfl) rfl (fun θ hl X hq => ?_)
  subst hl
  unfold f_R_associates at h
  refine G_aload_n (pc := 0) 0 X (dg dt_R_associates 0 rfl) rfl rfl ?_
  refine G_iload_n (pc := 1) 1 X (dg dt_R_associates 1 rfl) rfl rfl ?_
  refine G_aload_n (pc := 2) 0 X (dg dt_R_associates 2 rfl) rfl rfl ?_
  refine G_iload_n (pc := 3) 1 X (dg dt_R_associates 3 rfl) rfl rfl ?_
  refine G_iload_n (pc := 4) 2 X (dg dt_R_associates 4 rfl) rfl rfl ?_
  refine G_iload_n (pc := 5) 3 X (dg dt_R_associates 5 rfl) rfl rfl ?_
  obtain ⟨r_2, hc_1, h⟩ := cap_go h
  refine G_callV (pc := 6) (S := [.int v1, .ref (ad 82)]) [.int v1, .int v2, .int v3] nosub X  (dg dt_R_associates 6 rfl) cb_R_at cv_R_at w_1191 (s_R_at _ ad _ _ _ _ hc_1) rfl ⟨Nat.le_of_ble_eq_true rfl, Nat.le_of_ble_eq_true rfl⟩ sh_82 rfl (Nat.le_of_ble_eq_true rfl) Rc0 ?_
  refine G_iload (pc := 9) X (dg dt_R_associates 7 rfl) rfl ?_
  obtain ⟨r_4, hc_3, h⟩ := cap_go h
  refine G_callV (pc := 11) (S := []) [.int v1, .int r_2, .int v4] nosub X  (dg dt_R_associates 8 rfl) cb_R_at cv_R_at w_1191 (s_R_at _ ad _ _ _ _ hc_3) rfl ⟨Nat.le_of_ble_eq_true rfl, Nat.le_of_ble_eq_true rfl⟩ sh_82 rfl (Nat.le_of_ble_eq_true rfl) Rc0 ?_
  refine G_aload_n (pc := 14) 0 X (dg dt_R_associates 9 rfl) rfl rfl ?_
  refine G_iload_n (pc := 15) 1 X (dg dt_R_associates 10 rfl) rfl rfl ?_
  refine G_iload_n (pc := 16) 2 X (dg dt_R_associates 11 rfl) rfl rfl ?_
  refine G_aload_n (pc := 17) 0 X (dg dt_R_associates 12 rfl) rfl rfl ?_
  refine G_iload_n (pc := 18) 1 X (dg dt_R_associates 13 rfl) rfl rfl ?_
  refine G_iload_n (pc := 19) 3 X (dg dt_R_associates 14 rfl) rfl rfl ?_
  refine G_iload (pc := 20) X (dg dt_R_associates 15 rfl) rfl ?_
  obtain ⟨r_6, hc_5, h⟩ := cap_go h
  refine G_callV (pc := 22) (S := [.int v2, .int v1, .ref (ad 82), .int r_4]) [.int v1, .int v3, .int v4] nosub X  (dg dt_R_associates 16 rfl) cb_R_at cv_R_at w_1191 (s_R_at _ ad _ _ _ _ hc_5) rfl ⟨Nat.le_of_ble_eq_true rfl, Nat.le_of_ble_eq_true rfl⟩ sh_82 rfl (Nat.le_of_ble_eq_true rfl) Rc0 ?_
  obtain ⟨r_8, hc_7, h⟩ := cap_go h
  refine G_callV (pc := 25) (S := [.int r_4]) [.int v1, .int v2, .int r_6] nosub X  (dg dt_R_associates 17 rfl) cb_R_at cv_R_at w_1191 (s_R_at _ ad _ _ _ _ hc_7) rfl ⟨Nat.le_of_ble_eq_true rfl, Nat.le_of_ble_eq_true rfl⟩ sh_82 rfl (Nat.le_of_ble_eq_true rfl) Rc0 ?_
  refine G_icmp_ne (pc := 28) 35 X (dg dt_R_associates 18 rfl) (by decide) h (fun h => ?_) (fun h => ?_)
  · refine G_iconst (pc := 35) 0 X (dg dt_R_associates 21 rfl) (by decide) ?_
    exact G_zretlp (pc := 36) X hq (dg dt_R_associates 22 rfl) rfl h
  · refine G_iconst (pc := 31) 1 X (dg dt_R_associates 19 rfl) (by decide) ?_
    refine G_goto (pc := 32) 36 X (dg dt_R_associates 20 rfl) (by decide) ?_
    exact G_zretlp (pc := 36) X hq (dg dt_R_associates 22 rfl) rfl h
set_option maxRecDepth 100000 in
set_option maxHeartbeats 4000000 in
theorem s_R_isInNucleus_L20 {θ : Th} {ad : Nat → Nat}  {rv : Int32} (X : Cx θ [] cX12_isInNucleus 7 "QuasigroveModel" 2 47)
    {v1 : Int32} {v2 : Int32} {v3 : Int32} {v5 : Int32} {σ : St} (hq : Rq θ (g_SH, ad) (some .boolean) (some (.int rv)) σ) {kx141 : Int32 → Option Int32} (hkx141 : ∀ (v4 : Int32), kx141 v4 = some rv → G θ (0, 0) (g_SH, ad) σ 141 [some (.ref (ad 82)), some (.int v1), some (.int v2), some (.int v3), some (.int v4), some (.int v5), none] []) :
    ∀ (n : Nat) (v4 : Int32) (v6 : Int32), f_R_isInNucleus_L20 v1 v2 v3 v5 σ kx141 n v4 v6 = some rv → G θ (0, 0) (g_SH, ad) σ 20 [some (.ref (ad 82)), some (.int v1), some (.int v2), some (.int v3), some (.int v4), some (.int v5), some (.int v6)] [] := by
  intro n
  induction n with
  | zero => intro v4 v6 h; rw [f_R_isInNucleus_L20] at h; cases h
  | succ n ih =>
    intro v4 v6 h
    rw [f_R_isInNucleus_L20] at h
    refine G_iload (pc := 20) X (dg dt_R_isInNucleus 12 rfl) rfl ?_
    refine G_aload_n (pc := 22) 0 X (dg dt_R_isInNucleus 13 rfl) rfl rfl ?_
    refine G_getR (pc := 23) 2 X (dg dt_R_isInNucleus 14 rfl) fc_8 w_1065 rfl (Nat.le_of_ble_eq_true rfl) sh_82 rfl ?_
    refine G_iload_n (pc := 26) 1 X (dg dt_R_isInNucleus 15 rfl) rfl rfl ?_
    refine G_iald (pc := 27) X (dg dt_R_isInNucleus 16 rfl) sh_83 h (fun r_2 h => ?_)
    refine G_icmp_ge (pc := 28) 141 X (dg dt_R_isInNucleus 17 rfl) (by decide) h (fun h => ?_) (fun h => ?_)
    · exact G_wk (hkx141 v4 h) ⟨rfl, ⟨rfl, ⟨rfl, ⟨rfl, ⟨rfl, ⟨rfl, trivial⟩⟩⟩⟩⟩⟩
    · refine G_iload (pc := 31) X (dg dt_R_isInNucleus 18 rfl) rfl ?_
      refine jn_go (fun j63_3 => ∀ (s_4 : Int32), j63_3 s_4 = some rv → G θ (0, 0) (g_SH, ad) σ 63 [some (.ref (ad 82)), some (.int v1), some (.int v2), some (.int v3), none, some (.int v5), some (.int v6)] [.int s_4]) h ?_ (fun j63_3 hj63_3 h => ?_)
      · intro s_4 h
        refine G_istore (pc := 63) X (dg dt_R_isInNucleus 35 rfl) (Nat.le_of_ble_eq_true rfl) rfl ?_
        refine G_iload (pc := 65) X (dg dt_R_isInNucleus 36 rfl) rfl ?_
        refine jn_go (fun j98_5 => ∀ (s_6 : Int32), j98_5 s_6 = some rv → G θ (0, 0) (g_SH, ad) σ 98 [some (.ref (ad 82)), some (.int v1), some (.int v2), some (.int v3), none, some (.int v5), some (.int v6)] [.int s_6]) h ?_ (fun j98_5 hj98_5 h => ?_)
        · intro s_6 h
          refine G_istore (pc := 98) X (dg dt_R_isInNucleus 54 rfl) (Nat.le_of_ble_eq_true rfl) rfl ?_
          refine G_iload (pc := 100) X (dg dt_R_isInNucleus 55 rfl) rfl ?_
          refine jn_go (fun j133_7 => ∀ (s_8 : Int32), j133_7 s_8 = some rv → G θ (0, 0) (g_SH, ad) σ 133 [some (.ref (ad 82)), some (.int v1), some (.int v2), some (.int v3), none, some (.int v5), some (.int v6)] [.int s_8]) h ?_ (fun j133_7 hj133_7 h => ?_)
          · intro s_8 h
            refine G_istore (pc := 133) X (dg dt_R_isInNucleus 73 rfl) (Nat.le_of_ble_eq_true rfl) rfl ?_
            refine G_iinc (pc := 135) (v6 + 1) X (dg dt_R_isInNucleus 74 rfl) rfl (Nat.le_of_ble_eq_true rfl) rfl rfl ?_
            refine G_goto (pc := 138) 20 X (dg dt_R_isInNucleus 75 rfl) (by decide) ?_
            exact G_wk (ih s_8 (v6 + 1) h) ⟨rfl, ⟨rfl, ⟨rfl, ⟨rfl, ⟨rfl, ⟨rfl, ⟨rfl, trivial⟩⟩⟩⟩⟩⟩⟩
          refine jn_go (fun j132_9 => j132_9 = some rv → G θ (0, 0) (g_SH, ad) σ 132 [some (.ref (ad 82)), some (.int v1), some (.int v2), some (.int v3), none, some (.int v5), some (.int v6)] []) h ?_ (fun j132_9 hj132_9 h => ?_)
          · intro  h
            refine G_iconst (pc := 132) 0 X (dg dt_R_isInNucleus 72 rfl) (by decide) ?_
            exact G_wk (hj133_7 0 h) ⟨rfl, ⟨rfl, ⟨rfl, ⟨rfl, ⟨rfl, ⟨rfl, trivial⟩⟩⟩⟩⟩⟩
          refine G_if_eq (pc := 102) 132 X (dg dt_R_isInNucleus 56 rfl) (by decide) h (fun h => ?_) (fun h => ?_)
          · exact G_wk (hj132_9  h) ⟨rfl, ⟨rfl, ⟨rfl, ⟨rfl, ⟨rfl, ⟨rfl, trivial⟩⟩⟩⟩⟩⟩
          · refine G_iload_n (pc := 105) 3 X (dg dt_R_isInNucleus 57 rfl) rfl rfl ?_
            refine G_iconst (pc := 106) 2 X (dg dt_R_isInNucleus 58 rfl) (by decide) ?_
            refine jn_go (fun j128_10 => j128_10 = some rv → G θ (0, 0) (g_SH, ad) σ 128 [some (.ref (ad 82)), some (.int v1), some (.int v2), some (.int v3), none, some (.int v5), some (.int v6)] []) h ?_ (fun j128_10 hj128_10 h => ?_)
            · intro  h
              refine G_iconst (pc := 128) 1 X (dg dt_R_isInNucleus 70 rfl) (by decide) ?_
              refine G_goto (pc := 129) 133 X (dg dt_R_isInNucleus 71 rfl) (by decide) ?_
              exact G_wk (hj133_7 1 h) ⟨rfl, ⟨rfl, ⟨rfl, ⟨rfl, ⟨rfl, ⟨rfl, trivial⟩⟩⟩⟩⟩⟩
            refine jn_go (fun j115_11 => j115_11 = some rv → G θ (0, 0) (g_SH, ad) σ 115 [some (.ref (ad 82)), some (.int v1), some (.int v2), some (.int v3), none, some (.int v5), some (.int v6)] []) h ?_ (fun j115_11 hj115_11 h => ?_)
            · intro  h
              refine G_aload_n (pc := 115) 0 X (dg dt_R_isInNucleus 63 rfl) rfl rfl ?_
              refine G_iload_n (pc := 116) 1 X (dg dt_R_isInNucleus 64 rfl) rfl rfl ?_
              refine G_iload (pc := 117) X (dg dt_R_isInNucleus 65 rfl) rfl ?_
              refine G_iload (pc := 119) X (dg dt_R_isInNucleus 66 rfl) rfl ?_
              refine G_iload_n (pc := 121) 2 X (dg dt_R_isInNucleus 67 rfl) rfl rfl ?_
              obtain ⟨r_13, hc_12, h⟩ := cap_go h
              refine G_callV (pc := 122) (S := []) [.int v1, .int v5, .int v6, .int v2] nosub X  (dg dt_R_isInNucleus 68 rfl) cb_R_associates cv_R_associates w_1360 (s_R_associates _ ad _ _ _ _ _ hc_12) rfl ⟨Nat.le_of_ble_eq_true rfl, Nat.le_of_ble_eq_true rfl⟩ sh_82 rfl (Nat.le_of_ble_eq_true rfl) Rc0 ?_
              refine G_if_eq (pc := 125) 132 X (dg dt_R_isInNucleus 69 rfl) (by decide) h (fun h => ?_) (fun h => ?_)
              · exact G_wk (hj132_9  h) ⟨rfl, ⟨rfl, ⟨rfl, ⟨rfl, ⟨rfl, ⟨rfl, trivial⟩⟩⟩⟩⟩⟩
              · exact G_wk (hj128_10  h) ⟨rfl, ⟨rfl, ⟨rfl, ⟨rfl, ⟨rfl, ⟨rfl, trivial⟩⟩⟩⟩⟩⟩
            refine G_icmp_eq (pc := 107) 115 X (dg dt_R_isInNucleus 59 rfl) (by decide) h (fun h => ?_) (fun h => ?_)
            · exact G_wk (hj115_11  h) ⟨rfl, ⟨rfl, ⟨rfl, ⟨rfl, ⟨rfl, ⟨rfl, trivial⟩⟩⟩⟩⟩⟩
            · refine G_iload_n (pc := 110) 3 X (dg dt_R_isInNucleus 60 rfl) rfl rfl ?_
              refine G_iconst (pc := 111) 3 X (dg dt_R_isInNucleus 61 rfl) (by decide) ?_
              refine G_icmp_ne (pc := 112) 128 X (dg dt_R_isInNucleus 62 rfl) (by decide) h (fun h => ?_) (fun h => ?_)
              · exact G_wk (hj128_10  h) ⟨rfl, ⟨rfl, ⟨rfl, ⟨rfl, ⟨rfl, ⟨rfl, trivial⟩⟩⟩⟩⟩⟩
              · exact G_wk (hj115_11  h) ⟨rfl, ⟨rfl, ⟨rfl, ⟨rfl, ⟨rfl, ⟨rfl, trivial⟩⟩⟩⟩⟩⟩
        refine jn_go (fun j97_14 => j97_14 = some rv → G θ (0, 0) (g_SH, ad) σ 97 [some (.ref (ad 82)), some (.int v1), some (.int v2), some (.int v3), none, some (.int v5), some (.int v6)] []) h ?_ (fun j97_14 hj97_14 h => ?_)
        · intro  h
          refine G_iconst (pc := 97) 0 X (dg dt_R_isInNucleus 53 rfl) (by decide) ?_
          exact G_wk (hj98_5 0 h) ⟨rfl, ⟨rfl, ⟨rfl, ⟨rfl, ⟨rfl, ⟨rfl, trivial⟩⟩⟩⟩⟩⟩
        refine G_if_eq (pc := 67) 97 X (dg dt_R_isInNucleus 37 rfl) (by decide) h (fun h => ?_) (fun h => ?_)
        · exact G_wk (hj97_14  h) ⟨rfl, ⟨rfl, ⟨rfl, ⟨rfl, ⟨rfl, ⟨rfl, trivial⟩⟩⟩⟩⟩⟩
        · refine G_iload_n (pc := 70) 3 X (dg dt_R_isInNucleus 38 rfl) rfl rfl ?_
          refine G_iconst (pc := 71) 1 X (dg dt_R_isInNucleus 39 rfl) (by decide) ?_
          refine jn_go (fun j93_15 => j93_15 = some rv → G θ (0, 0) (g_SH, ad) σ 93 [some (.ref (ad 82)), some (.int v1), some (.int v2), some (.int v3), none, some (.int v5), some (.int v6)] []) h ?_ (fun j93_15 hj93_15 h => ?_)
          · intro  h
            refine G_iconst (pc := 93) 1 X (dg dt_R_isInNucleus 51 rfl) (by decide) ?_
            refine G_goto (pc := 94) 98 X (dg dt_R_isInNucleus 52 rfl) (by decide) ?_
            exact G_wk (hj98_5 1 h) ⟨rfl, ⟨rfl, ⟨rfl, ⟨rfl, ⟨rfl, ⟨rfl, trivial⟩⟩⟩⟩⟩⟩
          refine jn_go (fun j80_16 => j80_16 = some rv → G θ (0, 0) (g_SH, ad) σ 80 [some (.ref (ad 82)), some (.int v1), some (.int v2), some (.int v3), none, some (.int v5), some (.int v6)] []) h ?_ (fun j80_16 hj80_16 h => ?_)
          · intro  h
            refine G_aload_n (pc := 80) 0 X (dg dt_R_isInNucleus 44 rfl) rfl rfl ?_
            refine G_iload_n (pc := 81) 1 X (dg dt_R_isInNucleus 45 rfl) rfl rfl ?_
            refine G_iload (pc := 82) X (dg dt_R_isInNucleus 46 rfl) rfl ?_
            refine G_iload_n (pc := 84) 2 X (dg dt_R_isInNucleus 47 rfl) rfl rfl ?_
            refine G_iload (pc := 85) X (dg dt_R_isInNucleus 48 rfl) rfl ?_
            obtain ⟨r_18, hc_17, h⟩ := cap_go h
            refine G_callV (pc := 87) (S := []) [.int v1, .int v5, .int v2, .int v6] nosub X  (dg dt_R_isInNucleus 49 rfl) cb_R_associates cv_R_associates w_1360 (s_R_associates _ ad _ _ _ _ _ hc_17) rfl ⟨Nat.le_of_ble_eq_true rfl, Nat.le_of_ble_eq_true rfl⟩ sh_82 rfl (Nat.le_of_ble_eq_true rfl) Rc0 ?_
            refine G_if_eq (pc := 90) 97 X (dg dt_R_isInNucleus 50 rfl) (by decide) h (fun h => ?_) (fun h => ?_)
            · exact G_wk (hj97_14  h) ⟨rfl, ⟨rfl, ⟨rfl, ⟨rfl, ⟨rfl, ⟨rfl, trivial⟩⟩⟩⟩⟩⟩
            · exact G_wk (hj93_15  h) ⟨rfl, ⟨rfl, ⟨rfl, ⟨rfl, ⟨rfl, ⟨rfl, trivial⟩⟩⟩⟩⟩⟩
          refine G_icmp_eq (pc := 72) 80 X (dg dt_R_isInNucleus 40 rfl) (by decide) h (fun h => ?_) (fun h => ?_)
          · exact G_wk (hj80_16  h) ⟨rfl, ⟨rfl, ⟨rfl, ⟨rfl, ⟨rfl, ⟨rfl, trivial⟩⟩⟩⟩⟩⟩
          · refine G_iload_n (pc := 75) 3 X (dg dt_R_isInNucleus 41 rfl) rfl rfl ?_
            refine G_iconst (pc := 76) 3 X (dg dt_R_isInNucleus 42 rfl) (by decide) ?_
            refine G_icmp_ne (pc := 77) 93 X (dg dt_R_isInNucleus 43 rfl) (by decide) h (fun h => ?_) (fun h => ?_)
            · exact G_wk (hj93_15  h) ⟨rfl, ⟨rfl, ⟨rfl, ⟨rfl, ⟨rfl, ⟨rfl, trivial⟩⟩⟩⟩⟩⟩
            · exact G_wk (hj80_16  h) ⟨rfl, ⟨rfl, ⟨rfl, ⟨rfl, ⟨rfl, ⟨rfl, trivial⟩⟩⟩⟩⟩⟩
      refine jn_go (fun j62_19 => j62_19 = some rv → G θ (0, 0) (g_SH, ad) σ 62 [some (.ref (ad 82)), some (.int v1), some (.int v2), some (.int v3), none, some (.int v5), some (.int v6)] []) h ?_ (fun j62_19 hj62_19 h => ?_)
      · intro  h
        refine G_iconst (pc := 62) 0 X (dg dt_R_isInNucleus 34 rfl) (by decide) ?_
        exact G_wk (hj63_3 0 h) ⟨rfl, ⟨rfl, ⟨rfl, ⟨rfl, ⟨rfl, ⟨rfl, trivial⟩⟩⟩⟩⟩⟩
      refine G_if_eq (pc := 33) 62 X (dg dt_R_isInNucleus 19 rfl) (by decide) h (fun h => ?_) (fun h => ?_)
      · exact G_wk (hj62_19  h) ⟨rfl, ⟨rfl, ⟨rfl, ⟨rfl, ⟨rfl, ⟨rfl, trivial⟩⟩⟩⟩⟩⟩
      · refine G_iload_n (pc := 36) 3 X (dg dt_R_isInNucleus 20 rfl) rfl rfl ?_
        refine jn_go (fun j58_20 => j58_20 = some rv → G θ (0, 0) (g_SH, ad) σ 58 [some (.ref (ad 82)), some (.int v1), some (.int v2), some (.int v3), none, some (.int v5), some (.int v6)] []) h ?_ (fun j58_20 hj58_20 h => ?_)
        · intro  h
          refine G_iconst (pc := 58) 1 X (dg dt_R_isInNucleus 32 rfl) (by decide) ?_
          refine G_goto (pc := 59) 63 X (dg dt_R_isInNucleus 33 rfl) (by decide) ?_
          exact G_wk (hj63_3 1 h) ⟨rfl, ⟨rfl, ⟨rfl, ⟨rfl, ⟨rfl, ⟨rfl, trivial⟩⟩⟩⟩⟩⟩
        refine jn_go (fun j45_21 => j45_21 = some rv → G θ (0, 0) (g_SH, ad) σ 45 [some (.ref (ad 82)), some (.int v1), some (.int v2), some (.int v3), none, some (.int v5), some (.int v6)] []) h ?_ (fun j45_21 hj45_21 h => ?_)
        · intro  h
          refine G_aload_n (pc := 45) 0 X (dg dt_R_isInNucleus 25 rfl) rfl rfl ?_
          refine G_iload_n (pc := 46) 1 X (dg dt_R_isInNucleus 26 rfl) rfl rfl ?_
          refine G_iload_n (pc := 47) 2 X (dg dt_R_isInNucleus 27 rfl) rfl rfl ?_
          refine G_iload (pc := 48) X (dg dt_R_isInNucleus 28 rfl) rfl ?_
          refine G_iload (pc := 50) X (dg dt_R_isInNucleus 29 rfl) rfl ?_
          obtain ⟨r_23, hc_22, h⟩ := cap_go h
          refine G_callV (pc := 52) (S := []) [.int v1, .int v2, .int v5, .int v6] nosub X  (dg dt_R_isInNucleus 30 rfl) cb_R_associates cv_R_associates w_1360 (s_R_associates _ ad _ _ _ _ _ hc_22) rfl ⟨Nat.le_of_ble_eq_true rfl, Nat.le_of_ble_eq_true rfl⟩ sh_82 rfl (Nat.le_of_ble_eq_true rfl) Rc0 ?_
          refine G_if_eq (pc := 55) 62 X (dg dt_R_isInNucleus 31 rfl) (by decide) h (fun h => ?_) (fun h => ?_)
          · exact G_wk (hj62_19  h) ⟨rfl, ⟨rfl, ⟨rfl, ⟨rfl, ⟨rfl, ⟨rfl, trivial⟩⟩⟩⟩⟩⟩
          · exact G_wk (hj58_20  h) ⟨rfl, ⟨rfl, ⟨rfl, ⟨rfl, ⟨rfl, ⟨rfl, trivial⟩⟩⟩⟩⟩⟩
        refine G_if_eq (pc := 37) 45 X (dg dt_R_isInNucleus 21 rfl) (by decide) h (fun h => ?_) (fun h => ?_)
        · exact G_wk (hj45_21  h) ⟨rfl, ⟨rfl, ⟨rfl, ⟨rfl, ⟨rfl, ⟨rfl, trivial⟩⟩⟩⟩⟩⟩
        · refine G_iload_n (pc := 40) 3 X (dg dt_R_isInNucleus 22 rfl) rfl rfl ?_
          refine G_iconst (pc := 41) 3 X (dg dt_R_isInNucleus 23 rfl) (by decide) ?_
          refine G_icmp_ne (pc := 42) 58 X (dg dt_R_isInNucleus 24 rfl) (by decide) h (fun h => ?_) (fun h => ?_)
          · exact G_wk (hj58_20  h) ⟨rfl, ⟨rfl, ⟨rfl, ⟨rfl, ⟨rfl, ⟨rfl, trivial⟩⟩⟩⟩⟩⟩
          · exact G_wk (hj45_21  h) ⟨rfl, ⟨rfl, ⟨rfl, ⟨rfl, ⟨rfl, ⟨rfl, trivial⟩⟩⟩⟩⟩⟩
set_option maxRecDepth 100000 in
set_option maxHeartbeats 4000000 in
theorem s_R_isInNucleus_L6 {θ : Th} {ad : Nat → Nat}  {rv : Int32} (X : Cx θ [] cX12_isInNucleus 7 "QuasigroveModel" 2 47)
    {v1 : Int32} {v2 : Int32} {v3 : Int32} {σ : St} (hq : Rq θ (g_SH, ad) (some .boolean) (some (.int rv)) σ) {kx183 : Int32 → Option Int32} (hkx183 : ∀ (v4 : Int32), kx183 v4 = some rv → G θ (0, 0) (g_SH, ad) σ 183 [none, none, none, none, some (.int v4), none, none] []) :
    ∀ (n : Nat) (v4 : Int32) (v5 : Int32), f_R_isInNucleus_L6 v1 v2 v3 σ kx183 n v4 v5 = some rv → G θ (0, 0) (g_SH, ad) σ 6 [some (.ref (ad 82)), some (.int v1), some (.int v2), some (.int v3), some (.int v4), some (.int v5), none] [] := by
  intro n
  induction n with
  | zero => intro v4 v5 h; rw [f_R_isInNucleus_L6] at h; cases h
  | succ n ih =>
    intro v4 v5 h
    rw [f_R_isInNucleus_L6] at h
    refine G_iload (pc := 6) X (dg dt_R_isInNucleus 4 rfl) rfl ?_
    refine G_aload_n (pc := 8) 0 X (dg dt_R_isInNucleus 5 rfl) rfl rfl ?_
    refine G_getR (pc := 9) 2 X (dg dt_R_isInNucleus 6 rfl) fc_8 w_1065 rfl (Nat.le_of_ble_eq_true rfl) sh_82 rfl ?_
    refine G_iload_n (pc := 12) 1 X (dg dt_R_isInNucleus 7 rfl) rfl rfl ?_
    refine G_iald (pc := 13) X (dg dt_R_isInNucleus 8 rfl) sh_83 h (fun r_1 h => ?_)
    refine G_icmp_ge (pc := 14) 183 X (dg dt_R_isInNucleus 9 rfl) (by decide) h (fun h => ?_) (fun h => ?_)
    · exact G_wk (hkx183 v4 h) ⟨rfl, trivial⟩
    · refine G_iconst (pc := 17) 0 X (dg dt_R_isInNucleus 10 rfl) (by decide) ?_
      refine G_istore (pc := 18) X (dg dt_R_isInNucleus 11 rfl) (Nat.le_of_ble_eq_true rfl) rfl ?_
      refine G_weak (L' := [some (.ref (ad 82)), some (.int v1), some (.int v2), some (.int v3), some (.int v4), some (.int v5), some (.int 0)]) ⟨rfl, ⟨rfl, ⟨rfl, ⟨rfl, ⟨rfl, ⟨rfl, ⟨rfl, trivial⟩⟩⟩⟩⟩⟩⟩ ?_
      refine s_R_isInNucleus_L20  X hq  (fun v4_24 h => ?_) _ _ _ h
      refine G_iload (pc := 141) X (dg dt_R_isInNucleus 76 rfl) rfl ?_
      refine jn_go (fun j175_25 => ∀ (s_26 : Int32), j175_25 s_26 = some rv → G θ (0, 0) (g_SH, ad) σ 175 [some (.ref (ad 82)), some (.int v1), some (.int v2), some (.int v3), none, some (.int v5), none] [.int s_26]) h ?_ (fun j175_25 hj175_25 h => ?_)
      · intro s_26 h
        refine G_istore (pc := 175) X (dg dt_R_isInNucleus 95 rfl) (Nat.le_of_ble_eq_true rfl) rfl ?_
        refine G_iinc (pc := 177) (v5 + 1) X (dg dt_R_isInNucleus 96 rfl) rfl (Nat.le_of_ble_eq_true rfl) rfl rfl ?_
        refine G_goto (pc := 180) 6 X (dg dt_R_isInNucleus 97 rfl) (by decide) ?_
        exact G_wk (ih s_26 (v5 + 1) h) ⟨rfl, ⟨rfl, ⟨rfl, ⟨rfl, ⟨rfl, ⟨rfl, trivial⟩⟩⟩⟩⟩⟩
      refine jn_go (fun j174_27 => j174_27 = some rv → G θ (0, 0) (g_SH, ad) σ 174 [some (.ref (ad 82)), some (.int v1), some (.int v2), some (.int v3), none, some (.int v5), none] []) h ?_ (fun j174_27 hj174_27 h => ?_)
      · intro  h
        refine G_iconst (pc := 174) 0 X (dg dt_R_isInNucleus 94 rfl) (by decide) ?_
        exact G_wk (hj175_25 0 h) ⟨rfl, ⟨rfl, ⟨rfl, ⟨rfl, ⟨rfl, trivial⟩⟩⟩⟩⟩
      refine G_if_eq (pc := 143) 174 X (dg dt_R_isInNucleus 77 rfl) (by decide) h (fun h => ?_) (fun h => ?_)
      · exact G_wk (hj174_27  h) ⟨rfl, ⟨rfl, ⟨rfl, ⟨rfl, ⟨rfl, trivial⟩⟩⟩⟩⟩
      · refine G_iload_n (pc := 146) 3 X (dg dt_R_isInNucleus 78 rfl) rfl rfl ?_
        refine G_iconst (pc := 147) 3 X (dg dt_R_isInNucleus 79 rfl) (by decide) ?_
        refine jn_go (fun j170_28 => j170_28 = some rv → G θ (0, 0) (g_SH, ad) σ 170 [some (.ref (ad 82)), some (.int v1), some (.int v2), some (.int v3), none, some (.int v5), none] []) h ?_ (fun j170_28 hj170_28 h => ?_)
        · intro  h
          refine G_iconst (pc := 170) 1 X (dg dt_R_isInNucleus 92 rfl) (by decide) ?_
          refine G_goto (pc := 171) 175 X (dg dt_R_isInNucleus 93 rfl) (by decide) ?_
          exact G_wk (hj175_25 1 h) ⟨rfl, ⟨rfl, ⟨rfl, ⟨rfl, ⟨rfl, trivial⟩⟩⟩⟩⟩
        refine G_icmp_ne (pc := 148) 170 X (dg dt_R_isInNucleus 80 rfl) (by decide) h (fun h => ?_) (fun h => ?_)
        · exact G_wk (hj170_28  h) ⟨rfl, ⟨rfl, ⟨rfl, ⟨rfl, ⟨rfl, trivial⟩⟩⟩⟩⟩
        · refine G_aload_n (pc := 151) 0 X (dg dt_R_isInNucleus 81 rfl) rfl rfl ?_
          refine G_iload_n (pc := 152) 1 X (dg dt_R_isInNucleus 82 rfl) rfl rfl ?_
          refine G_iload_n (pc := 153) 2 X (dg dt_R_isInNucleus 83 rfl) rfl rfl ?_
          refine G_iload (pc := 154) X (dg dt_R_isInNucleus 84 rfl) rfl ?_
          obtain ⟨r_30, hc_29, h⟩ := cap_go h
          refine G_callV (pc := 156) (S := []) [.int v1, .int v2, .int v5] nosub X  (dg dt_R_isInNucleus 85 rfl) cb_R_at cv_R_at w_1191 (s_R_at _ ad _ _ _ _ hc_29) rfl ⟨Nat.le_of_ble_eq_true rfl, Nat.le_of_ble_eq_true rfl⟩ sh_82 rfl (Nat.le_of_ble_eq_true rfl) Rc0 ?_
          refine G_aload_n (pc := 159) 0 X (dg dt_R_isInNucleus 86 rfl) rfl rfl ?_
          refine G_iload_n (pc := 160) 1 X (dg dt_R_isInNucleus 87 rfl) rfl rfl ?_
          refine G_iload (pc := 161) X (dg dt_R_isInNucleus 88 rfl) rfl ?_
          refine G_iload_n (pc := 163) 2 X (dg dt_R_isInNucleus 89 rfl) rfl rfl ?_
          obtain ⟨r_32, hc_31, h⟩ := cap_go h
          refine G_callV (pc := 164) (S := [.int r_30]) [.int v1, .int v5, .int v2] nosub X  (dg dt_R_isInNucleus 90 rfl) cb_R_at cv_R_at w_1191 (s_R_at _ ad _ _ _ _ hc_31) rfl ⟨Nat.le_of_ble_eq_true rfl, Nat.le_of_ble_eq_true rfl⟩ sh_82 rfl (Nat.le_of_ble_eq_true rfl) Rc0 ?_
          refine G_icmp_ne (pc := 167) 174 X (dg dt_R_isInNucleus 91 rfl) (by decide) h (fun h => ?_) (fun h => ?_)
          · exact G_wk (hj174_27  h) ⟨rfl, ⟨rfl, ⟨rfl, ⟨rfl, ⟨rfl, trivial⟩⟩⟩⟩⟩
          · exact G_wk (hj170_28  h) ⟨rfl, ⟨rfl, ⟨rfl, ⟨rfl, ⟨rfl, trivial⟩⟩⟩⟩⟩
set_option maxRecDepth 100000 in
set_option maxHeartbeats 4000000 in
theorem s_R_isInNucleus (l : Launch) (ad : Nat → Nat) (σ : St) (v1 : Int32) (v2 : Int32) (v3 : Int32)  {rv : Int32} (h : f_R_isInNucleus σ v1 v2 v3 = some rv) : Rt l [] yX12_isInNucleus cX12_isInNucleus 7 (some .boolean) 2 47 (g_SH, ad) [.ref (ad 82), .int v1, .int v2, .int v3] σ (some (.int rv)) σ := by
  refine Rt.intro (L := [some (.ref (ad 82)), some (.int v1), some (.int v2), some (.int v3), none, none, none]) (by decide +kernel) (Nat.le_of_ble_eq_true rfl) rfl (fun θ hl X hq => ?_)
  subst hl
  unfold f_R_isInNucleus at h
  refine G_iconst (pc := 0) 1 X (dg dt_R_isInNucleus 0 rfl) (by decide) ?_
  refine G_istore (pc := 1) X (dg dt_R_isInNucleus 1 rfl) (Nat.le_of_ble_eq_true rfl) rfl ?_
  refine G_iconst (pc := 3) 0 X (dg dt_R_isInNucleus 2 rfl) (by decide) ?_
  refine G_istore (pc := 4) X (dg dt_R_isInNucleus 3 rfl) (Nat.le_of_ble_eq_true rfl) rfl ?_
  refine G_weak (L' := [some (.ref (ad 82)), some (.int v1), some (.int v2), some (.int v3), some (.int 1), some (.int 0), none]) ⟨rfl, ⟨rfl, ⟨rfl, ⟨rfl, ⟨rfl, ⟨rfl, trivial⟩⟩⟩⟩⟩⟩ ?_
  refine s_R_isInNucleus_L6  X hq  (fun v4_33 h => ?_) _ _ _ h
  refine G_iload (pc := 183) X (dg dt_R_isInNucleus 98 rfl) rfl ?_
  exact G_zretp (pc := 185) X hq (dg dt_R_isInNucleus 99 rfl) h
set_option maxRecDepth 100000 in
set_option maxHeartbeats 4000000 in
theorem s_R_nucleus_L22 {θ : Th} {ad : Nat → Nat}  {rv : Int32} {σe : St} (X : Cx θ [] cX12_nucleus 5 "QuasigroveModel" 3 73)
    {v1 : Int32} {v2 : Int32} {σ : St} (hq : Rq θ (g_SH, ad) (some .int) (some (.int rv)) σe) {kx61 : Int32 → Option (Int32 × St)} (hkx61 : ∀ (v3 : Int32), kx61 v3 = some (rv, σe) → G θ (0, 0) (g_SH, ad) σ 61 [none, none, none, some (.int v3), none] []) :
    ∀ (n : Nat) (v3 : Int32) (v4 : Int32), f_R_nucleus_L22 v1 v2 σ kx61 n v3 v4 = some (rv, σe) → G θ (0, 0) (g_SH, ad) σ 22 [some (.ref (ad 82)), some (.int v1), some (.int v2), some (.int v3), some (.int v4)] [] := by
  intro n
  induction n with
  | zero => intro v3 v4 h; rw [f_R_nucleus_L22] at h; cases h
  | succ n ih =>
    intro v3 v4 h
    rw [f_R_nucleus_L22] at h
    refine G_iload (pc := 22) X (dg dt_R_nucleus 15 rfl) rfl ?_
    refine G_aload_n (pc := 24) 0 X (dg dt_R_nucleus 16 rfl) rfl rfl ?_
    refine G_getR (pc := 25) 2 X (dg dt_R_nucleus 17 rfl) fc_8 w_1065 rfl (Nat.le_of_ble_eq_true rfl) sh_82 rfl ?_
    refine G_iload_n (pc := 28) 1 X (dg dt_R_nucleus 18 rfl) rfl rfl ?_
    refine G_iald (pc := 29) X (dg dt_R_nucleus 19 rfl) sh_83 h (fun r_6 h => ?_)
    refine G_icmp_ge (pc := 30) 61 X (dg dt_R_nucleus 20 rfl) (by decide) h (fun h => ?_) (fun h => ?_)
    · exact G_wk (hkx61 v3 h) ⟨rfl, trivial⟩
    · refine G_iload_n (pc := 33) 3 X (dg dt_R_nucleus 21 rfl) rfl rfl ?_
      refine G_aload_n (pc := 34) 0 X (dg dt_R_nucleus 22 rfl) rfl rfl ?_
      refine G_iload_n (pc := 35) 1 X (dg dt_R_nucleus 23 rfl) rfl rfl ?_
      refine G_iload (pc := 36) X (dg dt_R_nucleus 24 rfl) rfl ?_
      refine G_iload_n (pc := 38) 2 X (dg dt_R_nucleus 25 rfl) rfl rfl ?_
      obtain ⟨r_8, hc_7, h⟩ := cap_go h
      refine G_callV (pc := 39) (S := [.int v3]) [.int v1, .int v4, .int v2] nosub X  (dg dt_R_nucleus 26 rfl) cb_R_isInNucleus cv_R_isInNucleus w_1356 (s_R_isInNucleus _ ad _ _ _ _ hc_7) rfl ⟨Nat.le_of_ble_eq_true rfl, Nat.le_of_ble_eq_true rfl⟩ sh_82 rfl (Nat.le_of_ble_eq_true rfl) Rc0 ?_
      refine jn_go (fun j53_9 => ∀ (s_10 : Int32), j53_9 s_10 = some (rv, σe) → G θ (0, 0) (g_SH, ad) σ 53 [some (.ref (ad 82)), some (.int v1), some (.int v2), none, some (.int v4)] [.int s_10, .int v3]) h ?_ (fun j53_9 hj53_9 h => ?_)
      · intro s_10 h
        refine G_ior (pc := 53) X (dg dt_R_nucleus 33 rfl) ?_
        refine G_istore_n (pc := 54) 3 X (dg dt_R_nucleus 34 rfl) rfl (Nat.le_of_ble_eq_true rfl) rfl ?_
        refine G_iinc (pc := 55) (v4 + 1) X (dg dt_R_nucleus 35 rfl) rfl (Nat.le_of_ble_eq_true rfl) rfl rfl ?_
        refine G_goto (pc := 58) 22 X (dg dt_R_nucleus 36 rfl) (by decide) ?_
        exact G_wk (ih (v3 ||| s_10) (v4 + 1) h) ⟨rfl, ⟨rfl, ⟨rfl, ⟨rfl, ⟨rfl, trivial⟩⟩⟩⟩⟩
      refine G_if_eq (pc := 42) 52 X (dg dt_R_nucleus 27 rfl) (by decide) h (fun h => ?_) (fun h => ?_)
      · refine G_iconst (pc := 52) 0 X (dg dt_R_nucleus 32 rfl) (by decide) ?_
        exact G_wk (hj53_9 0 h) ⟨rfl, ⟨rfl, ⟨rfl, ⟨rfl, trivial⟩⟩⟩⟩
      · refine G_iconst (pc := 45) 1 X (dg dt_R_nucleus 28 rfl) (by decide) ?_
        refine G_iload (pc := 46) X (dg dt_R_nucleus 29 rfl) rfl ?_
        refine G_ishl (pc := 48) X (dg dt_R_nucleus 30 rfl) ?_
        refine G_goto (pc := 49) 53 X (dg dt_R_nucleus 31 rfl) (by decide) ?_
        exact G_wk (hj53_9 (1 <<< (v4 &&& 31)) h) ⟨rfl, ⟨rfl, ⟨rfl, ⟨rfl, trivial⟩⟩⟩⟩
set_option maxRecDepth 100000 in
set_option maxHeartbeats 4000000 in
theorem s_R_nucleus (l : Launch) (ad : Nat → Nat) (σ : St) (v1 : Int32) (v2 : Int32)  {rv : Int32} {σe : St} (h : f_R_nucleus σ v1 v2 = some (rv, σe)) : Rt l [] yX12_nucleus cX12_nucleus 5 (some .int) 3 73 (g_SH, ad) [.ref (ad 82), .int v1, .int v2] σ (some (.int rv)) σe := by
  refine Rt.intro (L := [some (.ref (ad 82)), some (.int v1), some (.int v2), none, none]) (by decide +kernel) (Nat.le_of_ble_eq_true rfl) rfl (fun θ hl X hq => ?_)
  subst hl
  unfold f_R_nucleus at h
  refine G_aload_n (pc := 0) 0 X (dg dt_R_nucleus 0 rfl) rfl rfl ?_
  refine G_iload_n (pc := 1) 1 X (dg dt_R_nucleus 1 rfl) rfl rfl ?_
  refine G_aload_n (pc := 2) 0 X (dg dt_R_nucleus 2 rfl) rfl rfl ?_
  refine G_iload_n (pc := 3) 2 X (dg dt_R_nucleus 3 rfl) rfl rfl ?_
  refine G_iconst (pc := 4) 0 X (dg dt_R_nucleus 4 rfl) (by decide) ?_
  refine G_iconst (pc := 5) 3 X (dg dt_R_nucleus 5 rfl) (by decide) ?_
  obtain ⟨r_2, hc_1, h⟩ := cap_go h
  refine G_callV (pc := 6) (S := [.int v1, .ref (ad 82)]) [.int v2, .int 0, .int 3] nosub X  (dg dt_R_nucleus 6 rfl) cb_R_between cv_R_between w_1159 (s_R_between _ ad _ _ _ _ hc_1) rfl ⟨Nat.le_of_ble_eq_true rfl, Nat.le_of_ble_eq_true rfl⟩ sh_82 rfl (Nat.le_of_ble_eq_true rfl) Rc0 ?_
  obtain ⟨r_4, σ_5, hc_3, h⟩ := cal_go h
  refine G_callV (pc := 9) (S := []) [.int v1, .int r_2] nosub X  (dg dt_R_nucleus 7 rfl) cb_R_canAskWith cv_R_canAskWith w_1352 (s_R_canAskWith _ ad _ _ _ hc_3) rfl ⟨Nat.le_of_ble_eq_true rfl, Nat.le_of_ble_eq_true rfl⟩ sh_82 rfl (Nat.le_of_ble_eq_true rfl) Rc0 ?_
  refine G_if_ne (pc := 12) 17 X (dg dt_R_nucleus 8 rfl) (by decide) h (fun h => ?_) (fun h => ?_)
  · refine G_iconst (pc := 17) 0 X (dg dt_R_nucleus 11 rfl) (by decide) ?_
    refine G_istore_n (pc := 18) 3 X (dg dt_R_nucleus 12 rfl) rfl (Nat.le_of_ble_eq_true rfl) rfl ?_
    refine G_iconst (pc := 19) 0 X (dg dt_R_nucleus 13 rfl) (by decide) ?_
    refine G_istore (pc := 20) X (dg dt_R_nucleus 14 rfl) (Nat.le_of_ble_eq_true rfl) rfl ?_
    refine G_weak (L' := [some (.ref (ad 82)), some (.int v1), some (.int v2), some (.int 0), some (.int 0)]) ⟨rfl, ⟨rfl, ⟨rfl, ⟨rfl, ⟨rfl, trivial⟩⟩⟩⟩⟩ ?_
    refine s_R_nucleus_L22  X hq  (fun v3_11 h => ?_) _ _ _ h
    refine G_iload_n (pc := 61) 3 X (dg dt_R_nucleus 37 rfl) rfl rfl ?_
    exact G_iret (pc := 62) X hq (dg dt_R_nucleus 38 rfl) h
  · refine G_iconst (pc := 15) 0 X (dg dt_R_nucleus 9 rfl) (by decide) ?_
    exact G_iret (pc := 16) X hq (dg dt_R_nucleus 10 rfl) h
set_option maxRecDepth 100000 in
set_option maxHeartbeats 4000000 in
theorem s_R_unit_L30 {θ : Th} {ad : Nat → Nat}  {rv : Int32} {σe : St} (X : Cx θ [] cX12_unit 6 "QuasigroveModel" 3 65)
    {v1 : Int32} {v2 : Int32} {v3 : Int32} {σ : St} (hq : Rq θ (g_SH, ad) (some .int) (some (.int rv)) σe) {kx85 : Int32 → Option (Int32 × St)} (hkx85 : ∀ (v4 : Int32), kx85 v4 = some (rv, σe) → G θ (0, 0) (g_SH, ad) σ 85 [some (.ref (ad 82)), some (.int v1), some (.int v2), some (.int v3), some (.int v4), none] []) :
    ∀ (n : Nat) (v4 : Int32) (v5 : Int32), f_R_unit_L30 v1 v2 v3 σ kx85 n v4 v5 = some (rv, σe) → G θ (0, 0) (g_SH, ad) σ 30 [some (.ref (ad 82)), some (.int v1), some (.int v2), some (.int v3), some (.int v4), some (.int v5)] [] := by
  intro n
  induction n with
  | zero => intro v4 v5 h; rw [f_R_unit_L30] at h; cases h
  | succ n ih =>
    intro v4 v5 h
    rw [f_R_unit_L30] at h
    refine G_iload (pc := 30) X (dg dt_R_unit 20 rfl) rfl ?_
    refine G_aload_n (pc := 32) 0 X (dg dt_R_unit 21 rfl) rfl rfl ?_
    refine G_getR (pc := 33) 2 X (dg dt_R_unit 22 rfl) fc_8 w_1065 rfl (Nat.le_of_ble_eq_true rfl) sh_82 rfl ?_
    refine G_iload_n (pc := 36) 1 X (dg dt_R_unit 23 rfl) rfl rfl ?_
    refine G_iald (pc := 37) X (dg dt_R_unit 24 rfl) sh_83 h (fun r_5 h => ?_)
    refine G_icmp_ge (pc := 38) 85 X (dg dt_R_unit 25 rfl) (by decide) h (fun h => ?_) (fun h => ?_)
    · exact G_wk (hkx85 v4 h) ⟨rfl, ⟨rfl, ⟨rfl, ⟨rfl, ⟨rfl, trivial⟩⟩⟩⟩⟩
    · refine G_iload (pc := 41) X (dg dt_R_unit 26 rfl) rfl ?_
      refine jn_go (fun j77_6 => ∀ (s_7 : Int32), j77_6 s_7 = some (rv, σe) → G θ (0, 0) (g_SH, ad) σ 77 [some (.ref (ad 82)), some (.int v1), some (.int v2), some (.int v3), none, some (.int v5)] [.int s_7]) h ?_ (fun j77_6 hj77_6 h => ?_)
      · intro s_7 h
        refine G_istore (pc := 77) X (dg dt_R_unit 45 rfl) (Nat.le_of_ble_eq_true rfl) rfl ?_
        refine G_iinc (pc := 79) (v5 + 1) X (dg dt_R_unit 46 rfl) rfl (Nat.le_of_ble_eq_true rfl) rfl rfl ?_
        refine G_goto (pc := 82) 30 X (dg dt_R_unit 47 rfl) (by decide) ?_
        exact G_wk (ih s_7 (v5 + 1) h) ⟨rfl, ⟨rfl, ⟨rfl, ⟨rfl, ⟨rfl, ⟨rfl, trivial⟩⟩⟩⟩⟩⟩
      refine jn_go (fun j76_8 => j76_8 = some (rv, σe) → G θ (0, 0) (g_SH, ad) σ 76 [some (.ref (ad 82)), some (.int v1), some (.int v2), some (.int v3), none, some (.int v5)] []) h ?_ (fun j76_8 hj76_8 h => ?_)
      · intro  h
        refine G_iconst (pc := 76) 0 X (dg dt_R_unit 44 rfl) (by decide) ?_
        exact G_wk (hj77_6 0 h) ⟨rfl, ⟨rfl, ⟨rfl, ⟨rfl, ⟨rfl, trivial⟩⟩⟩⟩⟩
      refine G_if_eq (pc := 43) 76 X (dg dt_R_unit 27 rfl) (by decide) h (fun h => ?_) (fun h => ?_)
      · exact G_wk (hj76_8  h) ⟨rfl, ⟨rfl, ⟨rfl, ⟨rfl, ⟨rfl, trivial⟩⟩⟩⟩⟩
      · refine G_aload_n (pc := 46) 0 X (dg dt_R_unit 28 rfl) rfl rfl ?_
        refine G_iload_n (pc := 47) 1 X (dg dt_R_unit 29 rfl) rfl rfl ?_
        refine G_iload_n (pc := 48) 3 X (dg dt_R_unit 30 rfl) rfl rfl ?_
        refine G_iload (pc := 49) X (dg dt_R_unit 31 rfl) rfl ?_
        obtain ⟨r_10, hc_9, h⟩ := cap_go h
        refine G_callV (pc := 51) (S := []) [.int v1, .int v3, .int v5] nosub X  (dg dt_R_unit 32 rfl) cb_R_at cv_R_at w_1191 (s_R_at _ ad _ _ _ _ hc_9) rfl ⟨Nat.le_of_ble_eq_true rfl, Nat.le_of_ble_eq_true rfl⟩ sh_82 rfl (Nat.le_of_ble_eq_true rfl) Rc0 ?_
        refine G_iload (pc := 54) X (dg dt_R_unit 33 rfl) rfl ?_
        refine G_icmp_ne (pc := 56) 76 X (dg dt_R_unit 34 rfl) (by decide) h (fun h => ?_) (fun h => ?_)
        · exact G_wk (hj76_8  h) ⟨rfl, ⟨rfl, ⟨rfl, ⟨rfl, ⟨rfl, trivial⟩⟩⟩⟩⟩
        · refine G_aload_n (pc := 59) 0 X (dg dt_R_unit 35 rfl) rfl rfl ?_
          refine G_iload_n (pc := 60) 1 X (dg dt_R_unit 36 rfl) rfl rfl ?_
          refine G_iload (pc := 61) X (dg dt_R_unit 37 rfl) rfl ?_
          refine G_iload_n (pc := 63) 3 X (dg dt_R_unit 38 rfl) rfl rfl ?_
          obtain ⟨r_12, hc_11, h⟩ := cap_go h
          refine G_callV (pc := 64) (S := []) [.int v1, .int v5, .int v3] nosub X  (dg dt_R_unit 39 rfl) cb_R_at cv_R_at w_1191 (s_R_at _ ad _ _ _ _ hc_11) rfl ⟨Nat.le_of_ble_eq_true rfl, Nat.le_of_ble_eq_true rfl⟩ sh_82 rfl (Nat.le_of_ble_eq_true rfl) Rc0 ?_
          refine G_iload (pc := 67) X (dg dt_R_unit 40 rfl) rfl ?_
          refine G_icmp_ne (pc := 69) 76 X (dg dt_R_unit 41 rfl) (by decide) h (fun h => ?_) (fun h => ?_)
          · exact G_wk (hj76_8  h) ⟨rfl, ⟨rfl, ⟨rfl, ⟨rfl, ⟨rfl, trivial⟩⟩⟩⟩⟩
          · refine G_iconst (pc := 72) 1 X (dg dt_R_unit 42 rfl) (by decide) ?_
            refine G_goto (pc := 73) 77 X (dg dt_R_unit 43 rfl) (by decide) ?_
            exact G_wk (hj77_6 1 h) ⟨rfl, ⟨rfl, ⟨rfl, ⟨rfl, ⟨rfl, trivial⟩⟩⟩⟩⟩
set_option maxRecDepth 100000 in
set_option maxHeartbeats 4000000 in
theorem s_R_unit_L14 {θ : Th} {ad : Nat → Nat}  {rv : Int32} {σe : St} (X : Cx θ [] cX12_unit 6 "QuasigroveModel" 3 65)
    {v1 : Int32} {σ : St} (hq : Rq θ (g_SH, ad) (some .int) (some (.int rv)) σe) {kx102 : Int32 → Option (Int32 × St)} (hkx102 : ∀ (v2 : Int32), kx102 v2 = some (rv, σe) → G θ (0, 0) (g_SH, ad) σ 102 [none, none, some (.int v2), none, none, none] []) :
    ∀ (n : Nat) (v2 : Int32) (v3 : Int32), f_R_unit_L14 v1 σ kx102 n v2 v3 = some (rv, σe) → G θ (0, 0) (g_SH, ad) σ 14 [some (.ref (ad 82)), some (.int v1), some (.int v2), some (.int v3), none, none] [] := by
  intro n
  induction n with
  | zero => intro v2 v3 h; rw [f_R_unit_L14] at h; cases h
  | succ n ih =>
    intro v2 v3 h
    rw [f_R_unit_L14] at h
    refine G_iload_n (pc := 14) 3 X (dg dt_R_unit 10 rfl) rfl rfl ?_
    refine G_aload_n (pc := 15) 0 X (dg dt_R_unit 11 rfl) rfl rfl ?_
    refine G_getR (pc := 16) 2 X (dg dt_R_unit 12 rfl) fc_8 w_1065 rfl (Nat.le_of_ble_eq_true rfl) sh_82 rfl ?_
    refine G_iload_n (pc := 19) 1 X (dg dt_R_unit 13 rfl) rfl rfl ?_
    refine G_iald (pc := 20) X (dg dt_R_unit 14 rfl) sh_83 h (fun r_4 h => ?_)
    refine G_icmp_ge (pc := 21) 102 X (dg dt_R_unit 15 rfl) (by decide) h (fun h => ?_) (fun h => ?_)
    · exact G_wk (hkx102 v2 h) ⟨rfl, trivial⟩
    · refine G_iconst (pc := 24) 1 X (dg dt_R_unit 16 rfl) (by decide) ?_
      refine G_istore (pc := 25) X (dg dt_R_unit 17 rfl) (Nat.le_of_ble_eq_true rfl) rfl ?_
      refine G_iconst (pc := 27) 0 X (dg dt_R_unit 18 rfl) (by decide) ?_
      refine G_istore (pc := 28) X (dg dt_R_unit 19 rfl) (Nat.le_of_ble_eq_true rfl) rfl ?_
      refine G_weak (L' := [some (.ref (ad 82)), some (.int v1), some (.int v2), some (.int v3), some (.int 1), some (.int 0)]) ⟨rfl, ⟨rfl, ⟨rfl, ⟨rfl, ⟨rfl, ⟨rfl, trivial⟩⟩⟩⟩⟩⟩ ?_
      refine s_R_unit_L30  X hq  (fun v4_13 h => ?_) _ _ _ h
      refine G_iload (pc := 85) X (dg dt_R_unit 48 rfl) rfl ?_
      refine jn_go (fun j95_14 => ∀ (s_15 : Int32), j95_14 s_15 = some (rv, σe) → G θ (0, 0) (g_SH, ad) σ 95 [some (.ref (ad 82)), some (.int v1), none, some (.int v3), none, none] [.int s_15]) h ?_ (fun j95_14 hj95_14 h => ?_)
      · intro s_15 h
        refine G_istore_n (pc := 95) 2 X (dg dt_R_unit 53 rfl) rfl (Nat.le_of_ble_eq_true rfl) rfl ?_
        refine G_iinc (pc := 96) (v3 + 1) X (dg dt_R_unit 54 rfl) rfl (Nat.le_of_ble_eq_true rfl) rfl rfl ?_
        refine G_goto (pc := 99) 14 X (dg dt_R_unit 55 rfl) (by decide) ?_
        exact G_wk (ih s_15 (v3 + 1) h) ⟨rfl, ⟨rfl, ⟨rfl, ⟨rfl, trivial⟩⟩⟩⟩
      refine G_if_eq (pc := 87) 94 X (dg dt_R_unit 49 rfl) (by decide) h (fun h => ?_) (fun h => ?_)
      · refine G_iload_n (pc := 94) 2 X (dg dt_R_unit 52 rfl) rfl rfl ?_
        exact G_wk (hj95_14 v2 h) ⟨rfl, ⟨rfl, ⟨rfl, trivial⟩⟩⟩
      · refine G_iload_n (pc := 90) 3 X (dg dt_R_unit 50 rfl) rfl rfl ?_
        refine G_goto (pc := 91) 95 X (dg dt_R_unit 51 rfl) (by decide) ?_
        exact G_wk (hj95_14 v3 h) ⟨rfl, ⟨rfl, ⟨rfl, trivial⟩⟩⟩
set_option maxRecDepth 100000 in
set_option maxHeartbeats 4000000 in
theorem s_R_unit (l : Launch) (ad : Nat → Nat) (σ : St) (v1 : Int32)  {rv : Int32} {σe : St} (h : f_R_unit σ v1 = some (rv, σe)) : Rt l [] yX12_unit cX12_unit 6 (some .int) 3 65 (g_SH, ad) [.ref (ad 82), .int v1] σ (some (.int rv)) σe := by
  refine Rt.intro (L := [some (.ref (ad 82)), some (.int v1), none, none, none, none]) (by decide +kernel) (Nat.le_of_ble_eq_true rfl) rfl (fun θ hl X hq => ?_)
  subst hl
  unfold f_R_unit at h
  refine G_aload_n (pc := 0) 0 X (dg dt_R_unit 0 rfl) rfl rfl ?_
  refine G_iload_n (pc := 1) 1 X (dg dt_R_unit 1 rfl) rfl rfl ?_
  obtain ⟨r_2, σ_3, hc_1, h⟩ := cal_go h
  refine G_callV (pc := 2) (S := []) [.int v1] nosub X  (dg dt_R_unit 2 rfl) cb_R_canAsk cv_R_canAsk w_1344 (s_R_canAsk _ ad _ _ hc_1) rfl ⟨Nat.le_of_ble_eq_true rfl, Nat.le_of_ble_eq_true rfl⟩ sh_82 rfl (Nat.le_of_ble_eq_true rfl) Rc0 ?_
  refine G_if_ne (pc := 5) 10 X (dg dt_R_unit 3 rfl) (by decide) h (fun h => ?_) (fun h => ?_)
  · refine G_iconst (pc := 10) (-1) X (dg dt_R_unit 6 rfl) (by decide) ?_
    refine G_istore_n (pc := 11) 2 X (dg dt_R_unit 7 rfl) rfl (Nat.le_of_ble_eq_true rfl) rfl ?_
    refine G_iconst (pc := 12) 0 X (dg dt_R_unit 8 rfl) (by decide) ?_
    refine G_istore_n (pc := 13) 3 X (dg dt_R_unit 9 rfl) rfl (Nat.le_of_ble_eq_true rfl) rfl ?_
    refine G_weak (L' := [some (.ref (ad 82)), some (.int v1), some (.int (-1)), some (.int 0), none, none]) ⟨rfl, ⟨rfl, ⟨rfl, ⟨rfl, trivial⟩⟩⟩⟩ ?_
    refine s_R_unit_L14  X hq  (fun v2_16 h => ?_) _ _ _ h
    refine G_iload_n (pc := 102) 2 X (dg dt_R_unit 56 rfl) rfl rfl ?_
    exact G_iret (pc := 103) X hq (dg dt_R_unit 57 rfl) h
  · refine G_iconst (pc := 8) 0 X (dg dt_R_unit 4 rfl) (by decide) ?_
    exact G_iret (pc := 9) X hq (dg dt_R_unit 5 rfl) h
set_option maxRecDepth 100000 in
set_option maxHeartbeats 4000000 in
theorem s_R_faultOf_L13 {θ : Th} {ad : Nat → Nat}  {rv : Int32} {σe : St} (X : Cx θ [] cX12_faultOf 5 "QuasigroveModel" 0 0)
     (hq : Rq θ (g_SH, ad) (some .int) (some (.int rv)) σe) {kx54 : Int32 → St → Option (Int32 × St)} (hkx54 : ∀ (v3 : Int32) (σ : St), kx54 v3 σ = some (rv, σe) → G θ (0, 0) (g_SH, ad) σ 54 [none, none, none, some (.int v3), none] []) {kx89 : Int32 → St → Option (Int32 × St)} (hkx89 : ∀ (v3 : Int32) (σ : St), kx89 v3 σ = some (rv, σe) → G θ (0, 0) (g_SH, ad) σ 89 [none, none, none, some (.int v3), none] []) {kx141 : Int32 → St → Option (Int32 × St)} (hkx141 : ∀ (v3 : Int32) (σ : St), kx141 v3 σ = some (rv, σe) → G θ (0, 0) (g_SH, ad) σ 141 [none, none, none, some (.int v3), none] []) {kx159 : Int32 → Int32 → St → Option (Int32 × St)} (hkx159 : ∀ (v1 : Int32) (v2 : Int32) (σ : St), kx159 v1 v2 σ = some (rv, σe) → G θ (0, 0) (g_SH, ad) σ 159 [some (.ref (ad 82)), some (.int v1), some (.int v2), none, none] []) :
    ∀ (n : Nat) (v1 : Int32) (v2 : Int32) (v3 : Int32) (σ : St), f_R_faultOf_L13 kx54 kx89 kx141 kx159 n v1 v2 v3 σ = some (rv, σe) → G θ (0, 0) (g_SH, ad) σ 13 [some (.ref (ad 82)), some (.int v1), some (.int v2), some (.int v3), none] [] := by
  intro n
  induction n with
  | zero => intro v1 v2 v3 σ h; rw [f_R_faultOf_L13] at h; cases h
  | succ n ih =>
    intro v1 v2 v3 σ h
    rw [f_R_faultOf_L13] at h
    refine G_iload_n (pc := 13) 3 X (dg dt_R_faultOf 11 rfl) rfl rfl ?_
    refine G_aload_n (pc := 14) 0 X (dg dt_R_faultOf 12 rfl) rfl rfl ?_
    refine G_getI (pc := 15) 4 X (dg dt_R_faultOf 13 rfl) fc_8 w_1067 rfl (Nat.le_of_ble_eq_true rfl) sh_82 rfl ?_
    refine G_icmp_ge (pc := 18) 159 X (dg dt_R_faultOf 14 rfl) (by decide) h (fun h => ?_) (fun h => ?_)
    · exact G_wk (hkx159 v1 v2 σ h) ⟨rfl, ⟨rfl, ⟨rfl, trivial⟩⟩⟩
    · refine G_aload_n (pc := 21) 0 X (dg dt_R_faultOf 15 rfl) rfl rfl ?_
      refine G_getR (pc := 22) 5 X (dg dt_R_faultOf 16 rfl) fc_8 w_1068 rfl (Nat.le_of_ble_eq_true rfl) sh_82 rfl ?_
      refine G_iload_n (pc := 25) 3 X (dg dt_R_faultOf 17 rfl) rfl rfl ?_
      refine G_iald (pc := 26) X (dg dt_R_faultOf 18 rfl) sh_85 h (fun r_2 h => ?_)
      refine G_istore (pc := 27) X (dg dt_R_faultOf 19 rfl) (Nat.le_of_ble_eq_true rfl) rfl ?_
      refine G_iload_n (pc := 29) 2 X (dg dt_R_faultOf 20 rfl) rfl rfl ?_
      refine jn_go (fun j153_3 => ∀ (v1_4 : Int32) (v2_5 : Int32) (σ_6 : St), j153_3 v1_4 v2_5 σ_6 = some (rv, σe) → G θ (0, 0) (g_SH, ad) σ_6 153 [some (.ref (ad 82)), some (.int v1_4), some (.int v2_5), some (.int v3), none] []) h ?_ (fun j153_3 hj153_3 h => ?_)
      · intro v1_4 v2_5 σ_6 h
        refine G_iinc (pc := 153) (v3 + 1) X (dg dt_R_faultOf 92 rfl) rfl (Nat.le_of_ble_eq_true rfl) rfl rfl ?_
        refine G_goto (pc := 156) 13 X (dg dt_R_faultOf 93 rfl) (by decide) ?_
        exact G_wk (ih v1_4 v2_5 (v3 + 1) σ_6 h) ⟨rfl, ⟨rfl, ⟨rfl, ⟨rfl, trivial⟩⟩⟩⟩
      refine jn_go (fun j68_7 => j68_7 = some (rv, σe) → G θ (0, 0) (g_SH, ad) σ 68 [some (.ref (ad 82)), some (.int v1), some (.int v2), some (.int v3), some (.int r_2)] []) h ?_ (fun j68_7 hj68_7 h => ?_)
      · intro  h
        refine G_iload_n (pc := 68) 2 X (dg dt_R_faultOf 43 rfl) rfl rfl ?_
        refine jn_go (fun j107_8 => j107_8 = some (rv, σe) → G θ (0, 0) (g_SH, ad) σ 107 [some (.ref (ad 82)), some (.int v1), some (.int v2), some (.int v3), some (.int r_2)] []) h ?_ (fun j107_8 hj107_8 h => ?_)
        · intro  h
          refine G_iload (pc := 107) X (dg dt_R_faultOf 66 rfl) rfl ?_
          refine G_bipush (pc := 109) 40 X (dg dt_R_faultOf 67 rfl) (by decide) ?_
          refine G_icmp_ne (pc := 111) 127 X (dg dt_R_faultOf 68 rfl) (by decide) h (fun h => ?_) (fun h => ?_)
          · refine G_iload (pc := 127) X (dg dt_R_faultOf 76 rfl) rfl ?_
            refine G_bipush (pc := 129) 41 X (dg dt_R_faultOf 77 rfl) (by decide) ?_
            refine G_icmp_eq (pc := 131) 141 X (dg dt_R_faultOf 78 rfl) (by decide) h (fun h => ?_) (fun h => ?_)
            · exact G_wk (hkx141 v3 σ h) ⟨rfl, trivial⟩
            · refine G_iload (pc := 134) X (dg dt_R_faultOf 79 rfl) rfl ?_
              refine G_bipush (pc := 136) 61 X (dg dt_R_faultOf 80 rfl) (by decide) ?_
              refine G_icmp_ne (pc := 138) 143 X (dg dt_R_faultOf 81 rfl) (by decide) h (fun h => ?_) (fun h => ?_)
              · refine G_aload_n (pc := 143) 0 X (dg dt_R_faultOf 84 rfl) rfl rfl ?_
                refine G_getR (pc := 144) 6 X (dg dt_R_faultOf 85 rfl) fc_8 w_1069 rfl (Nat.le_of_ble_eq_true rfl) sh_82 rfl ?_
                refine G_iload_n (pc := 147) 2 X (dg dt_R_faultOf 86 rfl) rfl rfl ?_
                refine G_dup2 (pc := 148) X (dg dt_R_faultOf 87 rfl) rfl rfl ?_
                refine G_iald (pc := 149) X (dg dt_R_faultOf 88 rfl) sh_86 h (fun r_9 h => ?_)
                refine G_iconst (pc := 150) 1 X (dg dt_R_faultOf 89 rfl) (by decide) ?_
                refine G_iadd (pc := 151) X (dg dt_R_faultOf 90 rfl) ?_
                refine G_iast (pc := 152) X (dg dt_R_faultOf 91 rfl) sh_86 h (fun σ_10 h => ?_)
                exact G_wk (hj153_3 v1 v2 σ_10 h) ⟨rfl, ⟨rfl, ⟨rfl, ⟨rfl, trivial⟩⟩⟩⟩
              · exact G_wk (hkx141 v3 σ h) ⟨rfl, trivial⟩
          · refine G_iinc (pc := 114) (v2 + 1) X (dg dt_R_faultOf 69 rfl) rfl (Nat.le_of_ble_eq_true rfl) rfl rfl ?_
            refine G_aload_n (pc := 117) 0 X (dg dt_R_faultOf 70 rfl) rfl rfl ?_
            refine G_getR (pc := 118) 6 X (dg dt_R_faultOf 71 rfl) fc_8 w_1069 rfl (Nat.le_of_ble_eq_true rfl) sh_82 rfl ?_
            refine G_iload_n (pc := 121) 2 X (dg dt_R_faultOf 72 rfl) rfl rfl ?_
            refine G_iconst (pc := 122) 0 X (dg dt_R_faultOf 73 rfl) (by decide) ?_
            refine G_iast (pc := 123) X (dg dt_R_faultOf 74 rfl) sh_86 h (fun σ_11 h => ?_)
            refine G_goto (pc := 124) 153 X (dg dt_R_faultOf 75 rfl) (by decide) ?_
            exact G_wk (hj153_3 v1 (v2 + 1) σ_11 h) ⟨rfl, ⟨rfl, ⟨rfl, ⟨rfl, trivial⟩⟩⟩⟩
        refine G_if_le (pc := 69) 107 X (dg dt_R_faultOf 44 rfl) (by decide) h (fun h => ?_) (fun h => ?_)
        · exact G_wk (hj107_8  h) ⟨rfl, ⟨rfl, ⟨rfl, ⟨rfl, ⟨rfl, trivial⟩⟩⟩⟩⟩
        · refine G_aload_n (pc := 72) 0 X (dg dt_R_faultOf 45 rfl) rfl rfl ?_
          refine G_getR (pc := 73) 6 X (dg dt_R_faultOf 46 rfl) fc_8 w_1069 rfl (Nat.le_of_ble_eq_true rfl) sh_82 rfl ?_
          refine G_iload_n (pc := 76) 2 X (dg dt_R_faultOf 47 rfl) rfl rfl ?_
          refine G_iald (pc := 77) X (dg dt_R_faultOf 48 rfl) sh_86 h (fun r_12 h => ?_)
          refine G_iconst (pc := 78) 2 X (dg dt_R_faultOf 49 rfl) (by decide) ?_
          refine G_icmp_ne (pc := 79) 107 X (dg dt_R_faultOf 50 rfl) (by decide) h (fun h => ?_) (fun h => ?_)
          · exact G_wk (hj107_8  h) ⟨rfl, ⟨rfl, ⟨rfl, ⟨rfl, ⟨rfl, trivial⟩⟩⟩⟩⟩
          · refine G_iload (pc := 82) X (dg dt_R_faultOf 51 rfl) rfl ?_
            refine G_bipush (pc := 84) 41 X (dg dt_R_faultOf 52 rfl) (by decide) ?_
            refine G_icmp_eq (pc := 86) 91 X (dg dt_R_faultOf 53 rfl) (by decide) h (fun h => ?_) (fun h => ?_)
            · refine G_iinc (pc := 91) (v2 + (-1)) X (dg dt_R_faultOf 56 rfl) rfl (Nat.le_of_ble_eq_true rfl) rfl rfl ?_
              refine G_aload_n (pc := 94) 0 X (dg dt_R_faultOf 57 rfl) rfl rfl ?_
              refine G_getR (pc := 95) 6 X (dg dt_R_faultOf 58 rfl) fc_8 w_1069 rfl (Nat.le_of_ble_eq_true rfl) sh_82 rfl ?_
              refine G_iload_n (pc := 98) 2 X (dg dt_R_faultOf 59 rfl) rfl rfl ?_
              refine G_dup2 (pc := 99) X (dg dt_R_faultOf 60 rfl) rfl rfl ?_
              refine G_iald (pc := 100) X (dg dt_R_faultOf 61 rfl) sh_86 h (fun r_13 h => ?_)
              refine G_iconst (pc := 101) 1 X (dg dt_R_faultOf 62 rfl) (by decide) ?_
              refine G_iadd (pc := 102) X (dg dt_R_faultOf 63 rfl) ?_
              refine G_iast (pc := 103) X (dg dt_R_faultOf 64 rfl) sh_86 h (fun σ_14 h => ?_)
              refine G_goto (pc := 104) 153 X (dg dt_R_faultOf 65 rfl) (by decide) ?_
              exact G_wk (hj153_3 v1 (v2 + (-1)) σ_14 h) ⟨rfl, ⟨rfl, ⟨rfl, ⟨rfl, trivial⟩⟩⟩⟩
            · exact G_wk (hkx89 v3 σ h) ⟨rfl, trivial⟩
      refine G_if_ne (pc := 30) 68 X (dg dt_R_faultOf 21 rfl) (by decide) h (fun h => ?_) (fun h => ?_)
      · exact G_wk (hj68_7  h) ⟨rfl, ⟨rfl, ⟨rfl, ⟨rfl, ⟨rfl, trivial⟩⟩⟩⟩⟩
      · refine G_aload_n (pc := 33) 0 X (dg dt_R_faultOf 22 rfl) rfl rfl ?_
        refine G_getR (pc := 34) 6 X (dg dt_R_faultOf 23 rfl) fc_8 w_1069 rfl (Nat.le_of_ble_eq_true rfl) sh_82 rfl ?_
        refine G_iconst (pc := 37) 0 X (dg dt_R_faultOf 24 rfl) (by decide) ?_
        refine G_iald (pc := 38) X (dg dt_R_faultOf 25 rfl) sh_86 h (fun r_15 h => ?_)
        refine G_iconst (pc := 39) 1 X (dg dt_R_faultOf 26 rfl) (by decide) ?_
        refine G_icmp_ne (pc := 40) 68 X (dg dt_R_faultOf 27 rfl) (by decide) h (fun h => ?_) (fun h => ?_)
        · exact G_wk (hj68_7  h) ⟨rfl, ⟨rfl, ⟨rfl, ⟨rfl, ⟨rfl, trivial⟩⟩⟩⟩⟩
        · refine G_iload_n (pc := 43) 1 X (dg dt_R_faultOf 28 rfl) rfl rfl ?_
          refine G_if_ne (pc := 44) 54 X (dg dt_R_faultOf 29 rfl) (by decide) h (fun h => ?_) (fun h => ?_)
          · exact G_wk (hkx54 v3 σ h) ⟨rfl, trivial⟩
          · refine G_iload (pc := 47) X (dg dt_R_faultOf 30 rfl) rfl ?_
            refine G_bipush (pc := 49) 61 X (dg dt_R_faultOf 31 rfl) (by decide) ?_
            refine G_icmp_eq (pc := 51) 56 X (dg dt_R_faultOf 32 rfl) (by decide) h (fun h => ?_) (fun h => ?_)
            · refine G_iconst (pc := 56) 1 X (dg dt_R_faultOf 35 rfl) (by decide) ?_
              refine G_istore_n (pc := 57) 1 X (dg dt_R_faultOf 36 rfl) rfl (Nat.le_of_ble_eq_true rfl) rfl ?_
              refine G_aload_n (pc := 58) 0 X (dg dt_R_faultOf 37 rfl) rfl rfl ?_
              refine G_getR (pc := 59) 6 X (dg dt_R_faultOf 38 rfl) fc_8 w_1069 rfl (Nat.le_of_ble_eq_true rfl) sh_82 rfl ?_
              refine G_iconst (pc := 62) 0 X (dg dt_R_faultOf 39 rfl) (by decide) ?_
              refine G_iconst (pc := 63) 0 X (dg dt_R_faultOf 40 rfl) (by decide) ?_
              refine G_iast (pc := 64) X (dg dt_R_faultOf 41 rfl) sh_86 h (fun σ_16 h => ?_)
              refine G_goto (pc := 65) 153 X (dg dt_R_faultOf 42 rfl) (by decide) ?_
              exact G_wk (hj153_3 1 v2 σ_16 h) ⟨rfl, ⟨rfl, ⟨rfl, ⟨rfl, trivial⟩⟩⟩⟩
            · exact G_wk (hkx54 v3 σ h) ⟨rfl, trivial⟩
set_option maxRecDepth 100000 in
set_option maxHeartbeats 4000000 in
theorem s_R_faultOf (l : Launch) (ad : Nat → Nat) (σ : St)   {rv : Int32} {σe : St} (h : f_R_faultOf σ = some (rv, σe)) : Rt l [] yX12_faultOf cX12_faultOf 5 (some .int) 0 0 (g_SH, ad) [.ref (ad 82)] σ (some (.int rv)) σe := by
  refine Rt.intro (L := [some (.ref (ad 82)), none, none, none, none]) (by decide +kernel) (Nat.le_of_ble_eq_true rfl) rfl (fun θ hl X hq => ?_)
  subst hl
  unfold f_R_faultOf at h
  refine G_iconst (pc := 0) 0 X (dg dt_R_faultOf 0 rfl) (by decide) ?_
  refine G_istore_n (pc := 1) 1 X (dg dt_R_faultOf 1 rfl) rfl (Nat.le_of_ble_eq_true rfl) rfl ?_
  refine G_iconst (pc := 2) 0 X (dg dt_R_faultOf 2 rfl) (by decide) ?_
  refine G_istore_n (pc := 3) 2 X (dg dt_R_faultOf 3 rfl) rfl (Nat.le_of_ble_eq_true rfl) rfl ?_
  refine G_aload_n (pc := 4) 0 X (dg dt_R_faultOf 4 rfl) rfl rfl ?_
  refine G_getR (pc := 5) 6 X (dg dt_R_faultOf 5 rfl) fc_8 w_1069 rfl (Nat.le_of_ble_eq_true rfl) sh_82 rfl ?_
  refine G_iconst (pc := 8) 0 X (dg dt_R_faultOf 6 rfl) (by decide) ?_
  refine G_iconst (pc := 9) 0 X (dg dt_R_faultOf 7 rfl) (by decide) ?_
  refine G_iast (pc := 10) X (dg dt_R_faultOf 8 rfl) sh_86 h (fun σ_1 h => ?_)
  refine G_iconst (pc := 11) 0 X (dg dt_R_faultOf 9 rfl) (by decide) ?_
  refine G_istore_n (pc := 12) 3 X (dg dt_R_faultOf 10 rfl) rfl (Nat.le_of_ble_eq_true rfl) rfl ?_
  refine G_weak (L' := [some (.ref (ad 82)), some (.int 0), some (.int 0), some (.int 0), none]) ⟨rfl, ⟨rfl, ⟨rfl, ⟨rfl, trivial⟩⟩⟩⟩ ?_
  refine s_R_faultOf_L13  X hq  (fun v3_17 σ_18 h => ?_) (fun v3_19 σ_20 h => ?_) (fun v3_21 σ_22 h => ?_) (fun v1_23 v2_24 σ_25 h => ?_) _ _ _ _ _ h
  · refine G_iload_n (pc := 54) 3 X (dg dt_R_faultOf 33 rfl) rfl rfl ?_
    exact G_iret (pc := 55) X hq (dg dt_R_faultOf 34 rfl) h
  · refine G_iload_n (pc := 89) 3 X (dg dt_R_faultOf 54 rfl) rfl rfl ?_
    exact G_iret (pc := 90) X hq (dg dt_R_faultOf 55 rfl) h
  · refine G_iload_n (pc := 141) 3 X (dg dt_R_faultOf 82 rfl) rfl rfl ?_
    exact G_iret (pc := 142) X hq (dg dt_R_faultOf 83 rfl) h
  · refine G_iload_n (pc := 159) 1 X (dg dt_R_faultOf 94 rfl) rfl rfl ?_
    refine jn_go (fun j181_26 => j181_26 = some (rv, σe) → G θ (0, 0) (g_SH, ad) σ_25 181 [some (.ref (ad 82)), none, none, none, none] []) h ?_ (fun j181_26 hj181_26 h => ?_)
    · intro  h
      refine G_aload_n (pc := 181) 0 X (dg dt_R_faultOf 106 rfl) rfl rfl ?_
      refine G_getI (pc := 182) 4 X (dg dt_R_faultOf 107 rfl) fc_8 w_1067 rfl (Nat.le_of_ble_eq_true rfl) sh_82 rfl ?_
      exact G_iret (pc := 185) X hq (dg dt_R_faultOf 108 rfl) h
    refine G_if_eq (pc := 160) 181 X (dg dt_R_faultOf 95 rfl) (by decide) h (fun h => ?_) (fun h => ?_)
    · exact G_wk (hj181_26  h) ⟨rfl, trivial⟩
    · refine G_iload_n (pc := 163) 2 X (dg dt_R_faultOf 96 rfl) rfl rfl ?_
      refine G_if_ne (pc := 164) 181 X (dg dt_R_faultOf 97 rfl) (by decide) h (fun h => ?_) (fun h => ?_)
      · exact G_wk (hj181_26  h) ⟨rfl, trivial⟩
      · refine G_aload_n (pc := 167) 0 X (dg dt_R_faultOf 98 rfl) rfl rfl ?_
        refine G_getR (pc := 168) 6 X (dg dt_R_faultOf 99 rfl) fc_8 w_1069 rfl (Nat.le_of_ble_eq_true rfl) sh_82 rfl ?_
        refine G_iconst (pc := 171) 0 X (dg dt_R_faultOf 100 rfl) (by decide) ?_
        refine G_iald (pc := 172) X (dg dt_R_faultOf 101 rfl) sh_86 h (fun r_27 h => ?_)
        refine G_iconst (pc := 173) 1 X (dg dt_R_faultOf 102 rfl) (by decide) ?_
        refine G_icmp_ne (pc := 174) 181 X (dg dt_R_faultOf 103 rfl) (by decide) h (fun h => ?_) (fun h => ?_)
        · exact G_wk (hj181_26  h) ⟨rfl, trivial⟩
        · refine G_iconst (pc := 177) (-1) X (dg dt_R_faultOf 104 rfl) (by decide) ?_
          refine G_goto (pc := 178) 185 X (dg dt_R_faultOf 105 rfl) (by decide) ?_
          exact G_iret (pc := 185) X hq (dg dt_R_faultOf 108 rfl) h
set_option maxRecDepth 100000 in
set_option maxHeartbeats 4000000 in
theorem s_R_valuesOf_L5 {θ : Th} {ad : Nat → Nat}  {rv : Int32} (X : Cx θ [] cX12_valuesOf 5 "QuasigroveModel" 0 0)
    {v1 : Int32} {v2 : Int32} {σ : St} (hq : Rq θ (g_SH, ad) (some .int) (some (.int rv)) σ) {kx37 : Int32 → Option Int32} (hkx37 : ∀ (v3 : Int32), kx37 v3 = some rv → G θ (0, 0) (g_SH, ad) σ 37 [none, none, none, some (.int v3), none] []) :
    ∀ (n : Nat) (v3 : Int32) (v4 : Int32), f_R_valuesOf_L5 v1 v2 σ kx37 n v3 v4 = some rv → G θ (0, 0) (g_SH, ad) σ 5 [some (.ref (ad 82)), some (.int v1), some (.int v2), some (.int v3), some (.int v4)] [] := by
  intro n
  induction n with
  | zero => intro v3 v4 h; rw [f_R_valuesOf_L5] at h; cases h
  | succ n ih =>
    intro v3 v4 h
    rw [f_R_valuesOf_L5] at h
    refine G_iload (pc := 5) X (dg dt_R_valuesOf 4 rfl) rfl ?_
    refine G_aload_n (pc := 7) 0 X (dg dt_R_valuesOf 5 rfl) rfl rfl ?_
    refine G_getI (pc := 8) 4 X (dg dt_R_valuesOf 6 rfl) fc_8 w_1067 rfl (Nat.le_of_ble_eq_true rfl) sh_82 rfl ?_
    refine G_icmp_ge (pc := 11) 37 X (dg dt_R_valuesOf 7 rfl) (by decide) h (fun h => ?_) (fun h => ?_)
    · exact G_wk (hkx37 v3 h) ⟨rfl, trivial⟩
    · refine G_aload_n (pc := 14) 0 X (dg dt_R_valuesOf 8 rfl) rfl rfl ?_
      refine G_getR (pc := 15) 5 X (dg dt_R_valuesOf 9 rfl) fc_8 w_1068 rfl (Nat.le_of_ble_eq_true rfl) sh_82 rfl ?_
      refine G_iload (pc := 18) X (dg dt_R_valuesOf 10 rfl) rfl ?_
      refine G_iald (pc := 20) X (dg dt_R_valuesOf 11 rfl) sh_85 h (fun r_1 h => ?_)
      refine G_iload_n (pc := 21) 1 X (dg dt_R_valuesOf 12 rfl) rfl rfl ?_
      refine jn_go (fun j30_2 => ∀ (s_3 : Int32), j30_2 s_3 = some rv → G θ (0, 0) (g_SH, ad) σ 30 [some (.ref (ad 82)), some (.int v1), some (.int v2), none, some (.int v4)] [.int s_3]) h ?_ (fun j30_2 hj30_2 h => ?_)
      · intro s_3 h
        refine G_istore_n (pc := 30) 3 X (dg dt_R_valuesOf 17 rfl) rfl (Nat.le_of_ble_eq_true rfl) rfl ?_
        refine G_iinc (pc := 31) (v4 + 1) X (dg dt_R_valuesOf 18 rfl) rfl (Nat.le_of_ble_eq_true rfl) rfl rfl ?_
        refine G_goto (pc := 34) 5 X (dg dt_R_valuesOf 19 rfl) (by decide) ?_
        exact G_wk (ih s_3 (v4 + 1) h) ⟨rfl, ⟨rfl, ⟨rfl, ⟨rfl, ⟨rfl, trivial⟩⟩⟩⟩⟩
      refine G_icmp_ne (pc := 22) 29 X (dg dt_R_valuesOf 13 rfl) (by decide) h (fun h => ?_) (fun h => ?_)
      · refine G_iload_n (pc := 29) 3 X (dg dt_R_valuesOf 16 rfl) rfl rfl ?_
        exact G_wk (hj30_2 v3 h) ⟨rfl, ⟨rfl, ⟨rfl, ⟨rfl, trivial⟩⟩⟩⟩
      · refine G_iload_n (pc := 25) 2 X (dg dt_R_valuesOf 14 rfl) rfl rfl ?_
        refine G_goto (pc := 26) 30 X (dg dt_R_valuesOf 15 rfl) (by decide) ?_
        exact G_wk (hj30_2 v2 h) ⟨rfl, ⟨rfl, ⟨rfl, ⟨rfl, trivial⟩⟩⟩⟩
set_option maxRecDepth 100000 in
set_option maxHeartbeats 4000000 in
theorem s_R_valuesOf (l : Launch) (ad : Nat → Nat) (σ : St) (v1 : Int32) (v2 : Int32)  {rv : Int32} (h : f_R_valuesOf σ v1 v2 = some rv) : Rt l [] yX12_valuesOf cX12_valuesOf 5 (some .int) 0 0 (g_SH, ad) [.ref (ad 82), .int v1, .int v2] σ (some (.int rv)) σ := by
  refine Rt.intro (L := [some (.ref (ad 82)), some (.int v1), some (.int v2), none, none]) (by decide +kernel) (Nat.le_of_ble_eq_true rfl) rfl (fun θ hl X hq => ?_)
  subst hl
  unfold f_R_valuesOf at h
  refine G_iconst (pc := 0) 1 X (dg dt_R_valuesOf 0 rfl) (by decide) ?_
  refine G_istore_n (pc := 1) 3 X (dg dt_R_valuesOf 1 rfl) rfl (Nat.le_of_ble_eq_true rfl) rfl ?_
  refine G_iconst (pc := 2) 0 X (dg dt_R_valuesOf 2 rfl) (by decide) ?_
  refine G_istore (pc := 3) X (dg dt_R_valuesOf 3 rfl) (Nat.le_of_ble_eq_true rfl) rfl ?_
  refine G_weak (L' := [some (.ref (ad 82)), some (.int v1), some (.int v2), some (.int 1), some (.int 0)]) ⟨rfl, ⟨rfl, ⟨rfl, ⟨rfl, ⟨rfl, trivial⟩⟩⟩⟩⟩ ?_
  refine s_R_valuesOf_L5  X hq  (fun v3_4 h => ?_) _ _ _ h
  refine G_iload_n (pc := 37) 3 X (dg dt_R_valuesOf 20 rfl) rfl rfl ?_
  exact G_iretp (pc := 38) X hq (dg dt_R_valuesOf 21 rfl) h
set_option maxRecDepth 100000 in
set_option maxHeartbeats 4000000 in
theorem s_R_holds_L6 {θ : Th} {ad : Nat → Nat}  {rv : Int32} {σe : St} (X : Cx θ [] cX12_holds 8 "QuasigroveModel" 1 23)
    {v1 : Int32} {v2 : Int32} {v3 : Int32} {v4 : Int32} (hq : Rq θ (g_SH, ad) (some .boolean) (some (.int rv)) σe) {kx123 : St → Option (Int32 × St)} (hkx123 : ∀ (σ : St), kx123 σ = some (rv, σe) → G θ (0, 0) (g_SH, ad) σ 123 [some (.ref (ad 82)), none, none, none, none, none, none, none] []) :
    ∀ (n : Nat) (v5 : Int32) (v6 : Int32) (σ : St), f_R_holds_L6 v1 v2 v3 v4 kx123 n v5 v6 σ = some (rv, σe) → G θ (0, 0) (g_SH, ad) σ 6 [some (.ref (ad 82)), some (.int v1), some (.int v2), some (.int v3), some (.int v4), some (.int v5), some (.int v6), none] [] := by
  intro n
  induction n with
  | zero => intro v5 v6 σ h; rw [f_R_holds_L6] at h; cases h
  | succ n ih =>
    intro v5 v6 σ h
    rw [f_R_holds_L6] at h
    refine G_iload (pc := 6) X (dg dt_R_holds 4 rfl) rfl ?_
    refine G_aload_n (pc := 8) 0 X (dg dt_R_holds 5 rfl) rfl rfl ?_
    refine G_getI (pc := 9) 4 X (dg dt_R_holds 6 rfl) fc_8 w_1067 rfl (Nat.le_of_ble_eq_true rfl) sh_82 rfl ?_
    refine G_icmp_ge (pc := 12) 123 X (dg dt_R_holds 7 rfl) (by decide) h (fun h => ?_) (fun h => ?_)
    · exact G_wk (hkx123 σ h) ⟨rfl, trivial⟩
    · refine G_aload_n (pc := 15) 0 X (dg dt_R_holds 8 rfl) rfl rfl ?_
      refine G_getR (pc := 16) 5 X (dg dt_R_holds 9 rfl) fc_8 w_1068 rfl (Nat.le_of_ble_eq_true rfl) sh_82 rfl ?_
      refine G_iload (pc := 19) X (dg dt_R_holds 10 rfl) rfl ?_
      refine G_iald (pc := 21) X (dg dt_R_holds 11 rfl) sh_85 h (fun r_1 h => ?_)
      refine G_istore (pc := 22) X (dg dt_R_holds 12 rfl) (Nat.le_of_ble_eq_true rfl) rfl ?_
      refine G_iload (pc := 24) X (dg dt_R_holds 13 rfl) rfl ?_
      refine G_bipush (pc := 26) 41 X (dg dt_R_holds 14 rfl) (by decide) ?_
      refine jn_go (fun j117_2 => ∀ (v5_3 : Int32) (σ_4 : St), j117_2 v5_3 σ_4 = some (rv, σe) → G θ (0, 0) (g_SH, ad) σ_4 117 [some (.ref (ad 82)), some (.int v1), some (.int v2), some (.int v3), some (.int v4), some (.int v5_3), some (.int v6), none] []) h ?_ (fun j117_2 hj117_2 h => ?_)
      · intro v5_3 σ_4 h
        refine G_iinc (pc := 117) (v6 + 1) X (dg dt_R_holds 61 rfl) rfl (Nat.le_of_ble_eq_true rfl) rfl rfl ?_
        refine G_goto (pc := 120) 6 X (dg dt_R_holds 62 rfl) (by decide) ?_
        exact G_wk (ih v5_3 (v6 + 1) σ_4 h) ⟨rfl, ⟨rfl, ⟨rfl, ⟨rfl, ⟨rfl, ⟨rfl, ⟨rfl, trivial⟩⟩⟩⟩⟩⟩⟩
      refine G_icmp_ne (pc := 28) 69 X (dg dt_R_holds 15 rfl) (by decide) h (fun h => ?_) (fun h => ?_)
      · refine G_iload (pc := 69) X (dg dt_R_holds 39 rfl) rfl ?_
        refine G_bipush (pc := 71) 40 X (dg dt_R_holds 40 rfl) (by decide) ?_
        refine G_icmp_eq (pc := 73) 117 X (dg dt_R_holds 41 rfl) (by decide) h (fun h => ?_) (fun h => ?_)
        · exact G_wk (hj117_2 v5 σ h) ⟨rfl, ⟨rfl, ⟨rfl, ⟨rfl, ⟨rfl, ⟨rfl, ⟨rfl, trivial⟩⟩⟩⟩⟩⟩⟩
        · refine G_iload (pc := 76) X (dg dt_R_holds 42 rfl) rfl ?_
          refine G_bipush (pc := 78) 61 X (dg dt_R_holds 43 rfl) (by decide) ?_
          refine G_icmp_eq (pc := 80) 117 X (dg dt_R_holds 44 rfl) (by decide) h (fun h => ?_) (fun h => ?_)
          · exact G_wk (hj117_2 v5 σ h) ⟨rfl, ⟨rfl, ⟨rfl, ⟨rfl, ⟨rfl, ⟨rfl, ⟨rfl, trivial⟩⟩⟩⟩⟩⟩⟩
          · refine G_aload_n (pc := 83) 0 X (dg dt_R_holds 45 rfl) rfl rfl ?_
            refine G_getR (pc := 84) 7 X (dg dt_R_holds 46 rfl) fc_8 w_1070 rfl (Nat.le_of_ble_eq_true rfl) sh_82 rfl ?_
            refine G_iload (pc := 87) X (dg dt_R_holds 47 rfl) rfl ?_
            refine G_iload (pc := 89) X (dg dt_R_holds 48 rfl) rfl ?_
            refine G_bipush (pc := 91) 120 X (dg dt_R_holds 49 rfl) (by decide) ?_
            refine jn_go (fun j113_5 => ∀ (s_6 : Int32), j113_5 s_6 = some (rv, σe) → G θ (0, 0) (g_SH, ad) σ 113 [some (.ref (ad 82)), some (.int v1), some (.int v2), some (.int v3), some (.int v4), some (.int v5), some (.int v6), none] [.int s_6, .int v5, .ref (ad 87)]) h ?_ (fun j113_5 hj113_5 h => ?_)
            · intro s_6 h
              refine G_iast (pc := 113) X (dg dt_R_holds 59 rfl) sh_87 h (fun σ_7 h => ?_)
              refine G_iinc (pc := 114) (v5 + 1) X (dg dt_R_holds 60 rfl) rfl (Nat.le_of_ble_eq_true rfl) rfl rfl ?_
              exact G_wk (hj117_2 (v5 + 1) σ_7 h) ⟨rfl, ⟨rfl, ⟨rfl, ⟨rfl, ⟨rfl, ⟨rfl, ⟨rfl, trivial⟩⟩⟩⟩⟩⟩⟩
            refine G_icmp_ne (pc := 93) 100 X (dg dt_R_holds 50 rfl) (by decide) h (fun h => ?_) (fun h => ?_)
            · refine G_iload (pc := 100) X (dg dt_R_holds 53 rfl) rfl ?_
              refine G_bipush (pc := 102) 121 X (dg dt_R_holds 54 rfl) (by decide) ?_
              refine G_icmp_ne (pc := 104) 111 X (dg dt_R_holds 55 rfl) (by decide) h (fun h => ?_) (fun h => ?_)
              · refine G_iload (pc := 111) X (dg dt_R_holds 58 rfl) rfl ?_
                exact G_wk (hj113_5 v4 h) ⟨rfl, ⟨rfl, ⟨rfl, ⟨rfl, ⟨rfl, ⟨rfl, ⟨rfl, trivial⟩⟩⟩⟩⟩⟩⟩
              · refine G_iload_n (pc := 107) 3 X (dg dt_R_holds 56 rfl) rfl rfl ?_
                refine G_goto (pc := 108) 113 X (dg dt_R_holds 57 rfl) (by decide) ?_
                exact G_wk (hj113_5 v3 h) ⟨rfl, ⟨rfl, ⟨rfl, ⟨rfl, ⟨rfl, ⟨rfl, ⟨rfl, trivial⟩⟩⟩⟩⟩⟩⟩
            · refine G_iload_n (pc := 96) 2 X (dg dt_R_holds 51 rfl) rfl rfl ?_
              refine G_goto (pc := 97) 113 X (dg dt_R_holds 52 rfl) (by decide) ?_
              exact G_wk (hj113_5 v2 h) ⟨rfl, ⟨rfl, ⟨rfl, ⟨rfl, ⟨rfl, ⟨rfl, ⟨rfl, trivial⟩⟩⟩⟩⟩⟩⟩
      · refine G_aload_n (pc := 31) 0 X (dg dt_R_holds 16 rfl) rfl rfl ?_
        refine G_getR (pc := 32) 7 X (dg dt_R_holds 17 rfl) fc_8 w_1070 rfl (Nat.le_of_ble_eq_true rfl) sh_82 rfl ?_
        refine G_iload (pc := 35) X (dg dt_R_holds 18 rfl) rfl ?_
        refine G_iconst (pc := 37) 2 X (dg dt_R_holds 19 rfl) (by decide) ?_
        refine G_isub (pc := 38) X (dg dt_R_holds 20 rfl) ?_
        refine G_aload_n (pc := 39) 0 X (dg dt_R_holds 21 rfl) rfl rfl ?_
        refine G_iload_n (pc := 40) 1 X (dg dt_R_holds 22 rfl) rfl rfl ?_
        refine G_aload_n (pc := 41) 0 X (dg dt_R_holds 23 rfl) rfl rfl ?_
        refine G_getR (pc := 42) 7 X (dg dt_R_holds 24 rfl) fc_8 w_1070 rfl (Nat.le_of_ble_eq_true rfl) sh_82 rfl ?_
        refine G_iload (pc := 45) X (dg dt_R_holds 25 rfl) rfl ?_
        refine G_iconst (pc := 47) 2 X (dg dt_R_holds 26 rfl) (by decide) ?_
        refine G_isub (pc := 48) X (dg dt_R_holds 27 rfl) ?_
        refine G_iald (pc := 49) X (dg dt_R_holds 28 rfl) sh_87 h (fun r_8 h => ?_)
        refine G_aload_n (pc := 50) 0 X (dg dt_R_holds 29 rfl) rfl rfl ?_
        refine G_getR (pc := 51) 7 X (dg dt_R_holds 30 rfl) fc_8 w_1070 rfl (Nat.le_of_ble_eq_true rfl) sh_82 rfl ?_
        refine G_iload (pc := 54) X (dg dt_R_holds 31 rfl) rfl ?_
        refine G_iconst (pc := 56) 1 X (dg dt_R_holds 32 rfl) (by decide) ?_
        refine G_isub (pc := 57) X (dg dt_R_holds 33 rfl) ?_
        refine G_iald (pc := 58) X (dg dt_R_holds 34 rfl) sh_87 h (fun r_9 h => ?_)
        obtain ⟨r_11, hc_10, h⟩ := cap_go h
        refine G_callV (pc := 59) (S := [.int (v5 - 2), .ref (ad 87)]) [.int v1, .int r_8, .int r_9] nosub X  (dg dt_R_holds 35 rfl) cb_R_at cv_R_at w_1191 (s_R_at _ ad _ _ _ _ hc_10) rfl ⟨Nat.le_of_ble_eq_true rfl, Nat.le_of_ble_eq_true rfl⟩ sh_82 rfl (Nat.le_of_ble_eq_true rfl) Rc0 ?_
        refine G_iast (pc := 62) X (dg dt_R_holds 36 rfl) sh_87 h (fun σ_12 h => ?_)
        refine G_iinc (pc := 63) (v5 + (-1)) X (dg dt_R_holds 37 rfl) rfl (Nat.le_of_ble_eq_true rfl) rfl rfl ?_
        refine G_goto (pc := 66) 117 X (dg dt_R_holds 38 rfl) (by decide) ?_
        exact G_wk (hj117_2 (v5 + (-1)) σ_12 h) ⟨rfl, ⟨rfl, ⟨rfl, ⟨rfl, ⟨rfl, ⟨rfl, ⟨rfl, trivial⟩⟩⟩⟩⟩⟩⟩
set_option maxRecDepth 100000 in
set_option maxHeartbeats 4000000 in
theorem s_R_holds (l : Launch) (ad : Nat → Nat) (σ : St) (v1 : Int32) (v2 : Int32) (v3 : Int32) (v4 : Int32)  {rv : Int32} {σe : St} (h : f_R_holds σ v1 v2 v3 v4 = some (rv, σe)) : Rt l [] yX12_holds cX12_holds 8 (some .boolean) 1 23 (g_SH, ad) [.ref (ad 82), .int v1, .int v2, .int v3, .int v4] σ (some (.int rv)) σe := by
  refine Rt.intro (L := [some (.ref (ad 82)), some (.int v1), some (.int v2), some (.int v3), some (.int v4), none, none, none]) (by decide +kernel) (Nat.le_of_ble_eq_true rfl) rfl (fun θ hl X hq => ?_)
  subst hl
  unfold f_R_holds at h
  refine G_iconst (pc := 0) 0 X (dg dt_R_holds 0 rfl) (by decide) ?_
  refine G_istore (pc := 1) X (dg dt_R_holds 1 rfl) (Nat.le_of_ble_eq_true rfl) rfl ?_
  refine G_iconst (pc := 3) 0 X (dg dt_R_holds 2 rfl) (by decide) ?_
  refine G_istore (pc := 4) X (dg dt_R_holds 3 rfl) (Nat.le_of_ble_eq_true rfl) rfl ?_
  refine G_weak (L' := [some (.ref (ad 82)), some (.int v1), some (.int v2), some (.int v3), some (.int v4), some (.int 0), some (.int 0), none]) ⟨rfl, ⟨rfl, ⟨rfl, ⟨rfl, ⟨rfl, ⟨rfl, ⟨rfl, trivial⟩⟩⟩⟩⟩⟩⟩ ?_
  refine s_R_holds_L6  X hq  (fun σ_13 h => ?_) _ _ _ _ h
  refine G_aload_n (pc := 123) 0 X (dg dt_R_holds 63 rfl) rfl rfl ?_
  refine G_getR (pc := 124) 7 X (dg dt_R_holds 64 rfl) fc_8 w_1070 rfl (Nat.le_of_ble_eq_true rfl) sh_82 rfl ?_
  refine G_iconst (pc := 127) 0 X (dg dt_R_holds 65 rfl) (by decide) ?_
  refine G_iald (pc := 128) X (dg dt_R_holds 66 rfl) sh_87 h (fun r_14 h => ?_)
  refine G_aload_n (pc := 129) 0 X (dg dt_R_holds 67 rfl) rfl rfl ?_
  refine G_getR (pc := 130) 7 X (dg dt_R_holds 68 rfl) fc_8 w_1070 rfl (Nat.le_of_ble_eq_true rfl) sh_82 rfl ?_
  refine G_iconst (pc := 133) 1 X (dg dt_R_holds 69 rfl) (by decide) ?_
  refine G_iald (pc := 134) X (dg dt_R_holds 70 rfl) sh_87 h (fun r_15 h => ?_)
  refine G_icmp_ne (pc := 135) 142 X (dg dt_R_holds 71 rfl) (by decide) h (fun h => ?_) (fun h => ?_)
  · refine G_iconst (pc := 142) 0 X (dg dt_R_holds 74 rfl) (by decide) ?_
    exact G_zretl (pc := 143) X hq (dg dt_R_holds 75 rfl) rfl h
  · refine G_iconst (pc := 138) 1 X (dg dt_R_holds 72 rfl) (by decide) ?_
    refine G_goto (pc := 139) 143 X (dg dt_R_holds 73 rfl) (by decide) ?_
    exact G_zretl (pc := 143) X hq (dg dt_R_holds 75 rfl) rfl h
set_option maxRecDepth 100000 in
set_option maxHeartbeats 4000000 in
theorem s_R_breaks_L100 {θ : Th} {ad : Nat → Nat}  {rv : Int32} {σe : St} (X : Cx θ [] cX12_breaks 6 "QuasigroveModel" 2 50)
    {v1 : Int32} {v2 : Int32} {v3 : Int32} {v4 : Int32} (hq : Rq θ (g_SH, ad) (some .int) (some (.int rv)) σe) {kx125 : Int32 → St → Option (Int32 × St)} (hkx125 : ∀ (v5 : Int32) (σ : St), kx125 v5 σ = some (rv, σe) → G θ (0, 0) (g_SH, ad) σ 125 [none, none, some (.int v2), some (.int v3), some (.int v4), some (.int v5)] []) {kx145 : St → Option (Int32 × St)} (hkx145 : ∀ (σ : St), kx145 σ = some (rv, σe) → G θ (0, 0) (g_SH, ad) σ 145 [some (.ref (ad 82)), some (.int v1), some (.int v2), some (.int v3), some (.int v4), none] []) :
    ∀ (n : Nat) (v5 : Int32) (σ : St), f_R_breaks_L100 v1 v2 v3 v4 kx125 kx145 n v5 σ = some (rv, σe) → G θ (0, 0) (g_SH, ad) σ 100 [some (.ref (ad 82)), some (.int v1), some (.int v2), some (.int v3), some (.int v4), some (.int v5)] [] := by
  intro n
  induction n with
  | zero => intro v5 σ h; rw [f_R_breaks_L100] at h; cases h
  | succ n ih =>
    intro v5 σ h
    rw [f_R_breaks_L100] at h
    refine G_iload (pc := 100) X (dg dt_R_breaks 55 rfl) rfl ?_
    refine G_aload_n (pc := 102) 0 X (dg dt_R_breaks 56 rfl) rfl rfl ?_
    refine G_bipush (pc := 103) 120 X (dg dt_R_breaks 57 rfl) (by decide) ?_
    refine G_iload_n (pc := 105) 2 X (dg dt_R_breaks 58 rfl) rfl rfl ?_
    obtain ⟨r_15, hc_14, h⟩ := cap_go h
    refine G_callV (pc := 106) (S := [.int v5]) [.int 120, .int v2] nosub X  (dg dt_R_breaks 59 rfl) cb_R_valuesOf cv_R_valuesOf w_1332 (s_R_valuesOf _ ad _ _ _ hc_14) rfl ⟨Nat.le_of_ble_eq_true rfl, Nat.le_of_ble_eq_true rfl⟩ sh_82 rfl (Nat.le_of_ble_eq_true rfl) Rc0 ?_
    refine G_icmp_ge (pc := 109) 145 X (dg dt_R_breaks 60 rfl) (by decide) h (fun h => ?_) (fun h => ?_)
    · exact G_wk (hkx145 σ h) ⟨rfl, ⟨rfl, ⟨rfl, ⟨rfl, ⟨rfl, trivial⟩⟩⟩⟩⟩
    · refine G_aload_n (pc := 112) 0 X (dg dt_R_breaks 61 rfl) rfl rfl ?_
      refine G_iload_n (pc := 113) 1 X (dg dt_R_breaks 62 rfl) rfl rfl ?_
      refine G_iload (pc := 114) X (dg dt_R_breaks 63 rfl) rfl ?_
      refine G_iload (pc := 116) X (dg dt_R_breaks 64 rfl) rfl ?_
      refine G_iload_n (pc := 118) 3 X (dg dt_R_breaks 65 rfl) rfl rfl ?_
      obtain ⟨r_17, σ_18, hc_16, h⟩ := cal_go h
      refine G_callV (pc := 119) (S := []) [.int v1, .int v5, .int v4, .int v3] nosub X  (dg dt_R_breaks 66 rfl) cb_R_holds cv_R_holds w_1336 (s_R_holds _ ad _ _ _ _ _ hc_16) rfl ⟨Nat.le_of_ble_eq_true rfl, Nat.le_of_ble_eq_true rfl⟩ sh_82 rfl (Nat.le_of_ble_eq_true rfl) Rc0 ?_
      refine G_if_ne (pc := 122) 139 X (dg dt_R_breaks 67 rfl) (by decide) h (fun h => ?_) (fun h => ?_)
      · refine G_iinc (pc := 139) (v5 + 1) X (dg dt_R_breaks 80 rfl) rfl (Nat.le_of_ble_eq_true rfl) rfl rfl ?_
        refine G_goto (pc := 142) 100 X (dg dt_R_breaks 81 rfl) (by decide) ?_
        exact G_wk (ih (v5 + 1) σ_18 h) ⟨rfl, ⟨rfl, ⟨rfl, ⟨rfl, ⟨rfl, ⟨rfl, trivial⟩⟩⟩⟩⟩⟩
      · exact G_wk (hkx125 v5 σ_18 h) ⟨rfl, ⟨rfl, ⟨rfl, ⟨rfl, trivial⟩⟩⟩⟩
set_option maxRecDepth 100000 in
set_option maxHeartbeats 4000000 in
theorem s_R_breaks_L85 {θ : Th} {ad : Nat → Nat}  {rv : Int32} {σe : St} (X : Cx θ [] cX12_breaks 6 "QuasigroveModel" 2 50)
    {v1 : Int32} {v2 : Int32} {v3 : Int32} (hq : Rq θ (g_SH, ad) (some .int) (some (.int rv)) σe) {kx125 : Int32 → Int32 → St → Option (Int32 × St)} (hkx125 : ∀ (v4 : Int32) (v5 : Int32) (σ : St), kx125 v4 v5 σ = some (rv, σe) → G θ (0, 0) (g_SH, ad) σ 125 [none, none, some (.int v2), some (.int v3), some (.int v4), some (.int v5)] []) {kx151 : St → Option (Int32 × St)} (hkx151 : ∀ (σ : St), kx151 σ = some (rv, σe) → G θ (0, 0) (g_SH, ad) σ 151 [some (.ref (ad 82)), some (.int v1), some (.int v2), some (.int v3), none, none] []) :
    ∀ (n : Nat) (v4 : Int32) (σ : St), f_R_breaks_L85 v1 v2 v3 kx125 kx151 n v4 σ = some (rv, σe) → G θ (0, 0) (g_SH, ad) σ 85 [some (.ref (ad 82)), some (.int v1), some (.int v2), some (.int v3), some (.int v4), none] [] := by
  intro n
  induction n with
  | zero => intro v4 σ h; rw [f_R_breaks_L85] at h; cases h
  | succ n ih =>
    intro v4 σ h
    rw [f_R_breaks_L85] at h
    refine G_iload (pc := 85) X (dg dt_R_breaks 47 rfl) rfl ?_
    refine G_aload_n (pc := 87) 0 X (dg dt_R_breaks 48 rfl) rfl rfl ?_
    refine G_bipush (pc := 88) 121 X (dg dt_R_breaks 49 rfl) (by decide) ?_
    refine G_iload_n (pc := 90) 2 X (dg dt_R_breaks 50 rfl) rfl rfl ?_
    obtain ⟨r_13, hc_12, h⟩ := cap_go h
    refine G_callV (pc := 91) (S := [.int v4]) [.int 121, .int v2] nosub X  (dg dt_R_breaks 51 rfl) cb_R_valuesOf cv_R_valuesOf w_1332 (s_R_valuesOf _ ad _ _ _ hc_12) rfl ⟨Nat.le_of_ble_eq_true rfl, Nat.le_of_ble_eq_true rfl⟩ sh_82 rfl (Nat.le_of_ble_eq_true rfl) Rc0 ?_
    refine G_icmp_ge (pc := 94) 151 X (dg dt_R_breaks 52 rfl) (by decide) h (fun h => ?_) (fun h => ?_)
    · exact G_wk (hkx151 σ h) ⟨rfl, ⟨rfl, ⟨rfl, ⟨rfl, trivial⟩⟩⟩⟩
    · refine G_iconst (pc := 97) 0 X (dg dt_R_breaks 53 rfl) (by decide) ?_
      refine G_istore (pc := 98) X (dg dt_R_breaks 54 rfl) (Nat.le_of_ble_eq_true rfl) rfl ?_
      refine G_weak (L' := [some (.ref (ad 82)), some (.int v1), some (.int v2), some (.int v3), some (.int v4), some (.int 0)]) ⟨rfl, ⟨rfl, ⟨rfl, ⟨rfl, ⟨rfl, ⟨rfl, trivial⟩⟩⟩⟩⟩⟩ ?_
      refine s_R_breaks_L100  X hq  (fun v5_19 σ_20 h => ?_) (fun σ_21 h => ?_) _ _ _ h
      · exact G_wk (hkx125 v4 v5_19 σ_20 h) ⟨rfl, ⟨rfl, ⟨rfl, ⟨rfl, trivial⟩⟩⟩⟩
      · refine G_iinc (pc := 145) (v4 + 1) X (dg dt_R_breaks 82 rfl) rfl (Nat.le_of_ble_eq_true rfl) rfl rfl ?_
        refine G_goto (pc := 148) 85 X (dg dt_R_breaks 83 rfl) (by decide) ?_
        exact G_wk (ih (v4 + 1) σ_21 h) ⟨rfl, ⟨rfl, ⟨rfl, ⟨rfl, ⟨rfl, trivial⟩⟩⟩⟩⟩
set_option maxRecDepth 100000 in
set_option maxHeartbeats 4000000 in
theorem s_R_breaks_L71 {θ : Th} {ad : Nat → Nat}  {rv : Int32} {σe : St} (X : Cx θ [] cX12_breaks 6 "QuasigroveModel" 2 50)
    {v1 : Int32} {v2 : Int32} (hq : Rq θ (g_SH, ad) (some .int) (some (.int rv)) σe) {kx125 : Int32 → Int32 → Int32 → St → Option (Int32 × St)} (hkx125 : ∀ (v3 : Int32) (v4 : Int32) (v5 : Int32) (σ : St), kx125 v3 v4 v5 σ = some (rv, σe) → G θ (0, 0) (g_SH, ad) σ 125 [none, none, some (.int v2), some (.int v3), some (.int v4), some (.int v5)] []) :
    ∀ (n : Nat) (v3 : Int32) (σ : St), f_R_breaks_L71 v1 v2 kx125 n v3 σ = some (rv, σe) → G θ (0, 0) (g_SH, ad) σ 71 [some (.ref (ad 82)), some (.int v1), some (.int v2), some (.int v3), none, none] [] := by
  intro n
  induction n with
  | zero => intro v3 σ h; rw [f_R_breaks_L71] at h; cases h
  | succ n ih =>
    intro v3 σ h
    rw [f_R_breaks_L71] at h
    refine G_iload_n (pc := 71) 3 X (dg dt_R_breaks 39 rfl) rfl rfl ?_
    refine G_aload_n (pc := 72) 0 X (dg dt_R_breaks 40 rfl) rfl rfl ?_
    refine G_bipush (pc := 73) 122 X (dg dt_R_breaks 41 rfl) (by decide) ?_
    refine G_iload_n (pc := 75) 2 X (dg dt_R_breaks 42 rfl) rfl rfl ?_
    obtain ⟨r_11, hc_10, h⟩ := cap_go h
    refine G_callV (pc := 76) (S := [.int v3]) [.int 122, .int v2] nosub X  (dg dt_R_breaks 43 rfl) cb_R_valuesOf cv_R_valuesOf w_1332 (s_R_valuesOf _ ad _ _ _ hc_10) rfl ⟨Nat.le_of_ble_eq_true rfl, Nat.le_of_ble_eq_true rfl⟩ sh_82 rfl (Nat.le_of_ble_eq_true rfl) Rc0 ?_
    refine G_icmp_ge (pc := 79) 157 X (dg dt_R_breaks 44 rfl) (by decide) h (fun h => ?_) (fun h => ?_)
    · refine G_iconst (pc := 157) (-1) X (dg dt_R_breaks 86 rfl) (by decide) ?_
      exact G_iret (pc := 158) X hq (dg dt_R_breaks 87 rfl) h
    · refine G_iconst (pc := 82) 0 X (dg dt_R_breaks 45 rfl) (by decide) ?_
      refine G_istore (pc := 83) X (dg dt_R_breaks 46 rfl) (Nat.le_of_ble_eq_true rfl) rfl ?_
      refine G_weak (L' := [some (.ref (ad 82)), some (.int v1), some (.int v2), some (.int v3), some (.int 0), none]) ⟨rfl, ⟨rfl, ⟨rfl, ⟨rfl, ⟨rfl, trivial⟩⟩⟩⟩⟩ ?_
      refine s_R_breaks_L85  X hq  (fun v4_22 v5_23 σ_24 h => ?_) (fun σ_25 h => ?_) _ _ _ h
      · exact G_wk (hkx125 v3 v4_22 v5_23 σ_24 h) ⟨rfl, ⟨rfl, ⟨rfl, ⟨rfl, trivial⟩⟩⟩⟩
      · refine G_iinc (pc := 151) (v3 + 1) X (dg dt_R_breaks 84 rfl) rfl (Nat.le_of_ble_eq_true rfl) rfl rfl ?_
        refine G_goto (pc := 154) 71 X (dg dt_R_breaks 85 rfl) (by decide) ?_
        exact G_wk (ih (v3 + 1) σ_25 h) ⟨rfl, ⟨rfl, ⟨rfl, ⟨rfl, trivial⟩⟩⟩⟩
set_option maxRecDepth 100000 in
set_option maxHeartbeats 4000000 in
theorem s_R_breaks (l : Launch) (ad : Nat → Nat) (σ : St) (v1 : Int32)  {rv : Int32} {σe : St} (h : f_R_breaks σ v1 = some (rv, σe)) : Rt l [] yX12_breaks cX12_breaks 6 (some .int) 2 50 (g_SH, ad) [.ref (ad 82), .int v1] σ (some (.int rv)) σe := by
  refine Rt.intro (L := [some (.ref (ad 82)), some (.int v1), none, none, none, none]) (by decide +kernel) (Nat.le_of_ble_eq_true rfl) rfl (fun θ hl X hq => ?_)
  subst hl
  unfold f_R_breaks at h
  refine G_aload_n (pc := 0) 0 X (dg dt_R_breaks 0 rfl) rfl rfl ?_
  refine G_aload_n (pc := 1) 0 X (dg dt_R_breaks 1 rfl) rfl rfl ?_
  refine G_iload_n (pc := 2) 1 X (dg dt_R_breaks 2 rfl) rfl rfl ?_
  obtain ⟨r_2, hc_1, h⟩ := cap_go h
  refine G_callV (pc := 3) (S := [.ref (ad 82)]) [.int v1] nosub X  (dg dt_R_breaks 3 rfl) cb_R_isGrid cv_R_isGrid w_1183 (s_R_isGrid _ ad _ _ hc_1) rfl ⟨Nat.le_of_ble_eq_true rfl, Nat.le_of_ble_eq_true rfl⟩ sh_82 rfl (Nat.le_of_ble_eq_true rfl) Rc0 ?_
  refine jn_go (fun j26_3 => ∀ (s_4 : Int32) (σ_5 : St), j26_3 s_4 σ_5 = some (rv, σe) → G θ (0, 0) (g_SH, ad) σ_5 26 [some (.ref (ad 82)), some (.int v1), none, none, none, none] [.int s_4, .ref (ad 82)]) h ?_ (fun j26_3 hj26_3 h => ?_)
  · intro s_4 σ_5 h
    refine G_put (pc := 26) 0 X (dg dt_R_breaks 14 rfl) fc_8 w_1063 rfl (Nat.le_of_ble_eq_true rfl) rfl rfl sh_82 rfl h (fun σ_6 h => ?_)
    refine G_aload_n (pc := 29) 0 X (dg dt_R_breaks 15 rfl) rfl rfl ?_
    refine G_getI (pc := 30) 0 X (dg dt_R_breaks 16 rfl) fc_8 w_1063 rfl (Nat.le_of_ble_eq_true rfl) sh_82 rfl ?_
    refine jn_go (fun j53_7 => ∀ (σ_8 : St), j53_7 σ_8 = some (rv, σe) → G θ (0, 0) (g_SH, ad) σ_8 53 [some (.ref (ad 82)), some (.int v1), none, none, none, none] []) h ?_ (fun j53_7 hj53_7 h => ?_)
    · intro σ_8 h
      refine G_aload_n (pc := 53) 0 X (dg dt_R_breaks 27 rfl) rfl rfl ?_
      refine G_getI (pc := 54) 0 X (dg dt_R_breaks 28 rfl) fc_8 w_1063 rfl (Nat.le_of_ble_eq_true rfl) sh_82 rfl ?_
      refine G_if_le (pc := 57) 62 X (dg dt_R_breaks 29 rfl) (by decide) h (fun h => ?_) (fun h => ?_)
      · refine G_aload_n (pc := 62) 0 X (dg dt_R_breaks 32 rfl) rfl rfl ?_
        refine G_getR (pc := 63) 2 X (dg dt_R_breaks 33 rfl) fc_8 w_1065 rfl (Nat.le_of_ble_eq_true rfl) sh_82 rfl ?_
        refine G_iload_n (pc := 66) 1 X (dg dt_R_breaks 34 rfl) rfl rfl ?_
        refine G_iald (pc := 67) X (dg dt_R_breaks 35 rfl) sh_83 h (fun r_9 h => ?_)
        refine G_istore_n (pc := 68) 2 X (dg dt_R_breaks 36 rfl) rfl (Nat.le_of_ble_eq_true rfl) rfl ?_
        refine G_iconst (pc := 69) 0 X (dg dt_R_breaks 37 rfl) (by decide) ?_
        refine G_istore_n (pc := 70) 3 X (dg dt_R_breaks 38 rfl) rfl (Nat.le_of_ble_eq_true rfl) rfl ?_
        refine G_weak (L' := [some (.ref (ad 82)), some (.int v1), some (.int r_9), some (.int 0), none, none]) ⟨rfl, ⟨rfl, ⟨rfl, ⟨rfl, trivial⟩⟩⟩⟩ ?_
        refine s_R_breaks_L71  X hq  (fun v3_26 v4_27 v5_28 σ_29 h => ?_) _ _ _ h
        refine G_iload (pc := 125) X (dg dt_R_breaks 68 rfl) rfl ?_
        refine G_iload_n (pc := 127) 2 X (dg dt_R_breaks 69 rfl) rfl rfl ?_
        refine G_iload (pc := 128) X (dg dt_R_breaks 70 rfl) rfl ?_
        refine G_imul (pc := 130) X (dg dt_R_breaks 71 rfl) ?_
        refine G_iadd (pc := 131) X (dg dt_R_breaks 72 rfl) ?_
        refine G_iload_n (pc := 132) 2 X (dg dt_R_breaks 73 rfl) rfl rfl ?_
        refine G_iload_n (pc := 133) 2 X (dg dt_R_breaks 74 rfl) rfl rfl ?_
        refine G_imul (pc := 134) X (dg dt_R_breaks 75 rfl) ?_
        refine G_iload_n (pc := 135) 3 X (dg dt_R_breaks 76 rfl) rfl rfl ?_
        refine G_imul (pc := 136) X (dg dt_R_breaks 77 rfl) ?_
        refine G_iadd (pc := 137) X (dg dt_R_breaks 78 rfl) ?_
        exact G_iret (pc := 138) X hq (dg dt_R_breaks 79 rfl) h
      · refine G_iconst (pc := 60) 0 X (dg dt_R_breaks 30 rfl) (by decide) ?_
        exact G_iret (pc := 61) X hq (dg dt_R_breaks 31 rfl) h
    refine G_if_ne (pc := 33) 53 X (dg dt_R_breaks 17 rfl) (by decide) h (fun h => ?_) (fun h => ?_)
    · exact G_wk (hj53_7 σ_6 h) ⟨rfl, ⟨rfl, trivial⟩⟩
    · refine G_aload_n (pc := 36) 0 X (dg dt_R_breaks 18 rfl) rfl rfl ?_
      refine G_aload_n (pc := 37) 0 X (dg dt_R_breaks 19 rfl) rfl rfl ?_
      refine G_iload_n (pc := 38) 1 X (dg dt_R_breaks 20 rfl) rfl rfl ?_
      obtain ⟨r_31, hc_30, h⟩ := cap_go h
      refine G_callV (pc := 39) (S := [.ref (ad 82)]) [.int v1] nosub X  (dg dt_R_breaks 21 rfl) cb_R_isSquare cv_R_isSquare w_1247 (s_R_isSquare _ ad _ _ hc_30) rfl ⟨Nat.le_of_ble_eq_true rfl, Nat.le_of_ble_eq_true rfl⟩ sh_82 rfl (Nat.le_of_ble_eq_true rfl) Rc0 ?_
      refine jn_go (fun j50_32 => ∀ (s_33 : Int32), j50_32 s_33 = some (rv, σe) → G θ (0, 0) (g_SH, ad) σ_6 50 [some (.ref (ad 82)), some (.int v1), none, none, none, none] [.int s_33, .ref (ad 82)]) h ?_ (fun j50_32 hj50_32 h => ?_)
      · intro s_33 h
        refine G_put (pc := 50) 0 X (dg dt_R_breaks 26 rfl) fc_8 w_1063 rfl (Nat.le_of_ble_eq_true rfl) rfl rfl sh_82 rfl h (fun σ_34 h => ?_)
        exact G_wk (hj53_7 σ_34 h) ⟨rfl, ⟨rfl, trivial⟩⟩
      refine G_if_ne (pc := 42) 49 X (dg dt_R_breaks 22 rfl) (by decide) h (fun h => ?_) (fun h => ?_)
      · refine G_iconst (pc := 49) 0 X (dg dt_R_breaks 25 rfl) (by decide) ?_
        exact G_wk (hj50_32 0 h) ⟨rfl, ⟨rfl, trivial⟩⟩
      · refine G_iconst (pc := 45) 3 X (dg dt_R_breaks 23 rfl) (by decide) ?_
        refine G_goto (pc := 46) 50 X (dg dt_R_breaks 24 rfl) (by decide) ?_
        exact G_wk (hj50_32 3 h) ⟨rfl, ⟨rfl, trivial⟩⟩
  refine G_if_ne (pc := 6) 13 X (dg dt_R_breaks 4 rfl) (by decide) h (fun h => ?_) (fun h => ?_)
  · refine G_aload_n (pc := 13) 0 X (dg dt_R_breaks 7 rfl) rfl rfl ?_
    obtain ⟨r_36, σ_37, hc_35, h⟩ := cal_go h
    refine G_callV (pc := 14) (S := [.ref (ad 82)]) [] nosub X  (dg dt_R_breaks 8 rfl) cb_R_faultOf cv_R_faultOf w_1324 (s_R_faultOf _ ad _ hc_35) rfl ⟨Nat.le_of_ble_eq_true rfl, Nat.le_of_ble_eq_true rfl⟩ sh_82 rfl (Nat.le_of_ble_eq_true rfl) Rc0 ?_
    refine G_iconst (pc := 17) (-1) X (dg dt_R_breaks 9 rfl) (by decide) ?_
    refine G_icmp_eq (pc := 18) 25 X (dg dt_R_breaks 10 rfl) (by decide) h (fun h => ?_) (fun h => ?_)
    · refine G_iconst (pc := 25) 0 X (dg dt_R_breaks 13 rfl) (by decide) ?_
      exact G_wk (hj26_3 0 σ_37 h) ⟨rfl, ⟨rfl, trivial⟩⟩
    · refine G_iconst (pc := 21) 2 X (dg dt_R_breaks 11 rfl) (by decide) ?_
      refine G_goto (pc := 22) 26 X (dg dt_R_breaks 12 rfl) (by decide) ?_
      exact G_wk (hj26_3 2 σ_37 h) ⟨rfl, ⟨rfl, trivial⟩⟩
  · refine G_iconst (pc := 9) 1 X (dg dt_R_breaks 5 rfl) (by decide) ?_
    refine G_goto (pc := 10) 26 X (dg dt_R_breaks 6 rfl) (by decide) ?_
    exact G_wk (hj26_3 1 σ h) ⟨rfl, ⟨rfl, trivial⟩⟩
set_option maxRecDepth 100000 in
set_option maxHeartbeats 4000000 in
theorem s_R_fault (l : Launch) (ad : Nat → Nat) (σ : St)   {rv : Int32} {σe : St} (h : f_R_fault σ = some (rv, σe)) : Rt l [] yX12_fault cX12_fault 1 (some .int) 1 24 (g_SH, ad) [.ref (ad 82)] σ (some (.int rv)) σe := by
  refine Rt.intro (L := [some (.ref (ad 82))]) (by decide +kernel) (Nat.le_of_ble_eq_true rfl) rfl (fun θ hl X hq => ?_)
  subst hl
  unfold f_R_fault at h
  refine G_aload_n (pc := 0) 0 X (dg dt_R_fault 0 rfl) rfl rfl ?_
  refine G_iconst (pc := 1) 0 X (dg dt_R_fault 1 rfl) (by decide) ?_
  refine G_put (pc := 2) 0 X (dg dt_R_fault 2 rfl) fc_8 w_1063 rfl (Nat.le_of_ble_eq_true rfl) rfl rfl sh_82 rfl h (fun σ_1 h => ?_)
  refine G_aload_n (pc := 5) 0 X (dg dt_R_fault 3 rfl) rfl rfl ?_
  obtain ⟨r_3, σ_4, hc_2, h⟩ := cal_go h
  refine G_callV (pc := 6) (S := []) [] nosub X  (dg dt_R_fault 4 rfl) cb_R_faultOf cv_R_faultOf w_1324 (s_R_faultOf _ ad _ hc_2) rfl ⟨Nat.le_of_ble_eq_true rfl, Nat.le_of_ble_eq_true rfl⟩ sh_82 rfl (Nat.le_of_ble_eq_true rfl) Rc0 ?_
  exact G_iret (pc := 9) X hq (dg dt_R_fault 5 rfl) h
set_option maxRecDepth 100000 in
set_option maxHeartbeats 4000000 in
theorem s_R_wipe (l : Launch) (ad : Nat → Nat) (σ : St)   {rv : Int32} {σe : St} (h : f_R_wipe σ = some (rv, σe)) : Rt l [] yX12_wipe cX12_wipe 2 (some .int) 0 0 (g_SH, ad) [.ref (ad 82)] σ (some (.int rv)) σe := by
  refine Rt.intro (L := [some (.ref (ad 82)), none]) (by decide +kernel) (Nat.le_of_ble_eq_true rfl) rfl (fun θ hl X hq => ?_)
  subst hl
  unfold f_R_wipe at h
  refine G_aload_n (pc := 0) 0 X (dg dt_R_wipe 0 rfl) rfl rfl ?_
  refine G_iconst (pc := 1) 0 X (dg dt_R_wipe 1 rfl) (by decide) ?_
  refine G_put (pc := 2) 0 X (dg dt_R_wipe 2 rfl) fc_8 w_1063 rfl (Nat.le_of_ble_eq_true rfl) rfl rfl sh_82 rfl h (fun σ_1 h => ?_)
  refine G_aload_n (pc := 5) 0 X (dg dt_R_wipe 3 rfl) rfl rfl ?_
  refine G_getI (pc := 6) 4 X (dg dt_R_wipe 4 rfl) fc_8 w_1067 rfl (Nat.le_of_ble_eq_true rfl) sh_82 rfl ?_
  refine G_istore_n (pc := 9) 1 X (dg dt_R_wipe 5 rfl) rfl (Nat.le_of_ble_eq_true rfl) rfl ?_
  refine G_aload_n (pc := 10) 0 X (dg dt_R_wipe 6 rfl) rfl rfl ?_
  refine G_iconst (pc := 11) 0 X (dg dt_R_wipe 7 rfl) (by decide) ?_
  refine G_put (pc := 12) 4 X (dg dt_R_wipe 8 rfl) fc_8 w_1067 rfl (Nat.le_of_ble_eq_true rfl) rfl rfl sh_82 rfl h (fun σ_2 h => ?_)
  refine G_iload_n (pc := 15) 1 X (dg dt_R_wipe 9 rfl) rfl rfl ?_
  exact G_iret (pc := 16) X hq (dg dt_R_wipe 10 rfl) h
set_option maxRecDepth 100000 in
set_option maxHeartbeats 4000000 in
theorem s_R_isSign (l : Launch) (ad : Nat → Nat) (σ : St) (v1 : Int32)  {rv : Int32} (h : f_R_isSign σ v1 = some rv) : Rt l [] yX12_isSign cX12_isSign 2 (some .boolean) 0 0 (g_SH, ad) [.ref (ad 82), .int v1] σ (some (.int rv)) σ := by
  refine Rt.intro (L := [some (.ref (ad 82)), some (.int v1)]) (by decide +kernel) (Nat.le_of_ble_eq_true rfl) rfl (fun θ hl X hq => ?_)
  subst hl
  unfold f_R_isSign at h
  refine G_iload_n (pc := 0) 1 X (dg dt_R_isSign 0 rfl) rfl rfl ?_
  refine G_bipush (pc := 1) 120 X (dg dt_R_isSign 1 rfl) (by decide) ?_
  refine jn_go (fun j36_1 => j36_1 = some rv → G θ (0, 0) (g_SH, ad) σ 36 [none, none] []) h ?_ (fun j36_1 hj36_1 h => ?_)
  · intro  h
    refine G_iconst (pc := 36) 1 X (dg dt_R_isSign 18 rfl) (by decide) ?_
    refine G_goto (pc := 37) 41 X (dg dt_R_isSign 19 rfl) (by decide) ?_
    exact G_zretlp (pc := 41) X hq (dg dt_R_isSign 21 rfl) rfl h
  refine G_icmp_eq (pc := 3) 36 X (dg dt_R_isSign 2 rfl) (by decide) h (fun h => ?_) (fun h => ?_)
  · exact G_wk (hj36_1  h) trivial
  · refine G_iload_n (pc := 6) 1 X (dg dt_R_isSign 3 rfl) rfl rfl ?_
    refine G_bipush (pc := 7) 121 X (dg dt_R_isSign 4 rfl) (by decide) ?_
    refine G_icmp_eq (pc := 9) 36 X (dg dt_R_isSign 5 rfl) (by decide) h (fun h => ?_) (fun h => ?_)
    · exact G_wk (hj36_1  h) trivial
    · refine G_iload_n (pc := 12) 1 X (dg dt_R_isSign 6 rfl) rfl rfl ?_
      refine G_bipush (pc := 13) 122 X (dg dt_R_isSign 7 rfl) (by decide) ?_
      refine G_icmp_eq (pc := 15) 36 X (dg dt_R_isSign 8 rfl) (by decide) h (fun h => ?_) (fun h => ?_)
      · exact G_wk (hj36_1  h) trivial
      · refine G_iload_n (pc := 18) 1 X (dg dt_R_isSign 9 rfl) rfl rfl ?_
        refine G_bipush (pc := 19) 40 X (dg dt_R_isSign 10 rfl) (by decide) ?_
        refine G_icmp_eq (pc := 21) 36 X (dg dt_R_isSign 11 rfl) (by decide) h (fun h => ?_) (fun h => ?_)
        · exact G_wk (hj36_1  h) trivial
        · refine G_iload_n (pc := 24) 1 X (dg dt_R_isSign 12 rfl) rfl rfl ?_
          refine G_bipush (pc := 25) 41 X (dg dt_R_isSign 13 rfl) (by decide) ?_
          refine G_icmp_eq (pc := 27) 36 X (dg dt_R_isSign 14 rfl) (by decide) h (fun h => ?_) (fun h => ?_)
          · exact G_wk (hj36_1  h) trivial
          · refine G_iload_n (pc := 30) 1 X (dg dt_R_isSign 15 rfl) rfl rfl ?_
            refine G_bipush (pc := 31) 61 X (dg dt_R_isSign 16 rfl) (by decide) ?_
            refine G_icmp_ne (pc := 33) 40 X (dg dt_R_isSign 17 rfl) (by decide) h (fun h => ?_) (fun h => ?_)
            · refine G_iconst (pc := 40) 0 X (dg dt_R_isSign 20 rfl) (by decide) ?_
              exact G_zretlp (pc := 41) X hq (dg dt_R_isSign 21 rfl) rfl h
            · exact G_wk (hj36_1  h) trivial
set_option maxRecDepth 100000 in
set_option maxHeartbeats 4000000 in
theorem s_R_type_L23 {θ : Th} {ad : Nat → Nat}  {rv : Int32} {σe : St} (X : Cx θ [] cX12_type 5 "QuasigroveModel" 1 23)
    {v1 : Int64} {v3 : Int32} (hq : Rq θ (g_SH, ad) (some .int) (some (.int rv)) σe) {kx70 : St → Option (Int32 × St)} (hkx70 : ∀ (σ : St), kx70 σ = some (rv, σe) → G θ (0, 0) (g_SH, ad) σ 70 [some (.ref (ad 82)), some (.long v1), none, some (.int v3), none] []) :
    ∀ (n : Nat) (v4 : Int32) (σ : St), f_R_type_L23 v1 v3 kx70 n v4 σ = some (rv, σe) → G θ (0, 0) (g_SH, ad) σ 23 [some (.ref (ad 82)), some (.long v1), none, some (.int v3), some (.int v4)] [] := by
  intro n
  induction n with
  | zero => intro v4 σ h; rw [f_R_type_L23] at h; cases h
  | succ n ih =>
    intro v4 σ h
    rw [f_R_type_L23] at h
    refine G_aload_n (pc := 23) 0 X (dg dt_R_type 13 rfl) rfl rfl ?_
    refine G_getI (pc := 24) 0 X (dg dt_R_type 14 rfl) fc_8 w_1063 rfl (Nat.le_of_ble_eq_true rfl) sh_82 rfl ?_
    refine G_if_ne (pc := 27) 70 X (dg dt_R_type 15 rfl) (by decide) h (fun h => ?_) (fun h => ?_)
    · exact G_wk (hkx70 σ h) ⟨rfl, ⟨rfl, ⟨rfl, trivial⟩⟩⟩
    · refine G_iload (pc := 30) X (dg dt_R_type 16 rfl) rfl ?_
      refine G_iload_n (pc := 32) 3 X (dg dt_R_type 17 rfl) rfl rfl ?_
      refine G_icmp_ge (pc := 33) 70 X (dg dt_R_type 18 rfl) (by decide) h (fun h => ?_) (fun h => ?_)
      · exact G_wk (hkx70 σ h) ⟨rfl, ⟨rfl, ⟨rfl, trivial⟩⟩⟩
      · refine G_aload_n (pc := 36) 0 X (dg dt_R_type 19 rfl) rfl rfl ?_
        refine G_aload_n (pc := 37) 0 X (dg dt_R_type 20 rfl) rfl rfl ?_
        refine G_lload_n (pc := 38) 1 X (dg dt_R_type 21 rfl) rfl rfl ?_
        refine G_bipush (pc := 39) 8 X (dg dt_R_type 22 rfl) (by decide) ?_
        refine G_iload (pc := 41) X (dg dt_R_type 23 rfl) rfl ?_
        refine G_imul (pc := 43) X (dg dt_R_type 24 rfl) ?_
        refine G_lshr (pc := 44) X (dg dt_R_type 25 rfl) ?_
        refine G_ldc2 (pc := 45) X (dg dt_R_type 26 rfl) w_1311 ?_
        refine G_land (pc := 48) X (dg dt_R_type 27 rfl) ?_
        refine G_l2i (pc := 49) X (dg dt_R_type 28 rfl) ?_
        obtain ⟨r_7, hc_6, h⟩ := cap_go h
        refine G_callV (pc := 50) (S := [.ref (ad 82)]) [.int (((v1 >>> ((8 * v4).toInt64 &&& 63)) &&& (255 : Int64)).toInt32)] nosub X  (dg dt_R_type 29 rfl) cb_R_isSign cv_R_isSign w_1312 (s_R_isSign _ ad _ _ hc_6) rfl ⟨Nat.le_of_ble_eq_true rfl, Nat.le_of_ble_eq_true rfl⟩ sh_82 rfl (Nat.le_of_ble_eq_true rfl) Rc0 ?_
        refine jn_go (fun j61_8 => ∀ (s_9 : Int32), j61_8 s_9 = some (rv, σe) → G θ (0, 0) (g_SH, ad) σ 61 [some (.ref (ad 82)), some (.long v1), none, some (.int v3), some (.int v4)] [.int s_9, .ref (ad 82)]) h ?_ (fun j61_8 hj61_8 h => ?_)
        · intro s_9 h
          refine G_put (pc := 61) 0 X (dg dt_R_type 34 rfl) fc_8 w_1063 rfl (Nat.le_of_ble_eq_true rfl) rfl rfl sh_82 rfl h (fun σ_10 h => ?_)
          refine G_iinc (pc := 64) (v4 + 1) X (dg dt_R_type 35 rfl) rfl (Nat.le_of_ble_eq_true rfl) rfl rfl ?_
          refine G_goto (pc := 67) 23 X (dg dt_R_type 36 rfl) (by decide) ?_
          exact G_wk (ih (v4 + 1) σ_10 h) ⟨rfl, ⟨rfl, ⟨rfl, ⟨rfl, trivial⟩⟩⟩⟩
        refine G_if_eq (pc := 53) 60 X (dg dt_R_type 30 rfl) (by decide) h (fun h => ?_) (fun h => ?_)
        · refine G_iconst (pc := 60) 1 X (dg dt_R_type 33 rfl) (by decide) ?_
          exact G_wk (hj61_8 1 h) ⟨rfl, ⟨rfl, ⟨rfl, ⟨rfl, trivial⟩⟩⟩⟩
        · refine G_iconst (pc := 56) 0 X (dg dt_R_type 31 rfl) (by decide) ?_
          refine G_goto (pc := 57) 61 X (dg dt_R_type 32 rfl) (by decide) ?_
          exact G_wk (hj61_8 0 h) ⟨rfl, ⟨rfl, ⟨rfl, ⟨rfl, trivial⟩⟩⟩⟩
set_option maxRecDepth 100000 in
set_option maxHeartbeats 4000000 in
theorem s_R_type_L112 {θ : Th} {ad : Nat → Nat}  {rv : Int32} {σe : St} (X : Cx θ [] cX12_type 5 "QuasigroveModel" 1 23)
    {v1 : Int64} {v3 : Int32} (hq : Rq θ (g_SH, ad) (some .int) (some (.int rv)) σe) {kx148 : St → Option (Int32 × St)} (hkx148 : ∀ (σ : St), kx148 σ = some (rv, σe) → G θ (0, 0) (g_SH, ad) σ 148 [some (.ref (ad 82)), none, none, some (.int v3), none] []) :
    ∀ (n : Nat) (v4 : Int32) (σ : St), f_R_type_L112 v1 v3 kx148 n v4 σ = some (rv, σe) → G θ (0, 0) (g_SH, ad) σ 112 [some (.ref (ad 82)), some (.long v1), none, some (.int v3), some (.int v4)] [] := by
  intro n
  induction n with
  | zero => intro v4 σ h; rw [f_R_type_L112] at h; cases h
  | succ n ih =>
    intro v4 σ h
    rw [f_R_type_L112] at h
    refine G_iload (pc := 112) X (dg dt_R_type 59 rfl) rfl ?_
    refine G_iload_n (pc := 114) 3 X (dg dt_R_type 60 rfl) rfl rfl ?_
    refine G_icmp_ge (pc := 115) 148 X (dg dt_R_type 61 rfl) (by decide) h (fun h => ?_) (fun h => ?_)
    · exact G_wk (hkx148 σ h) ⟨rfl, ⟨rfl, trivial⟩⟩
    · refine G_aload_n (pc := 118) 0 X (dg dt_R_type 62 rfl) rfl rfl ?_
      refine G_getR (pc := 119) 5 X (dg dt_R_type 63 rfl) fc_8 w_1068 rfl (Nat.le_of_ble_eq_true rfl) sh_82 rfl ?_
      refine G_aload_n (pc := 122) 0 X (dg dt_R_type 64 rfl) rfl rfl ?_
      refine G_getI (pc := 123) 4 X (dg dt_R_type 65 rfl) fc_8 w_1067 rfl (Nat.le_of_ble_eq_true rfl) sh_82 rfl ?_
      refine G_iload (pc := 126) X (dg dt_R_type 66 rfl) rfl ?_
      refine G_iadd (pc := 128) X (dg dt_R_type 67 rfl) ?_
      refine G_lload_n (pc := 129) 1 X (dg dt_R_type 68 rfl) rfl rfl ?_
      refine G_bipush (pc := 130) 8 X (dg dt_R_type 69 rfl) (by decide) ?_
      refine G_iload (pc := 132) X (dg dt_R_type 70 rfl) rfl ?_
      refine G_imul (pc := 134) X (dg dt_R_type 71 rfl) ?_
      refine G_lshr (pc := 135) X (dg dt_R_type 72 rfl) ?_
      refine G_ldc2 (pc := 136) X (dg dt_R_type 73 rfl) w_1311 ?_
      refine G_land (pc := 139) X (dg dt_R_type 74 rfl) ?_
      refine G_l2i (pc := 140) X (dg dt_R_type 75 rfl) ?_
      refine G_iast (pc := 141) X (dg dt_R_type 76 rfl) sh_85 h (fun σ_15 h => ?_)
      refine G_iinc (pc := 142) (v4 + 1) X (dg dt_R_type 77 rfl) rfl (Nat.le_of_ble_eq_true rfl) rfl rfl ?_
      refine G_goto (pc := 145) 112 X (dg dt_R_type 78 rfl) (by decide) ?_
      exact G_wk (ih (v4 + 1) σ_15 h) ⟨rfl, ⟨rfl, ⟨rfl, ⟨rfl, trivial⟩⟩⟩⟩
set_option maxRecDepth 100000 in
set_option maxHeartbeats 4000000 in
theorem s_R_type (l : Launch) (ad : Nat → Nat) (σ : St) (v1 : Int64) (v3 : Int32)  {rv : Int32} {σe : St} (h : f_R_type σ v1 v3 = some (rv, σe)) : Rt l [] yX12_type cX12_type 5 (some .int) 1 23 (g_SH, ad) [.ref (ad 82), .long v1, .int v3] σ (some (.int rv)) σe := by
  refine Rt.intro (L := [some (.ref (ad 82)), some (.long v1), none, some (.int v3), none]) (by decide +kernel) (Nat.le_of_ble_eq_true rfl) rfl (fun θ hl X hq => ?_)
  subst hl
  unfold f_R_type at h
  refine G_aload_n (pc := 0) 0 X (dg dt_R_type 0 rfl) rfl rfl ?_
  refine G_aload_n (pc := 1) 0 X (dg dt_R_type 1 rfl) rfl rfl ?_
  refine G_iload_n (pc := 2) 3 X (dg dt_R_type 2 rfl) rfl rfl ?_
  refine G_iconst (pc := 3) 1 X (dg dt_R_type 3 rfl) (by decide) ?_
  refine G_bipush (pc := 4) 8 X (dg dt_R_type 4 rfl) (by decide) ?_
  obtain ⟨r_2, hc_1, h⟩ := cap_go h
  refine G_callV (pc := 6) (S := [.ref (ad 82)]) [.int v3, .int 1, .int 8] nosub X  (dg dt_R_type 5 rfl) cb_R_between cv_R_between w_1159 (s_R_between _ ad _ _ _ _ hc_1) rfl ⟨Nat.le_of_ble_eq_true rfl, Nat.le_of_ble_eq_true rfl⟩ sh_82 rfl (Nat.le_of_ble_eq_true rfl) Rc0 ?_
  refine jn_go (fun j17_3 => ∀ (s_4 : Int32), j17_3 s_4 = some (rv, σe) → G θ (0, 0) (g_SH, ad) σ 17 [some (.ref (ad 82)), some (.long v1), none, some (.int v3), none] [.int s_4, .ref (ad 82)]) h ?_ (fun j17_3 hj17_3 h => ?_)
  · intro s_4 h
    refine G_put (pc := 17) 0 X (dg dt_R_type 10 rfl) fc_8 w_1063 rfl (Nat.le_of_ble_eq_true rfl) rfl rfl sh_82 rfl h (fun σ_5 h => ?_)
    refine G_iconst (pc := 20) 0 X (dg dt_R_type 11 rfl) (by decide) ?_
    refine G_istore (pc := 21) X (dg dt_R_type 12 rfl) (Nat.le_of_ble_eq_true rfl) rfl ?_
    refine G_weak (L' := [some (.ref (ad 82)), some (.long v1), none, some (.int v3), some (.int 0)]) ⟨rfl, ⟨rfl, ⟨rfl, ⟨rfl, trivial⟩⟩⟩⟩ ?_
    refine s_R_type_L23  X hq  (fun σ_11 h => ?_) _ _ _ h
    refine G_aload_n (pc := 70) 0 X (dg dt_R_type 37 rfl) rfl rfl ?_
    refine G_aload_n (pc := 71) 0 X (dg dt_R_type 38 rfl) rfl rfl ?_
    refine G_getI (pc := 72) 0 X (dg dt_R_type 39 rfl) fc_8 w_1063 rfl (Nat.le_of_ble_eq_true rfl) sh_82 rfl ?_
    refine jn_go (fun j97_12 => ∀ (s_13 : Int32), j97_12 s_13 = some (rv, σe) → G θ (0, 0) (g_SH, ad) σ_11 97 [some (.ref (ad 82)), some (.long v1), none, some (.int v3), none] [.int s_13, .ref (ad 82)]) h ?_ (fun j97_12 hj97_12 h => ?_)
    · intro s_13 h
      refine G_put (pc := 97) 0 X (dg dt_R_type 51 rfl) fc_8 w_1063 rfl (Nat.le_of_ble_eq_true rfl) rfl rfl sh_82 rfl h (fun σ_14 h => ?_)
      refine G_aload_n (pc := 100) 0 X (dg dt_R_type 52 rfl) rfl rfl ?_
      refine G_getI (pc := 101) 0 X (dg dt_R_type 53 rfl) fc_8 w_1063 rfl (Nat.le_of_ble_eq_true rfl) sh_82 rfl ?_
      refine G_if_le (pc := 104) 109 X (dg dt_R_type 54 rfl) (by decide) h (fun h => ?_) (fun h => ?_)
      · refine G_iconst (pc := 109) 0 X (dg dt_R_type 57 rfl) (by decide) ?_
        refine G_istore (pc := 110) X (dg dt_R_type 58 rfl) (Nat.le_of_ble_eq_true rfl) rfl ?_
        refine G_weak (L' := [some (.ref (ad 82)), some (.long v1), none, some (.int v3), some (.int 0)]) ⟨rfl, ⟨rfl, ⟨rfl, ⟨rfl, trivial⟩⟩⟩⟩ ?_
        refine s_R_type_L112  X hq  (fun σ_16 h => ?_) _ _ _ h
        refine G_aload_n (pc := 148) 0 X (dg dt_R_type 79 rfl) rfl rfl ?_
        refine G_dup (pc := 149) X (dg dt_R_type 80 rfl) rfl ?_
        refine G_getI (pc := 150) 4 X (dg dt_R_type 81 rfl) fc_8 w_1067 rfl (Nat.le_of_ble_eq_true rfl) sh_82 rfl ?_
        refine G_iload_n (pc := 153) 3 X (dg dt_R_type 82 rfl) rfl rfl ?_
        refine G_iadd (pc := 154) X (dg dt_R_type 83 rfl) ?_
        refine G_put (pc := 155) 4 X (dg dt_R_type 84 rfl) fc_8 w_1067 rfl (Nat.le_of_ble_eq_true rfl) rfl rfl sh_82 rfl h (fun σ_17 h => ?_)
        refine G_aload_n (pc := 158) 0 X (dg dt_R_type 85 rfl) rfl rfl ?_
        refine G_getI (pc := 159) 4 X (dg dt_R_type 86 rfl) fc_8 w_1067 rfl (Nat.le_of_ble_eq_true rfl) sh_82 rfl ?_
        exact G_iret (pc := 162) X hq (dg dt_R_type 87 rfl) h
      · refine G_iconst (pc := 107) 0 X (dg dt_R_type 55 rfl) (by decide) ?_
        exact G_iret (pc := 108) X hq (dg dt_R_type 56 rfl) h
    refine jn_go (fun j93_18 => j93_18 = some (rv, σe) → G θ (0, 0) (g_SH, ad) σ_11 93 [some (.ref (ad 82)), some (.long v1), none, some (.int v3), none] [.ref (ad 82)]) h ?_ (fun j93_18 hj93_18 h => ?_)
    · intro  h
      refine G_aload_n (pc := 93) 0 X (dg dt_R_type 49 rfl) rfl rfl ?_
      refine G_getI (pc := 94) 0 X (dg dt_R_type 50 rfl) fc_8 w_1063 rfl (Nat.le_of_ble_eq_true rfl) sh_82 rfl ?_
      exact G_wk (hj97_12 (σ_11 82 0) h) ⟨rfl, ⟨rfl, ⟨rfl, trivial⟩⟩⟩
    refine G_if_ne (pc := 75) 93 X (dg dt_R_type 40 rfl) (by decide) h (fun h => ?_) (fun h => ?_)
    · exact G_wk (hj93_18  h) ⟨rfl, ⟨rfl, ⟨rfl, trivial⟩⟩⟩
    · refine G_aload_n (pc := 78) 0 X (dg dt_R_type 41 rfl) rfl rfl ?_
      refine G_getI (pc := 79) 4 X (dg dt_R_type 42 rfl) fc_8 w_1067 rfl (Nat.le_of_ble_eq_true rfl) sh_82 rfl ?_
      refine G_iload_n (pc := 82) 3 X (dg dt_R_type 43 rfl) rfl rfl ?_
      refine G_iadd (pc := 83) X (dg dt_R_type 44 rfl) ?_
      refine G_bipush (pc := 84) 40 X (dg dt_R_type 45 rfl) (by decide) ?_
      refine G_icmp_le (pc := 86) 93 X (dg dt_R_type 46 rfl) (by decide) h (fun h => ?_) (fun h => ?_)
      · exact G_wk (hj93_18  h) ⟨rfl, ⟨rfl, ⟨rfl, trivial⟩⟩⟩
      · refine G_iconst (pc := 89) 2 X (dg dt_R_type 47 rfl) (by decide) ?_
        refine G_goto (pc := 90) 97 X (dg dt_R_type 48 rfl) (by decide) ?_
        exact G_wk (hj97_12 2 h) ⟨rfl, ⟨rfl, ⟨rfl, trivial⟩⟩⟩
  refine G_if_ne (pc := 9) 16 X (dg dt_R_type 6 rfl) (by decide) h (fun h => ?_) (fun h => ?_)
  · refine G_iconst (pc := 16) 0 X (dg dt_R_type 9 rfl) (by decide) ?_
    exact G_wk (hj17_3 0 h) ⟨rfl, ⟨rfl, ⟨rfl, trivial⟩⟩⟩
  · refine G_iconst (pc := 12) 1 X (dg dt_R_type 7 rfl) (by decide) ?_
    refine G_goto (pc := 13) 17 X (dg dt_R_type 8 rfl) (by decide) ?_
    exact G_wk (hj17_3 1 h) ⟨rfl, ⟨rfl, ⟨rfl, trivial⟩⟩⟩
set_option maxRecDepth 100000 in
set_option maxHeartbeats 4000000 in
theorem s_R_bitsOf_L4 {θ : Th} {ad : Nat → Nat}  {rv : Int32} (X : Cx θ [] cX12_bitsOf 4 "QuasigroveModel" 0 0)
    {v1 : Int32} {σ : St} (hq : Rq θ (g_SH, ad) (some .int) (some (.int rv)) σ) {kx24 : Int32 → Option Int32} (hkx24 : ∀ (v2 : Int32), kx24 v2 = some rv → G θ (0, 0) (g_SH, ad) σ 24 [none, none, some (.int v2), none] []) :
    ∀ (n : Nat) (v2 : Int32) (v3 : Int32), f_R_bitsOf_L4 v1 σ kx24 n v2 v3 = some rv → G θ (0, 0) (g_SH, ad) σ 4 [none, some (.int v1), some (.int v2), some (.int v3)] [] := by
  intro n
  induction n with
  | zero => intro v2 v3 h; rw [f_R_bitsOf_L4] at h; cases h
  | succ n ih =>
    intro v2 v3 h
    rw [f_R_bitsOf_L4] at h
    refine G_iload_n (pc := 4) 3 X (dg dt_R_bitsOf 4 rfl) rfl rfl ?_
    refine G_bipush (pc := 5) 16 X (dg dt_R_bitsOf 5 rfl) (by decide) ?_
    refine G_icmp_ge (pc := 7) 24 X (dg dt_R_bitsOf 6 rfl) (by decide) h (fun h => ?_) (fun h => ?_)
    · exact G_wk (hkx24 v2 h) ⟨rfl, trivial⟩
    · refine G_iload_n (pc := 10) 2 X (dg dt_R_bitsOf 7 rfl) rfl rfl ?_
      refine G_iload_n (pc := 11) 1 X (dg dt_R_bitsOf 8 rfl) rfl rfl ?_
      refine G_iload_n (pc := 12) 3 X (dg dt_R_bitsOf 9 rfl) rfl rfl ?_
      refine G_ishr (pc := 13) X (dg dt_R_bitsOf 10 rfl) ?_
      refine G_iconst (pc := 14) 1 X (dg dt_R_bitsOf 11 rfl) (by decide) ?_
      refine G_iand (pc := 15) X (dg dt_R_bitsOf 12 rfl) ?_
      refine G_iadd (pc := 16) X (dg dt_R_bitsOf 13 rfl) ?_
      refine G_istore_n_lt (pc := 17) 2 X (dg dt_R_bitsOf 14 rfl) rfl (Nat.le_of_ble_eq_true rfl) rfl h (fun v2_1 h => ?_)
      refine G_iinc (pc := 18) (v3 + 1) X (dg dt_R_bitsOf 15 rfl) rfl (Nat.le_of_ble_eq_true rfl) rfl rfl ?_
      refine G_goto (pc := 21) 4 X (dg dt_R_bitsOf 16 rfl) (by decide) ?_
      exact G_wk (ih v2_1 (v3 + 1) h) ⟨rfl, ⟨rfl, ⟨rfl, trivial⟩⟩⟩
set_option maxRecDepth 100000 in
set_option maxHeartbeats 4000000 in
theorem s_R_bitsOf (l : Launch) (ad : Nat → Nat) (σ : St) (v1 : Int32)  {rv : Int32} (h : f_R_bitsOf σ v1 = some rv) : Rt l [] yX12_bitsOf cX12_bitsOf 4 (some .int) 0 0 (g_SH, ad) [.ref (ad 82), .int v1] σ (some (.int rv)) σ := by
  refine Rt.intro (L := [some (.ref (ad 82)), some (.int v1), none, none]) (by decide +kernel) (Nat.le_of_ble_eq_true rfl) rfl (fun θ hl X hq => ?_)
  subst hl
  unfold f_R_bitsOf at h
  refine G_iconst (pc := 0) 0 X (dg dt_R_bitsOf 0 rfl) (by decide) ?_
  refine G_istore_n (pc := 1) 2 X (dg dt_R_bitsOf 1 rfl) rfl (Nat.le_of_ble_eq_true rfl) rfl ?_
  refine G_iconst (pc := 2) 0 X (dg dt_R_bitsOf 2 rfl) (by decide) ?_
  refine G_istore_n (pc := 3) 3 X (dg dt_R_bitsOf 3 rfl) rfl (Nat.le_of_ble_eq_true rfl) rfl ?_
  refine G_weak (L' := [none, some (.int v1), some (.int 0), some (.int 0)]) ⟨rfl, ⟨rfl, ⟨rfl, trivial⟩⟩⟩ ?_
  refine s_R_bitsOf_L4  X hq  (fun v2_2 h => ?_) _ _ _ h
  refine G_iload_n (pc := 24) 2 X (dg dt_R_bitsOf 17 rfl) rfl rfl ?_
  exact G_iretp (pc := 25) X hq (dg dt_R_bitsOf 18 rfl) h
set_option maxRecDepth 100000 in
set_option maxHeartbeats 4000000 in
theorem s_R_fits_L5 {θ : Th} {ad : Nat → Nat}  {rv : Int32} (X : Cx θ [] cX12_fits 7 "QuasigroveModel" 0 0)
    {v1 : Int32} {v2 : Int32} {σ : St} (hq : Rq θ (g_SH, ad) (some .boolean) (some (.int rv)) σ) {kx96 : Int32 → Option Int32} (hkx96 : ∀ (v3 : Int32), kx96 v3 = some rv → G θ (0, 0) (g_SH, ad) σ 96 [none, none, none, some (.int v3), none, none, none] []) :
    ∀ (n : Nat) (v3 : Int32) (v4 : Int32), f_R_fits_L5 v1 v2 σ kx96 n v3 v4 = some rv → G θ (0, 0) (g_SH, ad) σ 5 [some (.ref (ad 82)), some (.int v1), some (.int v2), some (.int v3), some (.int v4), none, none] [] := by
  intro n
  induction n with
  | zero => intro v3 v4 h; rw [f_R_fits_L5] at h; cases h
  | succ n ih =>
    intro v3 v4 h
    rw [f_R_fits_L5] at h
    refine G_iload (pc := 5) X (dg dt_R_fits 4 rfl) rfl ?_
    refine G_aload_n (pc := 7) 0 X (dg dt_R_fits 5 rfl) rfl rfl ?_
    refine G_getI (pc := 8) 13 X (dg dt_R_fits 6 rfl) fc_8 w_1076 rfl (Nat.le_of_ble_eq_true rfl) sh_82 rfl ?_
    refine G_icmp_ge (pc := 11) 96 X (dg dt_R_fits 7 rfl) (by decide) h (fun h => ?_) (fun h => ?_)
    · exact G_wk (hkx96 v3 h) ⟨rfl, trivial⟩
    · refine G_iload_n (pc := 14) 1 X (dg dt_R_fits 8 rfl) rfl rfl ?_
      refine G_aload_n (pc := 15) 0 X (dg dt_R_fits 9 rfl) rfl rfl ?_
      refine G_getI (pc := 16) 13 X (dg dt_R_fits 10 rfl) fc_8 w_1076 rfl (Nat.le_of_ble_eq_true rfl) sh_82 rfl ?_
      refine G_idiv (pc := 19) X (dg dt_R_fits 11 rfl) h (fun q_1 h => ?_)
      refine G_aload_n (pc := 20) 0 X (dg dt_R_fits 12 rfl) rfl rfl ?_
      refine G_getI (pc := 21) 13 X (dg dt_R_fits 13 rfl) fc_8 w_1076 rfl (Nat.le_of_ble_eq_true rfl) sh_82 rfl ?_
      refine G_imul (pc := 24) X (dg dt_R_fits 14 rfl) ?_
      refine G_iload (pc := 25) X (dg dt_R_fits 15 rfl) rfl ?_
      refine G_iadd (pc := 27) X (dg dt_R_fits 16 rfl) ?_
      refine G_istore_lt (pc := 28) X (dg dt_R_fits 17 rfl) (Nat.le_of_ble_eq_true rfl) rfl h (fun v5_2 h => ?_)
      refine G_aload_n (pc := 30) 0 X (dg dt_R_fits 18 rfl) rfl rfl ?_
      refine G_getI (pc := 31) 13 X (dg dt_R_fits 19 rfl) fc_8 w_1076 rfl (Nat.le_of_ble_eq_true rfl) sh_82 rfl ?_
      refine G_iload (pc := 34) X (dg dt_R_fits 20 rfl) rfl ?_
      refine G_imul (pc := 36) X (dg dt_R_fits 21 rfl) ?_
      refine G_iload_n (pc := 37) 1 X (dg dt_R_fits 22 rfl) rfl rfl ?_
      refine G_aload_n (pc := 38) 0 X (dg dt_R_fits 23 rfl) rfl rfl ?_
      refine G_getI (pc := 39) 13 X (dg dt_R_fits 24 rfl) fc_8 w_1076 rfl (Nat.le_of_ble_eq_true rfl) sh_82 rfl ?_
      refine G_irem (pc := 42) X (dg dt_R_fits 25 rfl) h (fun q_3 h => ?_)
      refine G_iadd (pc := 43) X (dg dt_R_fits 26 rfl) ?_
      refine G_istore_lt (pc := 44) X (dg dt_R_fits 27 rfl) (Nat.le_of_ble_eq_true rfl) rfl h (fun v6_4 h => ?_)
      refine G_iload_n (pc := 46) 3 X (dg dt_R_fits 28 rfl) rfl rfl ?_
      refine jn_go (fun j89_5 => ∀ (s_6 : Int32), j89_5 s_6 = some rv → G θ (0, 0) (g_SH, ad) σ 89 [some (.ref (ad 82)), some (.int v1), some (.int v2), none, some (.int v4), none, none] [.int s_6]) h ?_ (fun j89_5 hj89_5 h => ?_)
      · intro s_6 h
        refine G_istore_n (pc := 89) 3 X (dg dt_R_fits 51 rfl) rfl (Nat.le_of_ble_eq_true rfl) rfl ?_
        refine G_iinc (pc := 90) (v4 + 1) X (dg dt_R_fits 52 rfl) rfl (Nat.le_of_ble_eq_true rfl) rfl rfl ?_
        refine G_goto (pc := 93) 5 X (dg dt_R_fits 53 rfl) (by decide) ?_
        exact G_wk (ih s_6 (v4 + 1) h) ⟨rfl, ⟨rfl, ⟨rfl, ⟨rfl, ⟨rfl, trivial⟩⟩⟩⟩⟩
      refine jn_go (fun j88_7 => j88_7 = some rv → G θ (0, 0) (g_SH, ad) σ 88 [some (.ref (ad 82)), some (.int v1), some (.int v2), none, some (.int v4), none, none] []) h ?_ (fun j88_7 hj88_7 h => ?_)
      · intro  h
        refine G_iconst (pc := 88) 0 X (dg dt_R_fits 50 rfl) (by decide) ?_
        exact G_wk (hj89_5 0 h) ⟨rfl, ⟨rfl, ⟨rfl, ⟨rfl, trivial⟩⟩⟩⟩
      refine G_if_eq (pc := 47) 88 X (dg dt_R_fits 29 rfl) (by decide) h (fun h => ?_) (fun h => ?_)
      · exact G_wk (hj88_7  h) ⟨rfl, ⟨rfl, ⟨rfl, ⟨rfl, trivial⟩⟩⟩⟩
      · refine G_iload (pc := 50) X (dg dt_R_fits 30 rfl) rfl ?_
        refine G_iload_n (pc := 52) 1 X (dg dt_R_fits 31 rfl) rfl rfl ?_
        refine jn_go (fun j67_8 => j67_8 = some rv → G θ (0, 0) (g_SH, ad) σ 67 [some (.ref (ad 82)), some (.int v1), some (.int v2), none, some (.int v4), none, some (.int v6_4)] []) h ?_ (fun j67_8 hj67_8 h => ?_)
        · intro  h
          refine G_iload (pc := 67) X (dg dt_R_fits 39 rfl) rfl ?_
          refine G_iload_n (pc := 69) 1 X (dg dt_R_fits 40 rfl) rfl rfl ?_
          refine jn_go (fun j84_9 => j84_9 = some rv → G θ (0, 0) (g_SH, ad) σ 84 [some (.ref (ad 82)), some (.int v1), some (.int v2), none, some (.int v4), none, none] []) h ?_ (fun j84_9 hj84_9 h => ?_)
          · intro  h
            refine G_iconst (pc := 84) 1 X (dg dt_R_fits 48 rfl) (by decide) ?_
            refine G_goto (pc := 85) 89 X (dg dt_R_fits 49 rfl) (by decide) ?_
            exact G_wk (hj89_5 1 h) ⟨rfl, ⟨rfl, ⟨rfl, ⟨rfl, trivial⟩⟩⟩⟩
          refine G_icmp_eq (pc := 70) 84 X (dg dt_R_fits 41 rfl) (by decide) h (fun h => ?_) (fun h => ?_)
          · exact G_wk (hj84_9  h) ⟨rfl, ⟨rfl, ⟨rfl, ⟨rfl, trivial⟩⟩⟩⟩
          · refine G_aload_n (pc := 73) 0 X (dg dt_R_fits 42 rfl) rfl rfl ?_
            refine G_getR (pc := 74) 14 X (dg dt_R_fits 43 rfl) fc_8 w_1077 rfl (Nat.le_of_ble_eq_true rfl) sh_82 rfl ?_
            refine G_iload (pc := 77) X (dg dt_R_fits 44 rfl) rfl ?_
            refine G_iald (pc := 79) X (dg dt_R_fits 45 rfl) sh_91 h (fun r_10 h => ?_)
            refine G_iload_n (pc := 80) 2 X (dg dt_R_fits 46 rfl) rfl rfl ?_
            refine G_icmp_eq (pc := 81) 88 X (dg dt_R_fits 47 rfl) (by decide) h (fun h => ?_) (fun h => ?_)
            · exact G_wk (hj88_7  h) ⟨rfl, ⟨rfl, ⟨rfl, ⟨rfl, trivial⟩⟩⟩⟩
            · exact G_wk (hj84_9  h) ⟨rfl, ⟨rfl, ⟨rfl, ⟨rfl, trivial⟩⟩⟩⟩
        refine G_icmp_eq (pc := 53) 67 X (dg dt_R_fits 32 rfl) (by decide) h (fun h => ?_) (fun h => ?_)
        · exact G_wk (hj67_8  h) ⟨rfl, ⟨rfl, ⟨rfl, ⟨rfl, ⟨rfl, trivial⟩⟩⟩⟩⟩
        · refine G_aload_n (pc := 56) 0 X (dg dt_R_fits 33 rfl) rfl rfl ?_
          refine G_getR (pc := 57) 14 X (dg dt_R_fits 34 rfl) fc_8 w_1077 rfl (Nat.le_of_ble_eq_true rfl) sh_82 rfl ?_
          refine G_iload (pc := 60) X (dg dt_R_fits 35 rfl) rfl ?_
          refine G_iald (pc := 62) X (dg dt_R_fits 36 rfl) sh_91 h (fun r_11 h => ?_)
          refine G_iload_n (pc := 63) 2 X (dg dt_R_fits 37 rfl) rfl rfl ?_
          refine G_icmp_eq (pc := 64) 88 X (dg dt_R_fits 38 rfl) (by decide) h (fun h => ?_) (fun h => ?_)
          · exact G_wk (hj88_7  h) ⟨rfl, ⟨rfl, ⟨rfl, ⟨rfl, trivial⟩⟩⟩⟩
          · exact G_wk (hj67_8  h) ⟨rfl, ⟨rfl, ⟨rfl, ⟨rfl, ⟨rfl, trivial⟩⟩⟩⟩⟩
set_option maxRecDepth 100000 in
set_option maxHeartbeats 4000000 in
theorem s_R_fits (l : Launch) (ad : Nat → Nat) (σ : St) (v1 : Int32) (v2 : Int32)  {rv : Int32} (h : f_R_fits σ v1 v2 = some rv) : Rt l [] yX12_fits cX12_fits 7 (some .boolean) 0 0 (g_SH, ad) [.ref (ad 82), .int v1, .int v2] σ (some (.int rv)) σ := by
  refine Rt.intro (L := [some (.ref (ad 82)), some (.int v1), some (.int v2), none, none, none, none]) (by decide +kernel) (Nat.le_of_ble_eq_true rfl) rfl (fun θ hl X hq => ?_)
  subst hl
  unfold f_R_fits at h
  refine G_iconst (pc := 0) 1 X (dg dt_R_fits 0 rfl) (by decide) ?_
  refine G_istore_n (pc := 1) 3 X (dg dt_R_fits 1 rfl) rfl (Nat.le_of_ble_eq_true rfl) rfl ?_
  refine G_iconst (pc := 2) 0 X (dg dt_R_fits 2 rfl) (by decide) ?_
  refine G_istore (pc := 3) X (dg dt_R_fits 3 rfl) (Nat.le_of_ble_eq_true rfl) rfl ?_
  refine G_weak (L' := [some (.ref (ad 82)), some (.int v1), some (.int v2), some (.int 1), some (.int 0), none, none]) ⟨rfl, ⟨rfl, ⟨rfl, ⟨rfl, ⟨rfl, trivial⟩⟩⟩⟩⟩ ?_
  refine s_R_fits_L5  X hq  (fun v3_12 h => ?_) _ _ _ h
  refine G_iload_n (pc := 96) 3 X (dg dt_R_fits 54 rfl) rfl rfl ?_
  exact G_zretp (pc := 97) X hq (dg dt_R_fits 55 rfl) h
set_option maxRecDepth 100000 in
set_option maxHeartbeats 4000000 in
theorem s_R_search_L95 {θ : Th} {ad : Nat → Nat}  {rv : Int32} {σe : St} (X : Cx θ [] cX12_search 6 "QuasigroveModel" 1 26)
    {v1 : Int32} {v2 : Int32} {v3 : Int32} {v4 : Int32} {σ : St} (hq : Rq θ (g_SH, ad) (some .int) (some (.int rv)) σe) {kx121 : Int32 → Option (Int32 × St)} (hkx121 : ∀ (v5 : Int32), kx121 v5 = some (rv, σe) → G θ (0, 0) (g_SH, ad) σ 121 [some (.ref (ad 82)), some (.int v1), some (.int v2), some (.int v3), some (.int v4), some (.int v5)] []) :
    ∀ (n : Nat) (v5 : Int32), f_R_search_L95 v1 v2 v3 v4 σ kx121 n v5 = some (rv, σe) → G θ (0, 0) (g_SH, ad) σ 95 [some (.ref (ad 82)), some (.int v1), some (.int v2), some (.int v3), some (.int v4), some (.int v5)] [] := by
  intro n
  induction n with
  | zero => intro v5 h; rw [f_R_search_L95] at h; cases h
  | succ n ih =>
    intro v5 h
    rw [f_R_search_L95] at h
    refine G_iload (pc := 95) X (dg dt_R_search 52 rfl) rfl ?_
    refine G_aload_n (pc := 97) 0 X (dg dt_R_search 53 rfl) rfl rfl ?_
    refine G_getI (pc := 98) 13 X (dg dt_R_search 54 rfl) fc_8 w_1076 rfl (Nat.le_of_ble_eq_true rfl) sh_82 rfl ?_
    refine G_icmp_ge (pc := 101) 121 X (dg dt_R_search 55 rfl) (by decide) h (fun h => ?_) (fun h => ?_)
    · exact G_wk (hkx121 v5 h) ⟨rfl, ⟨rfl, ⟨rfl, ⟨rfl, ⟨rfl, ⟨rfl, trivial⟩⟩⟩⟩⟩⟩
    · refine G_aload_n (pc := 104) 0 X (dg dt_R_search 56 rfl) rfl rfl ?_
      refine G_iload (pc := 105) X (dg dt_R_search 57 rfl) rfl ?_
      refine G_iload (pc := 107) X (dg dt_R_search 58 rfl) rfl ?_
      obtain ⟨r_8, hc_7, h⟩ := cap_go h
      refine G_callV (pc := 109) (S := []) [.int v4, .int v5] nosub X  (dg dt_R_search 59 rfl) cb_R_fits cv_R_fits w_1227 (s_R_fits _ ad _ _ _ hc_7) rfl ⟨Nat.le_of_ble_eq_true rfl, Nat.le_of_ble_eq_true rfl⟩ sh_82 rfl (Nat.le_of_ble_eq_true rfl) Rc0 ?_
      refine G_if_ne (pc := 112) 121 X (dg dt_R_search 60 rfl) (by decide) h (fun h => ?_) (fun h => ?_)
      · exact G_wk (hkx121 v5 h) ⟨rfl, ⟨rfl, ⟨rfl, ⟨rfl, ⟨rfl, ⟨rfl, trivial⟩⟩⟩⟩⟩⟩
      · refine G_iinc (pc := 115) (v5 + 1) X (dg dt_R_search 61 rfl) rfl (Nat.le_of_ble_eq_true rfl) rfl rfl ?_
        refine G_goto (pc := 118) 95 X (dg dt_R_search 62 rfl) (by decide) ?_
        exact G_wk (ih (v5 + 1) h) ⟨rfl, ⟨rfl, ⟨rfl, ⟨rfl, ⟨rfl, ⟨rfl, trivial⟩⟩⟩⟩⟩⟩
set_option maxRecDepth 100000 in
set_option maxHeartbeats 4000000 in
theorem s_R_search_L28 {θ : Th} {ad : Nat → Nat}  {rv : Int32} {σe : St} (X : Cx θ [] cX12_search 6 "QuasigroveModel" 1 26)
    {v1 : Int32} {v2 : Int32} {v3 : Int32} (hq : Rq θ (g_SH, ad) (some .int) (some (.int rv)) σe) {kx59 : St → Option (Int32 × St)} (hkx59 : ∀ (σ : St), kx59 σ = some (rv, σe) → G θ (0, 0) (g_SH, ad) σ 59 [some (.ref (ad 82)), some (.int v1), some (.int v2), some (.int v3), none, none] []) :
    ∀ (n : Nat) (v4 : Int32) (σ : St), f_R_search_L28 v1 v2 v3 kx59 n v4 σ = some (rv, σe) → G θ (0, 0) (g_SH, ad) σ 28 [some (.ref (ad 82)), some (.int v1), some (.int v2), some (.int v3), some (.int v4), none] [] := by
  intro n
  induction n with
  | zero => intro v4 σ h; rw [f_R_search_L28] at h; cases h
  | succ n ih =>
    intro v4 σ h
    rw [f_R_search_L28] at h
    refine G_iload (pc := 28) X (dg dt_R_search 17 rfl) rfl ?_
    refine G_bipush (pc := 30) 25 X (dg dt_R_search 18 rfl) (by decide) ?_
    refine G_icmp_ge (pc := 32) 59 X (dg dt_R_search 19 rfl) (by decide) h (fun h => ?_) (fun h => ?_)
    · exact G_wk (hkx59 σ h) ⟨rfl, ⟨rfl, ⟨rfl, ⟨rfl, trivial⟩⟩⟩⟩
    · refine G_iload_n (pc := 35) 2 X (dg dt_R_search 20 rfl) rfl rfl ?_
      refine G_if_ne (pc := 36) 59 X (dg dt_R_search 21 rfl) (by decide) h (fun h => ?_) (fun h => ?_)
      · exact G_wk (hkx59 σ h) ⟨rfl, ⟨rfl, ⟨rfl, ⟨rfl, trivial⟩⟩⟩⟩
      · refine G_aload_n (pc := 39) 0 X (dg dt_R_search 22 rfl) rfl rfl ?_
        refine G_getR (pc := 40) 17 X (dg dt_R_search 23 rfl) fc_8 w_1080 rfl (Nat.le_of_ble_eq_true rfl) sh_82 rfl ?_
        refine G_iload (pc := 43) X (dg dt_R_search 24 rfl) rfl ?_
        refine G_aload_n (pc := 45) 0 X (dg dt_R_search 25 rfl) rfl rfl ?_
        refine G_getR (pc := 46) 14 X (dg dt_R_search 26 rfl) fc_8 w_1077 rfl (Nat.le_of_ble_eq_true rfl) sh_82 rfl ?_
        refine G_iload (pc := 49) X (dg dt_R_search 27 rfl) rfl ?_
        refine G_iald (pc := 51) X (dg dt_R_search 28 rfl) sh_91 h (fun r_15 h => ?_)
        refine G_iast (pc := 52) X (dg dt_R_search 29 rfl) sh_93 h (fun σ_16 h => ?_)
        refine G_iinc (pc := 53) (v4 + 1) X (dg dt_R_search 30 rfl) rfl (Nat.le_of_ble_eq_true rfl) rfl rfl ?_
        refine G_goto (pc := 56) 28 X (dg dt_R_search 31 rfl) (by decide) ?_
        exact G_wk (ih (v4 + 1) σ_16 h) ⟨rfl, ⟨rfl, ⟨rfl, ⟨rfl, ⟨rfl, trivial⟩⟩⟩⟩⟩
set_option maxRecDepth 100000 in
set_option maxHeartbeats 4000000 in
theorem s_R_search_L8 {θ : Th} {ad : Nat → Nat}  {rv : Int32} {σe : St} (X : Cx θ [] cX12_search 6 "QuasigroveModel" 1 26)
    {v1 : Int32} (hq : Rq θ (g_SH, ad) (some .int) (some (.int rv)) σe) {kx163 : Int32 → St → Option (Int32 × St)} (hkx163 : ∀ (v2 : Int32) (σ : St), kx163 v2 σ = some (rv, σe) → G θ (0, 0) (g_SH, ad) σ 163 [none, none, some (.int v2), none, none, none] []) :
    ∀ (n : Nat) (v2 : Int32) (v3 : Int32) (σ : St), f_R_search_L8 v1 kx163 n v2 v3 σ = some (rv, σe) → G θ (0, 0) (g_SH, ad) σ 8 [some (.ref (ad 82)), some (.int v1), some (.int v2), some (.int v3), none, none] [] := by
  intro n
  induction n with
  | zero => intro v2 v3 σ h; rw [f_R_search_L8] at h; cases h
  | succ n ih =>
    intro v2 v3 σ h
    rw [f_R_search_L8] at h
    refine G_iload_n (pc := 8) 3 X (dg dt_R_search 6 rfl) rfl rfl ?_
    refine G_if_lt (pc := 9) 163 X (dg dt_R_search 7 rfl) (by decide) h (fun h => ?_) (fun h => ?_)
    · exact G_wk (hkx163 v2 σ h) ⟨rfl, trivial⟩
    · refine G_iload_n (pc := 12) 2 X (dg dt_R_search 8 rfl) rfl rfl ?_
      refine G_iload_n (pc := 13) 1 X (dg dt_R_search 9 rfl) rfl rfl ?_
      refine G_icmp_ge (pc := 14) 163 X (dg dt_R_search 10 rfl) (by decide) h (fun h => ?_) (fun h => ?_)
      · exact G_wk (hkx163 v2 σ h) ⟨rfl, trivial⟩
      · refine G_iload_n (pc := 17) 3 X (dg dt_R_search 11 rfl) rfl rfl ?_
        refine G_aload_n (pc := 18) 0 X (dg dt_R_search 12 rfl) rfl rfl ?_
        refine G_getI (pc := 19) 15 X (dg dt_R_search 13 rfl) fc_8 w_1078 rfl (Nat.le_of_ble_eq_true rfl) sh_82 rfl ?_
        refine G_icmp_ne (pc := 22) 68 X (dg dt_R_search 14 rfl) (by decide) h (fun h => ?_) (fun h => ?_)
        · refine G_aload_n (pc := 68) 0 X (dg dt_R_search 35 rfl) rfl rfl ?_
          refine G_getR (pc := 69) 16 X (dg dt_R_search 36 rfl) fc_8 w_1079 rfl (Nat.le_of_ble_eq_true rfl) sh_82 rfl ?_
          refine G_iload_n (pc := 72) 3 X (dg dt_R_search 37 rfl) rfl rfl ?_
          refine G_iald (pc := 73) X (dg dt_R_search 38 rfl) sh_92 h (fun r_4 h => ?_)
          refine G_istore (pc := 74) X (dg dt_R_search 39 rfl) (Nat.le_of_ble_eq_true rfl) rfl ?_
          refine G_aload_n (pc := 76) 0 X (dg dt_R_search 40 rfl) rfl rfl ?_
          refine G_getR (pc := 77) 14 X (dg dt_R_search 41 rfl) fc_8 w_1077 rfl (Nat.le_of_ble_eq_true rfl) sh_82 rfl ?_
          refine G_iload (pc := 80) X (dg dt_R_search 42 rfl) rfl ?_
          refine G_iald (pc := 82) X (dg dt_R_search 43 rfl) sh_91 h (fun r_5 h => ?_)
          refine G_iconst (pc := 83) 1 X (dg dt_R_search 44 rfl) (by decide) ?_
          refine G_iadd (pc := 84) X (dg dt_R_search 45 rfl) ?_
          refine G_istore (pc := 85) X (dg dt_R_search 46 rfl) (Nat.le_of_ble_eq_true rfl) rfl ?_
          refine G_aload_n (pc := 87) 0 X (dg dt_R_search 47 rfl) rfl rfl ?_
          refine G_getR (pc := 88) 14 X (dg dt_R_search 48 rfl) fc_8 w_1077 rfl (Nat.le_of_ble_eq_true rfl) sh_82 rfl ?_
          refine G_iload (pc := 91) X (dg dt_R_search 49 rfl) rfl ?_
          refine G_iconst (pc := 93) (-1) X (dg dt_R_search 50 rfl) (by decide) ?_
          refine G_iast (pc := 94) X (dg dt_R_search 51 rfl) sh_91 h (fun σ_6 h => ?_)
          refine G_weak (L' := [some (.ref (ad 82)), some (.int v1), some (.int v2), some (.int v3), some (.int r_4), some (.int (r_5 + 1))]) ⟨rfl, ⟨rfl, ⟨rfl, ⟨rfl, ⟨rfl, ⟨rfl, trivial⟩⟩⟩⟩⟩⟩ ?_
          refine s_R_search_L95  X hq  (fun v5_9 h => ?_) _ _ h
          refine G_aload_n (pc := 121) 0 X (dg dt_R_search 63 rfl) rfl rfl ?_
          refine G_getR (pc := 122) 14 X (dg dt_R_search 64 rfl) fc_8 w_1077 rfl (Nat.le_of_ble_eq_true rfl) sh_82 rfl ?_
          refine G_iload (pc := 125) X (dg dt_R_search 65 rfl) rfl ?_
          refine G_iload (pc := 127) X (dg dt_R_search 66 rfl) rfl ?_
          refine G_aload_n (pc := 129) 0 X (dg dt_R_search 67 rfl) rfl rfl ?_
          refine G_getI (pc := 130) 13 X (dg dt_R_search 68 rfl) fc_8 w_1076 rfl (Nat.le_of_ble_eq_true rfl) sh_82 rfl ?_
          refine jn_go (fun j142_10 => ∀ (s_11 : Int32), j142_10 s_11 = some (rv, σe) → G θ (0, 0) (g_SH, ad) σ_6 142 [some (.ref (ad 82)), some (.int v1), some (.int v2), some (.int v3), none, some (.int v5_9)] [.int s_11, .int r_4, .ref (ad 91)]) h ?_ (fun j142_10 hj142_10 h => ?_)
          · intro s_11 h
            refine G_iast (pc := 142) X (dg dt_R_search 73 rfl) sh_91 h (fun σ_12 h => ?_)
            refine G_iload_n (pc := 143) 3 X (dg dt_R_search 74 rfl) rfl rfl ?_
            refine G_iload (pc := 144) X (dg dt_R_search 75 rfl) rfl ?_
            refine G_aload_n (pc := 146) 0 X (dg dt_R_search 76 rfl) rfl rfl ?_
            refine G_getI (pc := 147) 13 X (dg dt_R_search 77 rfl) fc_8 w_1076 rfl (Nat.le_of_ble_eq_true rfl) sh_82 rfl ?_
            refine jn_go (fun j158_13 => ∀ (s_14 : Int32), j158_13 s_14 = some (rv, σe) → G θ (0, 0) (g_SH, ad) σ_12 158 [some (.ref (ad 82)), some (.int v1), some (.int v2), none, none, none] [.int s_14, .int v3]) h ?_ (fun j158_13 hj158_13 h => ?_)
            · intro s_14 h
              refine G_iadd (pc := 158) X (dg dt_R_search 82 rfl) ?_
              refine G_istore_n (pc := 159) 3 X (dg dt_R_search 83 rfl) rfl (Nat.le_of_ble_eq_true rfl) rfl ?_
              refine G_goto (pc := 160) 8 X (dg dt_R_search 84 rfl) (by decide) ?_
              exact G_wk (ih v2 (v3 + s_14) σ_12 h) ⟨rfl, ⟨rfl, ⟨rfl, ⟨rfl, trivial⟩⟩⟩⟩
            refine G_icmp_ge (pc := 150) 157 X (dg dt_R_search 78 rfl) (by decide) h (fun h => ?_) (fun h => ?_)
            · refine G_iconst (pc := 157) (-1) X (dg dt_R_search 81 rfl) (by decide) ?_
              exact G_wk (hj158_13 (-1) h) ⟨rfl, ⟨rfl, ⟨rfl, trivial⟩⟩⟩
            · refine G_iconst (pc := 153) 1 X (dg dt_R_search 79 rfl) (by decide) ?_
              refine G_goto (pc := 154) 158 X (dg dt_R_search 80 rfl) (by decide) ?_
              exact G_wk (hj158_13 1 h) ⟨rfl, ⟨rfl, ⟨rfl, trivial⟩⟩⟩
          refine G_icmp_ge (pc := 133) 141 X (dg dt_R_search 69 rfl) (by decide) h (fun h => ?_) (fun h => ?_)
          · refine G_iconst (pc := 141) (-1) X (dg dt_R_search 72 rfl) (by decide) ?_
            exact G_wk (hj142_10 (-1) h) ⟨rfl, ⟨rfl, ⟨rfl, ⟨rfl, ⟨rfl, trivial⟩⟩⟩⟩⟩
          · refine G_iload (pc := 136) X (dg dt_R_search 70 rfl) rfl ?_
            refine G_goto (pc := 138) 142 X (dg dt_R_search 71 rfl) (by decide) ?_
            exact G_wk (hj142_10 v5_9 h) ⟨rfl, ⟨rfl, ⟨rfl, ⟨rfl, ⟨rfl, trivial⟩⟩⟩⟩⟩
        · refine G_iconst (pc := 25) 0 X (dg dt_R_search 15 rfl) (by decide) ?_
          refine G_istore (pc := 26) X (dg dt_R_search 16 rfl) (Nat.le_of_ble_eq_true rfl) rfl ?_
          refine G_weak (L' := [some (.ref (ad 82)), some (.int v1), some (.int v2), some (.int v3), some (.int 0), none]) ⟨rfl, ⟨rfl, ⟨rfl, ⟨rfl, ⟨rfl, trivial⟩⟩⟩⟩⟩ ?_
          refine s_R_search_L28  X hq  (fun σ_17 h => ?_) _ _ _ h
          refine G_iinc (pc := 59) (v2 + 1) X (dg dt_R_search 32 rfl) rfl (Nat.le_of_ble_eq_true rfl) rfl rfl ?_
          refine G_iinc (pc := 62) (v3 + (-1)) X (dg dt_R_search 33 rfl) rfl (Nat.le_of_ble_eq_true rfl) rfl rfl ?_
          refine G_goto (pc := 65) 8 X (dg dt_R_search 34 rfl) (by decide) ?_
          exact G_wk (ih (v2 + 1) (v3 + (-1)) σ_17 h) ⟨rfl, ⟨rfl, ⟨rfl, ⟨rfl, trivial⟩⟩⟩⟩
set_option maxRecDepth 100000 in
set_option maxHeartbeats 4000000 in
theorem s_R_search (l : Launch) (ad : Nat → Nat) (σ : St) (v1 : Int32)  {rv : Int32} {σe : St} (h : f_R_search σ v1 = some (rv, σe)) : Rt l [] yX12_search cX12_search 6 (some .int) 1 26 (g_SH, ad) [.ref (ad 82), .int v1] σ (some (.int rv)) σe := by
  refine Rt.intro (L := [some (.ref (ad 82)), some (.int v1), none, none, none, none]) (by decide +kernel) (Nat.le_of_ble_eq_true rfl) rfl (fun θ hl X hq => ?_)
  subst hl
  unfold f_R_search at h
  refine G_aload_n (pc := 0) 0 X (dg dt_R_search 0 rfl) rfl rfl ?_
  obtain ⟨r_2, σ_3, hc_1, h⟩ := cal_go h
  refine G_callV (pc := 1) (S := []) [] nosub X  (dg dt_R_search 1 rfl) cb_R_layEmpties cv_R_layEmpties w_1271 (s_R_layEmpties _ ad _ hc_1) rfl ⟨Nat.le_of_ble_eq_true rfl, Nat.le_of_ble_eq_true rfl⟩ sh_82 rfl (Nat.le_of_ble_eq_true rfl) Rc0 ?_
  refine G_iconst (pc := 4) 0 X (dg dt_R_search 2 rfl) (by decide) ?_
  refine G_istore_n (pc := 5) 2 X (dg dt_R_search 3 rfl) rfl (Nat.le_of_ble_eq_true rfl) rfl ?_
  refine G_iconst (pc := 6) 0 X (dg dt_R_search 4 rfl) (by decide) ?_
  refine G_istore_n (pc := 7) 3 X (dg dt_R_search 5 rfl) rfl (Nat.le_of_ble_eq_true rfl) rfl ?_
  refine G_weak (L' := [some (.ref (ad 82)), some (.int v1), some (.int 0), some (.int 0), none, none]) ⟨rfl, ⟨rfl, ⟨rfl, ⟨rfl, trivial⟩⟩⟩⟩ ?_
  refine s_R_search_L8  X hq  (fun v2_18 σ_19 h => ?_) _ _ _ _ h
  refine G_iload_n (pc := 163) 2 X (dg dt_R_search 85 rfl) rfl rfl ?_
  exact G_iret (pc := 164) X hq (dg dt_R_search 86 rfl) h
set_option maxRecDepth 100000 in
set_option maxHeartbeats 4000000 in
theorem s_R_critical_L110 {θ : Th} {ad : Nat → Nat}  {rv : Int32} {σe : St} (X : Cx θ [] cX12_critical 6 "QuasigroveModel" 2 51)
    {v1 : Int32} {v2 : Int32} {v3 : Int32} {v4 : Int32} (hq : Rq θ (g_SH, ad) (some .int) (some (.int rv)) σe) {kx151 : St → Option (Int32 × St)} (hkx151 : ∀ (σ : St), kx151 σ = some (rv, σe) → G θ (0, 0) (g_SH, ad) σ 151 [some (.ref (ad 82)), some (.int v1), some (.int v2), some (.int v3), some (.int v4), none] []) :
    ∀ (n : Nat) (v5 : Int32) (σ : St), f_R_critical_L110 v1 v2 v3 v4 kx151 n v5 σ = some (rv, σe) → G θ (0, 0) (g_SH, ad) σ 110 [some (.ref (ad 82)), some (.int v1), some (.int v2), some (.int v3), some (.int v4), some (.int v5)] [] := by
  intro n
  induction n with
  | zero => intro v5 σ h; rw [f_R_critical_L110] at h; cases h
  | succ n ih =>
    intro v5 σ h
    rw [f_R_critical_L110] at h
    refine G_iload (pc := 110) X (dg dt_R_critical 64 rfl) rfl ?_
    refine G_iload_n (pc := 112) 2 X (dg dt_R_critical 65 rfl) rfl rfl ?_
    refine G_icmp_ge (pc := 113) 151 X (dg dt_R_critical 66 rfl) (by decide) h (fun h => ?_) (fun h => ?_)
    · exact G_wk (hkx151 σ h) ⟨rfl, ⟨rfl, ⟨rfl, ⟨rfl, ⟨rfl, trivial⟩⟩⟩⟩⟩
    · refine G_aload_n (pc := 116) 0 X (dg dt_R_critical 67 rfl) rfl rfl ?_
      refine G_getR (pc := 117) 14 X (dg dt_R_critical 68 rfl) fc_8 w_1077 rfl (Nat.le_of_ble_eq_true rfl) sh_82 rfl ?_
      refine G_iload (pc := 120) X (dg dt_R_critical 69 rfl) rfl ?_
      refine G_iload (pc := 122) X (dg dt_R_critical 70 rfl) rfl ?_
      refine G_iload (pc := 124) X (dg dt_R_critical 71 rfl) rfl ?_
      refine G_ishr (pc := 126) X (dg dt_R_critical 72 rfl) ?_
      refine G_iconst (pc := 127) 1 X (dg dt_R_critical 73 rfl) (by decide) ?_
      refine G_iand (pc := 128) X (dg dt_R_critical 74 rfl) ?_
      refine G_iconst (pc := 129) 1 X (dg dt_R_critical 75 rfl) (by decide) ?_
      refine jn_go (fun j144_17 => ∀ (s_18 : Int32), j144_17 s_18 = some (rv, σe) → G θ (0, 0) (g_SH, ad) σ 144 [some (.ref (ad 82)), some (.int v1), some (.int v2), some (.int v3), some (.int v4), some (.int v5)] [.int s_18, .int v5, .ref (ad 91)]) h ?_ (fun j144_17 hj144_17 h => ?_)
      · intro s_18 h
        refine G_iast (pc := 144) X (dg dt_R_critical 83 rfl) sh_91 h (fun σ_19 h => ?_)
        refine G_iinc (pc := 145) (v5 + 1) X (dg dt_R_critical 84 rfl) rfl (Nat.le_of_ble_eq_true rfl) rfl rfl ?_
        refine G_goto (pc := 148) 110 X (dg dt_R_critical 85 rfl) (by decide) ?_
        exact G_wk (ih (v5 + 1) σ_19 h) ⟨rfl, ⟨rfl, ⟨rfl, ⟨rfl, ⟨rfl, ⟨rfl, trivial⟩⟩⟩⟩⟩⟩
      refine G_icmp_ne (pc := 130) 143 X (dg dt_R_critical 76 rfl) (by decide) h (fun h => ?_) (fun h => ?_)
      · refine G_iconst (pc := 143) (-1) X (dg dt_R_critical 82 rfl) (by decide) ?_
        exact G_wk (hj144_17 (-1) h) ⟨rfl, ⟨rfl, ⟨rfl, ⟨rfl, ⟨rfl, ⟨rfl, trivial⟩⟩⟩⟩⟩⟩
      · refine G_aload_n (pc := 133) 0 X (dg dt_R_critical 77 rfl) rfl rfl ?_
        refine G_getR (pc := 134) 14 X (dg dt_R_critical 78 rfl) fc_8 w_1077 rfl (Nat.le_of_ble_eq_true rfl) sh_82 rfl ?_
        refine G_iload (pc := 137) X (dg dt_R_critical 79 rfl) rfl ?_
        refine G_iald (pc := 139) X (dg dt_R_critical 80 rfl) sh_91 h (fun r_20 h => ?_)
        refine G_goto (pc := 140) 144 X (dg dt_R_critical 81 rfl) (by decide) ?_
        exact G_wk (hj144_17 r_20 h) ⟨rfl, ⟨rfl, ⟨rfl, ⟨rfl, ⟨rfl, ⟨rfl, trivial⟩⟩⟩⟩⟩⟩
set_option maxRecDepth 100000 in
set_option maxHeartbeats 4000000 in
theorem s_R_critical_L84 {θ : Th} {ad : Nat → Nat}  {rv : Int32} {σe : St} (X : Cx θ [] cX12_critical 6 "QuasigroveModel" 2 51)
    {v1 : Int32} {v2 : Int32} {v3 : Int32} (hq : Rq θ (g_SH, ad) (some .int) (some (.int rv)) σe) {kx160 : St → Option (Int32 × St)} (hkx160 : ∀ (σ : St), kx160 σ = some (rv, σe) → G θ (0, 0) (g_SH, ad) σ 160 [none, none, none, some (.int v3), none, none] []) {kx168 : St → Option (Int32 × St)} (hkx168 : ∀ (σ : St), kx168 σ = some (rv, σe) → G θ (0, 0) (g_SH, ad) σ 168 [some (.ref (ad 82)), some (.int v1), some (.int v2), some (.int v3), none, none] []) :
    ∀ (n : Nat) (v4 : Int32) (σ : St), f_R_critical_L84 v1 v2 v3 kx160 kx168 n v4 σ = some (rv, σe) → G θ (0, 0) (g_SH, ad) σ 84 [some (.ref (ad 82)), some (.int v1), some (.int v2), some (.int v3), some (.int v4), none] [] := by
  intro n
  induction n with
  | zero => intro v4 σ h; rw [f_R_critical_L84] at h; cases h
  | succ n ih =>
    intro v4 σ h
    rw [f_R_critical_L84] at h
    refine G_iload (pc := 84) X (dg dt_R_critical 49 rfl) rfl ?_
    refine G_iconst (pc := 86) 1 X (dg dt_R_critical 50 rfl) (by decide) ?_
    refine G_iload_n (pc := 87) 2 X (dg dt_R_critical 51 rfl) rfl rfl ?_
    refine G_ishl (pc := 88) X (dg dt_R_critical 52 rfl) ?_
    refine G_icmp_ge (pc := 89) 168 X (dg dt_R_critical 53 rfl) (by decide) h (fun h => ?_) (fun h => ?_)
    · exact G_wk (hkx168 σ h) ⟨rfl, ⟨rfl, ⟨rfl, ⟨rfl, trivial⟩⟩⟩⟩
    · refine G_aload_n (pc := 92) 0 X (dg dt_R_critical 54 rfl) rfl rfl ?_
      refine G_iload (pc := 93) X (dg dt_R_critical 55 rfl) rfl ?_
      obtain ⟨r_11, hc_10, h⟩ := cap_go h
      refine G_callV (pc := 95) (S := []) [.int v4] nosub X  (dg dt_R_critical 56 rfl) cb_R_bitsOf cv_R_bitsOf w_1303 (s_R_bitsOf _ ad _ _ hc_10) rfl ⟨Nat.le_of_ble_eq_true rfl, Nat.le_of_ble_eq_true rfl⟩ sh_82 rfl (Nat.le_of_ble_eq_true rfl) Rc0 ?_
      refine G_iload_n (pc := 98) 3 X (dg dt_R_critical 57 rfl) rfl rfl ?_
      refine jn_go (fun j162_12 => ∀ (σ_13 : St), j162_12 σ_13 = some (rv, σe) → G θ (0, 0) (g_SH, ad) σ_13 162 [some (.ref (ad 82)), some (.int v1), some (.int v2), some (.int v3), some (.int v4), none] []) h ?_ (fun j162_12 hj162_12 h => ?_)
      · intro σ_13 h
        refine G_iinc (pc := 162) (v4 + 1) X (dg dt_R_critical 93 rfl) rfl (Nat.le_of_ble_eq_true rfl) rfl rfl ?_
        refine G_goto (pc := 165) 84 X (dg dt_R_critical 94 rfl) (by decide) ?_
        exact G_wk (ih (v4 + 1) σ_13 h) ⟨rfl, ⟨rfl, ⟨rfl, ⟨rfl, ⟨rfl, trivial⟩⟩⟩⟩⟩
      refine G_icmp_ne (pc := 99) 162 X (dg dt_R_critical 58 rfl) (by decide) h (fun h => ?_) (fun h => ?_)
      · exact G_wk (hj162_12 σ h) ⟨rfl, ⟨rfl, ⟨rfl, ⟨rfl, ⟨rfl, trivial⟩⟩⟩⟩⟩
      · refine G_aload_n (pc := 102) 0 X (dg dt_R_critical 59 rfl) rfl rfl ?_
        refine G_iload_n (pc := 103) 1 X (dg dt_R_critical 60 rfl) rfl rfl ?_
        obtain ⟨r_15, σ_16, hc_14, h⟩ := cal_go h
        refine G_callV (pc := 104) (S := []) [.int v1] nosub X  (dg dt_R_critical 61 rfl) cb_R_copyToWork cv_R_copyToWork w_1219 (s_R_copyToWork _ ad _ _ hc_14) rfl ⟨Nat.le_of_ble_eq_true rfl, Nat.le_of_ble_eq_true rfl⟩ sh_82 rfl (Nat.le_of_ble_eq_true rfl) Rc0 ?_
        refine G_iconst (pc := 107) 0 X (dg dt_R_critical 62 rfl) (by decide) ?_
        refine G_istore (pc := 108) X (dg dt_R_critical 63 rfl) (Nat.le_of_ble_eq_true rfl) rfl ?_
        refine G_weak (L' := [some (.ref (ad 82)), some (.int v1), some (.int v2), some (.int v3), some (.int v4), some (.int 0)]) ⟨rfl, ⟨rfl, ⟨rfl, ⟨rfl, ⟨rfl, ⟨rfl, trivial⟩⟩⟩⟩⟩⟩ ?_
        refine s_R_critical_L110  X hq  (fun σ_21 h => ?_) _ _ _ h
        refine G_aload_n (pc := 151) 0 X (dg dt_R_critical 86 rfl) rfl rfl ?_
        refine G_iconst (pc := 152) 2 X (dg dt_R_critical 87 rfl) (by decide) ?_
        obtain ⟨r_23, σ_24, hc_22, h⟩ := cal_go h
        refine G_callV (pc := 153) (S := []) [.int 2] nosub X  (dg dt_R_critical 88 rfl) cb_R_search cv_R_search w_1267 (s_R_search _ ad _ _ hc_22) rfl ⟨Nat.le_of_ble_eq_true rfl, Nat.le_of_ble_eq_true rfl⟩ sh_82 rfl (Nat.le_of_ble_eq_true rfl) Rc0 ?_
        refine G_iconst (pc := 156) 1 X (dg dt_R_critical 89 rfl) (by decide) ?_
        refine G_icmp_ne (pc := 157) 162 X (dg dt_R_critical 90 rfl) (by decide) h (fun h => ?_) (fun h => ?_)
        · exact G_wk (hj162_12 σ_24 h) ⟨rfl, ⟨rfl, ⟨rfl, ⟨rfl, ⟨rfl, trivial⟩⟩⟩⟩⟩
        · exact G_wk (hkx160 σ_24 h) ⟨rfl, trivial⟩
set_option maxRecDepth 100000 in
set_option maxHeartbeats 4000000 in
theorem s_R_critical_L76 {θ : Th} {ad : Nat → Nat}  {rv : Int32} {σe : St} (X : Cx θ [] cX12_critical 6 "QuasigroveModel" 2 51)
    {v1 : Int32} {v2 : Int32} (hq : Rq θ (g_SH, ad) (some .int) (some (.int rv)) σe) {kx160 : Int32 → St → Option (Int32 × St)} (hkx160 : ∀ (v3 : Int32) (σ : St), kx160 v3 σ = some (rv, σe) → G θ (0, 0) (g_SH, ad) σ 160 [none, none, none, some (.int v3), none, none] []) {kx174 : St → Option (Int32 × St)} (hkx174 : ∀ (σ : St), kx174 σ = some (rv, σe) → G θ (0, 0) (g_SH, ad) σ 174 [none, none, some (.int v2), none, none, none] []) :
    ∀ (n : Nat) (v3 : Int32) (σ : St), f_R_critical_L76 v1 v2 kx160 kx174 n v3 σ = some (rv, σe) → G θ (0, 0) (g_SH, ad) σ 76 [some (.ref (ad 82)), some (.int v1), some (.int v2), some (.int v3), none, none] [] := by
  intro n
  induction n with
  | zero => intro v3 σ h; rw [f_R_critical_L76] at h; cases h
  | succ n ih =>
    intro v3 σ h
    rw [f_R_critical_L76] at h
    refine G_iload_n (pc := 76) 3 X (dg dt_R_critical 44 rfl) rfl rfl ?_
    refine G_iload_n (pc := 77) 2 X (dg dt_R_critical 45 rfl) rfl rfl ?_
    refine G_icmp_ge (pc := 78) 174 X (dg dt_R_critical 46 rfl) (by decide) h (fun h => ?_) (fun h => ?_)
    · exact G_wk (hkx174 σ h) ⟨rfl, trivial⟩
    · refine G_iconst (pc := 81) 0 X (dg dt_R_critical 47 rfl) (by decide) ?_
      refine G_istore (pc := 82) X (dg dt_R_critical 48 rfl) (Nat.le_of_ble_eq_true rfl) rfl ?_
      refine G_weak (L' := [some (.ref (ad 82)), some (.int v1), some (.int v2), some (.int v3), some (.int 0), none]) ⟨rfl, ⟨rfl, ⟨rfl, ⟨rfl, ⟨rfl, trivial⟩⟩⟩⟩⟩ ?_
      refine s_R_critical_L84  X hq  (fun σ_25 h => ?_) (fun σ_26 h => ?_) _ _ _ h
      · exact G_wk (hkx160 v3 σ_25 h) ⟨rfl, trivial⟩
      · refine G_iinc (pc := 168) (v3 + 1) X (dg dt_R_critical 95 rfl) rfl (Nat.le_of_ble_eq_true rfl) rfl rfl ?_
        refine G_goto (pc := 171) 76 X (dg dt_R_critical 96 rfl) (by decide) ?_
        exact G_wk (ih (v3 + 1) σ_26 h) ⟨rfl, ⟨rfl, ⟨rfl, ⟨rfl, trivial⟩⟩⟩⟩
set_option maxRecDepth 100000 in
set_option maxHeartbeats 4000000 in
theorem s_R_critical (l : Launch) (ad : Nat → Nat) (σ : St) (v1 : Int32)  {rv : Int32} {σe : St} (h : f_R_critical σ v1 = some (rv, σe)) : Rt l [] yX12_critical cX12_critical 6 (some .int) 2 51 (g_SH, ad) [.ref (ad 82), .int v1] σ (some (.int rv)) σe := by
  refine Rt.intro (L := [some (.ref (ad 82)), some (.int v1), none, none, none, none]) (by decide +kernel) (Nat.le_of_ble_eq_true rfl) rfl (fun θ hl X hq => ?_)
  subst hl
  unfold f_R_critical at h
  refine G_aload_n (pc := 0) 0 X (dg dt_R_critical 0 rfl) rfl rfl ?_
  refine G_aload_n (pc := 1) 0 X (dg dt_R_critical 1 rfl) rfl rfl ?_
  refine G_iload_n (pc := 2) 1 X (dg dt_R_critical 2 rfl) rfl rfl ?_
  obtain ⟨r_2, hc_1, h⟩ := cap_go h
  refine G_callV (pc := 3) (S := [.ref (ad 82)]) [.int v1] nosub X  (dg dt_R_critical 3 rfl) cb_R_isGrid cv_R_isGrid w_1183 (s_R_isGrid _ ad _ _ hc_1) rfl ⟨Nat.le_of_ble_eq_true rfl, Nat.le_of_ble_eq_true rfl⟩ sh_82 rfl (Nat.le_of_ble_eq_true rfl) Rc0 ?_
  refine jn_go (fun j14_3 => ∀ (s_4 : Int32), j14_3 s_4 = some (rv, σe) → G θ (0, 0) (g_SH, ad) σ 14 [some (.ref (ad 82)), some (.int v1), none, none, none, none] [.int s_4, .ref (ad 82)]) h ?_ (fun j14_3 hj14_3 h => ?_)
  · intro s_4 h
    refine G_put (pc := 14) 0 X (dg dt_R_critical 8 rfl) fc_8 w_1063 rfl (Nat.le_of_ble_eq_true rfl) rfl rfl sh_82 rfl h (fun σ_5 h => ?_)
    refine G_aload_n (pc := 17) 0 X (dg dt_R_critical 9 rfl) rfl rfl ?_
    refine G_getI (pc := 18) 0 X (dg dt_R_critical 10 rfl) fc_8 w_1063 rfl (Nat.le_of_ble_eq_true rfl) sh_82 rfl ?_
    refine jn_go (fun j51_6 => ∀ (σ_7 : St), j51_6 σ_7 = some (rv, σe) → G θ (0, 0) (g_SH, ad) σ_7 51 [some (.ref (ad 82)), some (.int v1), none, none, none, none] []) h ?_ (fun j51_6 hj51_6 h => ?_)
    · intro σ_7 h
      refine G_aload_n (pc := 51) 0 X (dg dt_R_critical 27 rfl) rfl rfl ?_
      refine G_getI (pc := 52) 0 X (dg dt_R_critical 28 rfl) fc_8 w_1063 rfl (Nat.le_of_ble_eq_true rfl) sh_82 rfl ?_
      refine G_if_le (pc := 55) 60 X (dg dt_R_critical 29 rfl) (by decide) h (fun h => ?_) (fun h => ?_)
      · refine G_aload_n (pc := 60) 0 X (dg dt_R_critical 32 rfl) rfl rfl ?_
        refine G_getR (pc := 61) 2 X (dg dt_R_critical 33 rfl) fc_8 w_1065 rfl (Nat.le_of_ble_eq_true rfl) sh_82 rfl ?_
        refine G_iload_n (pc := 64) 1 X (dg dt_R_critical 34 rfl) rfl rfl ?_
        refine G_iald (pc := 65) X (dg dt_R_critical 35 rfl) sh_83 h (fun r_8 h => ?_)
        refine G_aload_n (pc := 66) 0 X (dg dt_R_critical 36 rfl) rfl rfl ?_
        refine G_getR (pc := 67) 2 X (dg dt_R_critical 37 rfl) fc_8 w_1065 rfl (Nat.le_of_ble_eq_true rfl) sh_82 rfl ?_
        refine G_iload_n (pc := 70) 1 X (dg dt_R_critical 38 rfl) rfl rfl ?_
        refine G_iald (pc := 71) X (dg dt_R_critical 39 rfl) sh_83 h (fun r_9 h => ?_)
        refine G_imul (pc := 72) X (dg dt_R_critical 40 rfl) ?_
        refine G_istore_n (pc := 73) 2 X (dg dt_R_critical 41 rfl) rfl (Nat.le_of_ble_eq_true rfl) rfl ?_
        refine G_iconst (pc := 74) 0 X (dg dt_R_critical 42 rfl) (by decide) ?_
        refine G_istore_n (pc := 75) 3 X (dg dt_R_critical 43 rfl) rfl (Nat.le_of_ble_eq_true rfl) rfl ?_
        refine G_weak (L' := [some (.ref (ad 82)), some (.int v1), some (.int (r_8 * r_9)), some (.int 0), none, none]) ⟨rfl, ⟨rfl, ⟨rfl, ⟨rfl, trivial⟩⟩⟩⟩ ?_
        refine s_R_critical_L76  X hq  (fun v3_27 σ_28 h => ?_) (fun σ_29 h => ?_) _ _ _ h
        · refine G_iload_n (pc := 160) 3 X (dg dt_R_critical 91 rfl) rfl rfl ?_
          exact G_iret (pc := 161) X hq (dg dt_R_critical 92 rfl) h
        · refine G_iload_n (pc := 174) 2 X (dg dt_R_critical 97 rfl) rfl rfl ?_
          exact G_iret (pc := 175) X hq (dg dt_R_critical 98 rfl) h
      · refine G_iconst (pc := 58) 0 X (dg dt_R_critical 30 rfl) (by decide) ?_
        exact G_iret (pc := 59) X hq (dg dt_R_critical 31 rfl) h
    refine G_if_ne (pc := 21) 51 X (dg dt_R_critical 11 rfl) (by decide) h (fun h => ?_) (fun h => ?_)
    · exact G_wk (hj51_6 σ_5 h) ⟨rfl, ⟨rfl, trivial⟩⟩
    · refine G_aload_n (pc := 24) 0 X (dg dt_R_critical 12 rfl) rfl rfl ?_
      refine G_aload_n (pc := 25) 0 X (dg dt_R_critical 13 rfl) rfl rfl ?_
      refine G_iload_n (pc := 26) 1 X (dg dt_R_critical 14 rfl) rfl rfl ?_
      obtain ⟨r_31, hc_30, h⟩ := cap_go h
      refine G_callV (pc := 27) (S := [.ref (ad 82)]) [.int v1] nosub X  (dg dt_R_critical 15 rfl) cb_R_isSquare cv_R_isSquare w_1247 (s_R_isSquare _ ad _ _ hc_30) rfl ⟨Nat.le_of_ble_eq_true rfl, Nat.le_of_ble_eq_true rfl⟩ sh_82 rfl (Nat.le_of_ble_eq_true rfl) Rc0 ?_
      refine jn_go (fun j48_32 => ∀ (s_33 : Int32), j48_32 s_33 = some (rv, σe) → G θ (0, 0) (g_SH, ad) σ_5 48 [some (.ref (ad 82)), some (.int v1), none, none, none, none] [.int s_33, .ref (ad 82)]) h ?_ (fun j48_32 hj48_32 h => ?_)
      · intro s_33 h
        refine G_put (pc := 48) 0 X (dg dt_R_critical 26 rfl) fc_8 w_1063 rfl (Nat.le_of_ble_eq_true rfl) rfl rfl sh_82 rfl h (fun σ_34 h => ?_)
        exact G_wk (hj51_6 σ_34 h) ⟨rfl, ⟨rfl, trivial⟩⟩
      refine jn_go (fun j43_35 => j43_35 = some (rv, σe) → G θ (0, 0) (g_SH, ad) σ_5 43 [some (.ref (ad 82)), some (.int v1), none, none, none, none] [.ref (ad 82)]) h ?_ (fun j43_35 hj43_35 h => ?_)
      · intro  h
        refine G_iconst (pc := 43) 2 X (dg dt_R_critical 23 rfl) (by decide) ?_
        refine G_goto (pc := 44) 48 X (dg dt_R_critical 24 rfl) (by decide) ?_
        exact G_wk (hj48_32 2 h) ⟨rfl, ⟨rfl, trivial⟩⟩
      refine G_if_eq (pc := 30) 43 X (dg dt_R_critical 16 rfl) (by decide) h (fun h => ?_) (fun h => ?_)
      · exact G_wk (hj43_35  h) ⟨rfl, ⟨rfl, trivial⟩⟩
      · refine G_aload_n (pc := 33) 0 X (dg dt_R_critical 17 rfl) rfl rfl ?_
        refine G_getR (pc := 34) 2 X (dg dt_R_critical 18 rfl) fc_8 w_1065 rfl (Nat.le_of_ble_eq_true rfl) sh_82 rfl ?_
        refine G_iload_n (pc := 37) 1 X (dg dt_R_critical 19 rfl) rfl rfl ?_
        refine G_iald (pc := 38) X (dg dt_R_critical 20 rfl) sh_83 h (fun r_36 h => ?_)
        refine G_iconst (pc := 39) 5 X (dg dt_R_critical 21 rfl) (by decide) ?_
        refine G_icmp_ne (pc := 40) 47 X (dg dt_R_critical 22 rfl) (by decide) h (fun h => ?_) (fun h => ?_)
        · refine G_iconst (pc := 47) 0 X (dg dt_R_critical 25 rfl) (by decide) ?_
          exact G_wk (hj48_32 0 h) ⟨rfl, ⟨rfl, trivial⟩⟩
        · exact G_wk (hj43_35  h) ⟨rfl, ⟨rfl, trivial⟩⟩
  refine G_if_ne (pc := 6) 13 X (dg dt_R_critical 4 rfl) (by decide) h (fun h => ?_) (fun h => ?_)
  · refine G_iconst (pc := 13) 0 X (dg dt_R_critical 7 rfl) (by decide) ?_
    exact G_wk (hj14_3 0 h) ⟨rfl, ⟨rfl, trivial⟩⟩
  · refine G_iconst (pc := 9) 1 X (dg dt_R_critical 5 rfl) (by decide) ?_
    refine G_goto (pc := 10) 14 X (dg dt_R_critical 6 rfl) (by decide) ?_
    exact G_wk (hj14_3 1 h) ⟨rfl, ⟨rfl, trivial⟩⟩
set_option maxRecDepth 100000 in
set_option maxHeartbeats 4000000 in
theorem s_R_setAt_L4 {θ : Th} {ad : Nat → Nat}  {rv : Int32} (X : Cx θ [] cX12_setAt 4 "QuasigroveModel" 1 26)
    {v1 : Int32} {σ : St} (hq : Rq θ (g_SH, ad) (some .int) (some (.int rv)) σ) {kx47 : Int32 → Option Int32} (hkx47 : ∀ (v2 : Int32), kx47 v2 = some rv → G θ (0, 0) (g_SH, ad) σ 47 [none, none, some (.int v2), none] []) :
    ∀ (n : Nat) (v2 : Int32) (v3 : Int32), f_R_setAt_L4 v1 σ kx47 n v2 v3 = some rv → G θ (0, 0) (g_SH, ad) σ 4 [some (.ref (ad 82)), some (.int v1), some (.int v2), some (.int v3)] [] := by
  intro n
  induction n with
  | zero => intro v2 v3 h; rw [f_R_setAt_L4] at h; cases h
  | succ n ih =>
    intro v2 v3 h
    rw [f_R_setAt_L4] at h
    refine G_iload_n (pc := 4) 3 X (dg dt_R_setAt 4 rfl) rfl rfl ?_
    refine G_aload_n (pc := 5) 0 X (dg dt_R_setAt 5 rfl) rfl rfl ?_
    refine G_getI (pc := 6) 13 X (dg dt_R_setAt 6 rfl) fc_8 w_1076 rfl (Nat.le_of_ble_eq_true rfl) sh_82 rfl ?_
    refine G_icmp_ge (pc := 9) 47 X (dg dt_R_setAt 7 rfl) (by decide) h (fun h => ?_) (fun h => ?_)
    · exact G_wk (hkx47 v2 h) ⟨rfl, trivial⟩
    · refine G_aload_n (pc := 12) 0 X (dg dt_R_setAt 8 rfl) rfl rfl ?_
      refine G_getR (pc := 13) 14 X (dg dt_R_setAt 9 rfl) fc_8 w_1077 rfl (Nat.le_of_ble_eq_true rfl) sh_82 rfl ?_
      refine G_iload_n (pc := 16) 1 X (dg dt_R_setAt 10 rfl) rfl rfl ?_
      refine G_iald (pc := 17) X (dg dt_R_setAt 11 rfl) sh_91 h (fun r_1 h => ?_)
      refine G_iconst (pc := 18) (-1) X (dg dt_R_setAt 12 rfl) (by decide) ?_
      refine G_icmp_ne (pc := 19) 47 X (dg dt_R_setAt 13 rfl) (by decide) h (fun h => ?_) (fun h => ?_)
      · exact G_wk (hkx47 v2 h) ⟨rfl, trivial⟩
      · refine G_iload_n (pc := 22) 2 X (dg dt_R_setAt 14 rfl) rfl rfl ?_
        refine G_aload_n (pc := 23) 0 X (dg dt_R_setAt 15 rfl) rfl rfl ?_
        refine G_iload_n (pc := 24) 1 X (dg dt_R_setAt 16 rfl) rfl rfl ?_
        refine G_iload_n (pc := 25) 3 X (dg dt_R_setAt 17 rfl) rfl rfl ?_
        obtain ⟨r_3, hc_2, h⟩ := cap_go h
        refine G_callV (pc := 26) (S := [.int v2]) [.int v1, .int v3] nosub X  (dg dt_R_setAt 18 rfl) cb_R_fits cv_R_fits w_1227 (s_R_fits _ ad _ _ _ hc_2) rfl ⟨Nat.le_of_ble_eq_true rfl, Nat.le_of_ble_eq_true rfl⟩ sh_82 rfl (Nat.le_of_ble_eq_true rfl) Rc0 ?_
        refine jn_go (fun j39_4 => ∀ (s_5 : Int32), j39_4 s_5 = some rv → G θ (0, 0) (g_SH, ad) σ 39 [some (.ref (ad 82)), some (.int v1), none, some (.int v3)] [.int s_5, .int v2]) h ?_ (fun j39_4 hj39_4 h => ?_)
        · intro s_5 h
          refine G_ior (pc := 39) X (dg dt_R_setAt 25 rfl) ?_
          refine G_istore_n (pc := 40) 2 X (dg dt_R_setAt 26 rfl) rfl (Nat.le_of_ble_eq_true rfl) rfl ?_
          refine G_iinc (pc := 41) (v3 + 1) X (dg dt_R_setAt 27 rfl) rfl (Nat.le_of_ble_eq_true rfl) rfl rfl ?_
          refine G_goto (pc := 44) 4 X (dg dt_R_setAt 28 rfl) (by decide) ?_
          exact G_wk (ih (v2 ||| s_5) (v3 + 1) h) ⟨rfl, ⟨rfl, ⟨rfl, ⟨rfl, trivial⟩⟩⟩⟩
        refine G_if_eq (pc := 29) 38 X (dg dt_R_setAt 19 rfl) (by decide) h (fun h => ?_) (fun h => ?_)
        · refine G_iconst (pc := 38) 0 X (dg dt_R_setAt 24 rfl) (by decide) ?_
          exact G_wk (hj39_4 0 h) ⟨rfl, ⟨rfl, ⟨rfl, trivial⟩⟩⟩
        · refine G_iconst (pc := 32) 1 X (dg dt_R_setAt 20 rfl) (by decide) ?_
          refine G_iload_n (pc := 33) 3 X (dg dt_R_setAt 21 rfl) rfl rfl ?_
          refine G_ishl (pc := 34) X (dg dt_R_setAt 22 rfl) ?_
          refine G_goto (pc := 35) 39 X (dg dt_R_setAt 23 rfl) (by decide) ?_
          exact G_wk (hj39_4 (1 <<< (v3 &&& 31)) h) ⟨rfl, ⟨rfl, ⟨rfl, trivial⟩⟩⟩
set_option maxRecDepth 100000 in
set_option maxHeartbeats 4000000 in
theorem s_R_setAt (l : Launch) (ad : Nat → Nat) (σ : St) (v1 : Int32)  {rv : Int32} (h : f_R_setAt σ v1 = some rv) : Rt l [] yX12_setAt cX12_setAt 4 (some .int) 1 26 (g_SH, ad) [.ref (ad 82), .int v1] σ (some (.int rv)) σ := by
  refine Rt.intro (L := [some (.ref (ad 82)), some (.int v1), none, none]) (by decide +kernel) (Nat.le_of_ble_eq_true rfl) rfl (fun θ hl X hq => ?_)
  subst hl
  unfold f_R_setAt at h
  refine G_iconst (pc := 0) 0 X (dg dt_R_setAt 0 rfl) (by decide) ?_
  refine G_istore_n (pc := 1) 2 X (dg dt_R_setAt 1 rfl) rfl (Nat.le_of_ble_eq_true rfl) rfl ?_
  refine G_iconst (pc := 2) 0 X (dg dt_R_setAt 2 rfl) (by decide) ?_
  refine G_istore_n (pc := 3) 3 X (dg dt_R_setAt 3 rfl) rfl (Nat.le_of_ble_eq_true rfl) rfl ?_
  refine G_weak (L' := [some (.ref (ad 82)), some (.int v1), some (.int 0), some (.int 0)]) ⟨rfl, ⟨rfl, ⟨rfl, ⟨rfl, trivial⟩⟩⟩⟩ ?_
  refine s_R_setAt_L4  X hq  (fun v2_6 h => ?_) _ _ _ h
  refine G_iload_n (pc := 47) 2 X (dg dt_R_setAt 29 rfl) rfl rfl ?_
  exact G_iretp (pc := 48) X hq (dg dt_R_setAt 30 rfl) h
set_option maxRecDepth 100000 in
set_option maxHeartbeats 4000000 in
theorem s_R_isLast_L8 {θ : Th} {ad : Nat → Nat}  {rv : Int32} (X : Cx θ [] cX12_isLast 8 "QuasigroveModel" 2 49)
    {v1 : Int32} {v2 : Int32} {σ : St} (hq : Rq θ (g_SH, ad) (some .boolean) (some (.int rv)) σ) {kx115 : Int32 → Int32 → Option Int32} (hkx115 : ∀ (v3 : Int32) (v4 : Int32), kx115 v3 v4 = some rv → G θ (0, 0) (g_SH, ad) σ 115 [none, none, none, some (.int v3), some (.int v4), none, none, none] []) :
    ∀ (n : Nat) (v3 : Int32) (v4 : Int32) (v5 : Int32), f_R_isLast_L8 v1 v2 σ kx115 n v3 v4 v5 = some rv → G θ (0, 0) (g_SH, ad) σ 8 [some (.ref (ad 82)), some (.int v1), some (.int v2), some (.int v3), some (.int v4), some (.int v5), none, none] [] := by
  intro n
  induction n with
  | zero => intro v3 v4 v5 h; rw [f_R_isLast_L8] at h; cases h
  | succ n ih =>
    intro v3 v4 v5 h
    rw [f_R_isLast_L8] at h
    refine G_iload (pc := 8) X (dg dt_R_isLast 6 rfl) rfl ?_
    refine G_aload_n (pc := 10) 0 X (dg dt_R_isLast 7 rfl) rfl rfl ?_
    refine G_getI (pc := 11) 13 X (dg dt_R_isLast 8 rfl) fc_8 w_1076 rfl (Nat.le_of_ble_eq_true rfl) sh_82 rfl ?_
    refine G_icmp_ge (pc := 14) 115 X (dg dt_R_isLast 9 rfl) (by decide) h (fun h => ?_) (fun h => ?_)
    · exact G_wk (hkx115 v3 v4 h) ⟨rfl, ⟨rfl, trivial⟩⟩
    · refine G_iload_n (pc := 17) 1 X (dg dt_R_isLast 10 rfl) rfl rfl ?_
      refine G_aload_n (pc := 18) 0 X (dg dt_R_isLast 11 rfl) rfl rfl ?_
      refine G_getI (pc := 19) 13 X (dg dt_R_isLast 12 rfl) fc_8 w_1076 rfl (Nat.le_of_ble_eq_true rfl) sh_82 rfl ?_
      refine G_idiv (pc := 22) X (dg dt_R_isLast 13 rfl) h (fun q_1 h => ?_)
      refine G_aload_n (pc := 23) 0 X (dg dt_R_isLast 14 rfl) rfl rfl ?_
      refine G_getI (pc := 24) 13 X (dg dt_R_isLast 15 rfl) fc_8 w_1076 rfl (Nat.le_of_ble_eq_true rfl) sh_82 rfl ?_
      refine G_imul (pc := 27) X (dg dt_R_isLast 16 rfl) ?_
      refine G_iload (pc := 28) X (dg dt_R_isLast 17 rfl) rfl ?_
      refine G_iadd (pc := 30) X (dg dt_R_isLast 18 rfl) ?_
      refine G_istore_lt (pc := 31) X (dg dt_R_isLast 19 rfl) (Nat.le_of_ble_eq_true rfl) rfl h (fun v6_2 h => ?_)
      refine G_aload_n (pc := 33) 0 X (dg dt_R_isLast 20 rfl) rfl rfl ?_
      refine G_getI (pc := 34) 13 X (dg dt_R_isLast 21 rfl) fc_8 w_1076 rfl (Nat.le_of_ble_eq_true rfl) sh_82 rfl ?_
      refine G_iload (pc := 37) X (dg dt_R_isLast 22 rfl) rfl ?_
      refine G_imul (pc := 39) X (dg dt_R_isLast 23 rfl) ?_
      refine G_iload_n (pc := 40) 1 X (dg dt_R_isLast 24 rfl) rfl rfl ?_
      refine G_aload_n (pc := 41) 0 X (dg dt_R_isLast 25 rfl) rfl rfl ?_
      refine G_getI (pc := 42) 13 X (dg dt_R_isLast 26 rfl) fc_8 w_1076 rfl (Nat.le_of_ble_eq_true rfl) sh_82 rfl ?_
      refine G_irem (pc := 45) X (dg dt_R_isLast 27 rfl) h (fun q_3 h => ?_)
      refine G_iadd (pc := 46) X (dg dt_R_isLast 28 rfl) ?_
      refine G_istore_lt (pc := 47) X (dg dt_R_isLast 29 rfl) (Nat.le_of_ble_eq_true rfl) rfl h (fun v7_4 h => ?_)
      refine G_iload_n (pc := 49) 3 X (dg dt_R_isLast 30 rfl) rfl rfl ?_
      refine jn_go (fun j77_5 => ∀ (s_6 : Int32), j77_5 s_6 = some rv → G θ (0, 0) (g_SH, ad) σ 77 [some (.ref (ad 82)), some (.int v1), some (.int v2), none, some (.int v4), some (.int v5), none, some (.int v7_4)] [.int s_6]) h ?_ (fun j77_5 hj77_5 h => ?_)
      · intro s_6 h
        refine G_istore_n (pc := 77) 3 X (dg dt_R_isLast 46 rfl) rfl (Nat.le_of_ble_eq_true rfl) rfl ?_
        refine G_iload (pc := 78) X (dg dt_R_isLast 47 rfl) rfl ?_
        refine jn_go (fun j107_7 => ∀ (s_8 : Int32), j107_7 s_8 = some rv → G θ (0, 0) (g_SH, ad) σ 107 [some (.ref (ad 82)), some (.int v1), some (.int v2), some (.int s_6), none, some (.int v5), none, none] [.int s_8]) h ?_ (fun j107_7 hj107_7 h => ?_)
        · intro s_8 h
          refine G_istore (pc := 107) X (dg dt_R_isLast 63 rfl) (Nat.le_of_ble_eq_true rfl) rfl ?_
          refine G_iinc (pc := 109) (v5 + 1) X (dg dt_R_isLast 64 rfl) rfl (Nat.le_of_ble_eq_true rfl) rfl rfl ?_
          refine G_goto (pc := 112) 8 X (dg dt_R_isLast 65 rfl) (by decide) ?_
          exact G_wk (ih s_6 s_8 (v5 + 1) h) ⟨rfl, ⟨rfl, ⟨rfl, ⟨rfl, ⟨rfl, ⟨rfl, trivial⟩⟩⟩⟩⟩⟩
        refine jn_go (fun j106_9 => j106_9 = some rv → G θ (0, 0) (g_SH, ad) σ 106 [some (.ref (ad 82)), some (.int v1), some (.int v2), some (.int s_6), none, some (.int v5), none, none] []) h ?_ (fun j106_9 hj106_9 h => ?_)
        · intro  h
          refine G_iconst (pc := 106) 0 X (dg dt_R_isLast 62 rfl) (by decide) ?_
          exact G_wk (hj107_7 0 h) ⟨rfl, ⟨rfl, ⟨rfl, ⟨rfl, ⟨rfl, trivial⟩⟩⟩⟩⟩
        refine G_if_eq (pc := 80) 106 X (dg dt_R_isLast 48 rfl) (by decide) h (fun h => ?_) (fun h => ?_)
        · exact G_wk (hj106_9  h) ⟨rfl, ⟨rfl, ⟨rfl, ⟨rfl, ⟨rfl, trivial⟩⟩⟩⟩⟩
        · refine G_iload (pc := 83) X (dg dt_R_isLast 49 rfl) rfl ?_
          refine G_iload_n (pc := 85) 1 X (dg dt_R_isLast 50 rfl) rfl rfl ?_
          refine jn_go (fun j102_10 => j102_10 = some rv → G θ (0, 0) (g_SH, ad) σ 102 [some (.ref (ad 82)), some (.int v1), some (.int v2), some (.int s_6), none, some (.int v5), none, none] []) h ?_ (fun j102_10 hj102_10 h => ?_)
          · intro  h
            refine G_iconst (pc := 102) 1 X (dg dt_R_isLast 60 rfl) (by decide) ?_
            refine G_goto (pc := 103) 107 X (dg dt_R_isLast 61 rfl) (by decide) ?_
            exact G_wk (hj107_7 1 h) ⟨rfl, ⟨rfl, ⟨rfl, ⟨rfl, ⟨rfl, trivial⟩⟩⟩⟩⟩
          refine G_icmp_eq (pc := 86) 102 X (dg dt_R_isLast 51 rfl) (by decide) h (fun h => ?_) (fun h => ?_)
          · exact G_wk (hj102_10  h) ⟨rfl, ⟨rfl, ⟨rfl, ⟨rfl, ⟨rfl, trivial⟩⟩⟩⟩⟩
          · refine G_aload_n (pc := 89) 0 X (dg dt_R_isLast 52 rfl) rfl rfl ?_
            refine G_iload (pc := 90) X (dg dt_R_isLast 53 rfl) rfl ?_
            obtain ⟨r_12, hc_11, h⟩ := cap_go h
            refine G_callV (pc := 92) (S := []) [.int v7_4] nosub X  (dg dt_R_isLast 54 rfl) cb_R_setAt cv_R_setAt w_1223 (s_R_setAt _ ad _ _ hc_11) rfl ⟨Nat.le_of_ble_eq_true rfl, Nat.le_of_ble_eq_true rfl⟩ sh_82 rfl (Nat.le_of_ble_eq_true rfl) Rc0 ?_
            refine G_iload_n (pc := 95) 2 X (dg dt_R_isLast 55 rfl) rfl rfl ?_
            refine G_ishr (pc := 96) X (dg dt_R_isLast 56 rfl) ?_
            refine G_iconst (pc := 97) 1 X (dg dt_R_isLast 57 rfl) (by decide) ?_
            refine G_iand (pc := 98) X (dg dt_R_isLast 58 rfl) ?_
            refine G_if_ne (pc := 99) 106 X (dg dt_R_isLast 59 rfl) (by decide) h (fun h => ?_) (fun h => ?_)
            · exact G_wk (hj106_9  h) ⟨rfl, ⟨rfl, ⟨rfl, ⟨rfl, ⟨rfl, trivial⟩⟩⟩⟩⟩
            · exact G_wk (hj102_10  h) ⟨rfl, ⟨rfl, ⟨rfl, ⟨rfl, ⟨rfl, trivial⟩⟩⟩⟩⟩
      refine jn_go (fun j76_13 => j76_13 = some rv → G θ (0, 0) (g_SH, ad) σ 76 [some (.ref (ad 82)), some (.int v1), some (.int v2), none, some (.int v4), some (.int v5), none, some (.int v7_4)] []) h ?_ (fun j76_13 hj76_13 h => ?_)
      · intro  h
        refine G_iconst (pc := 76) 0 X (dg dt_R_isLast 45 rfl) (by decide) ?_
        exact G_wk (hj77_5 0 h) ⟨rfl, ⟨rfl, ⟨rfl, ⟨rfl, ⟨rfl, ⟨rfl, trivial⟩⟩⟩⟩⟩⟩
      refine G_if_eq (pc := 50) 76 X (dg dt_R_isLast 31 rfl) (by decide) h (fun h => ?_) (fun h => ?_)
      · exact G_wk (hj76_13  h) ⟨rfl, ⟨rfl, ⟨rfl, ⟨rfl, ⟨rfl, ⟨rfl, trivial⟩⟩⟩⟩⟩⟩
      · refine G_iload (pc := 53) X (dg dt_R_isLast 32 rfl) rfl ?_
        refine G_iload_n (pc := 55) 1 X (dg dt_R_isLast 33 rfl) rfl rfl ?_
        refine jn_go (fun j72_14 => j72_14 = some rv → G θ (0, 0) (g_SH, ad) σ 72 [some (.ref (ad 82)), some (.int v1), some (.int v2), none, some (.int v4), some (.int v5), none, some (.int v7_4)] []) h ?_ (fun j72_14 hj72_14 h => ?_)
        · intro  h
          refine G_iconst (pc := 72) 1 X (dg dt_R_isLast 43 rfl) (by decide) ?_
          refine G_goto (pc := 73) 77 X (dg dt_R_isLast 44 rfl) (by decide) ?_
          exact G_wk (hj77_5 1 h) ⟨rfl, ⟨rfl, ⟨rfl, ⟨rfl, ⟨rfl, ⟨rfl, trivial⟩⟩⟩⟩⟩⟩
        refine G_icmp_eq (pc := 56) 72 X (dg dt_R_isLast 34 rfl) (by decide) h (fun h => ?_) (fun h => ?_)
        · exact G_wk (hj72_14  h) ⟨rfl, ⟨rfl, ⟨rfl, ⟨rfl, ⟨rfl, ⟨rfl, trivial⟩⟩⟩⟩⟩⟩
        · refine G_aload_n (pc := 59) 0 X (dg dt_R_isLast 35 rfl) rfl rfl ?_
          refine G_iload (pc := 60) X (dg dt_R_isLast 36 rfl) rfl ?_
          obtain ⟨r_16, hc_15, h⟩ := cap_go h
          refine G_callV (pc := 62) (S := []) [.int v6_2] nosub X  (dg dt_R_isLast 37 rfl) cb_R_setAt cv_R_setAt w_1223 (s_R_setAt _ ad _ _ hc_15) rfl ⟨Nat.le_of_ble_eq_true rfl, Nat.le_of_ble_eq_true rfl⟩ sh_82 rfl (Nat.le_of_ble_eq_true rfl) Rc0 ?_
          refine G_iload_n (pc := 65) 2 X (dg dt_R_isLast 38 rfl) rfl rfl ?_
          refine G_ishr (pc := 66) X (dg dt_R_isLast 39 rfl) ?_
          refine G_iconst (pc := 67) 1 X (dg dt_R_isLast 40 rfl) (by decide) ?_
          refine G_iand (pc := 68) X (dg dt_R_isLast 41 rfl) ?_
          refine G_if_ne (pc := 69) 76 X (dg dt_R_isLast 42 rfl) (by decide) h (fun h => ?_) (fun h => ?_)
          · exact G_wk (hj76_13  h) ⟨rfl, ⟨rfl, ⟨rfl, ⟨rfl, ⟨rfl, ⟨rfl, trivial⟩⟩⟩⟩⟩⟩
          · exact G_wk (hj72_14  h) ⟨rfl, ⟨rfl, ⟨rfl, ⟨rfl, ⟨rfl, ⟨rfl, trivial⟩⟩⟩⟩⟩⟩
set_option maxRecDepth 100000 in
set_option maxHeartbeats 4000000 in
theorem s_R_isLast (l : Launch) (ad : Nat → Nat) (σ : St) (v1 : Int32) (v2 : Int32)  {rv : Int32} (h : f_R_isLast σ v1 v2 = some rv) : Rt l [] yX12_isLast cX12_isLast 8 (some .boolean) 2 49 (g_SH, ad) [.ref (ad 82), .int v1, .int v2] σ (some (.int rv)) σ := by
  refine Rt.intro (L := [some (.ref (ad 82)), some (.int v1), some (.int v2), none, none, none, none, none]) (by decide +kernel) (Nat.le_of_ble_eq_true rfl) rfl (fun θ hl X hq => ?_)
  subst hl
  unfold f_R_isLast at h
  refine G_iconst (pc := 0) 1 X (dg dt_R_isLast 0 rfl) (by decide) ?_
  refine G_istore_n (pc := 1) 3 X (dg dt_R_isLast 1 rfl) rfl (Nat.le_of_ble_eq_true rfl) rfl ?_
  refine G_iconst (pc := 2) 1 X (dg dt_R_isLast 2 rfl) (by decide) ?_
  refine G_istore (pc := 3) X (dg dt_R_isLast 3 rfl) (Nat.le_of_ble_eq_true rfl) rfl ?_
  refine G_iconst (pc := 5) 0 X (dg dt_R_isLast 4 rfl) (by decide) ?_
  refine G_istore (pc := 6) X (dg dt_R_isLast 5 rfl) (Nat.le_of_ble_eq_true rfl) rfl ?_
  refine G_weak (L' := [some (.ref (ad 82)), some (.int v1), some (.int v2), some (.int 1), some (.int 1), some (.int 0), none, none]) ⟨rfl, ⟨rfl, ⟨rfl, ⟨rfl, ⟨rfl, ⟨rfl, trivial⟩⟩⟩⟩⟩⟩ ?_
  refine s_R_isLast_L8  X hq  (fun v3_17 v4_18 h => ?_) _ _ _ _ h
  refine G_iload_n (pc := 115) 3 X (dg dt_R_isLast 66 rfl) rfl rfl ?_
  refine jn_go (fun j124_19 => j124_19 = some rv → G θ (0, 0) (g_SH, ad) σ 124 [none, none, none, none, none, none, none, none] []) h ?_ (fun j124_19 hj124_19 h => ?_)
  · intro  h
    refine G_iconst (pc := 124) 1 X (dg dt_R_isLast 70 rfl) (by decide) ?_
    refine G_goto (pc := 125) 129 X (dg dt_R_isLast 71 rfl) (by decide) ?_
    exact G_zretlp (pc := 129) X hq (dg dt_R_isLast 73 rfl) rfl h
  refine G_if_ne (pc := 116) 124 X (dg dt_R_isLast 67 rfl) (by decide) h (fun h => ?_) (fun h => ?_)
  · exact G_wk (hj124_19  h) trivial
  · refine G_iload (pc := 119) X (dg dt_R_isLast 68 rfl) rfl ?_
    refine G_if_eq (pc := 121) 128 X (dg dt_R_isLast 69 rfl) (by decide) h (fun h => ?_) (fun h => ?_)
    · refine G_iconst (pc := 128) 0 X (dg dt_R_isLast 72 rfl) (by decide) ?_
      exact G_zretlp (pc := 129) X hq (dg dt_R_isLast 73 rfl) rfl h
    · exact G_wk (hj124_19  h) trivial
set_option maxRecDepth 100000 in
set_option maxHeartbeats 4000000 in
theorem s_R_forcedAtWork_L23 {θ : Th} {ad : Nat → Nat}  {rv : Int32} (X : Cx θ [] cX12_forcedAtWork 4 "QuasigroveModel" 3 76)
    {v1 : Int32} {v2 : Int32} {σ : St} (hq : Rq θ (g_SH, ad) (some .int) (some (.int rv)) σ) {kx56 : Int32 → Option Int32} (hkx56 : ∀ (v3 : Int32), kx56 v3 = some rv → G θ (0, 0) (g_SH, ad) σ 56 [none, some (.int v1), none, some (.int v3)] []) {kx69 : Option Int32} (hkx69 : kx69 = some rv → G θ (0, 0) (g_SH, ad) σ 69 [some (.ref (ad 82)), some (.int v1), none, none] []) :
    ∀ (n : Nat) (v3 : Int32), f_R_forcedAtWork_L23 v1 v2 σ kx56 kx69 n v3 = some rv → G θ (0, 0) (g_SH, ad) σ 23 [some (.ref (ad 82)), some (.int v1), some (.int v2), some (.int v3)] [] := by
  intro n
  induction n with
  | zero => intro v3 h; rw [f_R_forcedAtWork_L23] at h; cases h
  | succ n ih =>
    intro v3 h
    rw [f_R_forcedAtWork_L23] at h
    refine G_iload_n (pc := 23) 3 X (dg dt_R_forcedAtWork 15 rfl) rfl rfl ?_
    refine G_aload_n (pc := 24) 0 X (dg dt_R_forcedAtWork 16 rfl) rfl rfl ?_
    refine G_getI (pc := 25) 13 X (dg dt_R_forcedAtWork 17 rfl) fc_8 w_1076 rfl (Nat.le_of_ble_eq_true rfl) sh_82 rfl ?_
    refine G_icmp_ge (pc := 28) 69 X (dg dt_R_forcedAtWork 18 rfl) (by decide) h (fun h => ?_) (fun h => ?_)
    · exact G_wk (hkx69  h) ⟨rfl, ⟨rfl, trivial⟩⟩
    · refine G_iload_n (pc := 31) 2 X (dg dt_R_forcedAtWork 19 rfl) rfl rfl ?_
      refine G_iload_n (pc := 32) 3 X (dg dt_R_forcedAtWork 20 rfl) rfl rfl ?_
      refine G_ishr (pc := 33) X (dg dt_R_forcedAtWork 21 rfl) ?_
      refine G_iconst (pc := 34) 1 X (dg dt_R_forcedAtWork 22 rfl) (by decide) ?_
      refine G_iand (pc := 35) X (dg dt_R_forcedAtWork 23 rfl) ?_
      refine G_iconst (pc := 36) 1 X (dg dt_R_forcedAtWork 24 rfl) (by decide) ?_
      refine jn_go (fun j63_3 => j63_3 = some rv → G θ (0, 0) (g_SH, ad) σ 63 [some (.ref (ad 82)), some (.int v1), some (.int v2), some (.int v3)] []) h ?_ (fun j63_3 hj63_3 h => ?_)
      · intro  h
        refine G_iinc (pc := 63) (v3 + 1) X (dg dt_R_forcedAtWork 42 rfl) rfl (Nat.le_of_ble_eq_true rfl) rfl rfl ?_
        refine G_goto (pc := 66) 23 X (dg dt_R_forcedAtWork 43 rfl) (by decide) ?_
        exact G_wk (ih (v3 + 1) h) ⟨rfl, ⟨rfl, ⟨rfl, ⟨rfl, trivial⟩⟩⟩⟩
      refine G_icmp_ne (pc := 37) 63 X (dg dt_R_forcedAtWork 25 rfl) (by decide) h (fun h => ?_) (fun h => ?_)
      · exact G_wk (hj63_3  h) ⟨rfl, ⟨rfl, ⟨rfl, ⟨rfl, trivial⟩⟩⟩⟩
      · refine G_iload_n (pc := 40) 2 X (dg dt_R_forcedAtWork 26 rfl) rfl rfl ?_
        refine G_iconst (pc := 41) 1 X (dg dt_R_forcedAtWork 27 rfl) (by decide) ?_
        refine G_iload_n (pc := 42) 3 X (dg dt_R_forcedAtWork 28 rfl) rfl rfl ?_
        refine G_ishl (pc := 43) X (dg dt_R_forcedAtWork 29 rfl) ?_
        refine G_icmp_eq (pc := 44) 56 X (dg dt_R_forcedAtWork 30 rfl) (by decide) h (fun h => ?_) (fun h => ?_)
        · exact G_wk (hkx56 v3 h) ⟨rfl, ⟨rfl, trivial⟩⟩
        · refine G_aload_n (pc := 47) 0 X (dg dt_R_forcedAtWork 31 rfl) rfl rfl ?_
          refine G_iload_n (pc := 48) 1 X (dg dt_R_forcedAtWork 32 rfl) rfl rfl ?_
          refine G_iload_n (pc := 49) 3 X (dg dt_R_forcedAtWork 33 rfl) rfl rfl ?_
          obtain ⟨r_5, hc_4, h⟩ := cap_go h
          refine G_callV (pc := 50) (S := []) [.int v1, .int v3] nosub X  (dg dt_R_forcedAtWork 34 rfl) cb_R_isLast cv_R_isLast w_1291 (s_R_isLast _ ad _ _ _ hc_4) rfl ⟨Nat.le_of_ble_eq_true rfl, Nat.le_of_ble_eq_true rfl⟩ sh_82 rfl (Nat.le_of_ble_eq_true rfl) Rc0 ?_
          refine G_if_eq (pc := 53) 63 X (dg dt_R_forcedAtWork 35 rfl) (by decide) h (fun h => ?_) (fun h => ?_)
          · exact G_wk (hj63_3  h) ⟨rfl, ⟨rfl, ⟨rfl, ⟨rfl, trivial⟩⟩⟩⟩
          · exact G_wk (hkx56 v3 h) ⟨rfl, ⟨rfl, trivial⟩⟩
set_option maxRecDepth 100000 in
set_option maxHeartbeats 4000000 in
theorem s_R_forcedAtWork_L2 {θ : Th} {ad : Nat → Nat}  {rv : Int32} (X : Cx θ [] cX12_forcedAtWork 4 "QuasigroveModel" 3 76)
    {σ : St} (hq : Rq θ (g_SH, ad) (some .int) (some (.int rv)) σ) {kx56 : Int32 → Int32 → Option Int32} (hkx56 : ∀ (v1 : Int32) (v3 : Int32), kx56 v1 v3 = some rv → G θ (0, 0) (g_SH, ad) σ 56 [none, some (.int v1), none, some (.int v3)] []) :
    ∀ (n : Nat) (v1 : Int32), f_R_forcedAtWork_L2 σ kx56 n v1 = some rv → G θ (0, 0) (g_SH, ad) σ 2 [some (.ref (ad 82)), some (.int v1), none, none] [] := by
  intro n
  induction n with
  | zero => intro v1 h; rw [f_R_forcedAtWork_L2] at h; cases h
  | succ n ih =>
    intro v1 h
    rw [f_R_forcedAtWork_L2] at h
    refine G_iload_n (pc := 2) 1 X (dg dt_R_forcedAtWork 2 rfl) rfl rfl ?_
    refine G_aload_n (pc := 3) 0 X (dg dt_R_forcedAtWork 3 rfl) rfl rfl ?_
    refine G_getI (pc := 4) 13 X (dg dt_R_forcedAtWork 4 rfl) fc_8 w_1076 rfl (Nat.le_of_ble_eq_true rfl) sh_82 rfl ?_
    refine G_aload_n (pc := 7) 0 X (dg dt_R_forcedAtWork 5 rfl) rfl rfl ?_
    refine G_getI (pc := 8) 13 X (dg dt_R_forcedAtWork 6 rfl) fc_8 w_1076 rfl (Nat.le_of_ble_eq_true rfl) sh_82 rfl ?_
    refine G_imul (pc := 11) X (dg dt_R_forcedAtWork 7 rfl) ?_
    refine G_icmp_ge (pc := 12) 75 X (dg dt_R_forcedAtWork 8 rfl) (by decide) h (fun h => ?_) (fun h => ?_)
    · refine G_iconst (pc := 75) (-1) X (dg dt_R_forcedAtWork 46 rfl) (by decide) ?_
      exact G_iretp (pc := 76) X hq (dg dt_R_forcedAtWork 47 rfl) h
    · refine G_aload_n (pc := 15) 0 X (dg dt_R_forcedAtWork 9 rfl) rfl rfl ?_
      refine G_iload_n (pc := 16) 1 X (dg dt_R_forcedAtWork 10 rfl) rfl rfl ?_
      obtain ⟨r_2, hc_1, h⟩ := cap_go h
      refine G_callV (pc := 17) (S := []) [.int v1] nosub X  (dg dt_R_forcedAtWork 11 rfl) cb_R_setAt cv_R_setAt w_1223 (s_R_setAt _ ad _ _ hc_1) rfl ⟨Nat.le_of_ble_eq_true rfl, Nat.le_of_ble_eq_true rfl⟩ sh_82 rfl (Nat.le_of_ble_eq_true rfl) Rc0 ?_
      refine G_istore_n (pc := 20) 2 X (dg dt_R_forcedAtWork 12 rfl) rfl (Nat.le_of_ble_eq_true rfl) rfl ?_
      refine G_iconst (pc := 21) 0 X (dg dt_R_forcedAtWork 13 rfl) (by decide) ?_
      refine G_istore_n (pc := 22) 3 X (dg dt_R_forcedAtWork 14 rfl) rfl (Nat.le_of_ble_eq_true rfl) rfl ?_
      refine G_weak (L' := [some (.ref (ad 82)), some (.int v1), some (.int r_2), some (.int 0)]) ⟨rfl, ⟨rfl, ⟨rfl, ⟨rfl, trivial⟩⟩⟩⟩ ?_
      refine s_R_forcedAtWork_L23  X hq  (fun v3_6 h => ?_) (fun h => ?_) _ _ h
      · exact G_wk (hkx56 v1 v3_6 h) ⟨rfl, ⟨rfl, trivial⟩⟩
      · refine G_iinc (pc := 69) (v1 + 1) X (dg dt_R_forcedAtWork 44 rfl) rfl (Nat.le_of_ble_eq_true rfl) rfl rfl ?_
        refine G_goto (pc := 72) 2 X (dg dt_R_forcedAtWork 45 rfl) (by decide) ?_
        exact G_wk (ih (v1 + 1) h) ⟨rfl, ⟨rfl, trivial⟩⟩
set_option maxRecDepth 100000 in
set_option maxHeartbeats 4000000 in
theorem s_R_forcedAtWork (l : Launch) (ad : Nat → Nat) (σ : St)   {rv : Int32} (h : f_R_forcedAtWork σ = some rv) : Rt l [] yX12_forcedAtWork cX12_forcedAtWork 4 (some .int) 3 76 (g_SH, ad) [.ref (ad 82)] σ (some (.int rv)) σ := by
  refine Rt.intro (L := [some (.ref (ad 82)), none, none, none]) (by decide +kernel) (Nat.le_of_ble_eq_true rfl) rfl (fun θ hl X hq => ?_)
  subst hl
  unfold f_R_forcedAtWork at h
  refine G_iconst (pc := 0) 0 X (dg dt_R_forcedAtWork 0 rfl) (by decide) ?_
  refine G_istore_n (pc := 1) 1 X (dg dt_R_forcedAtWork 1 rfl) rfl (Nat.le_of_ble_eq_true rfl) rfl ?_
  refine G_weak (L' := [some (.ref (ad 82)), some (.int 0), none, none]) ⟨rfl, ⟨rfl, trivial⟩⟩ ?_
  refine s_R_forcedAtWork_L2  X hq  (fun v1_7 v3_8 h => ?_) _ _ h
  refine G_bipush (pc := 56) 10 X (dg dt_R_forcedAtWork 36 rfl) (by decide) ?_
  refine G_iload_n (pc := 58) 1 X (dg dt_R_forcedAtWork 37 rfl) rfl rfl ?_
  refine G_imul (pc := 59) X (dg dt_R_forcedAtWork 38 rfl) ?_
  refine G_iload_n (pc := 60) 3 X (dg dt_R_forcedAtWork 39 rfl) rfl rfl ?_
  refine G_iadd (pc := 61) X (dg dt_R_forcedAtWork 40 rfl) ?_
  exact G_iretp (pc := 62) X hq (dg dt_R_forcedAtWork 41 rfl) h
set_option maxRecDepth 100000 in
set_option maxHeartbeats 4000000 in
theorem s_R_logic_L38 {θ : Th} {ad : Nat → Nat}  {rv : Int32} {σe : St} (X : Cx θ [] cX12_logic 4 "QuasigroveModel" 4 99)
     (hq : Rq θ (g_SH, ad) (some .int) (some (.int rv)) σe) {kx67 : Int32 → St → Option (Int32 × St)} (hkx67 : ∀ (v2 : Int32) (σ : St), kx67 v2 σ = some (rv, σe) → G θ (0, 0) (g_SH, ad) σ 67 [none, none, some (.int v2), none] []) :
    ∀ (n : Nat) (v2 : Int32) (v3 : Int32) (σ : St), f_R_logic_L38 kx67 n v2 v3 σ = some (rv, σe) → G θ (0, 0) (g_SH, ad) σ 38 [some (.ref (ad 82)), none, some (.int v2), some (.int v3)] [] := by
  intro n
  induction n with
  | zero => intro v2 v3 σ h; rw [f_R_logic_L38] at h; cases h
  | succ n ih =>
    intro v2 v3 σ h
    rw [f_R_logic_L38] at h
    refine G_iload_n (pc := 38) 3 X (dg dt_R_logic 22 rfl) rfl rfl ?_
    refine G_iconst (pc := 39) (-1) X (dg dt_R_logic 23 rfl) (by decide) ?_
    refine G_icmp_eq (pc := 40) 67 X (dg dt_R_logic 24 rfl) (by decide) h (fun h => ?_) (fun h => ?_)
    · exact G_wk (hkx67 v2 σ h) ⟨rfl, trivial⟩
    · refine G_aload_n (pc := 43) 0 X (dg dt_R_logic 25 rfl) rfl rfl ?_
      refine G_getR (pc := 44) 14 X (dg dt_R_logic 26 rfl) fc_8 w_1077 rfl (Nat.le_of_ble_eq_true rfl) sh_82 rfl ?_
      refine G_iload_n (pc := 47) 3 X (dg dt_R_logic 27 rfl) rfl rfl ?_
      refine G_bipush (pc := 48) 10 X (dg dt_R_logic 28 rfl) (by decide) ?_
      refine G_idiv (pc := 50) X (dg dt_R_logic 29 rfl) h (fun q_11 h => ?_)
      refine G_iload_n (pc := 51) 3 X (dg dt_R_logic 30 rfl) rfl rfl ?_
      refine G_bipush (pc := 52) 10 X (dg dt_R_logic 31 rfl) (by decide) ?_
      refine G_irem (pc := 54) X (dg dt_R_logic 32 rfl) h (fun q_12 h => ?_)
      refine G_iast (pc := 55) X (dg dt_R_logic 33 rfl) sh_91 h (fun σ_13 h => ?_)
      refine G_iinc (pc := 56) (v2 + 1) X (dg dt_R_logic 34 rfl) rfl (Nat.le_of_ble_eq_true rfl) rfl rfl ?_
      refine G_aload_n (pc := 59) 0 X (dg dt_R_logic 35 rfl) rfl rfl ?_
      obtain ⟨r_15, hc_14, h⟩ := cap_go h
      refine G_callV (pc := 60) (S := []) [] nosub X  (dg dt_R_logic 36 rfl) cb_R_forcedAtWork cv_R_forcedAtWork w_1287 (s_R_forcedAtWork _ ad _ hc_14) rfl ⟨Nat.le_of_ble_eq_true rfl, Nat.le_of_ble_eq_true rfl⟩ sh_82 rfl (Nat.le_of_ble_eq_true rfl) Rc0 ?_
      refine G_istore_n (pc := 63) 3 X (dg dt_R_logic 37 rfl) rfl (Nat.le_of_ble_eq_true rfl) rfl ?_
      refine G_goto (pc := 64) 38 X (dg dt_R_logic 38 rfl) (by decide) ?_
      exact G_wk (ih (v2 + 1) r_15 σ_13 h) ⟨rfl, ⟨rfl, ⟨rfl, trivial⟩⟩⟩
set_option maxRecDepth 100000 in
set_option maxHeartbeats 4000000 in
theorem s_R_logic (l : Launch) (ad : Nat → Nat) (σ : St) (v1 : Int32)  {rv : Int32} {σe : St} (h : f_R_logic σ v1 = some (rv, σe)) : Rt l [] yX12_logic cX12_logic 4 (some .int) 4 99 (g_SH, ad) [.ref (ad 82), .int v1] σ (some (.int rv)) σe := by
  refine Rt.intro (L := [some (.ref (ad 82)), some (.int v1), none, none]) (by decide +kernel) (Nat.le_of_ble_eq_true rfl) rfl (fun θ hl X hq => ?_)
  subst hl
  unfold f_R_logic at h
  refine G_aload_n (pc := 0) 0 X (dg dt_R_logic 0 rfl) rfl rfl ?_
  refine G_aload_n (pc := 1) 0 X (dg dt_R_logic 1 rfl) rfl rfl ?_
  refine G_iload_n (pc := 2) 1 X (dg dt_R_logic 2 rfl) rfl rfl ?_
  obtain ⟨r_2, hc_1, h⟩ := cap_go h
  refine G_callV (pc := 3) (S := [.ref (ad 82)]) [.int v1] nosub X  (dg dt_R_logic 3 rfl) cb_R_isGrid cv_R_isGrid w_1183 (s_R_isGrid _ ad _ _ hc_1) rfl ⟨Nat.le_of_ble_eq_true rfl, Nat.le_of_ble_eq_true rfl⟩ sh_82 rfl (Nat.le_of_ble_eq_true rfl) Rc0 ?_
  refine jn_go (fun j14_3 => ∀ (s_4 : Int32), j14_3 s_4 = some (rv, σe) → G θ (0, 0) (g_SH, ad) σ 14 [some (.ref (ad 82)), some (.int v1), none, none] [.int s_4, .ref (ad 82)]) h ?_ (fun j14_3 hj14_3 h => ?_)
  · intro s_4 h
    refine G_put (pc := 14) 0 X (dg dt_R_logic 8 rfl) fc_8 w_1063 rfl (Nat.le_of_ble_eq_true rfl) rfl rfl sh_82 rfl h (fun σ_5 h => ?_)
    refine G_aload_n (pc := 17) 0 X (dg dt_R_logic 9 rfl) rfl rfl ?_
    refine G_getI (pc := 18) 0 X (dg dt_R_logic 10 rfl) fc_8 w_1063 rfl (Nat.le_of_ble_eq_true rfl) sh_82 rfl ?_
    refine G_if_le (pc := 21) 26 X (dg dt_R_logic 11 rfl) (by decide) h (fun h => ?_) (fun h => ?_)
    · refine G_aload_n (pc := 26) 0 X (dg dt_R_logic 14 rfl) rfl rfl ?_
      refine G_iload_n (pc := 27) 1 X (dg dt_R_logic 15 rfl) rfl rfl ?_
      obtain ⟨r_7, σ_8, hc_6, h⟩ := cal_go h
      refine G_callV (pc := 28) (S := []) [.int v1] nosub X  (dg dt_R_logic 16 rfl) cb_R_copyToWork cv_R_copyToWork w_1219 (s_R_copyToWork _ ad _ _ hc_6) rfl ⟨Nat.le_of_ble_eq_true rfl, Nat.le_of_ble_eq_true rfl⟩ sh_82 rfl (Nat.le_of_ble_eq_true rfl) Rc0 ?_
      refine G_iconst (pc := 31) 0 X (dg dt_R_logic 17 rfl) (by decide) ?_
      refine G_istore_n (pc := 32) 2 X (dg dt_R_logic 18 rfl) rfl (Nat.le_of_ble_eq_true rfl) rfl ?_
      refine G_aload_n (pc := 33) 0 X (dg dt_R_logic 19 rfl) rfl rfl ?_
      obtain ⟨r_10, hc_9, h⟩ := cap_go h
      refine G_callV (pc := 34) (S := []) [] nosub X  (dg dt_R_logic 20 rfl) cb_R_forcedAtWork cv_R_forcedAtWork w_1287 (s_R_forcedAtWork _ ad _ hc_9) rfl ⟨Nat.le_of_ble_eq_true rfl, Nat.le_of_ble_eq_true rfl⟩ sh_82 rfl (Nat.le_of_ble_eq_true rfl) Rc0 ?_
      refine G_istore_n (pc := 37) 3 X (dg dt_R_logic 21 rfl) rfl (Nat.le_of_ble_eq_true rfl) rfl ?_
      refine G_weak (L' := [some (.ref (ad 82)), none, some (.int 0), some (.int r_10)]) ⟨rfl, ⟨rfl, ⟨rfl, trivial⟩⟩⟩ ?_
      refine s_R_logic_L38  X hq  (fun v2_16 σ_17 h => ?_) _ _ _ _ h
      refine G_iload_n (pc := 67) 2 X (dg dt_R_logic 39 rfl) rfl rfl ?_
      exact G_iret (pc := 68) X hq (dg dt_R_logic 40 rfl) h
    · refine G_iconst (pc := 24) 0 X (dg dt_R_logic 12 rfl) (by decide) ?_
      exact G_iret (pc := 25) X hq (dg dt_R_logic 13 rfl) h
  refine G_if_ne (pc := 6) 13 X (dg dt_R_logic 4 rfl) (by decide) h (fun h => ?_) (fun h => ?_)
  · refine G_iconst (pc := 13) 0 X (dg dt_R_logic 7 rfl) (by decide) ?_
    exact G_wk (hj14_3 0 h) ⟨rfl, ⟨rfl, trivial⟩⟩
  · refine G_iconst (pc := 9) 1 X (dg dt_R_logic 5 rfl) (by decide) ?_
    refine G_goto (pc := 10) 14 X (dg dt_R_logic 6 rfl) (by decide) ?_
    exact G_wk (hj14_3 1 h) ⟨rfl, ⟨rfl, trivial⟩⟩
set_option maxRecDepth 100000 in
set_option maxHeartbeats 4000000 in
theorem s_R_forced (l : Launch) (ad : Nat → Nat) (σ : St) (v1 : Int32)  {rv : Int32} {σe : St} (h : f_R_forced σ v1 = some (rv, σe)) : Rt l [] yX12_forced cX12_forced 2 (some .int) 4 99 (g_SH, ad) [.ref (ad 82), .int v1] σ (some (.int rv)) σe := by
  refine Rt.intro (L := [some (.ref (ad 82)), some (.int v1)]) (by decide +kernel) (Nat.le_of_ble_eq_true rfl) rfl (fun θ hl X hq => ?_)
  subst hl
  unfold f_R_forced at h
  refine G_aload_n (pc := 0) 0 X (dg dt_R_forced 0 rfl) rfl rfl ?_
  refine G_aload_n (pc := 1) 0 X (dg dt_R_forced 1 rfl) rfl rfl ?_
  refine G_iload_n (pc := 2) 1 X (dg dt_R_forced 2 rfl) rfl rfl ?_
  obtain ⟨r_2, hc_1, h⟩ := cap_go h
  refine G_callV (pc := 3) (S := [.ref (ad 82)]) [.int v1] nosub X  (dg dt_R_forced 3 rfl) cb_R_isGrid cv_R_isGrid w_1183 (s_R_isGrid _ ad _ _ hc_1) rfl ⟨Nat.le_of_ble_eq_true rfl, Nat.le_of_ble_eq_true rfl⟩ sh_82 rfl (Nat.le_of_ble_eq_true rfl) Rc0 ?_
  refine jn_go (fun j14_3 => ∀ (s_4 : Int32), j14_3 s_4 = some (rv, σe) → G θ (0, 0) (g_SH, ad) σ 14 [some (.ref (ad 82)), some (.int v1)] [.int s_4, .ref (ad 82)]) h ?_ (fun j14_3 hj14_3 h => ?_)
  · intro s_4 h
    refine G_put (pc := 14) 0 X (dg dt_R_forced 8 rfl) fc_8 w_1063 rfl (Nat.le_of_ble_eq_true rfl) rfl rfl sh_82 rfl h (fun σ_5 h => ?_)
    refine G_aload_n (pc := 17) 0 X (dg dt_R_forced 9 rfl) rfl rfl ?_
    refine G_getI (pc := 18) 0 X (dg dt_R_forced 10 rfl) fc_8 w_1063 rfl (Nat.le_of_ble_eq_true rfl) sh_82 rfl ?_
    refine G_if_le (pc := 21) 26 X (dg dt_R_forced 11 rfl) (by decide) h (fun h => ?_) (fun h => ?_)
    · refine G_aload_n (pc := 26) 0 X (dg dt_R_forced 14 rfl) rfl rfl ?_
      refine G_iload_n (pc := 27) 1 X (dg dt_R_forced 15 rfl) rfl rfl ?_
      obtain ⟨r_7, σ_8, hc_6, h⟩ := cal_go h
      refine G_callV (pc := 28) (S := []) [.int v1] nosub X  (dg dt_R_forced 16 rfl) cb_R_copyToWork cv_R_copyToWork w_1219 (s_R_copyToWork _ ad _ _ hc_6) rfl ⟨Nat.le_of_ble_eq_true rfl, Nat.le_of_ble_eq_true rfl⟩ sh_82 rfl (Nat.le_of_ble_eq_true rfl) Rc0 ?_
      refine G_aload_n (pc := 31) 0 X (dg dt_R_forced 17 rfl) rfl rfl ?_
      obtain ⟨r_10, hc_9, h⟩ := cap_go h
      refine G_callV (pc := 32) (S := []) [] nosub X  (dg dt_R_forced 18 rfl) cb_R_forcedAtWork cv_R_forcedAtWork w_1287 (s_R_forcedAtWork _ ad _ hc_9) rfl ⟨Nat.le_of_ble_eq_true rfl, Nat.le_of_ble_eq_true rfl⟩ sh_82 rfl (Nat.le_of_ble_eq_true rfl) Rc0 ?_
      exact G_iret (pc := 35) X hq (dg dt_R_forced 19 rfl) h
    · refine G_iconst (pc := 24) 0 X (dg dt_R_forced 12 rfl) (by decide) ?_
      exact G_iret (pc := 25) X hq (dg dt_R_forced 13 rfl) h
  refine G_if_ne (pc := 6) 13 X (dg dt_R_forced 4 rfl) (by decide) h (fun h => ?_) (fun h => ?_)
  · refine G_iconst (pc := 13) 0 X (dg dt_R_forced 7 rfl) (by decide) ?_
    exact G_wk (hj14_3 0 h) ⟨rfl, ⟨rfl, trivial⟩⟩
  · refine G_iconst (pc := 9) 1 X (dg dt_R_forced 5 rfl) (by decide) ?_
    refine G_goto (pc := 10) 14 X (dg dt_R_forced 6 rfl) (by decide) ?_
    exact G_wk (hj14_3 1 h) ⟨rfl, ⟨rfl, trivial⟩⟩
set_option maxRecDepth 100000 in
set_option maxHeartbeats 4000000 in
theorem s_R_fill_L78 {θ : Th} {ad : Nat → Nat}  {rv : Int32} {σe : St} (X : Cx θ [] cX12_fill 5 "QuasigroveModel" 2 51)
    {v1 : Int32} {v3 : Int32} (hq : Rq θ (g_SH, ad) (some .int) (some (.int rv)) σe) {kx117 : St → Option (Int32 × St)} (hkx117 : ∀ (σ : St), kx117 σ = some (rv, σe) → G θ (0, 0) (g_SH, ad) σ 117 [none, none, none, some (.int v3), none] []) :
    ∀ (n : Nat) (v4 : Int32) (σ : St), f_R_fill_L78 v1 v3 kx117 n v4 σ = some (rv, σe) → G θ (0, 0) (g_SH, ad) σ 78 [some (.ref (ad 82)), some (.int v1), none, some (.int v3), some (.int v4)] [] := by
  intro n
  induction n with
  | zero => intro v4 σ h; rw [f_R_fill_L78] at h; cases h
  | succ n ih =>
    intro v4 σ h
    rw [f_R_fill_L78] at h
    refine G_iload (pc := 78) X (dg dt_R_fill 45 rfl) rfl ?_
    refine G_aload_n (pc := 80) 0 X (dg dt_R_fill 46 rfl) rfl rfl ?_
    refine G_getI (pc := 81) 13 X (dg dt_R_fill 47 rfl) fc_8 w_1076 rfl (Nat.le_of_ble_eq_true rfl) sh_82 rfl ?_
    refine G_aload_n (pc := 84) 0 X (dg dt_R_fill 48 rfl) rfl rfl ?_
    refine G_getI (pc := 85) 13 X (dg dt_R_fill 49 rfl) fc_8 w_1076 rfl (Nat.le_of_ble_eq_true rfl) sh_82 rfl ?_
    refine G_imul (pc := 88) X (dg dt_R_fill 50 rfl) ?_
    refine G_icmp_ge (pc := 89) 117 X (dg dt_R_fill 51 rfl) (by decide) h (fun h => ?_) (fun h => ?_)
    · exact G_wk (hkx117 σ h) ⟨rfl, trivial⟩
    · refine G_aload_n (pc := 92) 0 X (dg dt_R_fill 52 rfl) rfl rfl ?_
      refine G_getR (pc := 93) 3 X (dg dt_R_fill 53 rfl) fc_8 w_1066 rfl (Nat.le_of_ble_eq_true rfl) sh_82 rfl ?_
      refine G_bipush (pc := 96) 25 X (dg dt_R_fill 54 rfl) (by decide) ?_
      refine G_iload_n (pc := 98) 1 X (dg dt_R_fill 55 rfl) rfl rfl ?_
      refine G_imul (pc := 99) X (dg dt_R_fill 56 rfl) ?_
      refine G_iload (pc := 100) X (dg dt_R_fill 57 rfl) rfl ?_
      refine G_iadd (pc := 102) X (dg dt_R_fill 58 rfl) ?_
      refine G_aload_n (pc := 103) 0 X (dg dt_R_fill 59 rfl) rfl rfl ?_
      refine G_getR (pc := 104) 17 X (dg dt_R_fill 60 rfl) fc_8 w_1080 rfl (Nat.le_of_ble_eq_true rfl) sh_82 rfl ?_
      refine G_iload (pc := 107) X (dg dt_R_fill 61 rfl) rfl ?_
      refine G_iald (pc := 109) X (dg dt_R_fill 62 rfl) sh_93 h (fun r_18 h => ?_)
      refine G_iast (pc := 110) X (dg dt_R_fill 63 rfl) sh_84 h (fun σ_19 h => ?_)
      refine G_iinc (pc := 111) (v4 + 1) X (dg dt_R_fill 64 rfl) rfl (Nat.le_of_ble_eq_true rfl) rfl rfl ?_
      refine G_goto (pc := 114) 78 X (dg dt_R_fill 65 rfl) (by decide) ?_
      exact G_wk (ih (v4 + 1) σ_19 h) ⟨rfl, ⟨rfl, ⟨rfl, ⟨rfl, trivial⟩⟩⟩⟩
set_option maxRecDepth 100000 in
set_option maxHeartbeats 4000000 in
theorem s_R_fill (l : Launch) (ad : Nat → Nat) (σ : St) (v1 : Int32)  {rv : Int32} {σe : St} (h : f_R_fill σ v1 = some (rv, σe)) : Rt l [] yX12_fill cX12_fill 5 (some .int) 2 51 (g_SH, ad) [.ref (ad 82), .int v1] σ (some (.int rv)) σe := by
  refine Rt.intro (L := [some (.ref (ad 82)), some (.int v1), none, none, none]) (by decide +kernel) (Nat.le_of_ble_eq_true rfl) rfl (fun θ hl X hq => ?_)
  subst hl
  unfold f_R_fill at h
  refine G_aload_n (pc := 0) 0 X (dg dt_R_fill 0 rfl) rfl rfl ?_
  refine G_aload_n (pc := 1) 0 X (dg dt_R_fill 1 rfl) rfl rfl ?_
  refine G_iload_n (pc := 2) 1 X (dg dt_R_fill 2 rfl) rfl rfl ?_
  obtain ⟨r_2, hc_1, h⟩ := cap_go h
  refine G_callV (pc := 3) (S := [.ref (ad 82)]) [.int v1] nosub X  (dg dt_R_fill 3 rfl) cb_R_isGrid cv_R_isGrid w_1183 (s_R_isGrid _ ad _ _ hc_1) rfl ⟨Nat.le_of_ble_eq_true rfl, Nat.le_of_ble_eq_true rfl⟩ sh_82 rfl (Nat.le_of_ble_eq_true rfl) Rc0 ?_
  refine jn_go (fun j14_3 => ∀ (s_4 : Int32), j14_3 s_4 = some (rv, σe) → G θ (0, 0) (g_SH, ad) σ 14 [some (.ref (ad 82)), some (.int v1), none, none, none] [.int s_4, .ref (ad 82)]) h ?_ (fun j14_3 hj14_3 h => ?_)
  · intro s_4 h
    refine G_put (pc := 14) 0 X (dg dt_R_fill 8 rfl) fc_8 w_1063 rfl (Nat.le_of_ble_eq_true rfl) rfl rfl sh_82 rfl h (fun σ_5 h => ?_)
    refine G_aload_n (pc := 17) 0 X (dg dt_R_fill 9 rfl) rfl rfl ?_
    refine G_getI (pc := 18) 0 X (dg dt_R_fill 10 rfl) fc_8 w_1063 rfl (Nat.le_of_ble_eq_true rfl) sh_82 rfl ?_
    refine G_if_le (pc := 21) 26 X (dg dt_R_fill 11 rfl) (by decide) h (fun h => ?_) (fun h => ?_)
    · refine G_aload_n (pc := 26) 0 X (dg dt_R_fill 14 rfl) rfl rfl ?_
      refine G_iload_n (pc := 27) 1 X (dg dt_R_fill 15 rfl) rfl rfl ?_
      obtain ⟨r_7, σ_8, hc_6, h⟩ := cal_go h
      refine G_callV (pc := 28) (S := []) [.int v1] nosub X  (dg dt_R_fill 16 rfl) cb_R_copyToWork cv_R_copyToWork w_1219 (s_R_copyToWork _ ad _ _ hc_6) rfl ⟨Nat.le_of_ble_eq_true rfl, Nat.le_of_ble_eq_true rfl⟩ sh_82 rfl (Nat.le_of_ble_eq_true rfl) Rc0 ?_
      refine G_aload_n (pc := 31) 0 X (dg dt_R_fill 17 rfl) rfl rfl ?_
      refine G_iconst (pc := 32) 1 X (dg dt_R_fill 18 rfl) (by decide) ?_
      obtain ⟨r_10, σ_11, hc_9, h⟩ := cal_go h
      refine G_callV (pc := 33) (S := []) [.int 1] nosub X  (dg dt_R_fill 19 rfl) cb_R_search cv_R_search w_1267 (s_R_search _ ad _ _ hc_9) rfl ⟨Nat.le_of_ble_eq_true rfl, Nat.le_of_ble_eq_true rfl⟩ sh_82 rfl (Nat.le_of_ble_eq_true rfl) Rc0 ?_
      refine G_istore_n (pc := 36) 2 X (dg dt_R_fill 20 rfl) rfl (Nat.le_of_ble_eq_true rfl) rfl ?_
      refine G_aload_n (pc := 37) 0 X (dg dt_R_fill 21 rfl) rfl rfl ?_
      refine G_iload_n (pc := 38) 2 X (dg dt_R_fill 22 rfl) rfl rfl ?_
      refine jn_go (fun j47_12 => ∀ (s_13 : Int32), j47_12 s_13 = some (rv, σe) → G θ (0, 0) (g_SH, ad) σ_11 47 [some (.ref (ad 82)), some (.int v1), none, none, none] [.int s_13, .ref (ad 82)]) h ?_ (fun j47_12 hj47_12 h => ?_)
      · intro s_13 h
        refine G_put (pc := 47) 0 X (dg dt_R_fill 27 rfl) fc_8 w_1063 rfl (Nat.le_of_ble_eq_true rfl) rfl rfl sh_82 rfl h (fun σ_14 h => ?_)
        refine G_aload_n (pc := 50) 0 X (dg dt_R_fill 28 rfl) rfl rfl ?_
        refine G_getI (pc := 51) 0 X (dg dt_R_fill 29 rfl) fc_8 w_1063 rfl (Nat.le_of_ble_eq_true rfl) sh_82 rfl ?_
        refine G_if_le (pc := 54) 59 X (dg dt_R_fill 30 rfl) (by decide) h (fun h => ?_) (fun h => ?_)
        · refine G_aload_n (pc := 59) 0 X (dg dt_R_fill 33 rfl) rfl rfl ?_
          refine G_getI (pc := 60) 13 X (dg dt_R_fill 34 rfl) fc_8 w_1076 rfl (Nat.le_of_ble_eq_true rfl) sh_82 rfl ?_
          refine G_aload_n (pc := 63) 0 X (dg dt_R_fill 35 rfl) rfl rfl ?_
          refine G_getI (pc := 64) 13 X (dg dt_R_fill 36 rfl) fc_8 w_1076 rfl (Nat.le_of_ble_eq_true rfl) sh_82 rfl ?_
          refine G_imul (pc := 67) X (dg dt_R_fill 37 rfl) ?_
          refine G_aload_n (pc := 68) 0 X (dg dt_R_fill 38 rfl) rfl rfl ?_
          refine G_iload_n (pc := 69) 1 X (dg dt_R_fill 39 rfl) rfl rfl ?_
          obtain ⟨r_16, hc_15, h⟩ := cap_go h
          refine G_callV (pc := 70) (S := [.int ((σ_14 82 13) * (σ_14 82 13))]) [.int v1] nosub X  (dg dt_R_fill 40 rfl) cb_R_filled cv_R_filled w_1215 (s_R_filled _ ad _ _ hc_15) rfl ⟨Nat.le_of_ble_eq_true rfl, Nat.le_of_ble_eq_true rfl⟩ sh_82 rfl (Nat.le_of_ble_eq_true rfl) Rc0 ?_
          refine G_isub (pc := 73) X (dg dt_R_fill 41 rfl) ?_
          refine G_istore_n_lt (pc := 74) 3 X (dg dt_R_fill 42 rfl) rfl (Nat.le_of_ble_eq_true rfl) rfl h (fun v3_17 h => ?_)
          refine G_iconst (pc := 75) 0 X (dg dt_R_fill 43 rfl) (by decide) ?_
          refine G_istore (pc := 76) X (dg dt_R_fill 44 rfl) (Nat.le_of_ble_eq_true rfl) rfl ?_
          refine G_weak (L' := [some (.ref (ad 82)), some (.int v1), none, some (.int v3_17), some (.int 0)]) ⟨rfl, ⟨rfl, ⟨rfl, ⟨rfl, trivial⟩⟩⟩⟩ ?_
          refine s_R_fill_L78  X hq  (fun σ_20 h => ?_) _ _ _ h
          refine G_iload_n (pc := 117) 3 X (dg dt_R_fill 66 rfl) rfl rfl ?_
          exact G_iret (pc := 118) X hq (dg dt_R_fill 67 rfl) h
        · refine G_iconst (pc := 57) 0 X (dg dt_R_fill 31 rfl) (by decide) ?_
          exact G_iret (pc := 58) X hq (dg dt_R_fill 32 rfl) h
      refine G_if_ne (pc := 39) 46 X (dg dt_R_fill 23 rfl) (by decide) h (fun h => ?_) (fun h => ?_)
      · refine G_iconst (pc := 46) 0 X (dg dt_R_fill 26 rfl) (by decide) ?_
        exact G_wk (hj47_12 0 h) ⟨rfl, ⟨rfl, trivial⟩⟩
      · refine G_iconst (pc := 42) 2 X (dg dt_R_fill 24 rfl) (by decide) ?_
        refine G_goto (pc := 43) 47 X (dg dt_R_fill 25 rfl) (by decide) ?_
        exact G_wk (hj47_12 2 h) ⟨rfl, ⟨rfl, trivial⟩⟩
    · refine G_iconst (pc := 24) 0 X (dg dt_R_fill 12 rfl) (by decide) ?_
      exact G_iret (pc := 25) X hq (dg dt_R_fill 13 rfl) h
  refine G_if_ne (pc := 6) 13 X (dg dt_R_fill 4 rfl) (by decide) h (fun h => ?_) (fun h => ?_)
  · refine G_iconst (pc := 13) 0 X (dg dt_R_fill 7 rfl) (by decide) ?_
    exact G_wk (hj14_3 0 h) ⟨rfl, ⟨rfl, trivial⟩⟩
  · refine G_iconst (pc := 9) 1 X (dg dt_R_fill 5 rfl) (by decide) ?_
    refine G_goto (pc := 10) 14 X (dg dt_R_fill 6 rfl) (by decide) ?_
    exact G_wk (hj14_3 1 h) ⟨rfl, ⟨rfl, trivial⟩⟩
set_option maxRecDepth 100000 in
set_option maxHeartbeats 4000000 in
theorem s_R_fillsOf (l : Launch) (ad : Nat → Nat) (σ : St) (v1 : Int32) (v2 : Int32)  {rv : Int32} {σe : St} (h : f_R_fillsOf σ v1 v2 = some (rv, σe)) : Rt l [] yX12_fillsOf cX12_fillsOf 3 (some .int) 2 51 (g_SH, ad) [.ref (ad 82), .int v1, .int v2] σ (some (.int rv)) σe := by
  refine Rt.intro (L := [some (.ref (ad 82)), some (.int v1), some (.int v2)]) (by decide +kernel) (Nat.le_of_ble_eq_true rfl) rfl (fun θ hl X hq => ?_)
  subst hl
  unfold f_R_fillsOf at h
  refine G_aload_n (pc := 0) 0 X (dg dt_R_fillsOf 0 rfl) rfl rfl ?_
  refine G_aload_n (pc := 1) 0 X (dg dt_R_fillsOf 1 rfl) rfl rfl ?_
  refine G_iload_n (pc := 2) 1 X (dg dt_R_fillsOf 2 rfl) rfl rfl ?_
  obtain ⟨r_2, hc_1, h⟩ := cap_go h
  refine G_callV (pc := 3) (S := [.ref (ad 82)]) [.int v1] nosub X  (dg dt_R_fillsOf 3 rfl) cb_R_isGrid cv_R_isGrid w_1183 (s_R_isGrid _ ad _ _ hc_1) rfl ⟨Nat.le_of_ble_eq_true rfl, Nat.le_of_ble_eq_true rfl⟩ sh_82 rfl (Nat.le_of_ble_eq_true rfl) Rc0 ?_
  refine jn_go (fun j30_3 => ∀ (s_4 : Int32), j30_3 s_4 = some (rv, σe) → G θ (0, 0) (g_SH, ad) σ 30 [some (.ref (ad 82)), some (.int v1), some (.int v2)] [.int s_4, .ref (ad 82)]) h ?_ (fun j30_3 hj30_3 h => ?_)
  · intro s_4 h
    refine G_put (pc := 30) 0 X (dg dt_R_fillsOf 16 rfl) fc_8 w_1063 rfl (Nat.le_of_ble_eq_true rfl) rfl rfl sh_82 rfl h (fun σ_5 h => ?_)
    refine G_aload_n (pc := 33) 0 X (dg dt_R_fillsOf 17 rfl) rfl rfl ?_
    refine G_getI (pc := 34) 0 X (dg dt_R_fillsOf 18 rfl) fc_8 w_1063 rfl (Nat.le_of_ble_eq_true rfl) sh_82 rfl ?_
    refine G_if_le (pc := 37) 42 X (dg dt_R_fillsOf 19 rfl) (by decide) h (fun h => ?_) (fun h => ?_)
    · refine G_aload_n (pc := 42) 0 X (dg dt_R_fillsOf 22 rfl) rfl rfl ?_
      refine G_iload_n (pc := 43) 1 X (dg dt_R_fillsOf 23 rfl) rfl rfl ?_
      obtain ⟨r_7, σ_8, hc_6, h⟩ := cal_go h
      refine G_callV (pc := 44) (S := []) [.int v1] nosub X  (dg dt_R_fillsOf 24 rfl) cb_R_copyToWork cv_R_copyToWork w_1219 (s_R_copyToWork _ ad _ _ hc_6) rfl ⟨Nat.le_of_ble_eq_true rfl, Nat.le_of_ble_eq_true rfl⟩ sh_82 rfl (Nat.le_of_ble_eq_true rfl) Rc0 ?_
      refine G_aload_n (pc := 47) 0 X (dg dt_R_fillsOf 25 rfl) rfl rfl ?_
      refine G_iload_n (pc := 48) 2 X (dg dt_R_fillsOf 26 rfl) rfl rfl ?_
      obtain ⟨r_10, σ_11, hc_9, h⟩ := cal_go h
      refine G_callV (pc := 49) (S := []) [.int v2] nosub X  (dg dt_R_fillsOf 27 rfl) cb_R_search cv_R_search w_1267 (s_R_search _ ad _ _ hc_9) rfl ⟨Nat.le_of_ble_eq_true rfl, Nat.le_of_ble_eq_true rfl⟩ sh_82 rfl (Nat.le_of_ble_eq_true rfl) Rc0 ?_
      exact G_iret (pc := 52) X hq (dg dt_R_fillsOf 28 rfl) h
    · refine G_iconst (pc := 40) 0 X (dg dt_R_fillsOf 20 rfl) (by decide) ?_
      exact G_iret (pc := 41) X hq (dg dt_R_fillsOf 21 rfl) h
  refine G_if_ne (pc := 6) 13 X (dg dt_R_fillsOf 4 rfl) (by decide) h (fun h => ?_) (fun h => ?_)
  · refine G_aload_n (pc := 13) 0 X (dg dt_R_fillsOf 7 rfl) rfl rfl ?_
    refine G_iload_n (pc := 14) 2 X (dg dt_R_fillsOf 8 rfl) rfl rfl ?_
    refine G_iconst (pc := 15) 1 X (dg dt_R_fillsOf 9 rfl) (by decide) ?_
    refine G_sipush (pc := 16) 1000 X (dg dt_R_fillsOf 10 rfl) (by decide) ?_
    obtain ⟨r_13, hc_12, h⟩ := cap_go h
    refine G_callV (pc := 19) (S := [.ref (ad 82)]) [.int v2, .int 1, .int 1000] nosub X  (dg dt_R_fillsOf 11 rfl) cb_R_between cv_R_between w_1159 (s_R_between _ ad _ _ _ _ hc_12) rfl ⟨Nat.le_of_ble_eq_true rfl, Nat.le_of_ble_eq_true rfl⟩ sh_82 rfl (Nat.le_of_ble_eq_true rfl) Rc0 ?_
    refine G_if_ne (pc := 22) 29 X (dg dt_R_fillsOf 12 rfl) (by decide) h (fun h => ?_) (fun h => ?_)
    · refine G_iconst (pc := 29) 0 X (dg dt_R_fillsOf 15 rfl) (by decide) ?_
      exact G_wk (hj30_3 0 h) ⟨rfl, ⟨rfl, ⟨rfl, trivial⟩⟩⟩
    · refine G_iconst (pc := 25) 2 X (dg dt_R_fillsOf 13 rfl) (by decide) ?_
      refine G_goto (pc := 26) 30 X (dg dt_R_fillsOf 14 rfl) (by decide) ?_
      exact G_wk (hj30_3 2 h) ⟨rfl, ⟨rfl, ⟨rfl, trivial⟩⟩⟩
  · refine G_iconst (pc := 9) 1 X (dg dt_R_fillsOf 5 rfl) (by decide) ?_
    refine G_goto (pc := 10) 30 X (dg dt_R_fillsOf 6 rfl) (by decide) ?_
    exact G_wk (hj30_3 1 h) ⟨rfl, ⟨rfl, ⟨rfl, trivial⟩⟩⟩
set_option maxRecDepth 100000 in
set_option maxHeartbeats 4000000 in
theorem s_R_fillsAnew (l : Launch) (ad : Nat → Nat) (σ : St) (v1 : Int32) (v2 : Int32)  {rv : Int32} {σe : St} (h : f_R_fillsAnew σ v1 v2 = some (rv, σe)) : Rt l [] yX12_fillsAnew cX12_fillsAnew 3 (some .int) 3 73 (g_SH, ad) [.ref (ad 82), .int v1, .int v2] σ (some (.int rv)) σe := by
  refine Rt.intro (L := [some (.ref (ad 82)), some (.int v1), some (.int v2)]) (by decide +kernel) (Nat.le_of_ble_eq_true rfl) rfl (fun θ hl X hq => ?_)
  subst hl
  unfold f_R_fillsAnew at h
  refine G_aload_n (pc := 0) 0 X (dg dt_R_fillsAnew 0 rfl) rfl rfl ?_
  refine G_iload_n (pc := 1) 1 X (dg dt_R_fillsAnew 1 rfl) rfl rfl ?_
  refine G_iload_n (pc := 2) 2 X (dg dt_R_fillsAnew 2 rfl) rfl rfl ?_
  obtain ⟨r_2, σ_3, hc_1, h⟩ := cal_go h
  refine G_callV (pc := 3) (S := []) [.int v1, .int v2] nosub X  (dg dt_R_fillsAnew 3 rfl) cb_R_fillsOf cv_R_fillsOf w_1263 (s_R_fillsOf _ ad _ _ _ hc_1) rfl ⟨Nat.le_of_ble_eq_true rfl, Nat.le_of_ble_eq_true rfl⟩ sh_82 rfl (Nat.le_of_ble_eq_true rfl) Rc0 ?_
  exact G_iret (pc := 6) X hq (dg dt_R_fillsAnew 4 rfl) h
set_option maxRecDepth 100000 in
set_option maxHeartbeats 4000000 in
theorem s_R_fills (l : Launch) (ad : Nat → Nat) (σ : St) (v1 : Int32) (v2 : Int32)  {rv : Int32} {σe : St} (h : f_R_fills σ v1 v2 = some (rv, σe)) : Rt l [] yX12_fills cX12_fills 3 (some .int) 3 73 (g_SH, ad) [.ref (ad 82), .int v1, .int v2] σ (some (.int rv)) σe := by
  refine Rt.intro (L := [some (.ref (ad 82)), some (.int v1), some (.int v2)]) (by decide +kernel) (Nat.le_of_ble_eq_true rfl) rfl (fun θ hl X hq => ?_)
  subst hl
  unfold f_R_fills at h
  refine G_aload_n (pc := 0) 0 X (dg dt_R_fills 0 rfl) rfl rfl ?_
  refine G_iload_n (pc := 1) 1 X (dg dt_R_fills 1 rfl) rfl rfl ?_
  refine G_iload_n (pc := 2) 2 X (dg dt_R_fills 2 rfl) rfl rfl ?_
  obtain ⟨r_2, σ_3, hc_1, h⟩ := cal_go h
  refine G_callV (pc := 3) (S := []) [.int v1, .int v2] nosub X  (dg dt_R_fills 3 rfl) cb_R_fillsOf cv_R_fillsOf w_1263 (s_R_fillsOf _ ad _ _ _ hc_1) rfl ⟨Nat.le_of_ble_eq_true rfl, Nat.le_of_ble_eq_true rfl⟩ sh_82 rfl (Nat.le_of_ble_eq_true rfl) Rc0 ?_
  exact G_iret (pc := 6) X hq (dg dt_R_fills 4 rfl) h
set_option maxRecDepth 100000 in
set_option maxHeartbeats 4000000 in
theorem s_R_isLine (l : Launch) (ad : Nat → Nat) (σ : St) (v1 : Int32) (v2 : Int32)  {rv : Int32} (h : f_R_isLine σ v1 v2 = some rv) : Rt l [] yX12_isLine cX12_isLine 3 (some .boolean) 1 23 (g_SH, ad) [.ref (ad 82), .int v1, .int v2] σ (some (.int rv)) σ := by
  refine Rt.intro (L := [some (.ref (ad 82)), some (.int v1), some (.int v2)]) (by decide +kernel) (Nat.le_of_ble_eq_true rfl) rfl (fun θ hl X hq => ?_)
  subst hl
  unfold f_R_isLine at h
  refine G_aload_n (pc := 0) 0 X (dg dt_R_isLine 0 rfl) rfl rfl ?_
  refine G_iload_n (pc := 1) 2 X (dg dt_R_isLine 1 rfl) rfl rfl ?_
  refine G_iconst (pc := 2) 0 X (dg dt_R_isLine 2 rfl) (by decide) ?_
  refine G_aload_n (pc := 3) 0 X (dg dt_R_isLine 3 rfl) rfl rfl ?_
  refine G_getR (pc := 4) 2 X (dg dt_R_isLine 4 rfl) fc_8 w_1065 rfl (Nat.le_of_ble_eq_true rfl) sh_82 rfl ?_
  refine G_iload_n (pc := 7) 1 X (dg dt_R_isLine 5 rfl) rfl rfl ?_
  refine G_iald (pc := 8) X (dg dt_R_isLine 6 rfl) sh_83 h (fun r_1 h => ?_)
  refine G_iconst (pc := 9) 1 X (dg dt_R_isLine 7 rfl) (by decide) ?_
  refine G_isub (pc := 10) X (dg dt_R_isLine 8 rfl) ?_
  obtain ⟨r_3, hc_2, h⟩ := cap_go h
  refine G_callV (pc := 11) (S := []) [.int v2, .int 0, .int (r_1 - 1)] nosub X  (dg dt_R_isLine 9 rfl) cb_R_between cv_R_between w_1159 (s_R_between _ ad _ _ _ _ hc_2) rfl ⟨Nat.le_of_ble_eq_true rfl, Nat.le_of_ble_eq_true rfl⟩ sh_82 rfl (Nat.le_of_ble_eq_true rfl) Rc0 ?_
  exact G_zretp (pc := 14) X hq (dg dt_R_isLine 10 rfl) h
set_option maxRecDepth 100000 in
set_option maxHeartbeats 4000000 in
theorem s_R_isCell (l : Launch) (ad : Nat → Nat) (σ : St) (v1 : Int32) (v2 : Int32) (v3 : Int32)  {rv : Int32} (h : f_R_isCell σ v1 v2 v3 = some rv) : Rt l [] yX12_isCell cX12_isCell 4 (some .boolean) 2 45 (g_SH, ad) [.ref (ad 82), .int v1, .int v2, .int v3] σ (some (.int rv)) σ := by
  refine Rt.intro (L := [some (.ref (ad 82)), some (.int v1), some (.int v2), some (.int v3)]) (by decide +kernel) (Nat.le_of_ble_eq_true rfl) rfl (fun θ hl X hq => ?_)
  subst hl
  unfold f_R_isCell at h
  refine G_aload_n (pc := 0) 0 X (dg dt_R_isCell 0 rfl) rfl rfl ?_
  refine G_iload_n (pc := 1) 1 X (dg dt_R_isCell 1 rfl) rfl rfl ?_
  obtain ⟨r_2, hc_1, h⟩ := cap_go h
  refine G_callV (pc := 2) (S := []) [.int v1] nosub X  (dg dt_R_isCell 2 rfl) cb_R_isGrid cv_R_isGrid w_1183 (s_R_isGrid _ ad _ _ hc_1) rfl ⟨Nat.le_of_ble_eq_true rfl, Nat.le_of_ble_eq_true rfl⟩ sh_82 rfl (Nat.le_of_ble_eq_true rfl) Rc0 ?_
  refine jn_go (fun j30_3 => j30_3 = some rv → G θ (0, 0) (g_SH, ad) σ 30 [none, none, none, none] []) h ?_ (fun j30_3 hj30_3 h => ?_)
  · intro  h
    refine G_iconst (pc := 30) 0 X (dg dt_R_isCell 16 rfl) (by decide) ?_
    exact G_zretlp (pc := 31) X hq (dg dt_R_isCell 17 rfl) rfl h
  refine G_if_eq (pc := 5) 30 X (dg dt_R_isCell 3 rfl) (by decide) h (fun h => ?_) (fun h => ?_)
  · exact G_wk (hj30_3  h) trivial
  · refine G_aload_n (pc := 8) 0 X (dg dt_R_isCell 4 rfl) rfl rfl ?_
    refine G_iload_n (pc := 9) 1 X (dg dt_R_isCell 5 rfl) rfl rfl ?_
    refine G_iload_n (pc := 10) 2 X (dg dt_R_isCell 6 rfl) rfl rfl ?_
    obtain ⟨r_5, hc_4, h⟩ := cap_go h
    refine G_callV (pc := 11) (S := []) [.int v1, .int v2] nosub X  (dg dt_R_isCell 7 rfl) cb_R_isLine cv_R_isLine w_1187 (s_R_isLine _ ad _ _ _ hc_4) rfl ⟨Nat.le_of_ble_eq_true rfl, Nat.le_of_ble_eq_true rfl⟩ sh_82 rfl (Nat.le_of_ble_eq_true rfl) Rc0 ?_
    refine G_if_eq (pc := 14) 30 X (dg dt_R_isCell 8 rfl) (by decide) h (fun h => ?_) (fun h => ?_)
    · exact G_wk (hj30_3  h) trivial
    · refine G_aload_n (pc := 17) 0 X (dg dt_R_isCell 9 rfl) rfl rfl ?_
      refine G_iload_n (pc := 18) 1 X (dg dt_R_isCell 10 rfl) rfl rfl ?_
      refine G_iload_n (pc := 19) 3 X (dg dt_R_isCell 11 rfl) rfl rfl ?_
      obtain ⟨r_7, hc_6, h⟩ := cap_go h
      refine G_callV (pc := 20) (S := []) [.int v1, .int v3] nosub X  (dg dt_R_isCell 12 rfl) cb_R_isLine cv_R_isLine w_1187 (s_R_isLine _ ad _ _ _ hc_6) rfl ⟨Nat.le_of_ble_eq_true rfl, Nat.le_of_ble_eq_true rfl⟩ sh_82 rfl (Nat.le_of_ble_eq_true rfl) Rc0 ?_
      refine G_if_eq (pc := 23) 30 X (dg dt_R_isCell 13 rfl) (by decide) h (fun h => ?_) (fun h => ?_)
      · exact G_wk (hj30_3  h) trivial
      · refine G_iconst (pc := 26) 1 X (dg dt_R_isCell 14 rfl) (by decide) ?_
        refine G_goto (pc := 27) 31 X (dg dt_R_isCell 15 rfl) (by decide) ?_
        exact G_zretlp (pc := 31) X hq (dg dt_R_isCell 17 rfl) rfl h
set_option maxRecDepth 100000 in
set_option maxHeartbeats 4000000 in
theorem s_R_can (l : Launch) (ad : Nat → Nat) (σ : St) (v1 : Int32) (v2 : Int32) (v3 : Int32)  {rv : Int32} {σe : St} (h : f_R_can σ v1 v2 v3 = some (rv, σe)) : Rt l [] yX12_can cX12_can 4 (some .int) 3 68 (g_SH, ad) [.ref (ad 82), .int v1, .int v2, .int v3] σ (some (.int rv)) σe := by
  refine Rt.intro (L := [some (.ref (ad 82)), some (.int v1), some (.int v2), some (.int v3)]) (by decide +kernel) (Nat.le_of_ble_eq_true rfl) rfl (fun θ hl X hq => ?_)
  subst hl
  unfold f_R_can at h
  refine G_aload_n (pc := 0) 0 X (dg dt_R_can 0 rfl) rfl rfl ?_
  refine G_aload_n (pc := 1) 0 X (dg dt_R_can 1 rfl) rfl rfl ?_
  refine G_iload_n (pc := 2) 1 X (dg dt_R_can 2 rfl) rfl rfl ?_
  refine G_iload_n (pc := 3) 2 X (dg dt_R_can 3 rfl) rfl rfl ?_
  refine G_iload_n (pc := 4) 3 X (dg dt_R_can 4 rfl) rfl rfl ?_
  obtain ⟨r_2, hc_1, h⟩ := cap_go h
  refine G_callV (pc := 5) (S := [.ref (ad 82)]) [.int v1, .int v2, .int v3] nosub X  (dg dt_R_can 5 rfl) cb_R_isCell cv_R_isCell w_1179 (s_R_isCell _ ad _ _ _ _ hc_1) rfl ⟨Nat.le_of_ble_eq_true rfl, Nat.le_of_ble_eq_true rfl⟩ sh_82 rfl (Nat.le_of_ble_eq_true rfl) Rc0 ?_
  refine jn_go (fun j16_3 => ∀ (s_4 : Int32), j16_3 s_4 = some (rv, σe) → G θ (0, 0) (g_SH, ad) σ 16 [some (.ref (ad 82)), some (.int v1), some (.int v2), some (.int v3)] [.int s_4, .ref (ad 82)]) h ?_ (fun j16_3 hj16_3 h => ?_)
  · intro s_4 h
    refine G_put (pc := 16) 0 X (dg dt_R_can 10 rfl) fc_8 w_1063 rfl (Nat.le_of_ble_eq_true rfl) rfl rfl sh_82 rfl h (fun σ_5 h => ?_)
    refine G_aload_n (pc := 19) 0 X (dg dt_R_can 11 rfl) rfl rfl ?_
    refine G_getI (pc := 20) 0 X (dg dt_R_can 12 rfl) fc_8 w_1063 rfl (Nat.le_of_ble_eq_true rfl) sh_82 rfl ?_
    refine G_if_le (pc := 23) 28 X (dg dt_R_can 13 rfl) (by decide) h (fun h => ?_) (fun h => ?_)
    · refine G_aload_n (pc := 28) 0 X (dg dt_R_can 16 rfl) rfl rfl ?_
      refine G_iload_n (pc := 29) 1 X (dg dt_R_can 17 rfl) rfl rfl ?_
      obtain ⟨r_7, σ_8, hc_6, h⟩ := cal_go h
      refine G_callV (pc := 30) (S := []) [.int v1] nosub X  (dg dt_R_can 18 rfl) cb_R_copyToWork cv_R_copyToWork w_1219 (s_R_copyToWork _ ad _ _ hc_6) rfl ⟨Nat.le_of_ble_eq_true rfl, Nat.le_of_ble_eq_true rfl⟩ sh_82 rfl (Nat.le_of_ble_eq_true rfl) Rc0 ?_
      refine G_aload_n (pc := 33) 0 X (dg dt_R_can 19 rfl) rfl rfl ?_
      refine G_aload_n (pc := 34) 0 X (dg dt_R_can 20 rfl) rfl rfl ?_
      refine G_getI (pc := 35) 13 X (dg dt_R_can 21 rfl) fc_8 w_1076 rfl (Nat.le_of_ble_eq_true rfl) sh_82 rfl ?_
      refine G_iload_n (pc := 38) 2 X (dg dt_R_can 22 rfl) rfl rfl ?_
      refine G_imul (pc := 39) X (dg dt_R_can 23 rfl) ?_
      refine G_iload_n (pc := 40) 3 X (dg dt_R_can 24 rfl) rfl rfl ?_
      refine G_iadd (pc := 41) X (dg dt_R_can 25 rfl) ?_
      obtain ⟨r_10, hc_9, h⟩ := cap_go h
      refine G_callV (pc := 42) (S := []) [.int (((σ_8 82 13) * v2) + v3)] nosub X  (dg dt_R_can 26 rfl) cb_R_setAt cv_R_setAt w_1223 (s_R_setAt _ ad _ _ hc_9) rfl ⟨Nat.le_of_ble_eq_true rfl, Nat.le_of_ble_eq_true rfl⟩ sh_82 rfl (Nat.le_of_ble_eq_true rfl) Rc0 ?_
      exact G_iret (pc := 45) X hq (dg dt_R_can 27 rfl) h
    · refine G_iconst (pc := 26) 0 X (dg dt_R_can 14 rfl) (by decide) ?_
      exact G_iret (pc := 27) X hq (dg dt_R_can 15 rfl) h
  refine G_if_ne (pc := 8) 15 X (dg dt_R_can 6 rfl) (by decide) h (fun h => ?_) (fun h => ?_)
  · refine G_iconst (pc := 15) 0 X (dg dt_R_can 9 rfl) (by decide) ?_
    exact G_wk (hj16_3 0 h) ⟨rfl, ⟨rfl, ⟨rfl, ⟨rfl, trivial⟩⟩⟩⟩
  · refine G_iconst (pc := 11) 1 X (dg dt_R_can 7 rfl) (by decide) ?_
    refine G_goto (pc := 12) 16 X (dg dt_R_can 8 rfl) (by decide) ?_
    exact G_wk (hj16_3 1 h) ⟨rfl, ⟨rfl, ⟨rfl, ⟨rfl, trivial⟩⟩⟩⟩
set_option maxRecDepth 100000 in
set_option maxHeartbeats 4000000 in
theorem s_R_turnRows_L11 {θ : Th} {ad : Nat → Nat}  {rv : Int32} {σe : St} (X : Cx θ [] cX12_turnRows 10 "QuasigroveModel" 1 23)
    {v1 : Int32} {v2 : Int32} {v3 : Int32} {v4 : Int32} {v5 : Int32} (hq : Rq θ (g_SH, ad) (some .int) (some (.int rv)) σe) {kx32 : St → Option (Int32 × St)} (hkx32 : ∀ (σ : St), kx32 σ = some (rv, σe) → G θ (0, 0) (g_SH, ad) σ 32 [some (.ref (ad 82)), some (.int v1), some (.int v2), some (.int v3), some (.int v4), some (.int v5), none, none, none, none] []) :
    ∀ (n : Nat) (v6 : Int32) (σ : St), f_R_turnRows_L11 v1 v2 v3 v4 v5 kx32 n v6 σ = some (rv, σe) → G θ (0, 0) (g_SH, ad) σ 11 [some (.ref (ad 82)), some (.int v1), some (.int v2), some (.int v3), some (.int v4), some (.int v5), some (.int v6), none, none, none] [] := by
  intro n
  induction n with
  | zero => intro v6 σ h; rw [f_R_turnRows_L11] at h; cases h
  | succ n ih =>
    intro v6 σ h
    rw [f_R_turnRows_L11] at h
    refine G_iload (pc := 11) X (dg dt_R_turnRows 7 rfl) rfl ?_
    refine G_iload (pc := 13) X (dg dt_R_turnRows 8 rfl) rfl ?_
    refine G_icmp_ge (pc := 15) 32 X (dg dt_R_turnRows 9 rfl) (by decide) h (fun h => ?_) (fun h => ?_)
    · exact G_wk (hkx32 σ h) ⟨rfl, ⟨rfl, ⟨rfl, ⟨rfl, ⟨rfl, ⟨rfl, trivial⟩⟩⟩⟩⟩⟩
    · refine G_aload_n (pc := 18) 0 X (dg dt_R_turnRows 10 rfl) rfl rfl ?_
      refine G_getR (pc := 19) 26 X (dg dt_R_turnRows 11 rfl) fc_8 w_1089 rfl (Nat.le_of_ble_eq_true rfl) sh_82 rfl ?_
      refine G_iload (pc := 22) X (dg dt_R_turnRows 12 rfl) rfl ?_
      refine G_iconst (pc := 24) 0 X (dg dt_R_turnRows 13 rfl) (by decide) ?_
      refine G_zast (pc := 25) X (dg dt_R_turnRows 14 rfl) sh_100 h (fun σ_2 h => ?_)
      refine G_iinc (pc := 26) (v6 + 1) X (dg dt_R_turnRows 15 rfl) rfl (Nat.le_of_ble_eq_true rfl) rfl rfl ?_
      refine G_goto (pc := 29) 11 X (dg dt_R_turnRows 16 rfl) (by decide) ?_
      exact G_wk (ih (v6 + 1) σ_2 h) ⟨rfl, ⟨rfl, ⟨rfl, ⟨rfl, ⟨rfl, ⟨rfl, ⟨rfl, trivial⟩⟩⟩⟩⟩⟩⟩
set_option maxRecDepth 100000 in
set_option maxHeartbeats 4000000 in
theorem s_R_turnRows_L67 {θ : Th} {ad : Nat → Nat}  {rv : Int32} {σe : St} (X : Cx θ [] cX12_turnRows 10 "QuasigroveModel" 1 23)
    {v1 : Int32} {v2 : Int32} {v3 : Int32} {v5 : Int32} {v6 : Int32} {v7 : Int32} {σ : St} (hq : Rq θ (g_SH, ad) (some .int) (some (.int rv)) σe) {kx108 : Int32 → Option (Int32 × St)} (hkx108 : ∀ (v8 : Int32), kx108 v8 = some (rv, σe) → G θ (0, 0) (g_SH, ad) σ 108 [some (.ref (ad 82)), some (.int v1), some (.int v2), some (.int v3), none, some (.int v5), none, some (.int v7), some (.int v8), none] []) :
    ∀ (n : Nat) (v8 : Int32) (v9 : Int32), f_R_turnRows_L67 v1 v2 v3 v5 v6 v7 σ kx108 n v8 v9 = some (rv, σe) → G θ (0, 0) (g_SH, ad) σ 67 [some (.ref (ad 82)), some (.int v1), some (.int v2), some (.int v3), none, some (.int v5), some (.int v6), some (.int v7), some (.int v8), some (.int v9)] [] := by
  intro n
  induction n with
  | zero => intro v8 v9 h; rw [f_R_turnRows_L67] at h; cases h
  | succ n ih =>
    intro v8 v9 h
    rw [f_R_turnRows_L67] at h
    refine G_iload (pc := 67) X (dg dt_R_turnRows 36 rfl) rfl ?_
    refine G_iload (pc := 69) X (dg dt_R_turnRows 37 rfl) rfl ?_
    refine G_icmp_ge (pc := 71) 108 X (dg dt_R_turnRows 38 rfl) (by decide) h (fun h => ?_) (fun h => ?_)
    · exact G_wk (hkx108 v8 h) ⟨rfl, ⟨rfl, ⟨rfl, ⟨rfl, ⟨rfl, ⟨rfl, ⟨rfl, trivial⟩⟩⟩⟩⟩⟩⟩
    · refine G_aload_n (pc := 74) 0 X (dg dt_R_turnRows 39 rfl) rfl rfl ?_
      refine G_iload_n (pc := 75) 1 X (dg dt_R_turnRows 40 rfl) rfl rfl ?_
      refine G_iload_n (pc := 76) 2 X (dg dt_R_turnRows 41 rfl) rfl rfl ?_
      refine G_iload (pc := 77) X (dg dt_R_turnRows 42 rfl) rfl ?_
      obtain ⟨r_7, hc_6, h⟩ := cap_go h
      refine G_callV (pc := 79) (S := []) [.int v1, .int v2, .int v9] nosub X  (dg dt_R_turnRows 43 rfl) cb_R_at cv_R_at w_1191 (s_R_at _ ad _ _ _ _ hc_6) rfl ⟨Nat.le_of_ble_eq_true rfl, Nat.le_of_ble_eq_true rfl⟩ sh_82 rfl (Nat.le_of_ble_eq_true rfl) Rc0 ?_
      refine G_aload_n (pc := 82) 0 X (dg dt_R_turnRows 44 rfl) rfl rfl ?_
      refine G_iload_n (pc := 83) 1 X (dg dt_R_turnRows 45 rfl) rfl rfl ?_
      refine G_iload_n (pc := 84) 3 X (dg dt_R_turnRows 46 rfl) rfl rfl ?_
      refine G_iload (pc := 85) X (dg dt_R_turnRows 47 rfl) rfl ?_
      obtain ⟨r_9, hc_8, h⟩ := cap_go h
      refine G_callV (pc := 87) (S := [.int r_7]) [.int v1, .int v3, .int v6] nosub X  (dg dt_R_turnRows 48 rfl) cb_R_at cv_R_at w_1191 (s_R_at _ ad _ _ _ _ hc_8) rfl ⟨Nat.le_of_ble_eq_true rfl, Nat.le_of_ble_eq_true rfl⟩ sh_82 rfl (Nat.le_of_ble_eq_true rfl) Rc0 ?_
      refine jn_go (fun j100_10 => ∀ (s_11 : Int32), j100_10 s_11 = some (rv, σe) → G θ (0, 0) (g_SH, ad) σ 100 [some (.ref (ad 82)), some (.int v1), some (.int v2), some (.int v3), none, some (.int v5), some (.int v6), some (.int v7), none, some (.int v9)] [.int s_11]) h ?_ (fun j100_10 hj100_10 h => ?_)
      · intro s_11 h
        refine G_istore (pc := 100) X (dg dt_R_turnRows 53 rfl) (Nat.le_of_ble_eq_true rfl) rfl ?_
        refine G_iinc (pc := 102) (v9 + 1) X (dg dt_R_turnRows 54 rfl) rfl (Nat.le_of_ble_eq_true rfl) rfl rfl ?_
        refine G_goto (pc := 105) 67 X (dg dt_R_turnRows 55 rfl) (by decide) ?_
        exact G_wk (ih s_11 (v9 + 1) h) ⟨rfl, ⟨rfl, ⟨rfl, ⟨rfl, ⟨rfl, ⟨rfl, ⟨rfl, ⟨rfl, ⟨rfl, trivial⟩⟩⟩⟩⟩⟩⟩⟩⟩
      refine G_icmp_ne (pc := 90) 98 X (dg dt_R_turnRows 49 rfl) (by decide) h (fun h => ?_) (fun h => ?_)
      · refine G_iload (pc := 98) X (dg dt_R_turnRows 52 rfl) rfl ?_
        exact G_wk (hj100_10 v8 h) ⟨rfl, ⟨rfl, ⟨rfl, ⟨rfl, ⟨rfl, ⟨rfl, ⟨rfl, ⟨rfl, trivial⟩⟩⟩⟩⟩⟩⟩⟩
      · refine G_iload (pc := 93) X (dg dt_R_turnRows 50 rfl) rfl ?_
        refine G_goto (pc := 95) 100 X (dg dt_R_turnRows 51 rfl) (by decide) ?_
        exact G_wk (hj100_10 v9 h) ⟨rfl, ⟨rfl, ⟨rfl, ⟨rfl, ⟨rfl, ⟨rfl, ⟨rfl, ⟨rfl, trivial⟩⟩⟩⟩⟩⟩⟩⟩
set_option maxRecDepth 100000 in
set_option maxHeartbeats 4000000 in
theorem s_R_turnRows_L39 {θ : Th} {ad : Nat → Nat}  {rv : Int32} {σe : St} (X : Cx θ [] cX12_turnRows 10 "QuasigroveModel" 1 23)
    {v1 : Int32} {v2 : Int32} {v3 : Int32} {v5 : Int32} (hq : Rq θ (g_SH, ad) (some .int) (some (.int rv)) σe) {kx115 : Int32 → St → Option (Int32 × St)} (hkx115 : ∀ (v7 : Int32) (σ : St), kx115 v7 σ = some (rv, σe) → G θ (0, 0) (g_SH, ad) σ 115 [some (.ref (ad 82)), some (.int v1), some (.int v2), some (.int v3), none, some (.int v5), none, some (.int v7), none, none] []) :
    ∀ (n : Nat) (v6 : Int32) (v7 : Int32) (σ : St), f_R_turnRows_L39 v1 v2 v3 v5 kx115 n v6 v7 σ = some (rv, σe) → G θ (0, 0) (g_SH, ad) σ 39 [some (.ref (ad 82)), some (.int v1), some (.int v2), some (.int v3), none, some (.int v5), some (.int v6), some (.int v7), none, none] [] := by
  intro n
  induction n with
  | zero => intro v6 v7 σ h; rw [f_R_turnRows_L39] at h; cases h
  | succ n ih =>
    intro v6 v7 σ h
    rw [f_R_turnRows_L39] at h
    refine G_aload_n (pc := 39) 0 X (dg dt_R_turnRows 21 rfl) rfl rfl ?_
    refine G_getR (pc := 40) 26 X (dg dt_R_turnRows 22 rfl) fc_8 w_1089 rfl (Nat.le_of_ble_eq_true rfl) sh_82 rfl ?_
    refine G_iload (pc := 43) X (dg dt_R_turnRows 23 rfl) rfl ?_
    refine G_zald (pc := 45) X (dg dt_R_turnRows 24 rfl) sh_100 h (fun r_4 h => ?_)
    refine G_if_ne (pc := 46) 115 X (dg dt_R_turnRows 25 rfl) (by decide) h (fun h => ?_) (fun h => ?_)
    · exact G_wk (hkx115 v7 σ h) ⟨rfl, ⟨rfl, ⟨rfl, ⟨rfl, ⟨rfl, ⟨rfl, trivial⟩⟩⟩⟩⟩⟩
    · refine G_aload_n (pc := 49) 0 X (dg dt_R_turnRows 26 rfl) rfl rfl ?_
      refine G_getR (pc := 50) 26 X (dg dt_R_turnRows 27 rfl) fc_8 w_1089 rfl (Nat.le_of_ble_eq_true rfl) sh_82 rfl ?_
      refine G_iload (pc := 53) X (dg dt_R_turnRows 28 rfl) rfl ?_
      refine G_iconst (pc := 55) 1 X (dg dt_R_turnRows 29 rfl) (by decide) ?_
      refine G_zast (pc := 56) X (dg dt_R_turnRows 30 rfl) sh_100 h (fun σ_5 h => ?_)
      refine G_iinc (pc := 57) (v7 + 1) X (dg dt_R_turnRows 31 rfl) rfl (Nat.le_of_ble_eq_true rfl) rfl rfl ?_
      refine G_iload (pc := 60) X (dg dt_R_turnRows 32 rfl) rfl ?_
      refine G_istore (pc := 62) X (dg dt_R_turnRows 33 rfl) (Nat.le_of_ble_eq_true rfl) rfl ?_
      refine G_iconst (pc := 64) 0 X (dg dt_R_turnRows 34 rfl) (by decide) ?_
      refine G_istore (pc := 65) X (dg dt_R_turnRows 35 rfl) (Nat.le_of_ble_eq_true rfl) rfl ?_
      refine G_weak (L' := [some (.ref (ad 82)), some (.int v1), some (.int v2), some (.int v3), none, some (.int v5), some (.int v6), some (.int (v7 + 1)), some (.int v6), some (.int 0)]) ⟨rfl, ⟨rfl, ⟨rfl, ⟨rfl, ⟨rfl, ⟨rfl, ⟨rfl, ⟨rfl, ⟨rfl, trivial⟩⟩⟩⟩⟩⟩⟩⟩⟩ ?_
      refine s_R_turnRows_L67  X hq  (fun v8_12 h => ?_) _ _ _ h
      refine G_iload (pc := 108) X (dg dt_R_turnRows 56 rfl) rfl ?_
      refine G_istore (pc := 110) X (dg dt_R_turnRows 57 rfl) (Nat.le_of_ble_eq_true rfl) rfl ?_
      refine G_goto (pc := 112) 39 X (dg dt_R_turnRows 58 rfl) (by decide) ?_
      exact G_wk (ih v8_12 (v7 + 1) σ_5 h) ⟨rfl, ⟨rfl, ⟨rfl, ⟨rfl, ⟨rfl, ⟨rfl, ⟨rfl, trivial⟩⟩⟩⟩⟩⟩⟩
set_option maxRecDepth 100000 in
set_option maxHeartbeats 4000000 in
theorem s_R_turnRows_L118 {θ : Th} {ad : Nat → Nat}  {rv : Int32} {σe : St} (X : Cx θ [] cX12_turnRows 10 "QuasigroveModel" 1 23)
    {v1 : Int32} {v2 : Int32} {v3 : Int32} {v5 : Int32} {v7 : Int32} (hq : Rq θ (g_SH, ad) (some .int) (some (.int rv)) σe) {kx195 : St → Option (Int32 × St)} (hkx195 : ∀ (σ : St), kx195 σ = some (rv, σe) → G θ (0, 0) (g_SH, ad) σ 195 [none, none, none, none, none, none, none, some (.int v7), none, none] []) :
    ∀ (n : Nat) (v8 : Int32) (σ : St), f_R_turnRows_L118 v1 v2 v3 v5 v7 kx195 n v8 σ = some (rv, σe) → G θ (0, 0) (g_SH, ad) σ 118 [some (.ref (ad 82)), some (.int v1), some (.int v2), some (.int v3), none, some (.int v5), none, some (.int v7), some (.int v8), none] [] := by
  intro n
  induction n with
  | zero => intro v8 σ h; rw [f_R_turnRows_L118] at h; cases h
  | succ n ih =>
    intro v8 σ h
    rw [f_R_turnRows_L118] at h
    refine G_iload (pc := 118) X (dg dt_R_turnRows 61 rfl) rfl ?_
    refine G_iload (pc := 120) X (dg dt_R_turnRows 62 rfl) rfl ?_
    refine G_icmp_ge (pc := 122) 195 X (dg dt_R_turnRows 63 rfl) (by decide) h (fun h => ?_) (fun h => ?_)
    · exact G_wk (hkx195 σ h) ⟨rfl, trivial⟩
    · refine G_aload_n (pc := 125) 0 X (dg dt_R_turnRows 64 rfl) rfl rfl ?_
      refine G_getR (pc := 126) 26 X (dg dt_R_turnRows 65 rfl) fc_8 w_1089 rfl (Nat.le_of_ble_eq_true rfl) sh_82 rfl ?_
      refine G_iload (pc := 129) X (dg dt_R_turnRows 66 rfl) rfl ?_
      refine G_zald (pc := 131) X (dg dt_R_turnRows 67 rfl) sh_100 h (fun r_15 h => ?_)
      refine jn_go (fun j189_16 => ∀ (σ_17 : St), j189_16 σ_17 = some (rv, σe) → G θ (0, 0) (g_SH, ad) σ_17 189 [some (.ref (ad 82)), some (.int v1), some (.int v2), some (.int v3), none, some (.int v5), none, some (.int v7), some (.int v8), none] []) h ?_ (fun j189_16 hj189_16 h => ?_)
      · intro σ_17 h
        refine G_iinc (pc := 189) (v8 + 1) X (dg dt_R_turnRows 105 rfl) rfl (Nat.le_of_ble_eq_true rfl) rfl rfl ?_
        refine G_goto (pc := 192) 118 X (dg dt_R_turnRows 106 rfl) (by decide) ?_
        exact G_wk (ih (v8 + 1) σ_17 h) ⟨rfl, ⟨rfl, ⟨rfl, ⟨rfl, ⟨rfl, ⟨rfl, ⟨rfl, trivial⟩⟩⟩⟩⟩⟩⟩
      refine G_if_eq (pc := 132) 189 X (dg dt_R_turnRows 68 rfl) (by decide) h (fun h => ?_) (fun h => ?_)
      · exact G_wk (hj189_16 σ h) ⟨rfl, ⟨rfl, ⟨rfl, ⟨rfl, ⟨rfl, ⟨rfl, ⟨rfl, trivial⟩⟩⟩⟩⟩⟩⟩
      · refine G_aload_n (pc := 135) 0 X (dg dt_R_turnRows 69 rfl) rfl rfl ?_
        refine G_iload_n (pc := 136) 1 X (dg dt_R_turnRows 70 rfl) rfl rfl ?_
        refine G_iload_n (pc := 137) 2 X (dg dt_R_turnRows 71 rfl) rfl rfl ?_
        refine G_iload (pc := 138) X (dg dt_R_turnRows 72 rfl) rfl ?_
        obtain ⟨r_19, hc_18, h⟩ := cap_go h
        refine G_callV (pc := 140) (S := []) [.int v1, .int v2, .int v8] nosub X  (dg dt_R_turnRows 73 rfl) cb_R_at cv_R_at w_1191 (s_R_at _ ad _ _ _ _ hc_18) rfl ⟨Nat.le_of_ble_eq_true rfl, Nat.le_of_ble_eq_true rfl⟩ sh_82 rfl (Nat.le_of_ble_eq_true rfl) Rc0 ?_
        refine G_istore (pc := 143) X (dg dt_R_turnRows 74 rfl) (Nat.le_of_ble_eq_true rfl) rfl ?_
        refine G_aload_n (pc := 145) 0 X (dg dt_R_turnRows 75 rfl) rfl rfl ?_
        refine G_getR (pc := 146) 3 X (dg dt_R_turnRows 76 rfl) fc_8 w_1066 rfl (Nat.le_of_ble_eq_true rfl) sh_82 rfl ?_
        refine G_bipush (pc := 149) 25 X (dg dt_R_turnRows 77 rfl) (by decide) ?_
        refine G_iload_n (pc := 151) 1 X (dg dt_R_turnRows 78 rfl) rfl rfl ?_
        refine G_imul (pc := 152) X (dg dt_R_turnRows 79 rfl) ?_
        refine G_iload (pc := 153) X (dg dt_R_turnRows 80 rfl) rfl ?_
        refine G_iload_n (pc := 155) 2 X (dg dt_R_turnRows 81 rfl) rfl rfl ?_
        refine G_imul (pc := 156) X (dg dt_R_turnRows 82 rfl) ?_
        refine G_iadd (pc := 157) X (dg dt_R_turnRows 83 rfl) ?_
        refine G_iload (pc := 158) X (dg dt_R_turnRows 84 rfl) rfl ?_
        refine G_iadd (pc := 160) X (dg dt_R_turnRows 85 rfl) ?_
        refine G_aload_n (pc := 161) 0 X (dg dt_R_turnRows 86 rfl) rfl rfl ?_
        refine G_iload_n (pc := 162) 1 X (dg dt_R_turnRows 87 rfl) rfl rfl ?_
        refine G_iload_n (pc := 163) 3 X (dg dt_R_turnRows 88 rfl) rfl rfl ?_
        refine G_iload (pc := 164) X (dg dt_R_turnRows 89 rfl) rfl ?_
        obtain ⟨r_21, hc_20, h⟩ := cap_go h
        refine G_callV (pc := 166) (S := [.int (((25 * v1) + (v5 * v2)) + v8), .ref (ad 84)]) [.int v1, .int v3, .int v8] nosub X  (dg dt_R_turnRows 90 rfl) cb_R_at cv_R_at w_1191 (s_R_at _ ad _ _ _ _ hc_20) rfl ⟨Nat.le_of_ble_eq_true rfl, Nat.le_of_ble_eq_true rfl⟩ sh_82 rfl (Nat.le_of_ble_eq_true rfl) Rc0 ?_
        refine G_iast (pc := 169) X (dg dt_R_turnRows 91 rfl) sh_84 h (fun σ_22 h => ?_)
        refine G_aload_n (pc := 170) 0 X (dg dt_R_turnRows 92 rfl) rfl rfl ?_
        refine G_getR (pc := 171) 3 X (dg dt_R_turnRows 93 rfl) fc_8 w_1066 rfl (Nat.le_of_ble_eq_true rfl) sh_82 rfl ?_
        refine G_bipush (pc := 174) 25 X (dg dt_R_turnRows 94 rfl) (by decide) ?_
        refine G_iload_n (pc := 176) 1 X (dg dt_R_turnRows 95 rfl) rfl rfl ?_
        refine G_imul (pc := 177) X (dg dt_R_turnRows 96 rfl) ?_
        refine G_iload (pc := 178) X (dg dt_R_turnRows 97 rfl) rfl ?_
        refine G_iload_n (pc := 180) 3 X (dg dt_R_turnRows 98 rfl) rfl rfl ?_
        refine G_imul (pc := 181) X (dg dt_R_turnRows 99 rfl) ?_
        refine G_iadd (pc := 182) X (dg dt_R_turnRows 100 rfl) ?_
        refine G_iload (pc := 183) X (dg dt_R_turnRows 101 rfl) rfl ?_
        refine G_iadd (pc := 185) X (dg dt_R_turnRows 102 rfl) ?_
        refine G_iload (pc := 186) X (dg dt_R_turnRows 103 rfl) rfl ?_
        refine G_iast (pc := 188) X (dg dt_R_turnRows 104 rfl) sh_84 h (fun σ_23 h => ?_)
        exact G_wk (hj189_16 σ_23 h) ⟨rfl, ⟨rfl, ⟨rfl, ⟨rfl, ⟨rfl, ⟨rfl, ⟨rfl, trivial⟩⟩⟩⟩⟩⟩⟩
set_option maxRecDepth 100000 in
set_option maxHeartbeats 4000000 in
theorem s_R_turnRows (l : Launch) (ad : Nat → Nat) (σ : St) (v1 : Int32) (v2 : Int32) (v3 : Int32) (v4 : Int32)  {rv : Int32} {σe : St} (h : f_R_turnRows σ v1 v2 v3 v4 = some (rv, σe)) : Rt l [] yX12_turnRows cX12_turnRows 10 (some .int) 1 23 (g_SH, ad) [.ref (ad 82), .int v1, .int v2, .int v3, .int v4] σ (some (.int rv)) σe := by
  refine Rt.intro (L := [some (.ref (ad 82)), some (.int v1), some (.int v2), some (.int v3), some (.int v4), none, none, none, none, none]) (by decide +kernel) (Nat.le_of_ble_eq_true rfl) rfl (fun θ hl X hq => ?_)
  subst hl
  unfold f_R_turnRows at h
  refine G_aload_n (pc := 0) 0 X (dg dt_R_turnRows 0 rfl) rfl rfl ?_
  refine G_getR (pc := 1) 2 X (dg dt_R_turnRows 1 rfl) fc_8 w_1065 rfl (Nat.le_of_ble_eq_true rfl) sh_82 rfl ?_
  refine G_iload_n (pc := 4) 1 X (dg dt_R_turnRows 2 rfl) rfl rfl ?_
  refine G_iald (pc := 5) X (dg dt_R_turnRows 3 rfl) sh_83 h (fun r_1 h => ?_)
  refine G_istore (pc := 6) X (dg dt_R_turnRows 4 rfl) (Nat.le_of_ble_eq_true rfl) rfl ?_
  refine G_iconst (pc := 8) 0 X (dg dt_R_turnRows 5 rfl) (by decide) ?_
  refine G_istore (pc := 9) X (dg dt_R_turnRows 6 rfl) (Nat.le_of_ble_eq_true rfl) rfl ?_
  refine G_weak (L' := [some (.ref (ad 82)), some (.int v1), some (.int v2), some (.int v3), some (.int v4), some (.int r_1), some (.int 0), none, none, none]) ⟨rfl, ⟨rfl, ⟨rfl, ⟨rfl, ⟨rfl, ⟨rfl, ⟨rfl, trivial⟩⟩⟩⟩⟩⟩⟩ ?_
  refine s_R_turnRows_L11  X hq  (fun σ_3 h => ?_) _ _ _ h
  refine G_iload (pc := 32) X (dg dt_R_turnRows 17 rfl) rfl ?_
  refine G_istore (pc := 34) X (dg dt_R_turnRows 18 rfl) (Nat.le_of_ble_eq_true rfl) rfl ?_
  refine G_iconst (pc := 36) 0 X (dg dt_R_turnRows 19 rfl) (by decide) ?_
  refine G_istore (pc := 37) X (dg dt_R_turnRows 20 rfl) (Nat.le_of_ble_eq_true rfl) rfl ?_
  refine G_weak (L' := [some (.ref (ad 82)), some (.int v1), some (.int v2), some (.int v3), none, some (.int r_1), some (.int v4), some (.int 0), none, none]) ⟨rfl, ⟨rfl, ⟨rfl, ⟨rfl, ⟨rfl, ⟨rfl, ⟨rfl, trivial⟩⟩⟩⟩⟩⟩⟩ ?_
  refine s_R_turnRows_L39  X hq  (fun v7_13 σ_14 h => ?_) _ _ _ _ h
  refine G_iconst (pc := 115) 0 X (dg dt_R_turnRows 59 rfl) (by decide) ?_
  refine G_istore (pc := 116) X (dg dt_R_turnRows 60 rfl) (Nat.le_of_ble_eq_true rfl) rfl ?_
  refine G_weak (L' := [some (.ref (ad 82)), some (.int v1), some (.int v2), some (.int v3), none, some (.int r_1), none, some (.int v7_13), some (.int 0), none]) ⟨rfl, ⟨rfl, ⟨rfl, ⟨rfl, ⟨rfl, ⟨rfl, ⟨rfl, trivial⟩⟩⟩⟩⟩⟩⟩ ?_
  refine s_R_turnRows_L118  X hq  (fun σ_24 h => ?_) _ _ _ h
  refine G_iload (pc := 195) X (dg dt_R_turnRows 107 rfl) rfl ?_
  exact G_iret (pc := 197) X hq (dg dt_R_turnRows 108 rfl) h
set_option maxRecDepth 100000 in
set_option maxHeartbeats 4000000 in
theorem s_R_stir_L84 {θ : Th} {ad : Nat → Nat}  {rv : Int32} {σe : St} (X : Cx θ [] cX12_stir 11 "QuasigroveModel" 2 52)
    {v1 : Int32} {v3 : Int32} {v4 : Int32} (hq : Rq θ (g_SH, ad) (some .int) (some (.int rv)) σe) {kx169 : Int64 → St → Option (Int32 × St)} (hkx169 : ∀ (v5 : Int64) (σ : St), kx169 v5 σ = some (rv, σe) → G θ (0, 0) (g_SH, ad) σ 169 [none, none, none, none, none, some (.long v5), none, none, none, none, none] []) :
    ∀ (n : Nat) (v5 : Int64) (v7 : Int32) (σ : St), f_R_stir_L84 v1 v3 v4 kx169 n v5 v7 σ = some (rv, σe) → G θ (0, 0) (g_SH, ad) σ 84 [some (.ref (ad 82)), some (.int v1), none, some (.int v3), some (.int v4), some (.long v5), none, some (.int v7), none, none, none] [] := by
  intro n
  induction n with
  | zero => intro v5 v7 σ h; rw [f_R_stir_L84] at h; cases h
  | succ n ih =>
    intro v5 v7 σ h
    rw [f_R_stir_L84] at h
    refine G_iload (pc := 84) X (dg dt_R_stir 46 rfl) rfl ?_
    refine G_iload_n (pc := 86) 3 X (dg dt_R_stir 47 rfl) rfl rfl ?_
    refine G_icmp_ge (pc := 87) 169 X (dg dt_R_stir 48 rfl) (by decide) h (fun h => ?_) (fun h => ?_)
    · exact G_wk (hkx169 v5 σ h) ⟨rfl, trivial⟩
    · refine G_ldc2 (pc := 90) X (dg dt_R_stir 49 rfl) w_1251 ?_
      refine G_lload (pc := 93) X (dg dt_R_stir 50 rfl) rfl ?_
      refine G_lmul (pc := 95) X (dg dt_R_stir 51 rfl) ?_
      refine G_ldc2 (pc := 96) X (dg dt_R_stir 52 rfl) w_1252 ?_
      refine G_ladd (pc := 99) X (dg dt_R_stir 53 rfl) ?_
      refine G_ldc2 (pc := 100) X (dg dt_R_stir 54 rfl) w_1253 ?_
      refine G_lrem (pc := 103) X (dg dt_R_stir 55 rfl) h (fun q_10 h => ?_)
      refine G_lstore (pc := 104) X (dg dt_R_stir 56 rfl) (Nat.le_of_ble_eq_true rfl) rfl ?_
      refine G_lload (pc := 106) X (dg dt_R_stir 57 rfl) rfl ?_
      refine G_ldc2 (pc := 108) X (dg dt_R_stir 58 rfl) w_1254 ?_
      refine G_ldiv (pc := 111) X (dg dt_R_stir 59 rfl) h (fun q_11 h => ?_)
      refine G_l2i (pc := 112) X (dg dt_R_stir 60 rfl) ?_
      refine G_istore (pc := 113) X (dg dt_R_stir 61 rfl) (Nat.le_of_ble_eq_true rfl) rfl ?_
      refine G_iload (pc := 115) X (dg dt_R_stir 62 rfl) rfl ?_
      refine G_iload (pc := 117) X (dg dt_R_stir 63 rfl) rfl ?_
      refine G_irem (pc := 119) X (dg dt_R_stir 64 rfl) h (fun q_12 h => ?_)
      refine G_istore (pc := 120) X (dg dt_R_stir 65 rfl) (Nat.le_of_ble_eq_true rfl) rfl ?_
      refine G_iload (pc := 122) X (dg dt_R_stir 66 rfl) rfl ?_
      refine G_iconst (pc := 124) 1 X (dg dt_R_stir 67 rfl) (by decide) ?_
      refine G_iadd (pc := 125) X (dg dt_R_stir 68 rfl) ?_
      refine G_iload (pc := 126) X (dg dt_R_stir 69 rfl) rfl ?_
      refine G_iload (pc := 128) X (dg dt_R_stir 70 rfl) rfl ?_
      refine G_idiv (pc := 130) X (dg dt_R_stir 71 rfl) h (fun q_13 h => ?_)
      refine G_iload (pc := 131) X (dg dt_R_stir 72 rfl) rfl ?_
      refine G_iconst (pc := 133) 1 X (dg dt_R_stir 73 rfl) (by decide) ?_
      refine G_isub (pc := 134) X (dg dt_R_stir 74 rfl) ?_
      refine G_irem (pc := 135) X (dg dt_R_stir 75 rfl) h (fun q_14 h => ?_)
      refine G_iadd (pc := 136) X (dg dt_R_stir 76 rfl) ?_
      refine G_iload (pc := 137) X (dg dt_R_stir 77 rfl) rfl ?_
      refine G_irem (pc := 139) X (dg dt_R_stir 78 rfl) h (fun q_15 h => ?_)
      refine G_istore (pc := 140) X (dg dt_R_stir 79 rfl) (Nat.le_of_ble_eq_true rfl) rfl ?_
      refine G_aload_n (pc := 142) 0 X (dg dt_R_stir 80 rfl) rfl rfl ?_
      refine G_iload_n (pc := 143) 1 X (dg dt_R_stir 81 rfl) rfl rfl ?_
      refine G_iload (pc := 144) X (dg dt_R_stir 82 rfl) rfl ?_
      refine G_iload (pc := 146) X (dg dt_R_stir 83 rfl) rfl ?_
      refine G_iload (pc := 148) X (dg dt_R_stir 84 rfl) rfl ?_
      refine G_iload (pc := 150) X (dg dt_R_stir 85 rfl) rfl ?_
      refine G_iload (pc := 152) X (dg dt_R_stir 86 rfl) rfl ?_
      refine G_imul (pc := 154) X (dg dt_R_stir 87 rfl) ?_
      refine G_idiv (pc := 155) X (dg dt_R_stir 88 rfl) h (fun q_16 h => ?_)
      refine G_iload (pc := 156) X (dg dt_R_stir 89 rfl) rfl ?_
      refine G_irem (pc := 158) X (dg dt_R_stir 90 rfl) h (fun q_17 h => ?_)
      obtain ⟨r_19, σ_20, hc_18, h⟩ := cal_go h
      refine G_callV (pc := 159) (S := []) [.int v1, .int q_12, .int q_15, .int q_17] nosub X  (dg dt_R_stir 91 rfl) cb_R_turnRows cv_R_turnRows w_1239 (s_R_turnRows _ ad _ _ _ _ _ hc_18) rfl ⟨Nat.le_of_ble_eq_true rfl, Nat.le_of_ble_eq_true rfl⟩ sh_82 rfl (Nat.le_of_ble_eq_true rfl) Rc0 ?_
      refine G_pop (pc := 162) X (dg dt_R_stir 92 rfl) rfl ?_
      refine G_iinc (pc := 163) (v7 + 1) X (dg dt_R_stir 93 rfl) rfl (Nat.le_of_ble_eq_true rfl) rfl rfl ?_
      refine G_goto (pc := 166) 84 X (dg dt_R_stir 94 rfl) (by decide) ?_
      exact G_wk (ih q_10 (v7 + 1) σ_20 h) ⟨rfl, ⟨rfl, ⟨rfl, ⟨rfl, ⟨rfl, ⟨rfl, trivial⟩⟩⟩⟩⟩⟩
set_option maxRecDepth 100000 in
set_option maxHeartbeats 4000000 in
theorem s_R_stir (l : Launch) (ad : Nat → Nat) (σ : St) (v1 : Int32) (v2 : Int32) (v3 : Int32)  {rv : Int32} {σe : St} (h : f_R_stir σ v1 v2 v3 = some (rv, σe)) : Rt l [] yX12_stir cX12_stir 11 (some .int) 2 52 (g_SH, ad) [.ref (ad 82), .int v1, .int v2, .int v3] σ (some (.int rv)) σe := by
  refine Rt.intro (L := [some (.ref (ad 82)), some (.int v1), some (.int v2), some (.int v3), none, none, none, none, none, none, none]) (by decide +kernel) (Nat.le_of_ble_eq_true rfl) rfl (fun θ hl X hq => ?_)
  subst hl
  unfold f_R_stir at h
  refine G_aload_n (pc := 0) 0 X (dg dt_R_stir 0 rfl) rfl rfl ?_
  refine G_aload_n (pc := 1) 0 X (dg dt_R_stir 1 rfl) rfl rfl ?_
  refine G_iload_n (pc := 2) 1 X (dg dt_R_stir 2 rfl) rfl rfl ?_
  obtain ⟨r_2, hc_1, h⟩ := cap_go h
  refine G_callV (pc := 3) (S := [.ref (ad 82)]) [.int v1] nosub X  (dg dt_R_stir 3 rfl) cb_R_isGrid cv_R_isGrid w_1183 (s_R_isGrid _ ad _ _ hc_1) rfl ⟨Nat.le_of_ble_eq_true rfl, Nat.le_of_ble_eq_true rfl⟩ sh_82 rfl (Nat.le_of_ble_eq_true rfl) Rc0 ?_
  refine jn_go (fun j33_3 => ∀ (s_4 : Int32), j33_3 s_4 = some (rv, σe) → G θ (0, 0) (g_SH, ad) σ 33 [some (.ref (ad 82)), some (.int v1), some (.int v2), some (.int v3), none, none, none, none, none, none, none] [.int s_4, .ref (ad 82)]) h ?_ (fun j33_3 hj33_3 h => ?_)
  · intro s_4 h
    refine G_put (pc := 33) 0 X (dg dt_R_stir 18 rfl) fc_8 w_1063 rfl (Nat.le_of_ble_eq_true rfl) rfl rfl sh_82 rfl h (fun σ_5 h => ?_)
    refine G_aload_n (pc := 36) 0 X (dg dt_R_stir 19 rfl) rfl rfl ?_
    refine G_getI (pc := 37) 0 X (dg dt_R_stir 20 rfl) fc_8 w_1063 rfl (Nat.le_of_ble_eq_true rfl) sh_82 rfl ?_
    refine jn_go (fun j60_6 => ∀ (σ_7 : St), j60_6 σ_7 = some (rv, σe) → G θ (0, 0) (g_SH, ad) σ_7 60 [some (.ref (ad 82)), some (.int v1), some (.int v2), some (.int v3), none, none, none, none, none, none, none] []) h ?_ (fun j60_6 hj60_6 h => ?_)
    · intro σ_7 h
      refine G_aload_n (pc := 60) 0 X (dg dt_R_stir 31 rfl) rfl rfl ?_
      refine G_getI (pc := 61) 0 X (dg dt_R_stir 32 rfl) fc_8 w_1063 rfl (Nat.le_of_ble_eq_true rfl) sh_82 rfl ?_
      refine G_if_le (pc := 64) 69 X (dg dt_R_stir 33 rfl) (by decide) h (fun h => ?_) (fun h => ?_)
      · refine G_aload_n (pc := 69) 0 X (dg dt_R_stir 36 rfl) rfl rfl ?_
        refine G_getR (pc := 70) 2 X (dg dt_R_stir 37 rfl) fc_8 w_1065 rfl (Nat.le_of_ble_eq_true rfl) sh_82 rfl ?_
        refine G_iload_n (pc := 73) 1 X (dg dt_R_stir 38 rfl) rfl rfl ?_
        refine G_iald (pc := 74) X (dg dt_R_stir 39 rfl) sh_83 h (fun r_8 h => ?_)
        refine G_istore (pc := 75) X (dg dt_R_stir 40 rfl) (Nat.le_of_ble_eq_true rfl) rfl ?_
        refine G_iload_n (pc := 77) 2 X (dg dt_R_stir 41 rfl) rfl rfl ?_
        refine G_i2l (pc := 78) X (dg dt_R_stir 42 rfl) ?_
        refine G_lstore_lt (pc := 79) X (dg dt_R_stir 43 rfl) (Nat.le_of_ble_eq_true rfl) rfl h (fun v5_9 h => ?_)
        refine G_iconst (pc := 81) 0 X (dg dt_R_stir 44 rfl) (by decide) ?_
        refine G_istore (pc := 82) X (dg dt_R_stir 45 rfl) (Nat.le_of_ble_eq_true rfl) rfl ?_
        refine G_weak (L' := [some (.ref (ad 82)), some (.int v1), none, some (.int v3), some (.int r_8), some (.long v5_9), none, some (.int 0), none, none, none]) ⟨rfl, ⟨rfl, ⟨rfl, ⟨rfl, ⟨rfl, ⟨rfl, trivial⟩⟩⟩⟩⟩⟩ ?_
        refine s_R_stir_L84  X hq  (fun v5_21 σ_22 h => ?_) _ _ _ _ h
        refine G_lload (pc := 169) X (dg dt_R_stir 95 rfl) rfl ?_
        refine G_l2i (pc := 171) X (dg dt_R_stir 96 rfl) ?_
        exact G_iret (pc := 172) X hq (dg dt_R_stir 97 rfl) h
      · refine G_iconst (pc := 67) 0 X (dg dt_R_stir 34 rfl) (by decide) ?_
        exact G_iret (pc := 68) X hq (dg dt_R_stir 35 rfl) h
    refine G_if_ne (pc := 40) 60 X (dg dt_R_stir 21 rfl) (by decide) h (fun h => ?_) (fun h => ?_)
    · exact G_wk (hj60_6 σ_5 h) ⟨rfl, ⟨rfl, ⟨rfl, ⟨rfl, trivial⟩⟩⟩⟩
    · refine G_aload_n (pc := 43) 0 X (dg dt_R_stir 22 rfl) rfl rfl ?_
      refine G_aload_n (pc := 44) 0 X (dg dt_R_stir 23 rfl) rfl rfl ?_
      refine G_iload_n (pc := 45) 1 X (dg dt_R_stir 24 rfl) rfl rfl ?_
      obtain ⟨r_24, hc_23, h⟩ := cap_go h
      refine G_callV (pc := 46) (S := [.ref (ad 82)]) [.int v1] nosub X  (dg dt_R_stir 25 rfl) cb_R_isSquare cv_R_isSquare w_1247 (s_R_isSquare _ ad _ _ hc_23) rfl ⟨Nat.le_of_ble_eq_true rfl, Nat.le_of_ble_eq_true rfl⟩ sh_82 rfl (Nat.le_of_ble_eq_true rfl) Rc0 ?_
      refine jn_go (fun j57_25 => ∀ (s_26 : Int32), j57_25 s_26 = some (rv, σe) → G θ (0, 0) (g_SH, ad) σ_5 57 [some (.ref (ad 82)), some (.int v1), some (.int v2), some (.int v3), none, none, none, none, none, none, none] [.int s_26, .ref (ad 82)]) h ?_ (fun j57_25 hj57_25 h => ?_)
      · intro s_26 h
        refine G_put (pc := 57) 0 X (dg dt_R_stir 30 rfl) fc_8 w_1063 rfl (Nat.le_of_ble_eq_true rfl) rfl rfl sh_82 rfl h (fun σ_27 h => ?_)
        exact G_wk (hj60_6 σ_27 h) ⟨rfl, ⟨rfl, ⟨rfl, ⟨rfl, trivial⟩⟩⟩⟩
      refine G_if_ne (pc := 49) 56 X (dg dt_R_stir 26 rfl) (by decide) h (fun h => ?_) (fun h => ?_)
      · refine G_iconst (pc := 56) 0 X (dg dt_R_stir 29 rfl) (by decide) ?_
        exact G_wk (hj57_25 0 h) ⟨rfl, ⟨rfl, ⟨rfl, ⟨rfl, trivial⟩⟩⟩⟩
      · refine G_iconst (pc := 52) 3 X (dg dt_R_stir 27 rfl) (by decide) ?_
        refine G_goto (pc := 53) 57 X (dg dt_R_stir 28 rfl) (by decide) ?_
        exact G_wk (hj57_25 3 h) ⟨rfl, ⟨rfl, ⟨rfl, ⟨rfl, trivial⟩⟩⟩⟩
  refine G_if_ne (pc := 6) 13 X (dg dt_R_stir 4 rfl) (by decide) h (fun h => ?_) (fun h => ?_)
  · refine G_iload_n (pc := 13) 2 X (dg dt_R_stir 7 rfl) rfl rfl ?_
    refine jn_go (fun j28_28 => j28_28 = some (rv, σe) → G θ (0, 0) (g_SH, ad) σ 28 [some (.ref (ad 82)), some (.int v1), some (.int v2), some (.int v3), none, none, none, none, none, none, none] [.ref (ad 82)]) h ?_ (fun j28_28 hj28_28 h => ?_)
    · intro  h
      refine G_iconst (pc := 28) 2 X (dg dt_R_stir 15 rfl) (by decide) ?_
      refine G_goto (pc := 29) 33 X (dg dt_R_stir 16 rfl) (by decide) ?_
      exact G_wk (hj33_3 2 h) ⟨rfl, ⟨rfl, ⟨rfl, ⟨rfl, trivial⟩⟩⟩⟩
    refine G_if_lt (pc := 14) 28 X (dg dt_R_stir 8 rfl) (by decide) h (fun h => ?_) (fun h => ?_)
    · exact G_wk (hj28_28  h) ⟨rfl, ⟨rfl, ⟨rfl, ⟨rfl, trivial⟩⟩⟩⟩
    · refine G_aload_n (pc := 17) 0 X (dg dt_R_stir 9 rfl) rfl rfl ?_
      refine G_iload_n (pc := 18) 3 X (dg dt_R_stir 10 rfl) rfl rfl ?_
      refine G_iconst (pc := 19) 1 X (dg dt_R_stir 11 rfl) (by decide) ?_
      refine G_bipush (pc := 20) 50 X (dg dt_R_stir 12 rfl) (by decide) ?_
      obtain ⟨r_30, hc_29, h⟩ := cap_go h
      refine G_callV (pc := 22) (S := [.ref (ad 82)]) [.int v3, .int 1, .int 50] nosub X  (dg dt_R_stir 13 rfl) cb_R_between cv_R_between w_1159 (s_R_between _ ad _ _ _ _ hc_29) rfl ⟨Nat.le_of_ble_eq_true rfl, Nat.le_of_ble_eq_true rfl⟩ sh_82 rfl (Nat.le_of_ble_eq_true rfl) Rc0 ?_
      refine G_if_ne (pc := 25) 32 X (dg dt_R_stir 14 rfl) (by decide) h (fun h => ?_) (fun h => ?_)
      · refine G_iconst (pc := 32) 0 X (dg dt_R_stir 17 rfl) (by decide) ?_
        exact G_wk (hj33_3 0 h) ⟨rfl, ⟨rfl, ⟨rfl, ⟨rfl, trivial⟩⟩⟩⟩
      · exact G_wk (hj28_28  h) ⟨rfl, ⟨rfl, ⟨rfl, ⟨rfl, trivial⟩⟩⟩⟩
  · refine G_iconst (pc := 9) 1 X (dg dt_R_stir 5 rfl) (by decide) ?_
    refine G_goto (pc := 10) 33 X (dg dt_R_stir 6 rfl) (by decide) ?_
    exact G_wk (hj33_3 1 h) ⟨rfl, ⟨rfl, ⟨rfl, ⟨rfl, trivial⟩⟩⟩⟩
set_option maxRecDepth 100000 in
set_option maxHeartbeats 4000000 in
theorem s_R_turn_L44 {θ : Th} {ad : Nat → Nat}  {rv : Int32} {σe : St} (X : Cx θ [] cX12_turn 7 "QuasigroveModel" 3 68)
    {v1 : Int32} {v2 : Int32} {v3 : Int32} {v4 : Int32} {σ : St} (hq : Rq θ (g_SH, ad) (some .int) (some (.int rv)) σe) {kx104 : Int32 → Option (Int32 × St)} (hkx104 : ∀ (v5 : Int32), kx104 v5 = some (rv, σe) → G θ (0, 0) (g_SH, ad) σ 104 [some (.ref (ad 82)), some (.int v1), some (.int v2), some (.int v3), some (.int v4), some (.int v5), none] []) :
    ∀ (n : Nat) (v5 : Int32) (v6 : Int32), f_R_turn_L44 v1 v2 v3 v4 σ kx104 n v5 v6 = some (rv, σe) → G θ (0, 0) (g_SH, ad) σ 44 [some (.ref (ad 82)), some (.int v1), some (.int v2), some (.int v3), some (.int v4), some (.int v5), some (.int v6)] [] := by
  intro n
  induction n with
  | zero => intro v5 v6 h; rw [f_R_turn_L44] at h; cases h
  | succ n ih =>
    intro v5 v6 h
    rw [f_R_turn_L44] at h
    refine G_aload_n (pc := 44) 0 X (dg dt_R_turn 25 rfl) rfl rfl ?_
    refine G_getI (pc := 45) 0 X (dg dt_R_turn 26 rfl) fc_8 w_1063 rfl (Nat.le_of_ble_eq_true rfl) sh_82 rfl ?_
    refine G_if_ne (pc := 48) 104 X (dg dt_R_turn 27 rfl) (by decide) h (fun h => ?_) (fun h => ?_)
    · exact G_wk (hkx104 v5 h) ⟨rfl, ⟨rfl, ⟨rfl, ⟨rfl, ⟨rfl, ⟨rfl, trivial⟩⟩⟩⟩⟩⟩
    · refine G_iload (pc := 51) X (dg dt_R_turn 28 rfl) rfl ?_
      refine G_aload_n (pc := 53) 0 X (dg dt_R_turn 29 rfl) rfl rfl ?_
      refine G_getR (pc := 54) 2 X (dg dt_R_turn 30 rfl) fc_8 w_1065 rfl (Nat.le_of_ble_eq_true rfl) sh_82 rfl ?_
      refine G_iload_n (pc := 57) 1 X (dg dt_R_turn 31 rfl) rfl rfl ?_
      refine G_iald (pc := 58) X (dg dt_R_turn 32 rfl) sh_83 h (fun r_6 h => ?_)
      refine G_icmp_ge (pc := 59) 104 X (dg dt_R_turn 33 rfl) (by decide) h (fun h => ?_) (fun h => ?_)
      · exact G_wk (hkx104 v5 h) ⟨rfl, ⟨rfl, ⟨rfl, ⟨rfl, ⟨rfl, ⟨rfl, trivial⟩⟩⟩⟩⟩⟩
      · refine G_iload (pc := 62) X (dg dt_R_turn 34 rfl) rfl ?_
        refine jn_go (fun j96_7 => ∀ (s_8 : Int32), j96_7 s_8 = some (rv, σe) → G θ (0, 0) (g_SH, ad) σ 96 [some (.ref (ad 82)), some (.int v1), some (.int v2), some (.int v3), some (.int v4), none, some (.int v6)] [.int s_8]) h ?_ (fun j96_7 hj96_7 h => ?_)
        · intro s_8 h
          refine G_istore (pc := 96) X (dg dt_R_turn 53 rfl) (Nat.le_of_ble_eq_true rfl) rfl ?_
          refine G_iinc (pc := 98) (v6 + 1) X (dg dt_R_turn 54 rfl) rfl (Nat.le_of_ble_eq_true rfl) rfl rfl ?_
          refine G_goto (pc := 101) 44 X (dg dt_R_turn 55 rfl) (by decide) ?_
          exact G_wk (ih s_8 (v6 + 1) h) ⟨rfl, ⟨rfl, ⟨rfl, ⟨rfl, ⟨rfl, ⟨rfl, ⟨rfl, trivial⟩⟩⟩⟩⟩⟩⟩
        refine jn_go (fun j91_9 => j91_9 = some (rv, σe) → G θ (0, 0) (g_SH, ad) σ 91 [some (.ref (ad 82)), some (.int v1), some (.int v2), some (.int v3), some (.int v4), none, some (.int v6)] []) h ?_ (fun j91_9 hj91_9 h => ?_)
        · intro  h
          refine G_iconst (pc := 91) 1 X (dg dt_R_turn 50 rfl) (by decide) ?_
          refine G_goto (pc := 92) 96 X (dg dt_R_turn 51 rfl) (by decide) ?_
          exact G_wk (hj96_7 1 h) ⟨rfl, ⟨rfl, ⟨rfl, ⟨rfl, ⟨rfl, ⟨rfl, trivial⟩⟩⟩⟩⟩⟩
        refine G_if_ne (pc := 64) 91 X (dg dt_R_turn 35 rfl) (by decide) h (fun h => ?_) (fun h => ?_)
        · exact G_wk (hj91_9  h) ⟨rfl, ⟨rfl, ⟨rfl, ⟨rfl, ⟨rfl, ⟨rfl, trivial⟩⟩⟩⟩⟩⟩
        · refine G_aload_n (pc := 67) 0 X (dg dt_R_turn 36 rfl) rfl rfl ?_
          refine G_iload_n (pc := 68) 1 X (dg dt_R_turn 37 rfl) rfl rfl ?_
          refine G_iload_n (pc := 69) 2 X (dg dt_R_turn 38 rfl) rfl rfl ?_
          refine G_iload (pc := 70) X (dg dt_R_turn 39 rfl) rfl ?_
          obtain ⟨r_11, hc_10, h⟩ := cap_go h
          refine G_callV (pc := 72) (S := []) [.int v1, .int v2, .int v6] nosub X  (dg dt_R_turn 40 rfl) cb_R_at cv_R_at w_1191 (s_R_at _ ad _ _ _ _ hc_10) rfl ⟨Nat.le_of_ble_eq_true rfl, Nat.le_of_ble_eq_true rfl⟩ sh_82 rfl (Nat.le_of_ble_eq_true rfl) Rc0 ?_
          refine G_iconst (pc := 75) (-1) X (dg dt_R_turn 41 rfl) (by decide) ?_
          refine G_icmp_eq (pc := 76) 91 X (dg dt_R_turn 42 rfl) (by decide) h (fun h => ?_) (fun h => ?_)
          · exact G_wk (hj91_9  h) ⟨rfl, ⟨rfl, ⟨rfl, ⟨rfl, ⟨rfl, ⟨rfl, trivial⟩⟩⟩⟩⟩⟩
          · refine G_aload_n (pc := 79) 0 X (dg dt_R_turn 43 rfl) rfl rfl ?_
            refine G_iload_n (pc := 80) 1 X (dg dt_R_turn 44 rfl) rfl rfl ?_
            refine G_iload_n (pc := 81) 3 X (dg dt_R_turn 45 rfl) rfl rfl ?_
            refine G_iload (pc := 82) X (dg dt_R_turn 46 rfl) rfl ?_
            obtain ⟨r_13, hc_12, h⟩ := cap_go h
            refine G_callV (pc := 84) (S := []) [.int v1, .int v3, .int v6] nosub X  (dg dt_R_turn 47 rfl) cb_R_at cv_R_at w_1191 (s_R_at _ ad _ _ _ _ hc_12) rfl ⟨Nat.le_of_ble_eq_true rfl, Nat.le_of_ble_eq_true rfl⟩ sh_82 rfl (Nat.le_of_ble_eq_true rfl) Rc0 ?_
            refine G_iconst (pc := 87) (-1) X (dg dt_R_turn 48 rfl) (by decide) ?_
            refine G_icmp_ne (pc := 88) 95 X (dg dt_R_turn 49 rfl) (by decide) h (fun h => ?_) (fun h => ?_)
            · refine G_iconst (pc := 95) 0 X (dg dt_R_turn 52 rfl) (by decide) ?_
              exact G_wk (hj96_7 0 h) ⟨rfl, ⟨rfl, ⟨rfl, ⟨rfl, ⟨rfl, ⟨rfl, trivial⟩⟩⟩⟩⟩⟩
            · exact G_wk (hj91_9  h) ⟨rfl, ⟨rfl, ⟨rfl, ⟨rfl, ⟨rfl, ⟨rfl, trivial⟩⟩⟩⟩⟩⟩
set_option maxRecDepth 100000 in
set_option maxHeartbeats 4000000 in
theorem s_R_turn (l : Launch) (ad : Nat → Nat) (σ : St) (v1 : Int32) (v2 : Int32) (v3 : Int32) (v4 : Int32)  {rv : Int32} {σe : St} (h : f_R_turn σ v1 v2 v3 v4 = some (rv, σe)) : Rt l [] yX12_turn cX12_turn 7 (some .int) 3 68 (g_SH, ad) [.ref (ad 82), .int v1, .int v2, .int v3, .int v4] σ (some (.int rv)) σe := by
  refine Rt.intro (L := [some (.ref (ad 82)), some (.int v1), some (.int v2), some (.int v3), some (.int v4), none, none]) (by decide +kernel) (Nat.le_of_ble_eq_true rfl) rfl (fun θ hl X hq => ?_)
  subst hl
  unfold f_R_turn at h
  refine G_aload_n (pc := 0) 0 X (dg dt_R_turn 0 rfl) rfl rfl ?_
  refine G_aload_n (pc := 1) 0 X (dg dt_R_turn 1 rfl) rfl rfl ?_
  refine G_iload_n (pc := 2) 1 X (dg dt_R_turn 2 rfl) rfl rfl ?_
  refine G_iload_n (pc := 3) 2 X (dg dt_R_turn 3 rfl) rfl rfl ?_
  refine G_iload (pc := 4) X (dg dt_R_turn 4 rfl) rfl ?_
  obtain ⟨r_2, hc_1, h⟩ := cap_go h
  refine G_callV (pc := 6) (S := [.ref (ad 82)]) [.int v1, .int v2, .int v4] nosub X  (dg dt_R_turn 5 rfl) cb_R_isCell cv_R_isCell w_1179 (s_R_isCell _ ad _ _ _ _ hc_1) rfl ⟨Nat.le_of_ble_eq_true rfl, Nat.le_of_ble_eq_true rfl⟩ sh_82 rfl (Nat.le_of_ble_eq_true rfl) Rc0 ?_
  refine jn_go (fun j35_3 => ∀ (s_4 : Int32), j35_3 s_4 = some (rv, σe) → G θ (0, 0) (g_SH, ad) σ 35 [some (.ref (ad 82)), some (.int v1), some (.int v2), some (.int v3), some (.int v4), none, none] [.int s_4, .ref (ad 82)]) h ?_ (fun j35_3 hj35_3 h => ?_)
  · intro s_4 h
    refine G_put (pc := 35) 0 X (dg dt_R_turn 20 rfl) fc_8 w_1063 rfl (Nat.le_of_ble_eq_true rfl) rfl rfl sh_82 rfl h (fun σ_5 h => ?_)
    refine G_iconst (pc := 38) 0 X (dg dt_R_turn 21 rfl) (by decide) ?_
    refine G_istore (pc := 39) X (dg dt_R_turn 22 rfl) (Nat.le_of_ble_eq_true rfl) rfl ?_
    refine G_iconst (pc := 41) 0 X (dg dt_R_turn 23 rfl) (by decide) ?_
    refine G_istore (pc := 42) X (dg dt_R_turn 24 rfl) (Nat.le_of_ble_eq_true rfl) rfl ?_
    refine G_weak (L' := [some (.ref (ad 82)), some (.int v1), some (.int v2), some (.int v3), some (.int v4), some (.int 0), some (.int 0)]) ⟨rfl, ⟨rfl, ⟨rfl, ⟨rfl, ⟨rfl, ⟨rfl, ⟨rfl, trivial⟩⟩⟩⟩⟩⟩⟩ ?_
    refine s_R_turn_L44  X hq  (fun v5_14 h => ?_) _ _ _ h
    refine G_aload_n (pc := 104) 0 X (dg dt_R_turn 56 rfl) rfl rfl ?_
    refine G_iload (pc := 105) X (dg dt_R_turn 57 rfl) rfl ?_
    refine jn_go (fun j118_15 => ∀ (s_16 : Int32), j118_15 s_16 = some (rv, σe) → G θ (0, 0) (g_SH, ad) σ_5 118 [some (.ref (ad 82)), some (.int v1), some (.int v2), some (.int v3), some (.int v4), none, none] [.int s_16, .ref (ad 82)]) h ?_ (fun j118_15 hj118_15 h => ?_)
    · intro s_16 h
      refine G_put (pc := 118) 0 X (dg dt_R_turn 63 rfl) fc_8 w_1063 rfl (Nat.le_of_ble_eq_true rfl) rfl rfl sh_82 rfl h (fun σ_17 h => ?_)
      refine G_aload_n (pc := 121) 0 X (dg dt_R_turn 64 rfl) rfl rfl ?_
      refine G_getI (pc := 122) 0 X (dg dt_R_turn 65 rfl) fc_8 w_1063 rfl (Nat.le_of_ble_eq_true rfl) sh_82 rfl ?_
      refine G_if_le (pc := 125) 132 X (dg dt_R_turn 66 rfl) (by decide) h (fun h => ?_) (fun h => ?_)
      · refine G_aload_n (pc := 132) 0 X (dg dt_R_turn 69 rfl) rfl rfl ?_
        refine G_iload_n (pc := 133) 1 X (dg dt_R_turn 70 rfl) rfl rfl ?_
        refine G_iload_n (pc := 134) 2 X (dg dt_R_turn 71 rfl) rfl rfl ?_
        refine G_iload_n (pc := 135) 3 X (dg dt_R_turn 72 rfl) rfl rfl ?_
        refine G_iload (pc := 136) X (dg dt_R_turn 73 rfl) rfl ?_
        obtain ⟨r_19, σ_20, hc_18, h⟩ := cal_go h
        refine G_callV (pc := 138) (S := []) [.int v1, .int v2, .int v3, .int v4] nosub X  (dg dt_R_turn 74 rfl) cb_R_turnRows cv_R_turnRows w_1239 (s_R_turnRows _ ad _ _ _ _ _ hc_18) rfl ⟨Nat.le_of_ble_eq_true rfl, Nat.le_of_ble_eq_true rfl⟩ sh_82 rfl (Nat.le_of_ble_eq_true rfl) Rc0 ?_
        exact G_iret (pc := 141) X hq (dg dt_R_turn 75 rfl) h
      · refine G_iconst (pc := 128) 0 X (dg dt_R_turn 67 rfl) (by decide) ?_
        refine G_goto (pc := 129) 141 X (dg dt_R_turn 68 rfl) (by decide) ?_
        exact G_iret (pc := 141) X hq (dg dt_R_turn 75 rfl) h
    refine G_if_eq (pc := 107) 114 X (dg dt_R_turn 58 rfl) (by decide) h (fun h => ?_) (fun h => ?_)
    · refine G_aload_n (pc := 114) 0 X (dg dt_R_turn 61 rfl) rfl rfl ?_
      refine G_getI (pc := 115) 0 X (dg dt_R_turn 62 rfl) fc_8 w_1063 rfl (Nat.le_of_ble_eq_true rfl) sh_82 rfl ?_
      exact G_wk (hj118_15 (σ_5 82 0) h) ⟨rfl, ⟨rfl, ⟨rfl, ⟨rfl, ⟨rfl, trivial⟩⟩⟩⟩⟩
    · refine G_iconst (pc := 110) 3 X (dg dt_R_turn 59 rfl) (by decide) ?_
      refine G_goto (pc := 111) 118 X (dg dt_R_turn 60 rfl) (by decide) ?_
      exact G_wk (hj118_15 3 h) ⟨rfl, ⟨rfl, ⟨rfl, ⟨rfl, ⟨rfl, trivial⟩⟩⟩⟩⟩
  refine jn_go (fun j21_21 => j21_21 = some (rv, σe) → G θ (0, 0) (g_SH, ad) σ 21 [some (.ref (ad 82)), some (.int v1), some (.int v2), some (.int v3), some (.int v4), none, none] [.ref (ad 82)]) h ?_ (fun j21_21 hj21_21 h => ?_)
  · intro  h
    refine G_iconst (pc := 21) 1 X (dg dt_R_turn 12 rfl) (by decide) ?_
    refine G_goto (pc := 22) 35 X (dg dt_R_turn 13 rfl) (by decide) ?_
    exact G_wk (hj35_3 1 h) ⟨rfl, ⟨rfl, ⟨rfl, ⟨rfl, ⟨rfl, trivial⟩⟩⟩⟩⟩
  refine G_if_eq (pc := 9) 21 X (dg dt_R_turn 6 rfl) (by decide) h (fun h => ?_) (fun h => ?_)
  · exact G_wk (hj21_21  h) ⟨rfl, ⟨rfl, ⟨rfl, ⟨rfl, ⟨rfl, trivial⟩⟩⟩⟩⟩
  · refine G_aload_n (pc := 12) 0 X (dg dt_R_turn 7 rfl) rfl rfl ?_
    refine G_iload_n (pc := 13) 1 X (dg dt_R_turn 8 rfl) rfl rfl ?_
    refine G_iload_n (pc := 14) 3 X (dg dt_R_turn 9 rfl) rfl rfl ?_
    obtain ⟨r_23, hc_22, h⟩ := cap_go h
    refine G_callV (pc := 15) (S := [.ref (ad 82)]) [.int v1, .int v3] nosub X  (dg dt_R_turn 10 rfl) cb_R_isLine cv_R_isLine w_1187 (s_R_isLine _ ad _ _ _ hc_22) rfl ⟨Nat.le_of_ble_eq_true rfl, Nat.le_of_ble_eq_true rfl⟩ sh_82 rfl (Nat.le_of_ble_eq_true rfl) Rc0 ?_
    refine G_if_ne (pc := 18) 25 X (dg dt_R_turn 11 rfl) (by decide) h (fun h => ?_) (fun h => ?_)
    · refine G_iload_n (pc := 25) 2 X (dg dt_R_turn 14 rfl) rfl rfl ?_
      refine G_iload_n (pc := 26) 3 X (dg dt_R_turn 15 rfl) rfl rfl ?_
      refine G_icmp_ne (pc := 27) 34 X (dg dt_R_turn 16 rfl) (by decide) h (fun h => ?_) (fun h => ?_)
      · refine G_iconst (pc := 34) 0 X (dg dt_R_turn 19 rfl) (by decide) ?_
        exact G_wk (hj35_3 0 h) ⟨rfl, ⟨rfl, ⟨rfl, ⟨rfl, ⟨rfl, trivial⟩⟩⟩⟩⟩
      · refine G_iconst (pc := 30) 2 X (dg dt_R_turn 17 rfl) (by decide) ?_
        refine G_goto (pc := 31) 35 X (dg dt_R_turn 18 rfl) (by decide) ?_
        exact G_wk (hj35_3 2 h) ⟨rfl, ⟨rfl, ⟨rfl, ⟨rfl, ⟨rfl, trivial⟩⟩⟩⟩⟩
    · exact G_wk (hj21_21  h) ⟨rfl, ⟨rfl, ⟨rfl, ⟨rfl, ⟨rfl, trivial⟩⟩⟩⟩⟩
set_option maxRecDepth 100000 in
set_option maxHeartbeats 4000000 in
theorem s_R_distance_L61 {θ : Th} {ad : Nat → Nat}  {rv : Int32} {σe : St} (X : Cx θ [] cX12_distance 5 "QuasigroveModel" 2 44)
    {v1 : Int32} {v2 : Int32} {σ : St} (hq : Rq θ (g_SH, ad) (some .int) (some (.int rv)) σe) {kx127 : Int32 → Option (Int32 × St)} (hkx127 : ∀ (v3 : Int32), kx127 v3 = some (rv, σe) → G θ (0, 0) (g_SH, ad) σ 127 [none, none, none, some (.int v3), none] []) :
    ∀ (n : Nat) (v3 : Int32) (v4 : Int32), f_R_distance_L61 v1 v2 σ kx127 n v3 v4 = some (rv, σe) → G θ (0, 0) (g_SH, ad) σ 61 [some (.ref (ad 82)), some (.int v1), some (.int v2), some (.int v3), some (.int v4)] [] := by
  intro n
  induction n with
  | zero => intro v3 v4 h; rw [f_R_distance_L61] at h; cases h
  | succ n ih =>
    intro v3 v4 h
    rw [f_R_distance_L61] at h
    refine G_aload_n (pc := 61) 0 X (dg dt_R_distance 34 rfl) rfl rfl ?_
    refine G_getI (pc := 62) 0 X (dg dt_R_distance 35 rfl) fc_8 w_1063 rfl (Nat.le_of_ble_eq_true rfl) sh_82 rfl ?_
    refine G_if_ne (pc := 65) 127 X (dg dt_R_distance 36 rfl) (by decide) h (fun h => ?_) (fun h => ?_)
    · exact G_wk (hkx127 v3 h) ⟨rfl, trivial⟩
    · refine G_iload (pc := 68) X (dg dt_R_distance 37 rfl) rfl ?_
      refine G_aload_n (pc := 70) 0 X (dg dt_R_distance 38 rfl) rfl rfl ?_
      refine G_getR (pc := 71) 2 X (dg dt_R_distance 39 rfl) fc_8 w_1065 rfl (Nat.le_of_ble_eq_true rfl) sh_82 rfl ?_
      refine G_iload_n (pc := 74) 1 X (dg dt_R_distance 40 rfl) rfl rfl ?_
      refine G_iald (pc := 75) X (dg dt_R_distance 41 rfl) sh_83 h (fun r_8 h => ?_)
      refine G_aload_n (pc := 76) 0 X (dg dt_R_distance 42 rfl) rfl rfl ?_
      refine G_getR (pc := 77) 2 X (dg dt_R_distance 43 rfl) fc_8 w_1065 rfl (Nat.le_of_ble_eq_true rfl) sh_82 rfl ?_
      refine G_iload_n (pc := 80) 1 X (dg dt_R_distance 44 rfl) rfl rfl ?_
      refine G_iald (pc := 81) X (dg dt_R_distance 45 rfl) sh_83 h (fun r_9 h => ?_)
      refine G_imul (pc := 82) X (dg dt_R_distance 46 rfl) ?_
      refine G_icmp_ge (pc := 83) 127 X (dg dt_R_distance 47 rfl) (by decide) h (fun h => ?_) (fun h => ?_)
      · exact G_wk (hkx127 v3 h) ⟨rfl, trivial⟩
      · refine G_iload_n (pc := 86) 3 X (dg dt_R_distance 48 rfl) rfl rfl ?_
        refine G_aload_n (pc := 87) 0 X (dg dt_R_distance 49 rfl) rfl rfl ?_
        refine G_getR (pc := 88) 3 X (dg dt_R_distance 50 rfl) fc_8 w_1066 rfl (Nat.le_of_ble_eq_true rfl) sh_82 rfl ?_
        refine G_bipush (pc := 91) 25 X (dg dt_R_distance 51 rfl) (by decide) ?_
        refine G_iload_n (pc := 93) 1 X (dg dt_R_distance 52 rfl) rfl rfl ?_
        refine G_imul (pc := 94) X (dg dt_R_distance 53 rfl) ?_
        refine G_iload (pc := 95) X (dg dt_R_distance 54 rfl) rfl ?_
        refine G_iadd (pc := 97) X (dg dt_R_distance 55 rfl) ?_
        refine G_iald (pc := 98) X (dg dt_R_distance 56 rfl) sh_84 h (fun r_10 h => ?_)
        refine G_aload_n (pc := 99) 0 X (dg dt_R_distance 57 rfl) rfl rfl ?_
        refine G_getR (pc := 100) 3 X (dg dt_R_distance 58 rfl) fc_8 w_1066 rfl (Nat.le_of_ble_eq_true rfl) sh_82 rfl ?_
        refine G_bipush (pc := 103) 25 X (dg dt_R_distance 59 rfl) (by decide) ?_
        refine G_iload_n (pc := 105) 2 X (dg dt_R_distance 60 rfl) rfl rfl ?_
        refine G_imul (pc := 106) X (dg dt_R_distance 61 rfl) ?_
        refine G_iload (pc := 107) X (dg dt_R_distance 62 rfl) rfl ?_
        refine G_iadd (pc := 109) X (dg dt_R_distance 63 rfl) ?_
        refine G_iald (pc := 110) X (dg dt_R_distance 64 rfl) sh_84 h (fun r_11 h => ?_)
        refine jn_go (fun j119_12 => ∀ (s_13 : Int32), j119_12 s_13 = some (rv, σe) → G θ (0, 0) (g_SH, ad) σ 119 [some (.ref (ad 82)), some (.int v1), some (.int v2), none, some (.int v4)] [.int s_13, .int v3]) h ?_ (fun j119_12 hj119_12 h => ?_)
        · intro s_13 h
          refine G_iadd (pc := 119) X (dg dt_R_distance 69 rfl) ?_
          refine G_istore_n (pc := 120) 3 X (dg dt_R_distance 70 rfl) rfl (Nat.le_of_ble_eq_true rfl) rfl ?_
          refine G_iinc (pc := 121) (v4 + 1) X (dg dt_R_distance 71 rfl) rfl (Nat.le_of_ble_eq_true rfl) rfl rfl ?_
          refine G_goto (pc := 124) 61 X (dg dt_R_distance 72 rfl) (by decide) ?_
          exact G_wk (ih (v3 + s_13) (v4 + 1) h) ⟨rfl, ⟨rfl, ⟨rfl, ⟨rfl, ⟨rfl, trivial⟩⟩⟩⟩⟩
        refine G_icmp_eq (pc := 111) 118 X (dg dt_R_distance 65 rfl) (by decide) h (fun h => ?_) (fun h => ?_)
        · refine G_iconst (pc := 118) 0 X (dg dt_R_distance 68 rfl) (by decide) ?_
          exact G_wk (hj119_12 0 h) ⟨rfl, ⟨rfl, ⟨rfl, ⟨rfl, trivial⟩⟩⟩⟩
        · refine G_iconst (pc := 114) 1 X (dg dt_R_distance 66 rfl) (by decide) ?_
          refine G_goto (pc := 115) 119 X (dg dt_R_distance 67 rfl) (by decide) ?_
          exact G_wk (hj119_12 1 h) ⟨rfl, ⟨rfl, ⟨rfl, ⟨rfl, trivial⟩⟩⟩⟩
set_option maxRecDepth 100000 in
set_option maxHeartbeats 4000000 in
theorem s_R_distance (l : Launch) (ad : Nat → Nat) (σ : St) (v1 : Int32) (v2 : Int32)  {rv : Int32} {σe : St} (h : f_R_distance σ v1 v2 = some (rv, σe)) : Rt l [] yX12_distance cX12_distance 5 (some .int) 2 44 (g_SH, ad) [.ref (ad 82), .int v1, .int v2] σ (some (.int rv)) σe := by
  refine Rt.intro (L := [some (.ref (ad 82)), some (.int v1), some (.int v2), none, none]) (by decide +kernel) (Nat.le_of_ble_eq_true rfl) rfl (fun θ hl X hq => ?_)
  subst hl
  unfold f_R_distance at h
  refine G_aload_n (pc := 0) 0 X (dg dt_R_distance 0 rfl) rfl rfl ?_
  refine G_aload_n (pc := 1) 0 X (dg dt_R_distance 1 rfl) rfl rfl ?_
  refine G_iload_n (pc := 2) 1 X (dg dt_R_distance 2 rfl) rfl rfl ?_
  obtain ⟨r_2, hc_1, h⟩ := cap_go h
  refine G_callV (pc := 3) (S := [.ref (ad 82)]) [.int v1] nosub X  (dg dt_R_distance 3 rfl) cb_R_isGrid cv_R_isGrid w_1183 (s_R_isGrid _ ad _ _ hc_1) rfl ⟨Nat.le_of_ble_eq_true rfl, Nat.le_of_ble_eq_true rfl⟩ sh_82 rfl (Nat.le_of_ble_eq_true rfl) Rc0 ?_
  refine jn_go (fun j22_3 => ∀ (s_4 : Int32), j22_3 s_4 = some (rv, σe) → G θ (0, 0) (g_SH, ad) σ 22 [some (.ref (ad 82)), some (.int v1), some (.int v2), none, none] [.int s_4, .ref (ad 82)]) h ?_ (fun j22_3 hj22_3 h => ?_)
  · intro s_4 h
    refine G_put (pc := 22) 0 X (dg dt_R_distance 12 rfl) fc_8 w_1063 rfl (Nat.le_of_ble_eq_true rfl) rfl rfl sh_82 rfl h (fun σ_5 h => ?_)
    refine G_aload_n (pc := 25) 0 X (dg dt_R_distance 13 rfl) rfl rfl ?_
    refine G_getI (pc := 26) 0 X (dg dt_R_distance 14 rfl) fc_8 w_1063 rfl (Nat.le_of_ble_eq_true rfl) sh_82 rfl ?_
    refine jn_go (fun j56_6 => ∀ (σ_7 : St), j56_6 σ_7 = some (rv, σe) → G θ (0, 0) (g_SH, ad) σ_7 56 [some (.ref (ad 82)), some (.int v1), some (.int v2), none, none] []) h ?_ (fun j56_6 hj56_6 h => ?_)
    · intro σ_7 h
      refine G_iconst (pc := 56) 0 X (dg dt_R_distance 30 rfl) (by decide) ?_
      refine G_istore_n (pc := 57) 3 X (dg dt_R_distance 31 rfl) rfl (Nat.le_of_ble_eq_true rfl) rfl ?_
      refine G_iconst (pc := 58) 0 X (dg dt_R_distance 32 rfl) (by decide) ?_
      refine G_istore (pc := 59) X (dg dt_R_distance 33 rfl) (Nat.le_of_ble_eq_true rfl) rfl ?_
      refine G_weak (L' := [some (.ref (ad 82)), some (.int v1), some (.int v2), some (.int 0), some (.int 0)]) ⟨rfl, ⟨rfl, ⟨rfl, ⟨rfl, ⟨rfl, trivial⟩⟩⟩⟩⟩ ?_
      refine s_R_distance_L61  X hq  (fun v3_14 h => ?_) _ _ _ h
      refine G_iload_n (pc := 127) 3 X (dg dt_R_distance 73 rfl) rfl rfl ?_
      exact G_iret (pc := 128) X hq (dg dt_R_distance 74 rfl) h
    refine G_if_ne (pc := 29) 56 X (dg dt_R_distance 15 rfl) (by decide) h (fun h => ?_) (fun h => ?_)
    · exact G_wk (hj56_6 σ_5 h) ⟨rfl, ⟨rfl, ⟨rfl, trivial⟩⟩⟩
    · refine G_aload_n (pc := 32) 0 X (dg dt_R_distance 16 rfl) rfl rfl ?_
      refine G_aload_n (pc := 33) 0 X (dg dt_R_distance 17 rfl) rfl rfl ?_
      refine G_getR (pc := 34) 2 X (dg dt_R_distance 18 rfl) fc_8 w_1065 rfl (Nat.le_of_ble_eq_true rfl) sh_82 rfl ?_
      refine G_iload_n (pc := 37) 1 X (dg dt_R_distance 19 rfl) rfl rfl ?_
      refine G_iald (pc := 38) X (dg dt_R_distance 20 rfl) sh_83 h (fun r_15 h => ?_)
      refine G_aload_n (pc := 39) 0 X (dg dt_R_distance 21 rfl) rfl rfl ?_
      refine G_getR (pc := 40) 2 X (dg dt_R_distance 22 rfl) fc_8 w_1065 rfl (Nat.le_of_ble_eq_true rfl) sh_82 rfl ?_
      refine G_iload_n (pc := 43) 2 X (dg dt_R_distance 23 rfl) rfl rfl ?_
      refine G_iald (pc := 44) X (dg dt_R_distance 24 rfl) sh_83 h (fun r_16 h => ?_)
      refine jn_go (fun j53_17 => ∀ (s_18 : Int32), j53_17 s_18 = some (rv, σe) → G θ (0, 0) (g_SH, ad) σ_5 53 [some (.ref (ad 82)), some (.int v1), some (.int v2), none, none] [.int s_18, .ref (ad 82)]) h ?_ (fun j53_17 hj53_17 h => ?_)
      · intro s_18 h
        refine G_put (pc := 53) 0 X (dg dt_R_distance 29 rfl) fc_8 w_1063 rfl (Nat.le_of_ble_eq_true rfl) rfl rfl sh_82 rfl h (fun σ_19 h => ?_)
        exact G_wk (hj56_6 σ_19 h) ⟨rfl, ⟨rfl, ⟨rfl, trivial⟩⟩⟩
      refine G_icmp_eq (pc := 45) 52 X (dg dt_R_distance 25 rfl) (by decide) h (fun h => ?_) (fun h => ?_)
      · refine G_iconst (pc := 52) 0 X (dg dt_R_distance 28 rfl) (by decide) ?_
        exact G_wk (hj53_17 0 h) ⟨rfl, ⟨rfl, ⟨rfl, trivial⟩⟩⟩
      · refine G_iconst (pc := 48) 2 X (dg dt_R_distance 26 rfl) (by decide) ?_
        refine G_goto (pc := 49) 53 X (dg dt_R_distance 27 rfl) (by decide) ?_
        exact G_wk (hj53_17 2 h) ⟨rfl, ⟨rfl, ⟨rfl, trivial⟩⟩⟩
  refine jn_go (fun j17_20 => j17_20 = some (rv, σe) → G θ (0, 0) (g_SH, ad) σ 17 [some (.ref (ad 82)), some (.int v1), some (.int v2), none, none] [.ref (ad 82)]) h ?_ (fun j17_20 hj17_20 h => ?_)
  · intro  h
    refine G_iconst (pc := 17) 1 X (dg dt_R_distance 9 rfl) (by decide) ?_
    refine G_goto (pc := 18) 22 X (dg dt_R_distance 10 rfl) (by decide) ?_
    exact G_wk (hj22_3 1 h) ⟨rfl, ⟨rfl, ⟨rfl, trivial⟩⟩⟩
  refine G_if_eq (pc := 6) 17 X (dg dt_R_distance 4 rfl) (by decide) h (fun h => ?_) (fun h => ?_)
  · exact G_wk (hj17_20  h) ⟨rfl, ⟨rfl, ⟨rfl, trivial⟩⟩⟩
  · refine G_aload_n (pc := 9) 0 X (dg dt_R_distance 5 rfl) rfl rfl ?_
    refine G_iload_n (pc := 10) 2 X (dg dt_R_distance 6 rfl) rfl rfl ?_
    obtain ⟨r_22, hc_21, h⟩ := cap_go h
    refine G_callV (pc := 11) (S := [.ref (ad 82)]) [.int v2] nosub X  (dg dt_R_distance 7 rfl) cb_R_isGrid cv_R_isGrid w_1183 (s_R_isGrid _ ad _ _ hc_21) rfl ⟨Nat.le_of_ble_eq_true rfl, Nat.le_of_ble_eq_true rfl⟩ sh_82 rfl (Nat.le_of_ble_eq_true rfl) Rc0 ?_
    refine G_if_ne (pc := 14) 21 X (dg dt_R_distance 8 rfl) (by decide) h (fun h => ?_) (fun h => ?_)
    · refine G_iconst (pc := 21) 0 X (dg dt_R_distance 11 rfl) (by decide) ?_
      exact G_wk (hj22_3 0 h) ⟨rfl, ⟨rfl, ⟨rfl, trivial⟩⟩⟩
    · exact G_wk (hj17_20  h) ⟨rfl, ⟨rfl, ⟨rfl, trivial⟩⟩⟩
set_option maxRecDepth 100000 in
set_option maxHeartbeats 4000000 in
theorem s_R_of_L74 {θ : Th} {ad : Nat → Nat}  {rv : Int32} {σe : St} (X : Cx θ [] cX12_of 5 "QuasigroveModel" 2 49)
    {σ : St} (hq : Rq θ (g_SH, ad) (some .int) (some (.int rv)) σe) {kx122 : Int32 → Option (Int32 × St)} (hkx122 : ∀ (v3 : Int32), kx122 v3 = some (rv, σe) → G θ (0, 0) (g_SH, ad) σ 122 [none, none, none, some (.int v3), none] []) :
    ∀ (n : Nat) (v3 : Int32) (v4 : Int32), f_R_of_L74 σ kx122 n v3 v4 = some (rv, σe) → G θ (0, 0) (g_SH, ad) σ 74 [some (.ref (ad 82)), none, none, some (.int v3), some (.int v4)] [] := by
  intro n
  induction n with
  | zero => intro v3 v4 h; rw [f_R_of_L74] at h; cases h
  | succ n ih =>
    intro v3 v4 h
    rw [f_R_of_L74] at h
    refine G_iload (pc := 74) X (dg dt_R_of 43 rfl) rfl ?_
    refine G_aload_n (pc := 76) 0 X (dg dt_R_of 44 rfl) rfl rfl ?_
    refine G_getI (pc := 77) 13 X (dg dt_R_of 45 rfl) fc_8 w_1076 rfl (Nat.le_of_ble_eq_true rfl) sh_82 rfl ?_
    refine G_aload_n (pc := 80) 0 X (dg dt_R_of 46 rfl) rfl rfl ?_
    refine G_getI (pc := 81) 13 X (dg dt_R_of 47 rfl) fc_8 w_1076 rfl (Nat.le_of_ble_eq_true rfl) sh_82 rfl ?_
    refine G_imul (pc := 84) X (dg dt_R_of 48 rfl) ?_
    refine G_icmp_ge (pc := 85) 122 X (dg dt_R_of 49 rfl) (by decide) h (fun h => ?_) (fun h => ?_)
    · exact G_wk (hkx122 v3 h) ⟨rfl, trivial⟩
    · refine G_iload_n (pc := 88) 3 X (dg dt_R_of 50 rfl) rfl rfl ?_
      refine G_aload_n (pc := 89) 0 X (dg dt_R_of 51 rfl) rfl rfl ?_
      refine G_getR (pc := 90) 14 X (dg dt_R_of 52 rfl) fc_8 w_1077 rfl (Nat.le_of_ble_eq_true rfl) sh_82 rfl ?_
      refine G_iload (pc := 93) X (dg dt_R_of 53 rfl) rfl ?_
      refine G_iald (pc := 95) X (dg dt_R_of 54 rfl) sh_91 h (fun r_9 h => ?_)
      refine G_iconst (pc := 96) (-1) X (dg dt_R_of 55 rfl) (by decide) ?_
      refine jn_go (fun j114_10 => ∀ (s_11 : Int32), j114_10 s_11 = some (rv, σe) → G θ (0, 0) (g_SH, ad) σ 114 [some (.ref (ad 82)), none, none, none, some (.int v4)] [.int s_11, .int v3]) h ?_ (fun j114_10 hj114_10 h => ?_)
      · intro s_11 h
        refine G_iadd (pc := 114) X (dg dt_R_of 64 rfl) ?_
        refine G_istore_n (pc := 115) 3 X (dg dt_R_of 65 rfl) rfl (Nat.le_of_ble_eq_true rfl) rfl ?_
        refine G_iinc (pc := 116) (v4 + 1) X (dg dt_R_of 66 rfl) rfl (Nat.le_of_ble_eq_true rfl) rfl rfl ?_
        refine G_goto (pc := 119) 74 X (dg dt_R_of 67 rfl) (by decide) ?_
        exact G_wk (ih (v3 + s_11) (v4 + 1) h) ⟨rfl, ⟨rfl, ⟨rfl, trivial⟩⟩⟩
      refine jn_go (fun j113_12 => j113_12 = some (rv, σe) → G θ (0, 0) (g_SH, ad) σ 113 [some (.ref (ad 82)), none, none, none, some (.int v4)] [.int v3]) h ?_ (fun j113_12 hj113_12 h => ?_)
      · intro  h
        refine G_iconst (pc := 113) 0 X (dg dt_R_of 63 rfl) (by decide) ?_
        exact G_wk (hj114_10 0 h) ⟨rfl, ⟨rfl, trivial⟩⟩
      refine G_icmp_ne (pc := 97) 113 X (dg dt_R_of 56 rfl) (by decide) h (fun h => ?_) (fun h => ?_)
      · exact G_wk (hj113_12  h) ⟨rfl, ⟨rfl, trivial⟩⟩
      · refine G_aload_n (pc := 100) 0 X (dg dt_R_of 57 rfl) rfl rfl ?_
        refine G_iload (pc := 101) X (dg dt_R_of 58 rfl) rfl ?_
        obtain ⟨r_14, hc_13, h⟩ := cap_go h
        refine G_callV (pc := 103) (S := [.int v3]) [.int v4] nosub X  (dg dt_R_of 59 rfl) cb_R_setAt cv_R_setAt w_1223 (s_R_setAt _ ad _ _ hc_13) rfl ⟨Nat.le_of_ble_eq_true rfl, Nat.le_of_ble_eq_true rfl⟩ sh_82 rfl (Nat.le_of_ble_eq_true rfl) Rc0 ?_
        refine G_if_ne (pc := 106) 113 X (dg dt_R_of 60 rfl) (by decide) h (fun h => ?_) (fun h => ?_)
        · exact G_wk (hj113_12  h) ⟨rfl, ⟨rfl, trivial⟩⟩
        · refine G_iconst (pc := 109) 1 X (dg dt_R_of 61 rfl) (by decide) ?_
          refine G_goto (pc := 110) 114 X (dg dt_R_of 62 rfl) (by decide) ?_
          exact G_wk (hj114_10 1 h) ⟨rfl, ⟨rfl, trivial⟩⟩
set_option maxRecDepth 100000 in
set_option maxHeartbeats 4000000 in
theorem s_R_of (l : Launch) (ad : Nat → Nat) (σ : St) (v1 : Int32) (v2 : Int32)  {rv : Int32} {σe : St} (h : f_R_of σ v1 v2 = some (rv, σe)) : Rt l [] yX12_of cX12_of 5 (some .int) 2 49 (g_SH, ad) [.ref (ad 82), .int v1, .int v2] σ (some (.int rv)) σe := by
  refine Rt.intro (L := [some (.ref (ad 82)), some (.int v1), some (.int v2), none, none]) (by decide +kernel) (Nat.le_of_ble_eq_true rfl) rfl (fun θ hl X hq => ?_)
  subst hl
  unfold f_R_of at h
  refine G_aload_n (pc := 0) 0 X (dg dt_R_of 0 rfl) rfl rfl ?_
  refine G_aload_n (pc := 1) 0 X (dg dt_R_of 1 rfl) rfl rfl ?_
  refine G_iload_n (pc := 2) 1 X (dg dt_R_of 2 rfl) rfl rfl ?_
  obtain ⟨r_2, hc_1, h⟩ := cap_go h
  refine G_callV (pc := 3) (S := [.ref (ad 82)]) [.int v1] nosub X  (dg dt_R_of 3 rfl) cb_R_isGrid cv_R_isGrid w_1183 (s_R_isGrid _ ad _ _ hc_1) rfl ⟨Nat.le_of_ble_eq_true rfl, Nat.le_of_ble_eq_true rfl⟩ sh_82 rfl (Nat.le_of_ble_eq_true rfl) Rc0 ?_
  refine jn_go (fun j28_3 => ∀ (s_4 : Int32), j28_3 s_4 = some (rv, σe) → G θ (0, 0) (g_SH, ad) σ 28 [some (.ref (ad 82)), some (.int v1), some (.int v2), none, none] [.int s_4, .ref (ad 82)]) h ?_ (fun j28_3 hj28_3 h => ?_)
  · intro s_4 h
    refine G_put (pc := 28) 0 X (dg dt_R_of 16 rfl) fc_8 w_1063 rfl (Nat.le_of_ble_eq_true rfl) rfl rfl sh_82 rfl h (fun σ_5 h => ?_)
    refine G_aload_n (pc := 31) 0 X (dg dt_R_of 17 rfl) rfl rfl ?_
    refine G_getI (pc := 32) 0 X (dg dt_R_of 18 rfl) fc_8 w_1063 rfl (Nat.le_of_ble_eq_true rfl) sh_82 rfl ?_
    refine G_if_le (pc := 35) 40 X (dg dt_R_of 19 rfl) (by decide) h (fun h => ?_) (fun h => ?_)
    · refine G_iload_n (pc := 40) 2 X (dg dt_R_of 22 rfl) rfl rfl ?_
      refine G_iconst (pc := 41) 2 X (dg dt_R_of 23 rfl) (by decide) ?_
      refine G_icmp_ge (pc := 42) 64 X (dg dt_R_of 24 rfl) (by decide) h (fun h => ?_) (fun h => ?_)
      · refine G_aload_n (pc := 64) 0 X (dg dt_R_of 36 rfl) rfl rfl ?_
        refine G_iload_n (pc := 65) 1 X (dg dt_R_of 37 rfl) rfl rfl ?_
        obtain ⟨r_7, σ_8, hc_6, h⟩ := cal_go h
        refine G_callV (pc := 66) (S := []) [.int v1] nosub X  (dg dt_R_of 38 rfl) cb_R_copyToWork cv_R_copyToWork w_1219 (s_R_copyToWork _ ad _ _ hc_6) rfl ⟨Nat.le_of_ble_eq_true rfl, Nat.le_of_ble_eq_true rfl⟩ sh_82 rfl (Nat.le_of_ble_eq_true rfl) Rc0 ?_
        refine G_iconst (pc := 69) 0 X (dg dt_R_of 39 rfl) (by decide) ?_
        refine G_istore_n (pc := 70) 3 X (dg dt_R_of 40 rfl) rfl (Nat.le_of_ble_eq_true rfl) rfl ?_
        refine G_iconst (pc := 71) 0 X (dg dt_R_of 41 rfl) (by decide) ?_
        refine G_istore (pc := 72) X (dg dt_R_of 42 rfl) (Nat.le_of_ble_eq_true rfl) rfl ?_
        refine G_weak (L' := [some (.ref (ad 82)), none, none, some (.int 0), some (.int 0)]) ⟨rfl, ⟨rfl, ⟨rfl, trivial⟩⟩⟩ ?_
        refine s_R_of_L74  X hq  (fun v3_15 h => ?_) _ _ _ h
        refine G_iload_n (pc := 122) 3 X (dg dt_R_of 68 rfl) rfl rfl ?_
        exact G_iret (pc := 123) X hq (dg dt_R_of 69 rfl) h
      · refine G_iload_n (pc := 45) 2 X (dg dt_R_of 25 rfl) rfl rfl ?_
        refine G_if_ne (pc := 46) 58 X (dg dt_R_of 26 rfl) (by decide) h (fun h => ?_) (fun h => ?_)
        · refine G_aload_n (pc := 58) 0 X (dg dt_R_of 32 rfl) rfl rfl ?_
          refine G_iload_n (pc := 59) 1 X (dg dt_R_of 33 rfl) rfl rfl ?_
          obtain ⟨r_17, hc_16, h⟩ := cap_go h
          refine G_callV (pc := 60) (S := []) [.int v1] nosub X  (dg dt_R_of 34 rfl) cb_R_filled cv_R_filled w_1215 (s_R_filled _ ad _ _ hc_16) rfl ⟨Nat.le_of_ble_eq_true rfl, Nat.le_of_ble_eq_true rfl⟩ sh_82 rfl (Nat.le_of_ble_eq_true rfl) Rc0 ?_
          exact G_iret (pc := 63) X hq (dg dt_R_of 35 rfl) h
        · refine G_aload_n (pc := 49) 0 X (dg dt_R_of 27 rfl) rfl rfl ?_
          refine G_getR (pc := 50) 2 X (dg dt_R_of 28 rfl) fc_8 w_1065 rfl (Nat.le_of_ble_eq_true rfl) sh_82 rfl ?_
          refine G_iload_n (pc := 53) 1 X (dg dt_R_of 29 rfl) rfl rfl ?_
          refine G_iald (pc := 54) X (dg dt_R_of 30 rfl) sh_83 h (fun r_18 h => ?_)
          refine G_goto (pc := 55) 63 X (dg dt_R_of 31 rfl) (by decide) ?_
          exact G_iret (pc := 63) X hq (dg dt_R_of 35 rfl) h
    · refine G_iconst (pc := 38) 0 X (dg dt_R_of 20 rfl) (by decide) ?_
      exact G_iret (pc := 39) X hq (dg dt_R_of 21 rfl) h
  refine G_if_ne (pc := 6) 13 X (dg dt_R_of 4 rfl) (by decide) h (fun h => ?_) (fun h => ?_)
  · refine G_aload_n (pc := 13) 0 X (dg dt_R_of 7 rfl) rfl rfl ?_
    refine G_iload_n (pc := 14) 2 X (dg dt_R_of 8 rfl) rfl rfl ?_
    refine G_iconst (pc := 15) 0 X (dg dt_R_of 9 rfl) (by decide) ?_
    refine G_iconst (pc := 16) 2 X (dg dt_R_of 10 rfl) (by decide) ?_
    obtain ⟨r_20, hc_19, h⟩ := cap_go h
    refine G_callV (pc := 17) (S := [.ref (ad 82)]) [.int v2, .int 0, .int 2] nosub X  (dg dt_R_of 11 rfl) cb_R_between cv_R_between w_1159 (s_R_between _ ad _ _ _ _ hc_19) rfl ⟨Nat.le_of_ble_eq_true rfl, Nat.le_of_ble_eq_true rfl⟩ sh_82 rfl (Nat.le_of_ble_eq_true rfl) Rc0 ?_
    refine G_if_ne (pc := 20) 27 X (dg dt_R_of 12 rfl) (by decide) h (fun h => ?_) (fun h => ?_)
    · refine G_iconst (pc := 27) 0 X (dg dt_R_of 15 rfl) (by decide) ?_
      exact G_wk (hj28_3 0 h) ⟨rfl, ⟨rfl, ⟨rfl, trivial⟩⟩⟩
    · refine G_iconst (pc := 23) 2 X (dg dt_R_of 13 rfl) (by decide) ?_
      refine G_goto (pc := 24) 28 X (dg dt_R_of 14 rfl) (by decide) ?_
      exact G_wk (hj28_3 2 h) ⟨rfl, ⟨rfl, ⟨rfl, trivial⟩⟩⟩
  · refine G_iconst (pc := 9) 1 X (dg dt_R_of 5 rfl) (by decide) ?_
    refine G_goto (pc := 10) 28 X (dg dt_R_of 6 rfl) (by decide) ?_
    exact G_wk (hj28_3 1 h) ⟨rfl, ⟨rfl, ⟨rfl, trivial⟩⟩⟩
set_option maxRecDepth 100000 in
set_option maxHeartbeats 4000000 in
theorem s_R_cell (l : Launch) (ad : Nat → Nat) (σ : St) (v1 : Int32) (v2 : Int32) (v3 : Int32)  {rv : Int32} {σe : St} (h : f_R_cell σ v1 v2 v3 = some (rv, σe)) : Rt l [] yX12_cell cX12_cell 4 (some .int) 3 68 (g_SH, ad) [.ref (ad 82), .int v1, .int v2, .int v3] σ (some (.int rv)) σe := by
  refine Rt.intro (L := [some (.ref (ad 82)), some (.int v1), some (.int v2), some (.int v3)]) (by decide +kernel) (Nat.le_of_ble_eq_true rfl) rfl (fun θ hl X hq => ?_)
  subst hl
  unfold f_R_cell at h
  refine G_aload_n (pc := 0) 0 X (dg dt_R_cell 0 rfl) rfl rfl ?_
  refine G_aload_n (pc := 1) 0 X (dg dt_R_cell 1 rfl) rfl rfl ?_
  refine G_iload_n (pc := 2) 1 X (dg dt_R_cell 2 rfl) rfl rfl ?_
  refine G_iload_n (pc := 3) 2 X (dg dt_R_cell 3 rfl) rfl rfl ?_
  refine G_iload_n (pc := 4) 3 X (dg dt_R_cell 4 rfl) rfl rfl ?_
  obtain ⟨r_2, hc_1, h⟩ := cap_go h
  refine G_callV (pc := 5) (S := [.ref (ad 82)]) [.int v1, .int v2, .int v3] nosub X  (dg dt_R_cell 5 rfl) cb_R_isCell cv_R_isCell w_1179 (s_R_isCell _ ad _ _ _ _ hc_1) rfl ⟨Nat.le_of_ble_eq_true rfl, Nat.le_of_ble_eq_true rfl⟩ sh_82 rfl (Nat.le_of_ble_eq_true rfl) Rc0 ?_
  refine jn_go (fun j16_3 => ∀ (s_4 : Int32), j16_3 s_4 = some (rv, σe) → G θ (0, 0) (g_SH, ad) σ 16 [some (.ref (ad 82)), some (.int v1), some (.int v2), some (.int v3)] [.int s_4, .ref (ad 82)]) h ?_ (fun j16_3 hj16_3 h => ?_)
  · intro s_4 h
    refine G_put (pc := 16) 0 X (dg dt_R_cell 10 rfl) fc_8 w_1063 rfl (Nat.le_of_ble_eq_true rfl) rfl rfl sh_82 rfl h (fun σ_5 h => ?_)
    refine G_aload_n (pc := 19) 0 X (dg dt_R_cell 11 rfl) rfl rfl ?_
    refine G_getI (pc := 20) 0 X (dg dt_R_cell 12 rfl) fc_8 w_1063 rfl (Nat.le_of_ble_eq_true rfl) sh_82 rfl ?_
    refine G_if_le (pc := 23) 30 X (dg dt_R_cell 13 rfl) (by decide) h (fun h => ?_) (fun h => ?_)
    · refine G_aload_n (pc := 30) 0 X (dg dt_R_cell 16 rfl) rfl rfl ?_
      refine G_iload_n (pc := 31) 1 X (dg dt_R_cell 17 rfl) rfl rfl ?_
      refine G_iload_n (pc := 32) 2 X (dg dt_R_cell 18 rfl) rfl rfl ?_
      refine G_iload_n (pc := 33) 3 X (dg dt_R_cell 19 rfl) rfl rfl ?_
      obtain ⟨r_7, hc_6, h⟩ := cap_go h
      refine G_callV (pc := 34) (S := []) [.int v1, .int v2, .int v3] nosub X  (dg dt_R_cell 20 rfl) cb_R_at cv_R_at w_1191 (s_R_at _ ad _ _ _ _ hc_6) rfl ⟨Nat.le_of_ble_eq_true rfl, Nat.le_of_ble_eq_true rfl⟩ sh_82 rfl (Nat.le_of_ble_eq_true rfl) Rc0 ?_
      exact G_iret (pc := 37) X hq (dg dt_R_cell 21 rfl) h
    · refine G_iconst (pc := 26) 0 X (dg dt_R_cell 14 rfl) (by decide) ?_
      refine G_goto (pc := 27) 37 X (dg dt_R_cell 15 rfl) (by decide) ?_
      exact G_iret (pc := 37) X hq (dg dt_R_cell 21 rfl) h
  refine G_if_ne (pc := 8) 15 X (dg dt_R_cell 6 rfl) (by decide) h (fun h => ?_) (fun h => ?_)
  · refine G_iconst (pc := 15) 0 X (dg dt_R_cell 9 rfl) (by decide) ?_
    exact G_wk (hj16_3 0 h) ⟨rfl, ⟨rfl, ⟨rfl, ⟨rfl, trivial⟩⟩⟩⟩
  · refine G_iconst (pc := 11) 1 X (dg dt_R_cell 7 rfl) (by decide) ?_
    refine G_goto (pc := 12) 16 X (dg dt_R_cell 8 rfl) (by decide) ?_
    exact G_wk (hj16_3 1 h) ⟨rfl, ⟨rfl, ⟨rfl, ⟨rfl, trivial⟩⟩⟩⟩
set_option maxRecDepth 100000 in
set_option maxHeartbeats 4000000 in
theorem s_R_conjugate_L79 {θ : Th} {ad : Nat → Nat}  {rv : Int32} {σe : St} (X : Cx θ [] cX12_conjugate 10 "QuasigroveModel" 2 44)
    {v1 : Int32} {v2 : Int32} {v3 : Int32} {v4 : Int32} {v5 : Int32} (hq : Rq θ (g_SH, ad) (some .int) (some (.int rv)) σe) {kx206 : St → Option (Int32 × St)} (hkx206 : ∀ (σ : St), kx206 σ = some (rv, σe) → G θ (0, 0) (g_SH, ad) σ 206 [some (.ref (ad 82)), some (.int v1), some (.int v2), some (.int v3), some (.int v4), some (.int v5), none, none, none, none] []) :
    ∀ (n : Nat) (v6 : Int32) (σ : St), f_R_conjugate_L79 v1 v2 v3 v4 v5 kx206 n v6 σ = some (rv, σe) → G θ (0, 0) (g_SH, ad) σ 79 [some (.ref (ad 82)), some (.int v1), some (.int v2), some (.int v3), some (.int v4), some (.int v5), some (.int v6), none, none, none] [] := by
  intro n
  induction n with
  | zero => intro v6 σ h; rw [f_R_conjugate_L79] at h; cases h
  | succ n ih =>
    intro v6 σ h
    rw [f_R_conjugate_L79] at h
    refine G_iload (pc := 79) X (dg dt_R_conjugate 44 rfl) rfl ?_
    refine G_iload_n (pc := 81) 3 X (dg dt_R_conjugate 45 rfl) rfl rfl ?_
    refine G_icmp_ge (pc := 82) 206 X (dg dt_R_conjugate 46 rfl) (by decide) h (fun h => ?_) (fun h => ?_)
    · exact G_wk (hkx206 σ h) ⟨rfl, ⟨rfl, ⟨rfl, ⟨rfl, ⟨rfl, ⟨rfl, trivial⟩⟩⟩⟩⟩⟩
    · refine G_aload_n (pc := 85) 0 X (dg dt_R_conjugate 47 rfl) rfl rfl ?_
      refine G_iload_n (pc := 86) 1 X (dg dt_R_conjugate 48 rfl) rfl rfl ?_
      refine G_iload (pc := 87) X (dg dt_R_conjugate 49 rfl) rfl ?_
      refine G_iload (pc := 89) X (dg dt_R_conjugate 50 rfl) rfl ?_
      obtain ⟨r_11, hc_10, h⟩ := cap_go h
      refine G_callV (pc := 91) (S := []) [.int v1, .int v5, .int v6] nosub X  (dg dt_R_conjugate 51 rfl) cb_R_at cv_R_at w_1191 (s_R_at _ ad _ _ _ _ hc_10) rfl ⟨Nat.le_of_ble_eq_true rfl, Nat.le_of_ble_eq_true rfl⟩ sh_82 rfl (Nat.le_of_ble_eq_true rfl) Rc0 ?_
      refine G_istore (pc := 94) X (dg dt_R_conjugate 52 rfl) (Nat.le_of_ble_eq_true rfl) rfl ?_
      refine G_iload (pc := 96) X (dg dt_R_conjugate 53 rfl) rfl ?_
      refine G_iconst (pc := 98) (-1) X (dg dt_R_conjugate 54 rfl) (by decide) ?_
      refine jn_go (fun j200_12 => ∀ (σ_13 : St), j200_12 σ_13 = some (rv, σe) → G θ (0, 0) (g_SH, ad) σ_13 200 [some (.ref (ad 82)), some (.int v1), some (.int v2), some (.int v3), some (.int v4), some (.int v5), some (.int v6), none, none, none] []) h ?_ (fun j200_12 hj200_12 h => ?_)
      · intro σ_13 h
        refine G_iinc (pc := 200) (v6 + 1) X (dg dt_R_conjugate 111 rfl) rfl (Nat.le_of_ble_eq_true rfl) rfl rfl ?_
        refine G_goto (pc := 203) 79 X (dg dt_R_conjugate 112 rfl) (by decide) ?_
        exact G_wk (ih (v6 + 1) σ_13 h) ⟨rfl, ⟨rfl, ⟨rfl, ⟨rfl, ⟨rfl, ⟨rfl, ⟨rfl, trivial⟩⟩⟩⟩⟩⟩⟩
      refine G_icmp_eq (pc := 99) 200 X (dg dt_R_conjugate 55 rfl) (by decide) h (fun h => ?_) (fun h => ?_)
      · exact G_wk (hj200_12 σ h) ⟨rfl, ⟨rfl, ⟨rfl, ⟨rfl, ⟨rfl, ⟨rfl, ⟨rfl, trivial⟩⟩⟩⟩⟩⟩⟩
      · refine G_iload_n (pc := 102) 2 X (dg dt_R_conjugate 56 rfl) rfl rfl ?_
        refine jn_go (fun j133_14 => ∀ (s_15 : Int32), j133_14 s_15 = some (rv, σe) → G θ (0, 0) (g_SH, ad) σ 133 [some (.ref (ad 82)), some (.int v1), some (.int v2), some (.int v3), some (.int v4), some (.int v5), some (.int v6), some (.int r_11), none, none] [.int s_15]) h ?_ (fun j133_14 hj133_14 h => ?_)
        · intro s_15 h
          refine G_istore (pc := 133) X (dg dt_R_conjugate 72 rfl) (Nat.le_of_ble_eq_true rfl) rfl ?_
          refine G_iload_n (pc := 135) 2 X (dg dt_R_conjugate 73 rfl) rfl rfl ?_
          refine jn_go (fun j166_16 => ∀ (s_17 : Int32), j166_16 s_17 = some (rv, σe) → G θ (0, 0) (g_SH, ad) σ 166 [some (.ref (ad 82)), some (.int v1), some (.int v2), some (.int v3), some (.int v4), some (.int v5), some (.int v6), some (.int r_11), some (.int s_15), none] [.int s_17]) h ?_ (fun j166_16 hj166_16 h => ?_)
          · intro s_17 h
            refine G_istore (pc := 166) X (dg dt_R_conjugate 89 rfl) (Nat.le_of_ble_eq_true rfl) rfl ?_
            refine G_aload_n (pc := 168) 0 X (dg dt_R_conjugate 90 rfl) rfl rfl ?_
            refine G_getR (pc := 169) 3 X (dg dt_R_conjugate 91 rfl) fc_8 w_1066 rfl (Nat.le_of_ble_eq_true rfl) sh_82 rfl ?_
            refine G_bipush (pc := 172) 25 X (dg dt_R_conjugate 92 rfl) (by decide) ?_
            refine G_iload (pc := 174) X (dg dt_R_conjugate 93 rfl) rfl ?_
            refine G_imul (pc := 176) X (dg dt_R_conjugate 94 rfl) ?_
            refine G_iload_n (pc := 177) 3 X (dg dt_R_conjugate 95 rfl) rfl rfl ?_
            refine G_iload (pc := 178) X (dg dt_R_conjugate 96 rfl) rfl ?_
            refine G_imul (pc := 180) X (dg dt_R_conjugate 97 rfl) ?_
            refine G_iadd (pc := 181) X (dg dt_R_conjugate 98 rfl) ?_
            refine G_iload (pc := 182) X (dg dt_R_conjugate 99 rfl) rfl ?_
            refine G_iadd (pc := 184) X (dg dt_R_conjugate 100 rfl) ?_
            refine G_iload (pc := 185) X (dg dt_R_conjugate 101 rfl) rfl ?_
            refine G_iload (pc := 187) X (dg dt_R_conjugate 102 rfl) rfl ?_
            refine G_iadd (pc := 189) X (dg dt_R_conjugate 103 rfl) ?_
            refine G_iload (pc := 190) X (dg dt_R_conjugate 104 rfl) rfl ?_
            refine G_iadd (pc := 192) X (dg dt_R_conjugate 105 rfl) ?_
            refine G_iload (pc := 193) X (dg dt_R_conjugate 106 rfl) rfl ?_
            refine G_isub (pc := 195) X (dg dt_R_conjugate 107 rfl) ?_
            refine G_iload (pc := 196) X (dg dt_R_conjugate 108 rfl) rfl ?_
            refine G_isub (pc := 198) X (dg dt_R_conjugate 109 rfl) ?_
            refine G_iast (pc := 199) X (dg dt_R_conjugate 110 rfl) sh_84 h (fun σ_18 h => ?_)
            exact G_wk (hj200_12 σ_18 h) ⟨rfl, ⟨rfl, ⟨rfl, ⟨rfl, ⟨rfl, ⟨rfl, ⟨rfl, trivial⟩⟩⟩⟩⟩⟩⟩
          refine jn_go (fun j144_19 => j144_19 = some (rv, σe) → G θ (0, 0) (g_SH, ad) σ 144 [some (.ref (ad 82)), some (.int v1), some (.int v2), some (.int v3), some (.int v4), some (.int v5), some (.int v6), some (.int r_11), some (.int s_15), none] []) h ?_ (fun j144_19 hj144_19 h => ?_)
          · intro  h
            refine G_iload (pc := 144) X (dg dt_R_conjugate 78 rfl) rfl ?_
            refine G_goto (pc := 146) 166 X (dg dt_R_conjugate 79 rfl) (by decide) ?_
            exact G_wk (hj166_16 v6 h) ⟨rfl, ⟨rfl, ⟨rfl, ⟨rfl, ⟨rfl, ⟨rfl, ⟨rfl, ⟨rfl, ⟨rfl, trivial⟩⟩⟩⟩⟩⟩⟩⟩⟩
          refine G_if_eq (pc := 136) 144 X (dg dt_R_conjugate 74 rfl) (by decide) h (fun h => ?_) (fun h => ?_)
          · exact G_wk (hj144_19  h) ⟨rfl, ⟨rfl, ⟨rfl, ⟨rfl, ⟨rfl, ⟨rfl, ⟨rfl, ⟨rfl, ⟨rfl, trivial⟩⟩⟩⟩⟩⟩⟩⟩⟩
          · refine G_iload_n (pc := 139) 2 X (dg dt_R_conjugate 75 rfl) rfl rfl ?_
            refine G_iconst (pc := 140) 3 X (dg dt_R_conjugate 76 rfl) (by decide) ?_
            refine G_icmp_ne (pc := 141) 149 X (dg dt_R_conjugate 77 rfl) (by decide) h (fun h => ?_) (fun h => ?_)
            · refine G_iload_n (pc := 149) 2 X (dg dt_R_conjugate 80 rfl) rfl rfl ?_
              refine G_iconst (pc := 150) 1 X (dg dt_R_conjugate 81 rfl) (by decide) ?_
              refine jn_go (fun j159_20 => j159_20 = some (rv, σe) → G θ (0, 0) (g_SH, ad) σ 159 [some (.ref (ad 82)), some (.int v1), some (.int v2), some (.int v3), some (.int v4), some (.int v5), some (.int v6), some (.int r_11), some (.int s_15), none] []) h ?_ (fun j159_20 hj159_20 h => ?_)
              · intro  h
                refine G_iload (pc := 159) X (dg dt_R_conjugate 86 rfl) rfl ?_
                refine G_goto (pc := 161) 166 X (dg dt_R_conjugate 87 rfl) (by decide) ?_
                exact G_wk (hj166_16 v5 h) ⟨rfl, ⟨rfl, ⟨rfl, ⟨rfl, ⟨rfl, ⟨rfl, ⟨rfl, ⟨rfl, ⟨rfl, trivial⟩⟩⟩⟩⟩⟩⟩⟩⟩
              refine G_icmp_eq (pc := 151) 159 X (dg dt_R_conjugate 82 rfl) (by decide) h (fun h => ?_) (fun h => ?_)
              · exact G_wk (hj159_20  h) ⟨rfl, ⟨rfl, ⟨rfl, ⟨rfl, ⟨rfl, ⟨rfl, ⟨rfl, ⟨rfl, ⟨rfl, trivial⟩⟩⟩⟩⟩⟩⟩⟩⟩
              · refine G_iload_n (pc := 154) 2 X (dg dt_R_conjugate 83 rfl) rfl rfl ?_
                refine G_iconst (pc := 155) 5 X (dg dt_R_conjugate 84 rfl) (by decide) ?_
                refine G_icmp_ne (pc := 156) 164 X (dg dt_R_conjugate 85 rfl) (by decide) h (fun h => ?_) (fun h => ?_)
                · refine G_iload (pc := 164) X (dg dt_R_conjugate 88 rfl) rfl ?_
                  exact G_wk (hj166_16 r_11 h) ⟨rfl, ⟨rfl, ⟨rfl, ⟨rfl, ⟨rfl, ⟨rfl, ⟨rfl, ⟨rfl, ⟨rfl, trivial⟩⟩⟩⟩⟩⟩⟩⟩⟩
                · exact G_wk (hj159_20  h) ⟨rfl, ⟨rfl, ⟨rfl, ⟨rfl, ⟨rfl, ⟨rfl, ⟨rfl, ⟨rfl, ⟨rfl, trivial⟩⟩⟩⟩⟩⟩⟩⟩⟩
            · exact G_wk (hj144_19  h) ⟨rfl, ⟨rfl, ⟨rfl, ⟨rfl, ⟨rfl, ⟨rfl, ⟨rfl, ⟨rfl, ⟨rfl, trivial⟩⟩⟩⟩⟩⟩⟩⟩⟩
        refine jn_go (fun j111_21 => j111_21 = some (rv, σe) → G θ (0, 0) (g_SH, ad) σ 111 [some (.ref (ad 82)), some (.int v1), some (.int v2), some (.int v3), some (.int v4), some (.int v5), some (.int v6), some (.int r_11), none, none] []) h ?_ (fun j111_21 hj111_21 h => ?_)
        · intro  h
          refine G_iload (pc := 111) X (dg dt_R_conjugate 61 rfl) rfl ?_
          refine G_goto (pc := 113) 133 X (dg dt_R_conjugate 62 rfl) (by decide) ?_
          exact G_wk (hj133_14 v5 h) ⟨rfl, ⟨rfl, ⟨rfl, ⟨rfl, ⟨rfl, ⟨rfl, ⟨rfl, ⟨rfl, trivial⟩⟩⟩⟩⟩⟩⟩⟩
        refine G_if_eq (pc := 103) 111 X (dg dt_R_conjugate 57 rfl) (by decide) h (fun h => ?_) (fun h => ?_)
        · exact G_wk (hj111_21  h) ⟨rfl, ⟨rfl, ⟨rfl, ⟨rfl, ⟨rfl, ⟨rfl, ⟨rfl, ⟨rfl, trivial⟩⟩⟩⟩⟩⟩⟩⟩
        · refine G_iload_n (pc := 106) 2 X (dg dt_R_conjugate 58 rfl) rfl rfl ?_
          refine G_iconst (pc := 107) 2 X (dg dt_R_conjugate 59 rfl) (by decide) ?_
          refine G_icmp_ne (pc := 108) 116 X (dg dt_R_conjugate 60 rfl) (by decide) h (fun h => ?_) (fun h => ?_)
          · refine G_iload_n (pc := 116) 2 X (dg dt_R_conjugate 63 rfl) rfl rfl ?_
            refine G_iconst (pc := 117) 1 X (dg dt_R_conjugate 64 rfl) (by decide) ?_
            refine jn_go (fun j126_22 => j126_22 = some (rv, σe) → G θ (0, 0) (g_SH, ad) σ 126 [some (.ref (ad 82)), some (.int v1), some (.int v2), some (.int v3), some (.int v4), some (.int v5), some (.int v6), some (.int r_11), none, none] []) h ?_ (fun j126_22 hj126_22 h => ?_)
            · intro  h
              refine G_iload (pc := 126) X (dg dt_R_conjugate 69 rfl) rfl ?_
              refine G_goto (pc := 128) 133 X (dg dt_R_conjugate 70 rfl) (by decide) ?_
              exact G_wk (hj133_14 v6 h) ⟨rfl, ⟨rfl, ⟨rfl, ⟨rfl, ⟨rfl, ⟨rfl, ⟨rfl, ⟨rfl, trivial⟩⟩⟩⟩⟩⟩⟩⟩
            refine G_icmp_eq (pc := 118) 126 X (dg dt_R_conjugate 65 rfl) (by decide) h (fun h => ?_) (fun h => ?_)
            · exact G_wk (hj126_22  h) ⟨rfl, ⟨rfl, ⟨rfl, ⟨rfl, ⟨rfl, ⟨rfl, ⟨rfl, ⟨rfl, trivial⟩⟩⟩⟩⟩⟩⟩⟩
            · refine G_iload_n (pc := 121) 2 X (dg dt_R_conjugate 66 rfl) rfl rfl ?_
              refine G_iconst (pc := 122) 4 X (dg dt_R_conjugate 67 rfl) (by decide) ?_
              refine G_icmp_ne (pc := 123) 131 X (dg dt_R_conjugate 68 rfl) (by decide) h (fun h => ?_) (fun h => ?_)
              · refine G_iload (pc := 131) X (dg dt_R_conjugate 71 rfl) rfl ?_
                exact G_wk (hj133_14 r_11 h) ⟨rfl, ⟨rfl, ⟨rfl, ⟨rfl, ⟨rfl, ⟨rfl, ⟨rfl, ⟨rfl, trivial⟩⟩⟩⟩⟩⟩⟩⟩
              · exact G_wk (hj126_22  h) ⟨rfl, ⟨rfl, ⟨rfl, ⟨rfl, ⟨rfl, ⟨rfl, ⟨rfl, ⟨rfl, trivial⟩⟩⟩⟩⟩⟩⟩⟩
          · exact G_wk (hj111_21  h) ⟨rfl, ⟨rfl, ⟨rfl, ⟨rfl, ⟨rfl, ⟨rfl, ⟨rfl, ⟨rfl, trivial⟩⟩⟩⟩⟩⟩⟩⟩
set_option maxRecDepth 100000 in
set_option maxHeartbeats 4000000 in
theorem s_R_conjugate_L70 {θ : Th} {ad : Nat → Nat}  {rv : Int32} {σe : St} (X : Cx θ [] cX12_conjugate 10 "QuasigroveModel" 2 44)
    {v1 : Int32} {v2 : Int32} {v3 : Int32} {v4 : Int32} (hq : Rq θ (g_SH, ad) (some .int) (some (.int rv)) σe) {kx212 : St → Option (Int32 × St)} (hkx212 : ∀ (σ : St), kx212 σ = some (rv, σe) → G θ (0, 0) (g_SH, ad) σ 212 [none, none, none, none, some (.int v4), none, none, none, none, none] []) :
    ∀ (n : Nat) (v5 : Int32) (σ : St), f_R_conjugate_L70 v1 v2 v3 v4 kx212 n v5 σ = some (rv, σe) → G θ (0, 0) (g_SH, ad) σ 70 [some (.ref (ad 82)), some (.int v1), some (.int v2), some (.int v3), some (.int v4), some (.int v5), none, none, none, none] [] := by
  intro n
  induction n with
  | zero => intro v5 σ h; rw [f_R_conjugate_L70] at h; cases h
  | succ n ih =>
    intro v5 σ h
    rw [f_R_conjugate_L70] at h
    refine G_iload (pc := 70) X (dg dt_R_conjugate 39 rfl) rfl ?_
    refine G_iload_n (pc := 72) 3 X (dg dt_R_conjugate 40 rfl) rfl rfl ?_
    refine G_icmp_ge (pc := 73) 212 X (dg dt_R_conjugate 41 rfl) (by decide) h (fun h => ?_) (fun h => ?_)
    · exact G_wk (hkx212 σ h) ⟨rfl, trivial⟩
    · refine G_iconst (pc := 76) 0 X (dg dt_R_conjugate 42 rfl) (by decide) ?_
      refine G_istore (pc := 77) X (dg dt_R_conjugate 43 rfl) (Nat.le_of_ble_eq_true rfl) rfl ?_
      refine G_weak (L' := [some (.ref (ad 82)), some (.int v1), some (.int v2), some (.int v3), some (.int v4), some (.int v5), some (.int 0), none, none, none]) ⟨rfl, ⟨rfl, ⟨rfl, ⟨rfl, ⟨rfl, ⟨rfl, ⟨rfl, trivial⟩⟩⟩⟩⟩⟩⟩ ?_
      refine s_R_conjugate_L79  X hq  (fun σ_23 h => ?_) _ _ _ h
      refine G_iinc (pc := 206) (v5 + 1) X (dg dt_R_conjugate 113 rfl) rfl (Nat.le_of_ble_eq_true rfl) rfl rfl ?_
      refine G_goto (pc := 209) 70 X (dg dt_R_conjugate 114 rfl) (by decide) ?_
      exact G_wk (ih (v5 + 1) σ_23 h) ⟨rfl, ⟨rfl, ⟨rfl, ⟨rfl, ⟨rfl, ⟨rfl, trivial⟩⟩⟩⟩⟩⟩
set_option maxRecDepth 100000 in
set_option maxHeartbeats 4000000 in
theorem s_R_conjugate (l : Launch) (ad : Nat → Nat) (σ : St) (v1 : Int32) (v2 : Int32)  {rv : Int32} {σe : St} (h : f_R_conjugate σ v1 v2 = some (rv, σe)) : Rt l [] yX12_conjugate cX12_conjugate 10 (some .int) 2 44 (g_SH, ad) [.ref (ad 82), .int v1, .int v2] σ (some (.int rv)) σe := by
  refine Rt.intro (L := [some (.ref (ad 82)), some (.int v1), some (.int v2), none, none, none, none, none, none, none]) (by decide +kernel) (Nat.le_of_ble_eq_true rfl) rfl (fun θ hl X hq => ?_)
  subst hl
  unfold f_R_conjugate at h
  refine G_aload_n (pc := 0) 0 X (dg dt_R_conjugate 0 rfl) rfl rfl ?_
  refine G_aload_n (pc := 1) 0 X (dg dt_R_conjugate 1 rfl) rfl rfl ?_
  refine G_iload_n (pc := 2) 1 X (dg dt_R_conjugate 2 rfl) rfl rfl ?_
  obtain ⟨r_2, hc_1, h⟩ := cap_go h
  refine G_callV (pc := 3) (S := [.ref (ad 82)]) [.int v1] nosub X  (dg dt_R_conjugate 3 rfl) cb_R_isGrid cv_R_isGrid w_1183 (s_R_isGrid _ ad _ _ hc_1) rfl ⟨Nat.le_of_ble_eq_true rfl, Nat.le_of_ble_eq_true rfl⟩ sh_82 rfl (Nat.le_of_ble_eq_true rfl) Rc0 ?_
  refine jn_go (fun j41_3 => ∀ (s_4 : Int32), j41_3 s_4 = some (rv, σe) → G θ (0, 0) (g_SH, ad) σ 41 [some (.ref (ad 82)), some (.int v1), some (.int v2), none, none, none, none, none, none, none] [.int s_4, .ref (ad 82)]) h ?_ (fun j41_3 hj41_3 h => ?_)
  · intro s_4 h
    refine G_put (pc := 41) 0 X (dg dt_R_conjugate 22 rfl) fc_8 w_1063 rfl (Nat.le_of_ble_eq_true rfl) rfl rfl sh_82 rfl h (fun σ_5 h => ?_)
    refine G_aload_n (pc := 44) 0 X (dg dt_R_conjugate 23 rfl) rfl rfl ?_
    refine G_getI (pc := 45) 0 X (dg dt_R_conjugate 24 rfl) fc_8 w_1063 rfl (Nat.le_of_ble_eq_true rfl) sh_82 rfl ?_
    refine G_if_le (pc := 48) 53 X (dg dt_R_conjugate 25 rfl) (by decide) h (fun h => ?_) (fun h => ?_)
    · refine G_aload_n (pc := 53) 0 X (dg dt_R_conjugate 28 rfl) rfl rfl ?_
      refine G_getR (pc := 54) 2 X (dg dt_R_conjugate 29 rfl) fc_8 w_1065 rfl (Nat.le_of_ble_eq_true rfl) sh_82 rfl ?_
      refine G_iload_n (pc := 57) 1 X (dg dt_R_conjugate 30 rfl) rfl rfl ?_
      refine G_iald (pc := 58) X (dg dt_R_conjugate 31 rfl) sh_83 h (fun r_6 h => ?_)
      refine G_istore_n (pc := 59) 3 X (dg dt_R_conjugate 32 rfl) rfl (Nat.le_of_ble_eq_true rfl) rfl ?_
      refine G_aload_n (pc := 60) 0 X (dg dt_R_conjugate 33 rfl) rfl rfl ?_
      refine G_iload_n (pc := 61) 3 X (dg dt_R_conjugate 34 rfl) rfl rfl ?_
      obtain ⟨r_8, σ_9, hc_7, h⟩ := cal_go h
      refine G_callV (pc := 62) (S := []) [.int r_6] nosub X  (dg dt_R_conjugate 35 rfl) cb_R_make cv_R_make w_1163 (s_R_make _ ad _ _ hc_7) rfl ⟨Nat.le_of_ble_eq_true rfl, Nat.le_of_ble_eq_true rfl⟩ sh_82 rfl (Nat.le_of_ble_eq_true rfl) Rc0 ?_
      refine G_istore (pc := 65) X (dg dt_R_conjugate 36 rfl) (Nat.le_of_ble_eq_true rfl) rfl ?_
      refine G_iconst (pc := 67) 0 X (dg dt_R_conjugate 37 rfl) (by decide) ?_
      refine G_istore (pc := 68) X (dg dt_R_conjugate 38 rfl) (Nat.le_of_ble_eq_true rfl) rfl ?_
      refine G_weak (L' := [some (.ref (ad 82)), some (.int v1), some (.int v2), some (.int r_6), some (.int r_8), some (.int 0), none, none, none, none]) ⟨rfl, ⟨rfl, ⟨rfl, ⟨rfl, ⟨rfl, ⟨rfl, trivial⟩⟩⟩⟩⟩⟩ ?_
      refine s_R_conjugate_L70  X hq  (fun σ_24 h => ?_) _ _ _ h
      refine G_iload (pc := 212) X (dg dt_R_conjugate 115 rfl) rfl ?_
      exact G_iret (pc := 214) X hq (dg dt_R_conjugate 116 rfl) h
    · refine G_iconst (pc := 51) 0 X (dg dt_R_conjugate 26 rfl) (by decide) ?_
      exact G_iret (pc := 52) X hq (dg dt_R_conjugate 27 rfl) h
  refine G_if_ne (pc := 6) 13 X (dg dt_R_conjugate 4 rfl) (by decide) h (fun h => ?_) (fun h => ?_)
  · refine G_aload_n (pc := 13) 0 X (dg dt_R_conjugate 7 rfl) rfl rfl ?_
    refine G_iload_n (pc := 14) 2 X (dg dt_R_conjugate 8 rfl) rfl rfl ?_
    refine G_iconst (pc := 15) 0 X (dg dt_R_conjugate 9 rfl) (by decide) ?_
    refine G_iconst (pc := 16) 5 X (dg dt_R_conjugate 10 rfl) (by decide) ?_
    obtain ⟨r_26, hc_25, h⟩ := cap_go h
    refine G_callV (pc := 17) (S := [.ref (ad 82)]) [.int v2, .int 0, .int 5] nosub X  (dg dt_R_conjugate 11 rfl) cb_R_between cv_R_between w_1159 (s_R_between _ ad _ _ _ _ hc_25) rfl ⟨Nat.le_of_ble_eq_true rfl, Nat.le_of_ble_eq_true rfl⟩ sh_82 rfl (Nat.le_of_ble_eq_true rfl) Rc0 ?_
    refine G_if_ne (pc := 20) 27 X (dg dt_R_conjugate 12 rfl) (by decide) h (fun h => ?_) (fun h => ?_)
    · refine G_aload_n (pc := 27) 0 X (dg dt_R_conjugate 15 rfl) rfl rfl ?_
      refine G_getI (pc := 28) 1 X (dg dt_R_conjugate 16 rfl) fc_8 w_1064 rfl (Nat.le_of_ble_eq_true rfl) sh_82 rfl ?_
      refine G_bipush (pc := 31) 12 X (dg dt_R_conjugate 17 rfl) (by decide) ?_
      refine G_icmp_ne (pc := 33) 40 X (dg dt_R_conjugate 18 rfl) (by decide) h (fun h => ?_) (fun h => ?_)
      · refine G_iconst (pc := 40) 0 X (dg dt_R_conjugate 21 rfl) (by decide) ?_
        exact G_wk (hj41_3 0 h) ⟨rfl, ⟨rfl, ⟨rfl, trivial⟩⟩⟩
      · refine G_iconst (pc := 36) 3 X (dg dt_R_conjugate 19 rfl) (by decide) ?_
        refine G_goto (pc := 37) 41 X (dg dt_R_conjugate 20 rfl) (by decide) ?_
        exact G_wk (hj41_3 3 h) ⟨rfl, ⟨rfl, ⟨rfl, trivial⟩⟩⟩
    · refine G_iconst (pc := 23) 2 X (dg dt_R_conjugate 13 rfl) (by decide) ?_
      refine G_goto (pc := 24) 41 X (dg dt_R_conjugate 14 rfl) (by decide) ?_
      exact G_wk (hj41_3 2 h) ⟨rfl, ⟨rfl, ⟨rfl, trivial⟩⟩⟩
  · refine G_iconst (pc := 9) 1 X (dg dt_R_conjugate 5 rfl) (by decide) ?_
    refine G_goto (pc := 10) 41 X (dg dt_R_conjugate 6 rfl) (by decide) ?_
    exact G_wk (hj41_3 1 h) ⟨rfl, ⟨rfl, ⟨rfl, trivial⟩⟩⟩
set_option maxRecDepth 100000 in
set_option maxHeartbeats 4000000 in
theorem s_R_isMap_L9 {θ : Th} {ad : Nat → Nat}  {rv : Int32} {σe : St} (X : Cx θ [] cX12_isMap 8 "QuasigroveModel" 1 23)
    {v1 : Int32} {v2 : Int32} {v3 : Int32} (hq : Rq θ (g_SH, ad) (some .boolean) (some (.int rv)) σe) {kx74 : Int32 → Int32 → St → Option (Int32 × St)} (hkx74 : ∀ (v4 : Int32) (v5 : Int32) (σ : St), kx74 v4 v5 σ = some (rv, σe) → G θ (0, 0) (g_SH, ad) σ 74 [none, some (.int v1), some (.int v2), none, some (.int v4), some (.int v5), none, none] []) :
    ∀ (n : Nat) (v4 : Int32) (v5 : Int32) (v6 : Int32) (σ : St), f_R_isMap_L9 v1 v2 v3 kx74 n v4 v5 v6 σ = some (rv, σe) → G θ (0, 0) (g_SH, ad) σ 9 [some (.ref (ad 82)), some (.int v1), some (.int v2), some (.int v3), some (.int v4), some (.int v5), some (.int v6), none] [] := by
  intro n
  induction n with
  | zero => intro v4 v5 v6 σ h; rw [f_R_isMap_L9] at h; cases h
  | succ n ih =>
    intro v4 v5 v6 σ h
    rw [f_R_isMap_L9] at h
    refine G_iload (pc := 9) X (dg dt_R_isMap 6 rfl) rfl ?_
    refine G_iload_n (pc := 11) 2 X (dg dt_R_isMap 7 rfl) rfl rfl ?_
    refine G_icmp_ge (pc := 12) 74 X (dg dt_R_isMap 8 rfl) (by decide) h (fun h => ?_) (fun h => ?_)
    · exact G_wk (hkx74 v4 v5 σ h) ⟨rfl, ⟨rfl, ⟨rfl, ⟨rfl, trivial⟩⟩⟩⟩
    · refine G_iload (pc := 15) X (dg dt_R_isMap 9 rfl) rfl ?_
      refine G_bipush (pc := 17) 10 X (dg dt_R_isMap 10 rfl) (by decide) ?_
      refine G_irem (pc := 19) X (dg dt_R_isMap 11 rfl) h (fun q_1 h => ?_)
      refine G_istore (pc := 20) X (dg dt_R_isMap 12 rfl) (Nat.le_of_ble_eq_true rfl) rfl ?_
      refine G_iload (pc := 22) X (dg dt_R_isMap 13 rfl) rfl ?_
      refine G_bipush (pc := 24) 10 X (dg dt_R_isMap 14 rfl) (by decide) ?_
      refine G_idiv (pc := 26) X (dg dt_R_isMap 15 rfl) h (fun q_2 h => ?_)
      refine G_istore (pc := 27) X (dg dt_R_isMap 16 rfl) (Nat.le_of_ble_eq_true rfl) rfl ?_
      refine G_aload_n (pc := 29) 0 X (dg dt_R_isMap 17 rfl) rfl rfl ?_
      refine G_getR (pc := 30) 8 X (dg dt_R_isMap 18 rfl) fc_8 w_1071 rfl (Nat.le_of_ble_eq_true rfl) sh_82 rfl ?_
      refine G_iconst (pc := 33) 5 X (dg dt_R_isMap 19 rfl) (by decide) ?_
      refine G_iload_n (pc := 34) 3 X (dg dt_R_isMap 20 rfl) rfl rfl ?_
      refine G_imul (pc := 35) X (dg dt_R_isMap 21 rfl) ?_
      refine G_iload (pc := 36) X (dg dt_R_isMap 22 rfl) rfl ?_
      refine G_iadd (pc := 38) X (dg dt_R_isMap 23 rfl) ?_
      refine G_iload (pc := 39) X (dg dt_R_isMap 24 rfl) rfl ?_
      refine G_iast (pc := 41) X (dg dt_R_isMap 25 rfl) sh_88 h (fun σ_3 h => ?_)
      refine G_iload (pc := 42) X (dg dt_R_isMap 26 rfl) rfl ?_
      refine G_aload_n (pc := 44) 0 X (dg dt_R_isMap 27 rfl) rfl rfl ?_
      refine G_iload (pc := 45) X (dg dt_R_isMap 28 rfl) rfl ?_
      refine G_iconst (pc := 47) 0 X (dg dt_R_isMap 29 rfl) (by decide) ?_
      refine G_iload_n (pc := 48) 2 X (dg dt_R_isMap 30 rfl) rfl rfl ?_
      refine G_iconst (pc := 49) 1 X (dg dt_R_isMap 31 rfl) (by decide) ?_
      refine G_isub (pc := 50) X (dg dt_R_isMap 32 rfl) ?_
      obtain ⟨r_5, hc_4, h⟩ := cap_go h
      refine G_callV (pc := 51) (S := [.int v5]) [.int q_1, .int 0, .int (v2 - 1)] nosub X  (dg dt_R_isMap 33 rfl) cb_R_between cv_R_between w_1159 (s_R_between _ ad _ _ _ _ hc_4) rfl ⟨Nat.le_of_ble_eq_true rfl, Nat.le_of_ble_eq_true rfl⟩ sh_82 rfl (Nat.le_of_ble_eq_true rfl) Rc0 ?_
      refine jn_go (fun j65_6 => ∀ (s_7 : Int32), j65_6 s_7 = some (rv, σe) → G θ (0, 0) (g_SH, ad) σ_3 65 [some (.ref (ad 82)), some (.int v1), some (.int v2), some (.int v3), some (.int q_2), none, some (.int v6), none] [.int s_7, .int v5]) h ?_ (fun j65_6 hj65_6 h => ?_)
      · intro s_7 h
        refine G_ior (pc := 65) X (dg dt_R_isMap 40 rfl) ?_
        refine G_istore (pc := 66) X (dg dt_R_isMap 41 rfl) (Nat.le_of_ble_eq_true rfl) rfl ?_
        refine G_iinc (pc := 68) (v6 + 1) X (dg dt_R_isMap 42 rfl) rfl (Nat.le_of_ble_eq_true rfl) rfl rfl ?_
        refine G_goto (pc := 71) 9 X (dg dt_R_isMap 43 rfl) (by decide) ?_
        exact G_wk (ih q_2 (v5 ||| s_7) (v6 + 1) σ_3 h) ⟨rfl, ⟨rfl, ⟨rfl, ⟨rfl, ⟨rfl, ⟨rfl, ⟨rfl, trivial⟩⟩⟩⟩⟩⟩⟩
      refine G_if_eq (pc := 54) 64 X (dg dt_R_isMap 34 rfl) (by decide) h (fun h => ?_) (fun h => ?_)
      · refine G_iconst (pc := 64) 0 X (dg dt_R_isMap 39 rfl) (by decide) ?_
        exact G_wk (hj65_6 0 h) ⟨rfl, ⟨rfl, ⟨rfl, ⟨rfl, ⟨rfl, ⟨rfl, trivial⟩⟩⟩⟩⟩⟩
      · refine G_iconst (pc := 57) 1 X (dg dt_R_isMap 35 rfl) (by decide) ?_
        refine G_iload (pc := 58) X (dg dt_R_isMap 36 rfl) rfl ?_
        refine G_ishl (pc := 60) X (dg dt_R_isMap 37 rfl) ?_
        refine G_goto (pc := 61) 65 X (dg dt_R_isMap 38 rfl) (by decide) ?_
        exact G_wk (hj65_6 (1 <<< (q_1 &&& 31)) h) ⟨rfl, ⟨rfl, ⟨rfl, ⟨rfl, ⟨rfl, ⟨rfl, trivial⟩⟩⟩⟩⟩⟩
set_option maxRecDepth 100000 in
set_option maxHeartbeats 4000000 in
theorem s_R_isMap (l : Launch) (ad : Nat → Nat) (σ : St) (v1 : Int32) (v2 : Int32) (v3 : Int32)  {rv : Int32} {σe : St} (h : f_R_isMap σ v1 v2 v3 = some (rv, σe)) : Rt l [] yX12_isMap cX12_isMap 8 (some .boolean) 1 23 (g_SH, ad) [.ref (ad 82), .int v1, .int v2, .int v3] σ (some (.int rv)) σe := by
  refine Rt.intro (L := [some (.ref (ad 82)), some (.int v1), some (.int v2), some (.int v3), none, none, none, none]) (by decide +kernel) (Nat.le_of_ble_eq_true rfl) rfl (fun θ hl X hq => ?_)
  subst hl
  unfold f_R_isMap at h
  refine G_iload_n (pc := 0) 1 X (dg dt_R_isMap 0 rfl) rfl rfl ?_
  refine G_istore (pc := 1) X (dg dt_R_isMap 1 rfl) (Nat.le_of_ble_eq_true rfl) rfl ?_
  refine G_iconst (pc := 3) 0 X (dg dt_R_isMap 2 rfl) (by decide) ?_
  refine G_istore (pc := 4) X (dg dt_R_isMap 3 rfl) (Nat.le_of_ble_eq_true rfl) rfl ?_
  refine G_iconst (pc := 6) 0 X (dg dt_R_isMap 4 rfl) (by decide) ?_
  refine G_istore (pc := 7) X (dg dt_R_isMap 5 rfl) (Nat.le_of_ble_eq_true rfl) rfl ?_
  refine G_weak (L' := [some (.ref (ad 82)), some (.int v1), some (.int v2), some (.int v3), some (.int v1), some (.int 0), some (.int 0), none]) ⟨rfl, ⟨rfl, ⟨rfl, ⟨rfl, ⟨rfl, ⟨rfl, ⟨rfl, trivial⟩⟩⟩⟩⟩⟩⟩ ?_
  refine s_R_isMap_L9  X hq  (fun v4_8 v5_9 σ_10 h => ?_) _ _ _ _ _ h
  refine G_iload_n (pc := 74) 1 X (dg dt_R_isMap 44 rfl) rfl rfl ?_
  refine jn_go (fun j97_11 => j97_11 = some (rv, σe) → G θ (0, 0) (g_SH, ad) σ_10 97 [none, none, none, none, none, none, none, none] []) h ?_ (fun j97_11 hj97_11 h => ?_)
  · intro  h
    refine G_iconst (pc := 97) 0 X (dg dt_R_isMap 57 rfl) (by decide) ?_
    exact G_zretl (pc := 98) X hq (dg dt_R_isMap 58 rfl) rfl h
  refine G_if_lt (pc := 75) 97 X (dg dt_R_isMap 45 rfl) (by decide) h (fun h => ?_) (fun h => ?_)
  · exact G_wk (hj97_11  h) trivial
  · refine G_iload (pc := 78) X (dg dt_R_isMap 46 rfl) rfl ?_
    refine G_if_ne (pc := 80) 97 X (dg dt_R_isMap 47 rfl) (by decide) h (fun h => ?_) (fun h => ?_)
    · exact G_wk (hj97_11  h) trivial
    · refine G_iload (pc := 83) X (dg dt_R_isMap 48 rfl) rfl ?_
      refine G_iconst (pc := 85) 1 X (dg dt_R_isMap 49 rfl) (by decide) ?_
      refine G_iload_n (pc := 86) 2 X (dg dt_R_isMap 50 rfl) rfl rfl ?_
      refine G_ishl (pc := 87) X (dg dt_R_isMap 51 rfl) ?_
      refine G_iconst (pc := 88) 1 X (dg dt_R_isMap 52 rfl) (by decide) ?_
      refine G_isub (pc := 89) X (dg dt_R_isMap 53 rfl) ?_
      refine G_icmp_ne (pc := 90) 97 X (dg dt_R_isMap 54 rfl) (by decide) h (fun h => ?_) (fun h => ?_)
      · exact G_wk (hj97_11  h) trivial
      · refine G_iconst (pc := 93) 1 X (dg dt_R_isMap 55 rfl) (by decide) ?_
        refine G_goto (pc := 94) 98 X (dg dt_R_isMap 56 rfl) (by decide) ?_
        exact G_zretl (pc := 98) X hq (dg dt_R_isMap 58 rfl) rfl h
set_option maxRecDepth 100000 in
set_option maxHeartbeats 4000000 in
theorem s_R_isotope_L154 {θ : Th} {ad : Nat → Nat}  {rv : Int32} {σe : St} (X : Cx θ [] cX12_isotope 10 "QuasigroveModel" 2 50)
    {v1 : Int32} {v5 : Int32} {v6 : Int32} {v7 : Int32} (hq : Rq θ (g_SH, ad) (some .int) (some (.int rv)) σe) {kx229 : St → Option (Int32 × St)} (hkx229 : ∀ (σ : St), kx229 σ = some (rv, σe) → G θ (0, 0) (g_SH, ad) σ 229 [some (.ref (ad 82)), some (.int v1), none, none, none, some (.int v5), some (.int v6), some (.int v7), none, none] []) :
    ∀ (n : Nat) (v8 : Int32) (σ : St), f_R_isotope_L154 v1 v5 v6 v7 kx229 n v8 σ = some (rv, σe) → G θ (0, 0) (g_SH, ad) σ 154 [some (.ref (ad 82)), some (.int v1), none, none, none, some (.int v5), some (.int v6), some (.int v7), some (.int v8), none] [] := by
  intro n
  induction n with
  | zero => intro v8 σ h; rw [f_R_isotope_L154] at h; cases h
  | succ n ih =>
    intro v8 σ h
    rw [f_R_isotope_L154] at h
    refine G_iload (pc := 154) X (dg dt_R_isotope 81 rfl) rfl ?_
    refine G_iload (pc := 156) X (dg dt_R_isotope 82 rfl) rfl ?_
    refine G_icmp_ge (pc := 158) 229 X (dg dt_R_isotope 83 rfl) (by decide) h (fun h => ?_) (fun h => ?_)
    · exact G_wk (hkx229 σ h) ⟨rfl, ⟨rfl, ⟨rfl, ⟨rfl, ⟨rfl, trivial⟩⟩⟩⟩⟩
    · refine G_aload_n (pc := 161) 0 X (dg dt_R_isotope 84 rfl) rfl rfl ?_
      refine G_iload_n (pc := 162) 1 X (dg dt_R_isotope 85 rfl) rfl rfl ?_
      refine G_iload (pc := 163) X (dg dt_R_isotope 86 rfl) rfl ?_
      refine G_iload (pc := 165) X (dg dt_R_isotope 87 rfl) rfl ?_
      obtain ⟨r_13, hc_12, h⟩ := cap_go h
      refine G_callV (pc := 167) (S := []) [.int v1, .int v7, .int v8] nosub X  (dg dt_R_isotope 88 rfl) cb_R_at cv_R_at w_1191 (s_R_at _ ad _ _ _ _ hc_12) rfl ⟨Nat.le_of_ble_eq_true rfl, Nat.le_of_ble_eq_true rfl⟩ sh_82 rfl (Nat.le_of_ble_eq_true rfl) Rc0 ?_
      refine G_istore (pc := 170) X (dg dt_R_isotope 89 rfl) (Nat.le_of_ble_eq_true rfl) rfl ?_
      refine G_aload_n (pc := 172) 0 X (dg dt_R_isotope 90 rfl) rfl rfl ?_
      refine G_getR (pc := 173) 3 X (dg dt_R_isotope 91 rfl) fc_8 w_1066 rfl (Nat.le_of_ble_eq_true rfl) sh_82 rfl ?_
      refine G_bipush (pc := 176) 25 X (dg dt_R_isotope 92 rfl) (by decide) ?_
      refine G_iload (pc := 178) X (dg dt_R_isotope 93 rfl) rfl ?_
      refine G_imul (pc := 180) X (dg dt_R_isotope 94 rfl) ?_
      refine G_iload (pc := 181) X (dg dt_R_isotope 95 rfl) rfl ?_
      refine G_aload_n (pc := 183) 0 X (dg dt_R_isotope 96 rfl) rfl rfl ?_
      refine G_getR (pc := 184) 8 X (dg dt_R_isotope 97 rfl) fc_8 w_1071 rfl (Nat.le_of_ble_eq_true rfl) sh_82 rfl ?_
      refine G_iload (pc := 187) X (dg dt_R_isotope 98 rfl) rfl ?_
      refine G_iald (pc := 189) X (dg dt_R_isotope 99 rfl) sh_88 h (fun r_14 h => ?_)
      refine G_imul (pc := 190) X (dg dt_R_isotope 100 rfl) ?_
      refine G_iadd (pc := 191) X (dg dt_R_isotope 101 rfl) ?_
      refine G_aload_n (pc := 192) 0 X (dg dt_R_isotope 102 rfl) rfl rfl ?_
      refine G_getR (pc := 193) 8 X (dg dt_R_isotope 103 rfl) fc_8 w_1071 rfl (Nat.le_of_ble_eq_true rfl) sh_82 rfl ?_
      refine G_iconst (pc := 196) 5 X (dg dt_R_isotope 104 rfl) (by decide) ?_
      refine G_iload (pc := 197) X (dg dt_R_isotope 105 rfl) rfl ?_
      refine G_iadd (pc := 199) X (dg dt_R_isotope 106 rfl) ?_
      refine G_iald (pc := 200) X (dg dt_R_isotope 107 rfl) sh_88 h (fun r_15 h => ?_)
      refine G_iadd (pc := 201) X (dg dt_R_isotope 108 rfl) ?_
      refine G_iload (pc := 202) X (dg dt_R_isotope 109 rfl) rfl ?_
      refine G_iconst (pc := 204) (-1) X (dg dt_R_isotope 110 rfl) (by decide) ?_
      refine jn_go (fun j222_16 => ∀ (s_17 : Int32), j222_16 s_17 = some (rv, σe) → G θ (0, 0) (g_SH, ad) σ 222 [some (.ref (ad 82)), some (.int v1), none, none, none, some (.int v5), some (.int v6), some (.int v7), some (.int v8), none] [.int s_17, .int (((25 * v6) + (v5 * r_14)) + r_15), .ref (ad 84)]) h ?_ (fun j222_16 hj222_16 h => ?_)
      · intro s_17 h
        refine G_iast (pc := 222) X (dg dt_R_isotope 120 rfl) sh_84 h (fun σ_18 h => ?_)
        refine G_iinc (pc := 223) (v8 + 1) X (dg dt_R_isotope 121 rfl) rfl (Nat.le_of_ble_eq_true rfl) rfl rfl ?_
        refine G_goto (pc := 226) 154 X (dg dt_R_isotope 122 rfl) (by decide) ?_
        exact G_wk (ih (v8 + 1) σ_18 h) ⟨rfl, ⟨rfl, ⟨rfl, ⟨rfl, ⟨rfl, ⟨rfl, trivial⟩⟩⟩⟩⟩⟩
      refine G_icmp_ne (pc := 205) 212 X (dg dt_R_isotope 111 rfl) (by decide) h (fun h => ?_) (fun h => ?_)
      · refine G_aload_n (pc := 212) 0 X (dg dt_R_isotope 114 rfl) rfl rfl ?_
        refine G_getR (pc := 213) 8 X (dg dt_R_isotope 115 rfl) fc_8 w_1071 rfl (Nat.le_of_ble_eq_true rfl) sh_82 rfl ?_
        refine G_bipush (pc := 216) 10 X (dg dt_R_isotope 116 rfl) (by decide) ?_
        refine G_iload (pc := 218) X (dg dt_R_isotope 117 rfl) rfl ?_
        refine G_iadd (pc := 220) X (dg dt_R_isotope 118 rfl) ?_
        refine G_iald (pc := 221) X (dg dt_R_isotope 119 rfl) sh_88 h (fun r_19 h => ?_)
        exact G_wk (hj222_16 r_19 h) ⟨rfl, ⟨rfl, ⟨rfl, ⟨rfl, ⟨rfl, ⟨rfl, trivial⟩⟩⟩⟩⟩⟩
      · refine G_iconst (pc := 208) (-1) X (dg dt_R_isotope 112 rfl) (by decide) ?_
        refine G_goto (pc := 209) 222 X (dg dt_R_isotope 113 rfl) (by decide) ?_
        exact G_wk (hj222_16 (-1) h) ⟨rfl, ⟨rfl, ⟨rfl, ⟨rfl, ⟨rfl, ⟨rfl, trivial⟩⟩⟩⟩⟩⟩
set_option maxRecDepth 100000 in
set_option maxHeartbeats 4000000 in
theorem s_R_isotope_L144 {θ : Th} {ad : Nat → Nat}  {rv : Int32} {σe : St} (X : Cx θ [] cX12_isotope 10 "QuasigroveModel" 2 50)
    {v1 : Int32} {v5 : Int32} {v6 : Int32} (hq : Rq θ (g_SH, ad) (some .int) (some (.int rv)) σe) {kx235 : St → Option (Int32 × St)} (hkx235 : ∀ (σ : St), kx235 σ = some (rv, σe) → G θ (0, 0) (g_SH, ad) σ 235 [none, none, none, none, none, none, some (.int v6), none, none, none] []) :
    ∀ (n : Nat) (v7 : Int32) (σ : St), f_R_isotope_L144 v1 v5 v6 kx235 n v7 σ = some (rv, σe) → G θ (0, 0) (g_SH, ad) σ 144 [some (.ref (ad 82)), some (.int v1), none, none, none, some (.int v5), some (.int v6), some (.int v7), none, none] [] := by
  intro n
  induction n with
  | zero => intro v7 σ h; rw [f_R_isotope_L144] at h; cases h
  | succ n ih =>
    intro v7 σ h
    rw [f_R_isotope_L144] at h
    refine G_iload (pc := 144) X (dg dt_R_isotope 76 rfl) rfl ?_
    refine G_iload (pc := 146) X (dg dt_R_isotope 77 rfl) rfl ?_
    refine G_icmp_ge (pc := 148) 235 X (dg dt_R_isotope 78 rfl) (by decide) h (fun h => ?_) (fun h => ?_)
    · exact G_wk (hkx235 σ h) ⟨rfl, trivial⟩
    · refine G_iconst (pc := 151) 0 X (dg dt_R_isotope 79 rfl) (by decide) ?_
      refine G_istore (pc := 152) X (dg dt_R_isotope 80 rfl) (Nat.le_of_ble_eq_true rfl) rfl ?_
      refine G_weak (L' := [some (.ref (ad 82)), some (.int v1), none, none, none, some (.int v5), some (.int v6), some (.int v7), some (.int 0), none]) ⟨rfl, ⟨rfl, ⟨rfl, ⟨rfl, ⟨rfl, ⟨rfl, trivial⟩⟩⟩⟩⟩⟩ ?_
      refine s_R_isotope_L154  X hq  (fun σ_20 h => ?_) _ _ _ h
      refine G_iinc (pc := 229) (v7 + 1) X (dg dt_R_isotope 123 rfl) rfl (Nat.le_of_ble_eq_true rfl) rfl rfl ?_
      refine G_goto (pc := 232) 144 X (dg dt_R_isotope 124 rfl) (by decide) ?_
      exact G_wk (ih (v7 + 1) σ_20 h) ⟨rfl, ⟨rfl, ⟨rfl, ⟨rfl, ⟨rfl, trivial⟩⟩⟩⟩⟩
set_option maxRecDepth 100000 in
set_option maxHeartbeats 4000000 in
theorem s_R_isotope (l : Launch) (ad : Nat → Nat) (σ : St) (v1 : Int32) (v2 : Int32) (v3 : Int32) (v4 : Int32)  {rv : Int32} {σe : St} (h : f_R_isotope σ v1 v2 v3 v4 = some (rv, σe)) : Rt l [] yX12_isotope cX12_isotope 10 (some .int) 2 50 (g_SH, ad) [.ref (ad 82), .int v1, .int v2, .int v3, .int v4] σ (some (.int rv)) σe := by
  refine Rt.intro (L := [some (.ref (ad 82)), some (.int v1), some (.int v2), some (.int v3), some (.int v4), none, none, none, none, none]) (by decide +kernel) (Nat.le_of_ble_eq_true rfl) rfl (fun θ hl X hq => ?_)
  subst hl
  unfold f_R_isotope at h
  refine G_aload_n (pc := 0) 0 X (dg dt_R_isotope 0 rfl) rfl rfl ?_
  refine G_aload_n (pc := 1) 0 X (dg dt_R_isotope 1 rfl) rfl rfl ?_
  refine G_iload_n (pc := 2) 1 X (dg dt_R_isotope 2 rfl) rfl rfl ?_
  obtain ⟨r_2, hc_1, h⟩ := cap_go h
  refine G_callV (pc := 3) (S := [.ref (ad 82)]) [.int v1] nosub X  (dg dt_R_isotope 3 rfl) cb_R_isGrid cv_R_isGrid w_1183 (s_R_isGrid _ ad _ _ hc_1) rfl ⟨Nat.le_of_ble_eq_true rfl, Nat.le_of_ble_eq_true rfl⟩ sh_82 rfl (Nat.le_of_ble_eq_true rfl) Rc0 ?_
  refine jn_go (fun j14_3 => ∀ (s_4 : Int32), j14_3 s_4 = some (rv, σe) → G θ (0, 0) (g_SH, ad) σ 14 [some (.ref (ad 82)), some (.int v1), some (.int v2), some (.int v3), some (.int v4), none, none, none, none, none] [.int s_4, .ref (ad 82)]) h ?_ (fun j14_3 hj14_3 h => ?_)
  · intro s_4 h
    refine G_put (pc := 14) 0 X (dg dt_R_isotope 8 rfl) fc_8 w_1063 rfl (Nat.le_of_ble_eq_true rfl) rfl rfl sh_82 rfl h (fun σ_5 h => ?_)
    refine G_aload_n (pc := 17) 0 X (dg dt_R_isotope 9 rfl) rfl rfl ?_
    refine G_getI (pc := 18) 0 X (dg dt_R_isotope 10 rfl) fc_8 w_1063 rfl (Nat.le_of_ble_eq_true rfl) sh_82 rfl ?_
    refine jn_go (fun j116_6 => ∀ (σ_7 : St), j116_6 σ_7 = some (rv, σe) → G θ (0, 0) (g_SH, ad) σ_7 116 [some (.ref (ad 82)), some (.int v1), none, none, none, none, none, none, none, none] []) h ?_ (fun j116_6 hj116_6 h => ?_)
    · intro σ_7 h
      refine G_aload_n (pc := 116) 0 X (dg dt_R_isotope 60 rfl) rfl rfl ?_
      refine G_getI (pc := 117) 0 X (dg dt_R_isotope 61 rfl) fc_8 w_1063 rfl (Nat.le_of_ble_eq_true rfl) sh_82 rfl ?_
      refine G_if_le (pc := 120) 125 X (dg dt_R_isotope 62 rfl) (by decide) h (fun h => ?_) (fun h => ?_)
      · refine G_aload_n (pc := 125) 0 X (dg dt_R_isotope 65 rfl) rfl rfl ?_
        refine G_getR (pc := 126) 2 X (dg dt_R_isotope 66 rfl) fc_8 w_1065 rfl (Nat.le_of_ble_eq_true rfl) sh_82 rfl ?_
        refine G_iload_n (pc := 129) 1 X (dg dt_R_isotope 67 rfl) rfl rfl ?_
        refine G_iald (pc := 130) X (dg dt_R_isotope 68 rfl) sh_83 h (fun r_8 h => ?_)
        refine G_istore (pc := 131) X (dg dt_R_isotope 69 rfl) (Nat.le_of_ble_eq_true rfl) rfl ?_
        refine G_aload_n (pc := 133) 0 X (dg dt_R_isotope 70 rfl) rfl rfl ?_
        refine G_iload (pc := 134) X (dg dt_R_isotope 71 rfl) rfl ?_
        obtain ⟨r_10, σ_11, hc_9, h⟩ := cal_go h
        refine G_callV (pc := 136) (S := []) [.int r_8] nosub X  (dg dt_R_isotope 72 rfl) cb_R_make cv_R_make w_1163 (s_R_make _ ad _ _ hc_9) rfl ⟨Nat.le_of_ble_eq_true rfl, Nat.le_of_ble_eq_true rfl⟩ sh_82 rfl (Nat.le_of_ble_eq_true rfl) Rc0 ?_
        refine G_istore (pc := 139) X (dg dt_R_isotope 73 rfl) (Nat.le_of_ble_eq_true rfl) rfl ?_
        refine G_iconst (pc := 141) 0 X (dg dt_R_isotope 74 rfl) (by decide) ?_
        refine G_istore (pc := 142) X (dg dt_R_isotope 75 rfl) (Nat.le_of_ble_eq_true rfl) rfl ?_
        refine G_weak (L' := [some (.ref (ad 82)), some (.int v1), none, none, none, some (.int r_8), some (.int r_10), some (.int 0), none, none]) ⟨rfl, ⟨rfl, ⟨rfl, ⟨rfl, ⟨rfl, trivial⟩⟩⟩⟩⟩ ?_
        refine s_R_isotope_L144  X hq  (fun σ_21 h => ?_) _ _ _ h
        refine G_iload (pc := 235) X (dg dt_R_isotope 125 rfl) rfl ?_
        exact G_iret (pc := 237) X hq (dg dt_R_isotope 126 rfl) h
      · refine G_iconst (pc := 123) 0 X (dg dt_R_isotope 63 rfl) (by decide) ?_
        exact G_iret (pc := 124) X hq (dg dt_R_isotope 64 rfl) h
    refine G_if_ne (pc := 21) 116 X (dg dt_R_isotope 11 rfl) (by decide) h (fun h => ?_) (fun h => ?_)
    · exact G_wk (hj116_6 σ_5 h) ⟨rfl, ⟨rfl, trivial⟩⟩
    · refine G_aload_n (pc := 24) 0 X (dg dt_R_isotope 12 rfl) rfl rfl ?_
      refine G_getR (pc := 25) 2 X (dg dt_R_isotope 13 rfl) fc_8 w_1065 rfl (Nat.le_of_ble_eq_true rfl) sh_82 rfl ?_
      refine G_iload_n (pc := 28) 1 X (dg dt_R_isotope 14 rfl) rfl rfl ?_
      refine G_iald (pc := 29) X (dg dt_R_isotope 15 rfl) sh_83 h (fun r_22 h => ?_)
      refine G_istore (pc := 30) X (dg dt_R_isotope 16 rfl) (Nat.le_of_ble_eq_true rfl) rfl ?_
      refine G_aload_n (pc := 32) 0 X (dg dt_R_isotope 17 rfl) rfl rfl ?_
      refine G_iload_n (pc := 33) 2 X (dg dt_R_isotope 18 rfl) rfl rfl ?_
      refine G_iload (pc := 34) X (dg dt_R_isotope 19 rfl) rfl ?_
      refine G_iconst (pc := 36) 0 X (dg dt_R_isotope 20 rfl) (by decide) ?_
      obtain ⟨r_24, σ_25, hc_23, h⟩ := cal_go h
      refine G_callV (pc := 37) (S := []) [.int v2, .int r_22, .int 0] nosub X  (dg dt_R_isotope 21 rfl) cb_R_isMap cv_R_isMap w_1199 (s_R_isMap _ ad _ _ _ _ hc_23) rfl ⟨Nat.le_of_ble_eq_true rfl, Nat.le_of_ble_eq_true rfl⟩ sh_82 rfl (Nat.le_of_ble_eq_true rfl) Rc0 ?_
      refine G_istore (pc := 40) X (dg dt_R_isotope 22 rfl) (Nat.le_of_ble_eq_true rfl) rfl ?_
      refine G_aload_n (pc := 42) 0 X (dg dt_R_isotope 23 rfl) rfl rfl ?_
      refine G_iload_n (pc := 43) 3 X (dg dt_R_isotope 24 rfl) rfl rfl ?_
      refine G_iload (pc := 44) X (dg dt_R_isotope 25 rfl) rfl ?_
      refine G_iconst (pc := 46) 1 X (dg dt_R_isotope 26 rfl) (by decide) ?_
      obtain ⟨r_27, σ_28, hc_26, h⟩ := cal_go h
      refine G_callV (pc := 47) (S := []) [.int v3, .int r_22, .int 1] nosub X  (dg dt_R_isotope 27 rfl) cb_R_isMap cv_R_isMap w_1199 (s_R_isMap _ ad _ _ _ _ hc_26) rfl ⟨Nat.le_of_ble_eq_true rfl, Nat.le_of_ble_eq_true rfl⟩ sh_82 rfl (Nat.le_of_ble_eq_true rfl) Rc0 ?_
      refine jn_go (fun j63_29 => ∀ (s_30 : Int32), j63_29 s_30 = some (rv, σe) → G θ (0, 0) (g_SH, ad) σ_28 63 [some (.ref (ad 82)), some (.int v1), none, none, some (.int v4), some (.int r_22), none, none, none, none] [.int s_30]) h ?_ (fun j63_29 hj63_29 h => ?_)
      · intro s_30 h
        refine G_istore (pc := 63) X (dg dt_R_isotope 34 rfl) (Nat.le_of_ble_eq_true rfl) rfl ?_
        refine G_aload_n (pc := 65) 0 X (dg dt_R_isotope 35 rfl) rfl rfl ?_
        refine G_iload (pc := 66) X (dg dt_R_isotope 36 rfl) rfl ?_
        refine G_iload (pc := 68) X (dg dt_R_isotope 37 rfl) rfl ?_
        refine G_iconst (pc := 70) 2 X (dg dt_R_isotope 38 rfl) (by decide) ?_
        obtain ⟨r_32, σ_33, hc_31, h⟩ := cal_go h
        refine G_callV (pc := 71) (S := []) [.int v4, .int r_22, .int 2] nosub X  (dg dt_R_isotope 39 rfl) cb_R_isMap cv_R_isMap w_1199 (s_R_isMap _ ad _ _ _ _ hc_31) rfl ⟨Nat.le_of_ble_eq_true rfl, Nat.le_of_ble_eq_true rfl⟩ sh_82 rfl (Nat.le_of_ble_eq_true rfl) Rc0 ?_
        refine jn_go (fun j87_34 => ∀ (s_35 : Int32), j87_34 s_35 = some (rv, σe) → G θ (0, 0) (g_SH, ad) σ_33 87 [some (.ref (ad 82)), some (.int v1), none, none, none, none, none, none, none, none] [.int s_35]) h ?_ (fun j87_34 hj87_34 h => ?_)
        · intro s_35 h
          refine G_istore (pc := 87) X (dg dt_R_isotope 46 rfl) (Nat.le_of_ble_eq_true rfl) rfl ?_
          refine G_aload_n (pc := 89) 0 X (dg dt_R_isotope 47 rfl) rfl rfl ?_
          refine G_iload (pc := 90) X (dg dt_R_isotope 48 rfl) rfl ?_
          refine jn_go (fun j113_36 => ∀ (s_37 : Int32), j113_36 s_37 = some (rv, σe) → G θ (0, 0) (g_SH, ad) σ_33 113 [some (.ref (ad 82)), some (.int v1), none, none, none, none, none, none, none, none] [.int s_37, .ref (ad 82)]) h ?_ (fun j113_36 hj113_36 h => ?_)
          · intro s_37 h
            refine G_put (pc := 113) 0 X (dg dt_R_isotope 59 rfl) fc_8 w_1063 rfl (Nat.le_of_ble_eq_true rfl) rfl rfl sh_82 rfl h (fun σ_38 h => ?_)
            exact G_wk (hj116_6 σ_38 h) ⟨rfl, ⟨rfl, trivial⟩⟩
          refine G_if_ne (pc := 92) 99 X (dg dt_R_isotope 49 rfl) (by decide) h (fun h => ?_) (fun h => ?_)
          · refine G_aload_n (pc := 99) 0 X (dg dt_R_isotope 52 rfl) rfl rfl ?_
            refine G_getI (pc := 100) 1 X (dg dt_R_isotope 53 rfl) fc_8 w_1064 rfl (Nat.le_of_ble_eq_true rfl) sh_82 rfl ?_
            refine G_bipush (pc := 103) 12 X (dg dt_R_isotope 54 rfl) (by decide) ?_
            refine G_icmp_ne (pc := 105) 112 X (dg dt_R_isotope 55 rfl) (by decide) h (fun h => ?_) (fun h => ?_)
            · refine G_iconst (pc := 112) 0 X (dg dt_R_isotope 58 rfl) (by decide) ?_
              exact G_wk (hj113_36 0 h) ⟨rfl, ⟨rfl, trivial⟩⟩
            · refine G_iconst (pc := 108) 3 X (dg dt_R_isotope 56 rfl) (by decide) ?_
              refine G_goto (pc := 109) 113 X (dg dt_R_isotope 57 rfl) (by decide) ?_
              exact G_wk (hj113_36 3 h) ⟨rfl, ⟨rfl, trivial⟩⟩
          · refine G_iconst (pc := 95) 2 X (dg dt_R_isotope 50 rfl) (by decide) ?_
            refine G_goto (pc := 96) 113 X (dg dt_R_isotope 51 rfl) (by decide) ?_
            exact G_wk (hj113_36 2 h) ⟨rfl, ⟨rfl, trivial⟩⟩
        refine jn_go (fun j86_39 => j86_39 = some (rv, σe) → G θ (0, 0) (g_SH, ad) σ_33 86 [some (.ref (ad 82)), some (.int v1), none, none, none, none, none, none, none, none] []) h ?_ (fun j86_39 hj86_39 h => ?_)
        · intro  h
          refine G_iconst (pc := 86) 0 X (dg dt_R_isotope 45 rfl) (by decide) ?_
          exact G_wk (hj87_34 0 h) ⟨rfl, ⟨rfl, trivial⟩⟩
        refine G_if_eq (pc := 74) 86 X (dg dt_R_isotope 40 rfl) (by decide) h (fun h => ?_) (fun h => ?_)
        · exact G_wk (hj86_39  h) ⟨rfl, ⟨rfl, trivial⟩⟩
        · refine G_iload (pc := 77) X (dg dt_R_isotope 41 rfl) rfl ?_
          refine G_if_eq (pc := 79) 86 X (dg dt_R_isotope 42 rfl) (by decide) h (fun h => ?_) (fun h => ?_)
          · exact G_wk (hj86_39  h) ⟨rfl, ⟨rfl, trivial⟩⟩
          · refine G_iconst (pc := 82) 1 X (dg dt_R_isotope 43 rfl) (by decide) ?_
            refine G_goto (pc := 83) 87 X (dg dt_R_isotope 44 rfl) (by decide) ?_
            exact G_wk (hj87_34 1 h) ⟨rfl, ⟨rfl, trivial⟩⟩
      refine jn_go (fun j62_40 => j62_40 = some (rv, σe) → G θ (0, 0) (g_SH, ad) σ_28 62 [some (.ref (ad 82)), some (.int v1), none, none, some (.int v4), some (.int r_22), none, none, none, none] []) h ?_ (fun j62_40 hj62_40 h => ?_)
      · intro  h
        refine G_iconst (pc := 62) 0 X (dg dt_R_isotope 33 rfl) (by decide) ?_
        exact G_wk (hj63_29 0 h) ⟨rfl, ⟨rfl, ⟨rfl, ⟨rfl, trivial⟩⟩⟩⟩
      refine G_if_eq (pc := 50) 62 X (dg dt_R_isotope 28 rfl) (by decide) h (fun h => ?_) (fun h => ?_)
      · exact G_wk (hj62_40  h) ⟨rfl, ⟨rfl, ⟨rfl, ⟨rfl, trivial⟩⟩⟩⟩
      · refine G_iload (pc := 53) X (dg dt_R_isotope 29 rfl) rfl ?_
        refine G_if_eq (pc := 55) 62 X (dg dt_R_isotope 30 rfl) (by decide) h (fun h => ?_) (fun h => ?_)
        · exact G_wk (hj62_40  h) ⟨rfl, ⟨rfl, ⟨rfl, ⟨rfl, trivial⟩⟩⟩⟩
        · refine G_iconst (pc := 58) 1 X (dg dt_R_isotope 31 rfl) (by decide) ?_
          refine G_goto (pc := 59) 63 X (dg dt_R_isotope 32 rfl) (by decide) ?_
          exact G_wk (hj63_29 1 h) ⟨rfl, ⟨rfl, ⟨rfl, ⟨rfl, trivial⟩⟩⟩⟩
  refine G_if_ne (pc := 6) 13 X (dg dt_R_isotope 4 rfl) (by decide) h (fun h => ?_) (fun h => ?_)
  · refine G_iconst (pc := 13) 0 X (dg dt_R_isotope 7 rfl) (by decide) ?_
    exact G_wk (hj14_3 0 h) ⟨rfl, ⟨rfl, ⟨rfl, ⟨rfl, ⟨rfl, trivial⟩⟩⟩⟩⟩
  · refine G_iconst (pc := 9) 1 X (dg dt_R_isotope 5 rfl) (by decide) ?_
    refine G_goto (pc := 10) 14 X (dg dt_R_isotope 6 rfl) (by decide) ?_
    exact G_wk (hj14_3 1 h) ⟨rfl, ⟨rfl, ⟨rfl, ⟨rfl, ⟨rfl, trivial⟩⟩⟩⟩⟩
set_option maxRecDepth 100000 in
set_option maxHeartbeats 4000000 in
theorem s_R_put_L68 {θ : Th} {ad : Nat → Nat}  {rv : Int32} {σe : St} (X : Cx θ [] cX12_put 8 "QuasigroveModel" 3 68)
    {v1 : Int32} {v2 : Int32} {v3 : Int32} {v4 : Int32} {σ : St} (hq : Rq θ (g_SH, ad) (some .int) (some (.int rv)) σe) {kx135 : Int32 → Option (Int32 × St)} (hkx135 : ∀ (v5 : Int32), kx135 v5 = some (rv, σe) → G θ (0, 0) (g_SH, ad) σ 135 [some (.ref (ad 82)), some (.int v1), some (.int v2), some (.int v3), some (.int v4), some (.int v5), none, none] []) :
    ∀ (n : Nat) (v5 : Int32) (v6 : Int32), f_R_put_L68 v1 v2 v3 v4 σ kx135 n v5 v6 = some (rv, σe) → G θ (0, 0) (g_SH, ad) σ 68 [some (.ref (ad 82)), some (.int v1), some (.int v2), some (.int v3), some (.int v4), some (.int v5), some (.int v6), none] [] := by
  intro n
  induction n with
  | zero => intro v5 v6 h; rw [f_R_put_L68] at h; cases h
  | succ n ih =>
    intro v5 v6 h
    rw [f_R_put_L68] at h
    refine G_iload (pc := 68) X (dg dt_R_put 39 rfl) rfl ?_
    refine G_aload_n (pc := 70) 0 X (dg dt_R_put 40 rfl) rfl rfl ?_
    refine G_getR (pc := 71) 2 X (dg dt_R_put 41 rfl) fc_8 w_1065 rfl (Nat.le_of_ble_eq_true rfl) sh_82 rfl ?_
    refine G_iload_n (pc := 74) 1 X (dg dt_R_put 42 rfl) rfl rfl ?_
    refine G_iald (pc := 75) X (dg dt_R_put 43 rfl) sh_83 h (fun r_8 h => ?_)
    refine G_icmp_ge (pc := 76) 135 X (dg dt_R_put 44 rfl) (by decide) h (fun h => ?_) (fun h => ?_)
    · exact G_wk (hkx135 v5 h) ⟨rfl, ⟨rfl, ⟨rfl, ⟨rfl, ⟨rfl, ⟨rfl, trivial⟩⟩⟩⟩⟩⟩
    · refine G_iload (pc := 79) X (dg dt_R_put 45 rfl) rfl ?_
      refine jn_go (fun j127_9 => ∀ (s_10 : Int32), j127_9 s_10 = some (rv, σe) → G θ (0, 0) (g_SH, ad) σ 127 [some (.ref (ad 82)), some (.int v1), some (.int v2), some (.int v3), some (.int v4), none, some (.int v6), none] [.int s_10]) h ?_ (fun j127_9 hj127_9 h => ?_)
      · intro s_10 h
        refine G_istore (pc := 127) X (dg dt_R_put 70 rfl) (Nat.le_of_ble_eq_true rfl) rfl ?_
        refine G_iinc (pc := 129) (v6 + 1) X (dg dt_R_put 71 rfl) rfl (Nat.le_of_ble_eq_true rfl) rfl rfl ?_
        refine G_goto (pc := 132) 68 X (dg dt_R_put 72 rfl) (by decide) ?_
        exact G_wk (ih s_10 (v6 + 1) h) ⟨rfl, ⟨rfl, ⟨rfl, ⟨rfl, ⟨rfl, ⟨rfl, ⟨rfl, trivial⟩⟩⟩⟩⟩⟩⟩
      refine jn_go (fun j122_11 => j122_11 = some (rv, σe) → G θ (0, 0) (g_SH, ad) σ 122 [some (.ref (ad 82)), some (.int v1), some (.int v2), some (.int v3), some (.int v4), none, some (.int v6), none] []) h ?_ (fun j122_11 hj122_11 h => ?_)
      · intro  h
        refine G_iconst (pc := 122) 1 X (dg dt_R_put 67 rfl) (by decide) ?_
        refine G_goto (pc := 123) 127 X (dg dt_R_put 68 rfl) (by decide) ?_
        exact G_wk (hj127_9 1 h) ⟨rfl, ⟨rfl, ⟨rfl, ⟨rfl, ⟨rfl, ⟨rfl, trivial⟩⟩⟩⟩⟩⟩
      refine G_if_ne (pc := 81) 122 X (dg dt_R_put 46 rfl) (by decide) h (fun h => ?_) (fun h => ?_)
      · exact G_wk (hj122_11  h) ⟨rfl, ⟨rfl, ⟨rfl, ⟨rfl, ⟨rfl, ⟨rfl, trivial⟩⟩⟩⟩⟩⟩
      · refine G_iload (pc := 84) X (dg dt_R_put 47 rfl) rfl ?_
        refine G_iload_n (pc := 86) 3 X (dg dt_R_put 48 rfl) rfl rfl ?_
        refine jn_go (fun j103_12 => j103_12 = some (rv, σe) → G θ (0, 0) (g_SH, ad) σ 103 [some (.ref (ad 82)), some (.int v1), some (.int v2), some (.int v3), some (.int v4), none, some (.int v6), none] []) h ?_ (fun j103_12 hj103_12 h => ?_)
        · intro  h
          refine G_iload (pc := 103) X (dg dt_R_put 57 rfl) rfl ?_
          refine G_iload_n (pc := 105) 2 X (dg dt_R_put 58 rfl) rfl rfl ?_
          refine jn_go (fun j126_13 => j126_13 = some (rv, σe) → G θ (0, 0) (g_SH, ad) σ 126 [some (.ref (ad 82)), some (.int v1), some (.int v2), some (.int v3), some (.int v4), none, some (.int v6), none] []) h ?_ (fun j126_13 hj126_13 h => ?_)
          · intro  h
            refine G_iconst (pc := 126) 0 X (dg dt_R_put 69 rfl) (by decide) ?_
            exact G_wk (hj127_9 0 h) ⟨rfl, ⟨rfl, ⟨rfl, ⟨rfl, ⟨rfl, ⟨rfl, trivial⟩⟩⟩⟩⟩⟩
          refine G_icmp_eq (pc := 106) 126 X (dg dt_R_put 59 rfl) (by decide) h (fun h => ?_) (fun h => ?_)
          · exact G_wk (hj126_13  h) ⟨rfl, ⟨rfl, ⟨rfl, ⟨rfl, ⟨rfl, ⟨rfl, trivial⟩⟩⟩⟩⟩⟩
          · refine G_aload_n (pc := 109) 0 X (dg dt_R_put 60 rfl) rfl rfl ?_
            refine G_iload_n (pc := 110) 1 X (dg dt_R_put 61 rfl) rfl rfl ?_
            refine G_iload (pc := 111) X (dg dt_R_put 62 rfl) rfl ?_
            refine G_iload_n (pc := 113) 3 X (dg dt_R_put 63 rfl) rfl rfl ?_
            obtain ⟨r_15, hc_14, h⟩ := cap_go h
            refine G_callV (pc := 114) (S := []) [.int v1, .int v6, .int v3] nosub X  (dg dt_R_put 64 rfl) cb_R_at cv_R_at w_1191 (s_R_at _ ad _ _ _ _ hc_14) rfl ⟨Nat.le_of_ble_eq_true rfl, Nat.le_of_ble_eq_true rfl⟩ sh_82 rfl (Nat.le_of_ble_eq_true rfl) Rc0 ?_
            refine G_iload (pc := 117) X (dg dt_R_put 65 rfl) rfl ?_
            refine G_icmp_ne (pc := 119) 126 X (dg dt_R_put 66 rfl) (by decide) h (fun h => ?_) (fun h => ?_)
            · exact G_wk (hj126_13  h) ⟨rfl, ⟨rfl, ⟨rfl, ⟨rfl, ⟨rfl, ⟨rfl, trivial⟩⟩⟩⟩⟩⟩
            · exact G_wk (hj122_11  h) ⟨rfl, ⟨rfl, ⟨rfl, ⟨rfl, ⟨rfl, ⟨rfl, trivial⟩⟩⟩⟩⟩⟩
        refine G_icmp_eq (pc := 87) 103 X (dg dt_R_put 49 rfl) (by decide) h (fun h => ?_) (fun h => ?_)
        · exact G_wk (hj103_12  h) ⟨rfl, ⟨rfl, ⟨rfl, ⟨rfl, ⟨rfl, ⟨rfl, trivial⟩⟩⟩⟩⟩⟩
        · refine G_aload_n (pc := 90) 0 X (dg dt_R_put 50 rfl) rfl rfl ?_
          refine G_iload_n (pc := 91) 1 X (dg dt_R_put 51 rfl) rfl rfl ?_
          refine G_iload_n (pc := 92) 2 X (dg dt_R_put 52 rfl) rfl rfl ?_
          refine G_iload (pc := 93) X (dg dt_R_put 53 rfl) rfl ?_
          obtain ⟨r_17, hc_16, h⟩ := cap_go h
          refine G_callV (pc := 95) (S := []) [.int v1, .int v2, .int v6] nosub X  (dg dt_R_put 54 rfl) cb_R_at cv_R_at w_1191 (s_R_at _ ad _ _ _ _ hc_16) rfl ⟨Nat.le_of_ble_eq_true rfl, Nat.le_of_ble_eq_true rfl⟩ sh_82 rfl (Nat.le_of_ble_eq_true rfl) Rc0 ?_
          refine G_iload (pc := 98) X (dg dt_R_put 55 rfl) rfl ?_
          refine G_icmp_eq (pc := 100) 122 X (dg dt_R_put 56 rfl) (by decide) h (fun h => ?_) (fun h => ?_)
          · exact G_wk (hj122_11  h) ⟨rfl, ⟨rfl, ⟨rfl, ⟨rfl, ⟨rfl, ⟨rfl, trivial⟩⟩⟩⟩⟩⟩
          · exact G_wk (hj103_12  h) ⟨rfl, ⟨rfl, ⟨rfl, ⟨rfl, ⟨rfl, ⟨rfl, trivial⟩⟩⟩⟩⟩⟩
set_option maxRecDepth 100000 in
set_option maxHeartbeats 4000000 in
theorem s_R_put (l : Launch) (ad : Nat → Nat) (σ : St) (v1 : Int32) (v2 : Int32) (v3 : Int32) (v4 : Int32)  {rv : Int32} {σe : St} (h : f_R_put σ v1 v2 v3 v4 = some (rv, σe)) : Rt l [] yX12_put cX12_put 8 (some .int) 3 68 (g_SH, ad) [.ref (ad 82), .int v1, .int v2, .int v3, .int v4] σ (some (.int rv)) σe := by
  refine Rt.intro (L := [some (.ref (ad 82)), some (.int v1), some (.int v2), some (.int v3), some (.int v4), none, none, none]) (by decide +kernel) (Nat.le_of_ble_eq_true rfl) rfl (fun θ hl X hq => ?_)
  subst hl
  unfold f_R_put at h
  refine G_aload_n (pc := 0) 0 X (dg dt_R_put 0 rfl) rfl rfl ?_
  refine G_aload_n (pc := 1) 0 X (dg dt_R_put 1 rfl) rfl rfl ?_
  refine G_iload_n (pc := 2) 1 X (dg dt_R_put 2 rfl) rfl rfl ?_
  refine G_iload_n (pc := 3) 2 X (dg dt_R_put 3 rfl) rfl rfl ?_
  refine G_iload_n (pc := 4) 3 X (dg dt_R_put 4 rfl) rfl rfl ?_
  obtain ⟨r_2, hc_1, h⟩ := cap_go h
  refine G_callV (pc := 5) (S := [.ref (ad 82)]) [.int v1, .int v2, .int v3] nosub X  (dg dt_R_put 5 rfl) cb_R_isCell cv_R_isCell w_1179 (s_R_isCell _ ad _ _ _ _ hc_1) rfl ⟨Nat.le_of_ble_eq_true rfl, Nat.le_of_ble_eq_true rfl⟩ sh_82 rfl (Nat.le_of_ble_eq_true rfl) Rc0 ?_
  refine jn_go (fun j16_3 => ∀ (s_4 : Int32), j16_3 s_4 = some (rv, σe) → G θ (0, 0) (g_SH, ad) σ 16 [some (.ref (ad 82)), some (.int v1), some (.int v2), some (.int v3), some (.int v4), none, none, none] [.int s_4, .ref (ad 82)]) h ?_ (fun j16_3 hj16_3 h => ?_)
  · intro s_4 h
    refine G_put (pc := 16) 0 X (dg dt_R_put 10 rfl) fc_8 w_1063 rfl (Nat.le_of_ble_eq_true rfl) rfl rfl sh_82 rfl h (fun σ_5 h => ?_)
    refine G_aload_n (pc := 19) 0 X (dg dt_R_put 11 rfl) rfl rfl ?_
    refine G_getI (pc := 20) 0 X (dg dt_R_put 12 rfl) fc_8 w_1063 rfl (Nat.le_of_ble_eq_true rfl) sh_82 rfl ?_
    refine jn_go (fun j53_6 => ∀ (σ_7 : St), j53_6 σ_7 = some (rv, σe) → G θ (0, 0) (g_SH, ad) σ_7 53 [some (.ref (ad 82)), some (.int v1), some (.int v2), some (.int v3), some (.int v4), none, none, none] []) h ?_ (fun j53_6 hj53_6 h => ?_)
    · intro σ_7 h
      refine G_aload_n (pc := 53) 0 X (dg dt_R_put 30 rfl) rfl rfl ?_
      refine G_getI (pc := 54) 0 X (dg dt_R_put 31 rfl) fc_8 w_1063 rfl (Nat.le_of_ble_eq_true rfl) sh_82 rfl ?_
      refine G_if_le (pc := 57) 62 X (dg dt_R_put 32 rfl) (by decide) h (fun h => ?_) (fun h => ?_)
      · refine G_iconst (pc := 62) 0 X (dg dt_R_put 35 rfl) (by decide) ?_
        refine G_istore (pc := 63) X (dg dt_R_put 36 rfl) (Nat.le_of_ble_eq_true rfl) rfl ?_
        refine G_iconst (pc := 65) 0 X (dg dt_R_put 37 rfl) (by decide) ?_
        refine G_istore (pc := 66) X (dg dt_R_put 38 rfl) (Nat.le_of_ble_eq_true rfl) rfl ?_
        refine G_weak (L' := [some (.ref (ad 82)), some (.int v1), some (.int v2), some (.int v3), some (.int v4), some (.int 0), some (.int 0), none]) ⟨rfl, ⟨rfl, ⟨rfl, ⟨rfl, ⟨rfl, ⟨rfl, ⟨rfl, trivial⟩⟩⟩⟩⟩⟩⟩ ?_
        refine s_R_put_L68  X hq  (fun v5_18 h => ?_) _ _ _ h
        refine G_aload_n (pc := 135) 0 X (dg dt_R_put 73 rfl) rfl rfl ?_
        refine G_iload (pc := 136) X (dg dt_R_put 74 rfl) rfl ?_
        refine jn_go (fun j152_19 => ∀ (s_20 : Int32), j152_19 s_20 = some (rv, σe) → G θ (0, 0) (g_SH, ad) σ_7 152 [some (.ref (ad 82)), some (.int v1), some (.int v2), some (.int v3), some (.int v4), none, none, none] [.int s_20, .ref (ad 82)]) h ?_ (fun j152_19 hj152_19 h => ?_)
        · intro s_20 h
          refine G_put (pc := 152) 0 X (dg dt_R_put 82 rfl) fc_8 w_1063 rfl (Nat.le_of_ble_eq_true rfl) rfl rfl sh_82 rfl h (fun σ_21 h => ?_)
          refine G_aload_n (pc := 155) 0 X (dg dt_R_put 83 rfl) rfl rfl ?_
          refine G_getI (pc := 156) 0 X (dg dt_R_put 84 rfl) fc_8 w_1063 rfl (Nat.le_of_ble_eq_true rfl) sh_82 rfl ?_
          refine G_if_le (pc := 159) 164 X (dg dt_R_put 85 rfl) (by decide) h (fun h => ?_) (fun h => ?_)
          · refine G_bipush (pc := 164) 25 X (dg dt_R_put 88 rfl) (by decide) ?_
            refine G_iload_n (pc := 166) 1 X (dg dt_R_put 89 rfl) rfl rfl ?_
            refine G_imul (pc := 167) X (dg dt_R_put 90 rfl) ?_
            refine G_aload_n (pc := 168) 0 X (dg dt_R_put 91 rfl) rfl rfl ?_
            refine G_getR (pc := 169) 2 X (dg dt_R_put 92 rfl) fc_8 w_1065 rfl (Nat.le_of_ble_eq_true rfl) sh_82 rfl ?_
            refine G_iload_n (pc := 172) 1 X (dg dt_R_put 93 rfl) rfl rfl ?_
            refine G_iald (pc := 173) X (dg dt_R_put 94 rfl) sh_83 h (fun r_22 h => ?_)
            refine G_iload_n (pc := 174) 2 X (dg dt_R_put 95 rfl) rfl rfl ?_
            refine G_imul (pc := 175) X (dg dt_R_put 96 rfl) ?_
            refine G_iadd (pc := 176) X (dg dt_R_put 97 rfl) ?_
            refine G_iload_n (pc := 177) 3 X (dg dt_R_put 98 rfl) rfl rfl ?_
            refine G_iadd (pc := 178) X (dg dt_R_put 99 rfl) ?_
            refine G_istore_lt (pc := 179) X (dg dt_R_put 100 rfl) (Nat.le_of_ble_eq_true rfl) rfl h (fun v6_23 h => ?_)
            refine G_aload_n (pc := 181) 0 X (dg dt_R_put 101 rfl) rfl rfl ?_
            refine G_getR (pc := 182) 3 X (dg dt_R_put 102 rfl) fc_8 w_1066 rfl (Nat.le_of_ble_eq_true rfl) sh_82 rfl ?_
            refine G_iload (pc := 185) X (dg dt_R_put 103 rfl) rfl ?_
            refine G_iald (pc := 187) X (dg dt_R_put 104 rfl) sh_84 h (fun r_24 h => ?_)
            refine G_istore (pc := 188) X (dg dt_R_put 105 rfl) (Nat.le_of_ble_eq_true rfl) rfl ?_
            refine G_aload_n (pc := 190) 0 X (dg dt_R_put 106 rfl) rfl rfl ?_
            refine G_getR (pc := 191) 3 X (dg dt_R_put 107 rfl) fc_8 w_1066 rfl (Nat.le_of_ble_eq_true rfl) sh_82 rfl ?_
            refine G_iload (pc := 194) X (dg dt_R_put 108 rfl) rfl ?_
            refine G_iload (pc := 196) X (dg dt_R_put 109 rfl) rfl ?_
            refine G_iast (pc := 198) X (dg dt_R_put 110 rfl) sh_84 h (fun σ_25 h => ?_)
            refine G_iload (pc := 199) X (dg dt_R_put 111 rfl) rfl ?_
            exact G_iret (pc := 201) X hq (dg dt_R_put 112 rfl) h
          · refine G_iconst (pc := 162) 0 X (dg dt_R_put 86 rfl) (by decide) ?_
            exact G_iret (pc := 163) X hq (dg dt_R_put 87 rfl) h
        refine jn_go (fun j151_26 => j151_26 = some (rv, σe) → G θ (0, 0) (g_SH, ad) σ_7 151 [some (.ref (ad 82)), some (.int v1), some (.int v2), some (.int v3), some (.int v4), none, none, none] [.ref (ad 82)]) h ?_ (fun j151_26 hj151_26 h => ?_)
        · intro  h
          refine G_iconst (pc := 151) 0 X (dg dt_R_put 81 rfl) (by decide) ?_
          exact G_wk (hj152_19 0 h) ⟨rfl, ⟨rfl, ⟨rfl, ⟨rfl, ⟨rfl, trivial⟩⟩⟩⟩⟩
        refine G_if_eq (pc := 138) 151 X (dg dt_R_put 75 rfl) (by decide) h (fun h => ?_) (fun h => ?_)
        · exact G_wk (hj151_26  h) ⟨rfl, ⟨rfl, ⟨rfl, ⟨rfl, ⟨rfl, trivial⟩⟩⟩⟩⟩
        · refine G_iload (pc := 141) X (dg dt_R_put 76 rfl) rfl ?_
          refine G_iconst (pc := 143) (-1) X (dg dt_R_put 77 rfl) (by decide) ?_
          refine G_icmp_eq (pc := 144) 151 X (dg dt_R_put 78 rfl) (by decide) h (fun h => ?_) (fun h => ?_)
          · exact G_wk (hj151_26  h) ⟨rfl, ⟨rfl, ⟨rfl, ⟨rfl, ⟨rfl, trivial⟩⟩⟩⟩⟩
          · refine G_iconst (pc := 147) 3 X (dg dt_R_put 79 rfl) (by decide) ?_
            refine G_goto (pc := 148) 152 X (dg dt_R_put 80 rfl) (by decide) ?_
            exact G_wk (hj152_19 3 h) ⟨rfl, ⟨rfl, ⟨rfl, ⟨rfl, ⟨rfl, trivial⟩⟩⟩⟩⟩
      · refine G_iconst (pc := 60) 0 X (dg dt_R_put 33 rfl) (by decide) ?_
        exact G_iret (pc := 61) X hq (dg dt_R_put 34 rfl) h
    refine G_if_ne (pc := 23) 53 X (dg dt_R_put 13 rfl) (by decide) h (fun h => ?_) (fun h => ?_)
    · exact G_wk (hj53_6 σ_5 h) ⟨rfl, ⟨rfl, ⟨rfl, ⟨rfl, ⟨rfl, trivial⟩⟩⟩⟩⟩
    · refine G_aload_n (pc := 26) 0 X (dg dt_R_put 14 rfl) rfl rfl ?_
      refine G_aload_n (pc := 27) 0 X (dg dt_R_put 15 rfl) rfl rfl ?_
      refine G_iload (pc := 28) X (dg dt_R_put 16 rfl) rfl ?_
      refine G_iconst (pc := 30) (-1) X (dg dt_R_put 17 rfl) (by decide) ?_
      refine G_aload_n (pc := 31) 0 X (dg dt_R_put 18 rfl) rfl rfl ?_
      refine G_getR (pc := 32) 2 X (dg dt_R_put 19 rfl) fc_8 w_1065 rfl (Nat.le_of_ble_eq_true rfl) sh_82 rfl ?_
      refine G_iload_n (pc := 35) 1 X (dg dt_R_put 20 rfl) rfl rfl ?_
      refine G_iald (pc := 36) X (dg dt_R_put 21 rfl) sh_83 h (fun r_27 h => ?_)
      refine G_iconst (pc := 37) 1 X (dg dt_R_put 22 rfl) (by decide) ?_
      refine G_isub (pc := 38) X (dg dt_R_put 23 rfl) ?_
      obtain ⟨r_29, hc_28, h⟩ := cap_go h
      refine G_callV (pc := 39) (S := [.ref (ad 82)]) [.int v4, .int (-1), .int (r_27 - 1)] nosub X  (dg dt_R_put 24 rfl) cb_R_between cv_R_between w_1159 (s_R_between _ ad _ _ _ _ hc_28) rfl ⟨Nat.le_of_ble_eq_true rfl, Nat.le_of_ble_eq_true rfl⟩ sh_82 rfl (Nat.le_of_ble_eq_true rfl) Rc0 ?_
      refine jn_go (fun j50_30 => ∀ (s_31 : Int32), j50_30 s_31 = some (rv, σe) → G θ (0, 0) (g_SH, ad) σ_5 50 [some (.ref (ad 82)), some (.int v1), some (.int v2), some (.int v3), some (.int v4), none, none, none] [.int s_31, .ref (ad 82)]) h ?_ (fun j50_30 hj50_30 h => ?_)
      · intro s_31 h
        refine G_put (pc := 50) 0 X (dg dt_R_put 29 rfl) fc_8 w_1063 rfl (Nat.le_of_ble_eq_true rfl) rfl rfl sh_82 rfl h (fun σ_32 h => ?_)
        exact G_wk (hj53_6 σ_32 h) ⟨rfl, ⟨rfl, ⟨rfl, ⟨rfl, ⟨rfl, trivial⟩⟩⟩⟩⟩
      refine G_if_ne (pc := 42) 49 X (dg dt_R_put 25 rfl) (by decide) h (fun h => ?_) (fun h => ?_)
      · refine G_iconst (pc := 49) 0 X (dg dt_R_put 28 rfl) (by decide) ?_
        exact G_wk (hj50_30 0 h) ⟨rfl, ⟨rfl, ⟨rfl, ⟨rfl, ⟨rfl, trivial⟩⟩⟩⟩⟩
      · refine G_iconst (pc := 45) 2 X (dg dt_R_put 26 rfl) (by decide) ?_
        refine G_goto (pc := 46) 50 X (dg dt_R_put 27 rfl) (by decide) ?_
        exact G_wk (hj50_30 2 h) ⟨rfl, ⟨rfl, ⟨rfl, ⟨rfl, ⟨rfl, trivial⟩⟩⟩⟩⟩
  refine G_if_ne (pc := 8) 15 X (dg dt_R_put 6 rfl) (by decide) h (fun h => ?_) (fun h => ?_)
  · refine G_iconst (pc := 15) 0 X (dg dt_R_put 9 rfl) (by decide) ?_
    exact G_wk (hj16_3 0 h) ⟨rfl, ⟨rfl, ⟨rfl, ⟨rfl, ⟨rfl, trivial⟩⟩⟩⟩⟩
  · refine G_iconst (pc := 11) 1 X (dg dt_R_put 7 rfl) (by decide) ?_
    refine G_goto (pc := 12) 16 X (dg dt_R_put 8 rfl) (by decide) ?_
    exact G_wk (hj16_3 1 h) ⟨rfl, ⟨rfl, ⟨rfl, ⟨rfl, ⟨rfl, trivial⟩⟩⟩⟩⟩
set_option maxRecDepth 100000 in
set_option maxHeartbeats 4000000 in
theorem s_R_isPrimeTo_L5 {θ : Th} {ad : Nat → Nat}  {rv : Int32} (X : Cx θ [] cX12_isPrimeTo 6 "QuasigroveModel" 0 0)
    {σ : St} (hq : Rq θ (g_SH, ad) (some .boolean) (some (.int rv)) σ) {kx26 : Int32 → Option Int32} (hkx26 : ∀ (v3 : Int32), kx26 v3 = some rv → G θ (0, 0) (g_SH, ad) σ 26 [none, none, none, some (.int v3), none, none] []) :
    ∀ (n : Nat) (v3 : Int32) (v4 : Int32), f_R_isPrimeTo_L5 σ kx26 n v3 v4 = some rv → G θ (0, 0) (g_SH, ad) σ 5 [none, none, none, some (.int v3), some (.int v4), none] [] := by
  intro n
  induction n with
  | zero => intro v3 v4 h; rw [f_R_isPrimeTo_L5] at h; cases h
  | succ n ih =>
    intro v3 v4 h
    rw [f_R_isPrimeTo_L5] at h
    refine G_iload (pc := 5) X (dg dt_R_isPrimeTo 4 rfl) rfl ?_
    refine G_if_le (pc := 7) 26 X (dg dt_R_isPrimeTo 5 rfl) (by decide) h (fun h => ?_) (fun h => ?_)
    · exact G_wk (hkx26 v3 h) ⟨rfl, trivial⟩
    · refine G_iload_n (pc := 10) 3 X (dg dt_R_isPrimeTo 6 rfl) rfl rfl ?_
      refine G_iload (pc := 11) X (dg dt_R_isPrimeTo 7 rfl) rfl ?_
      refine G_irem (pc := 13) X (dg dt_R_isPrimeTo 8 rfl) h (fun q_1 h => ?_)
      refine G_istore (pc := 14) X (dg dt_R_isPrimeTo 9 rfl) (Nat.le_of_ble_eq_true rfl) rfl ?_
      refine G_iload (pc := 16) X (dg dt_R_isPrimeTo 10 rfl) rfl ?_
      refine G_istore_n (pc := 18) 3 X (dg dt_R_isPrimeTo 11 rfl) rfl (Nat.le_of_ble_eq_true rfl) rfl ?_
      refine G_iload (pc := 19) X (dg dt_R_isPrimeTo 12 rfl) rfl ?_
      refine G_istore (pc := 21) X (dg dt_R_isPrimeTo 13 rfl) (Nat.le_of_ble_eq_true rfl) rfl ?_
      refine G_goto (pc := 23) 5 X (dg dt_R_isPrimeTo 14 rfl) (by decide) ?_
      exact G_wk (ih v4 q_1 h) ⟨rfl, ⟨rfl, trivial⟩⟩
set_option maxRecDepth 100000 in
set_option maxHeartbeats 4000000 in
theorem s_R_isPrimeTo (l : Launch) (ad : Nat → Nat) (σ : St) (v1 : Int32) (v2 : Int32)  {rv : Int32} (h : f_R_isPrimeTo σ v1 v2 = some rv) : Rt l [] yX12_isPrimeTo cX12_isPrimeTo 6 (some .boolean) 0 0 (g_SH, ad) [.ref (ad 82), .int v1, .int v2] σ (some (.int rv)) σ := by
  refine Rt.intro (L := [some (.ref (ad 82)), some (.int v1), some (.int v2), none, none, none]) (by decide +kernel) (Nat.le_of_ble_eq_true rfl) rfl (fun θ hl X hq => ?_)
  subst hl
  unfold f_R_isPrimeTo at h
  refine G_iload_n (pc := 0) 1 X (dg dt_R_isPrimeTo 0 rfl) rfl rfl ?_
  refine G_istore_n (pc := 1) 3 X (dg dt_R_isPrimeTo 1 rfl) rfl (Nat.le_of_ble_eq_true rfl) rfl ?_
  refine G_iload_n (pc := 2) 2 X (dg dt_R_isPrimeTo 2 rfl) rfl rfl ?_
  refine G_istore (pc := 3) X (dg dt_R_isPrimeTo 3 rfl) (Nat.le_of_ble_eq_true rfl) rfl ?_
  refine G_weak (L' := [none, none, none, some (.int v1), some (.int v2), none]) ⟨rfl, ⟨rfl, trivial⟩⟩ ?_
  refine s_R_isPrimeTo_L5  X hq  (fun v3_2 h => ?_) _ _ _ h
  refine G_iload_n (pc := 26) 3 X (dg dt_R_isPrimeTo 15 rfl) rfl rfl ?_
  refine G_iconst (pc := 27) 1 X (dg dt_R_isPrimeTo 16 rfl) (by decide) ?_
  refine G_icmp_ne (pc := 28) 35 X (dg dt_R_isPrimeTo 17 rfl) (by decide) h (fun h => ?_) (fun h => ?_)
  · refine G_iconst (pc := 35) 0 X (dg dt_R_isPrimeTo 20 rfl) (by decide) ?_
    exact G_zretlp (pc := 36) X hq (dg dt_R_isPrimeTo 21 rfl) rfl h
  · refine G_iconst (pc := 31) 1 X (dg dt_R_isPrimeTo 18 rfl) (by decide) ?_
    refine G_goto (pc := 32) 36 X (dg dt_R_isPrimeTo 19 rfl) (by decide) ?_
    exact G_zretlp (pc := 36) X hq (dg dt_R_isPrimeTo 21 rfl) rfl h
set_option maxRecDepth 100000 in
set_option maxHeartbeats 4000000 in
theorem s_R_linear_L121 {θ : Th} {ad : Nat → Nat}  {rv : Int32} {σe : St} (X : Cx θ [] cX12_linear 9 "QuasigroveModel" 1 25)
    {v1 : Int32} {v2 : Int32} {v3 : Int32} {v4 : Int32} {v6 : Int32} {v7 : Int32} (hq : Rq θ (g_SH, ad) (some .int) (some (.int rv)) σe) {kx165 : St → Option (Int32 × St)} (hkx165 : ∀ (σ : St), kx165 σ = some (rv, σe) → G θ (0, 0) (g_SH, ad) σ 165 [some (.ref (ad 82)), some (.int v1), some (.int v2), some (.int v3), some (.int v4), none, some (.int v6), some (.int v7), none] []) :
    ∀ (n : Nat) (v8 : Int32) (σ : St), f_R_linear_L121 v1 v2 v3 v4 v6 v7 kx165 n v8 σ = some (rv, σe) → G θ (0, 0) (g_SH, ad) σ 121 [some (.ref (ad 82)), some (.int v1), some (.int v2), some (.int v3), some (.int v4), none, some (.int v6), some (.int v7), some (.int v8)] [] := by
  intro n
  induction n with
  | zero => intro v8 σ h; rw [f_R_linear_L121] at h; cases h
  | succ n ih =>
    intro v8 σ h
    rw [f_R_linear_L121] at h
    refine G_iload (pc := 121) X (dg dt_R_linear 67 rfl) rfl ?_
    refine G_iload_n (pc := 123) 1 X (dg dt_R_linear 68 rfl) rfl rfl ?_
    refine G_icmp_ge (pc := 124) 165 X (dg dt_R_linear 69 rfl) (by decide) h (fun h => ?_) (fun h => ?_)
    · exact G_wk (hkx165 σ h) ⟨rfl, ⟨rfl, ⟨rfl, ⟨rfl, ⟨rfl, ⟨rfl, ⟨rfl, trivial⟩⟩⟩⟩⟩⟩⟩
    · refine G_aload_n (pc := 127) 0 X (dg dt_R_linear 70 rfl) rfl rfl ?_
      refine G_getR (pc := 128) 3 X (dg dt_R_linear 71 rfl) fc_8 w_1066 rfl (Nat.le_of_ble_eq_true rfl) sh_82 rfl ?_
      refine G_bipush (pc := 131) 25 X (dg dt_R_linear 72 rfl) (by decide) ?_
      refine G_iload (pc := 133) X (dg dt_R_linear 73 rfl) rfl ?_
      refine G_imul (pc := 135) X (dg dt_R_linear 74 rfl) ?_
      refine G_iload_n (pc := 136) 1 X (dg dt_R_linear 75 rfl) rfl rfl ?_
      refine G_iload (pc := 137) X (dg dt_R_linear 76 rfl) rfl ?_
      refine G_imul (pc := 139) X (dg dt_R_linear 77 rfl) ?_
      refine G_iadd (pc := 140) X (dg dt_R_linear 78 rfl) ?_
      refine G_iload (pc := 141) X (dg dt_R_linear 79 rfl) rfl ?_
      refine G_iadd (pc := 143) X (dg dt_R_linear 80 rfl) ?_
      refine G_iload_n (pc := 144) 2 X (dg dt_R_linear 81 rfl) rfl rfl ?_
      refine G_iload (pc := 145) X (dg dt_R_linear 82 rfl) rfl ?_
      refine G_imul (pc := 147) X (dg dt_R_linear 83 rfl) ?_
      refine G_iload_n (pc := 148) 3 X (dg dt_R_linear 84 rfl) rfl rfl ?_
      refine G_iload (pc := 149) X (dg dt_R_linear 85 rfl) rfl ?_
      refine G_imul (pc := 151) X (dg dt_R_linear 86 rfl) ?_
      refine G_iadd (pc := 152) X (dg dt_R_linear 87 rfl) ?_
      refine G_iload (pc := 153) X (dg dt_R_linear 88 rfl) rfl ?_
      refine G_iadd (pc := 155) X (dg dt_R_linear 89 rfl) ?_
      refine G_iload_n (pc := 156) 1 X (dg dt_R_linear 90 rfl) rfl rfl ?_
      refine G_irem (pc := 157) X (dg dt_R_linear 91 rfl) h (fun q_11 h => ?_)
      refine G_iast (pc := 158) X (dg dt_R_linear 92 rfl) sh_84 h (fun σ_12 h => ?_)
      refine G_iinc (pc := 159) (v8 + 1) X (dg dt_R_linear 93 rfl) rfl (Nat.le_of_ble_eq_true rfl) rfl rfl ?_
      refine G_goto (pc := 162) 121 X (dg dt_R_linear 94 rfl) (by decide) ?_
      exact G_wk (ih (v8 + 1) σ_12 h) ⟨rfl, ⟨rfl, ⟨rfl, ⟨rfl, ⟨rfl, ⟨rfl, ⟨rfl, ⟨rfl, trivial⟩⟩⟩⟩⟩⟩⟩⟩
set_option maxRecDepth 100000 in
set_option maxHeartbeats 4000000 in
theorem s_R_linear_L112 {θ : Th} {ad : Nat → Nat}  {rv : Int32} {σe : St} (X : Cx θ [] cX12_linear 9 "QuasigroveModel" 1 25)
    {v1 : Int32} {v2 : Int32} {v3 : Int32} {v4 : Int32} {v6 : Int32} (hq : Rq θ (g_SH, ad) (some .int) (some (.int rv)) σe) {kx171 : St → Option (Int32 × St)} (hkx171 : ∀ (σ : St), kx171 σ = some (rv, σe) → G θ (0, 0) (g_SH, ad) σ 171 [none, none, none, none, none, none, some (.int v6), none, none] []) :
    ∀ (n : Nat) (v7 : Int32) (σ : St), f_R_linear_L112 v1 v2 v3 v4 v6 kx171 n v7 σ = some (rv, σe) → G θ (0, 0) (g_SH, ad) σ 112 [some (.ref (ad 82)), some (.int v1), some (.int v2), some (.int v3), some (.int v4), none, some (.int v6), some (.int v7), none] [] := by
  intro n
  induction n with
  | zero => intro v7 σ h; rw [f_R_linear_L112] at h; cases h
  | succ n ih =>
    intro v7 σ h
    rw [f_R_linear_L112] at h
    refine G_iload (pc := 112) X (dg dt_R_linear 62 rfl) rfl ?_
    refine G_iload_n (pc := 114) 1 X (dg dt_R_linear 63 rfl) rfl rfl ?_
    refine G_icmp_ge (pc := 115) 171 X (dg dt_R_linear 64 rfl) (by decide) h (fun h => ?_) (fun h => ?_)
    · exact G_wk (hkx171 σ h) ⟨rfl, trivial⟩
    · refine G_iconst (pc := 118) 0 X (dg dt_R_linear 65 rfl) (by decide) ?_
      refine G_istore (pc := 119) X (dg dt_R_linear 66 rfl) (Nat.le_of_ble_eq_true rfl) rfl ?_
      refine G_weak (L' := [some (.ref (ad 82)), some (.int v1), some (.int v2), some (.int v3), some (.int v4), none, some (.int v6), some (.int v7), some (.int 0)]) ⟨rfl, ⟨rfl, ⟨rfl, ⟨rfl, ⟨rfl, ⟨rfl, ⟨rfl, ⟨rfl, trivial⟩⟩⟩⟩⟩⟩⟩⟩ ?_
      refine s_R_linear_L121  X hq  (fun σ_13 h => ?_) _ _ _ h
      refine G_iinc (pc := 165) (v7 + 1) X (dg dt_R_linear 95 rfl) rfl (Nat.le_of_ble_eq_true rfl) rfl rfl ?_
      refine G_goto (pc := 168) 112 X (dg dt_R_linear 96 rfl) (by decide) ?_
      exact G_wk (ih (v7 + 1) σ_13 h) ⟨rfl, ⟨rfl, ⟨rfl, ⟨rfl, ⟨rfl, ⟨rfl, ⟨rfl, trivial⟩⟩⟩⟩⟩⟩⟩
set_option maxRecDepth 100000 in
set_option maxHeartbeats 4000000 in
theorem s_R_linear (l : Launch) (ad : Nat → Nat) (σ : St) (v1 : Int32) (v2 : Int32) (v3 : Int32) (v4 : Int32)  {rv : Int32} {σe : St} (h : f_R_linear σ v1 v2 v3 v4 = some (rv, σe)) : Rt l [] yX12_linear cX12_linear 9 (some .int) 1 25 (g_SH, ad) [.ref (ad 82), .int v1, .int v2, .int v3, .int v4] σ (some (.int rv)) σe := by
  refine Rt.intro (L := [some (.ref (ad 82)), some (.int v1), some (.int v2), some (.int v3), some (.int v4), none, none, none, none]) (by decide +kernel) (Nat.le_of_ble_eq_true rfl) rfl (fun θ hl X hq => ?_)
  subst hl
  unfold f_R_linear at h
  refine G_aload_n (pc := 0) 0 X (dg dt_R_linear 0 rfl) rfl rfl ?_
  refine G_iload_n (pc := 1) 1 X (dg dt_R_linear 1 rfl) rfl rfl ?_
  refine G_iconst (pc := 2) 2 X (dg dt_R_linear 2 rfl) (by decide) ?_
  refine G_iconst (pc := 3) 5 X (dg dt_R_linear 3 rfl) (by decide) ?_
  obtain ⟨r_2, hc_1, h⟩ := cap_go h
  refine G_callV (pc := 4) (S := []) [.int v1, .int 2, .int 5] nosub X  (dg dt_R_linear 4 rfl) cb_R_between cv_R_between w_1159 (s_R_between _ ad _ _ _ _ hc_1) rfl ⟨Nat.le_of_ble_eq_true rfl, Nat.le_of_ble_eq_true rfl⟩ sh_82 rfl (Nat.le_of_ble_eq_true rfl) Rc0 ?_
  refine jn_go (fun j46_3 => ∀ (s_4 : Int32), j46_3 s_4 = some (rv, σe) → G θ (0, 0) (g_SH, ad) σ 46 [some (.ref (ad 82)), some (.int v1), some (.int v2), some (.int v3), some (.int v4), none, none, none, none] [.int s_4]) h ?_ (fun j46_3 hj46_3 h => ?_)
  · intro s_4 h
    refine G_istore (pc := 46) X (dg dt_R_linear 27 rfl) (Nat.le_of_ble_eq_true rfl) rfl ?_
    refine G_aload_n (pc := 48) 0 X (dg dt_R_linear 28 rfl) rfl rfl ?_
    refine G_iload (pc := 49) X (dg dt_R_linear 29 rfl) rfl ?_
    refine jn_go (fun j90_5 => ∀ (s_6 : Int32), j90_5 s_6 = some (rv, σe) → G θ (0, 0) (g_SH, ad) σ 90 [some (.ref (ad 82)), some (.int v1), some (.int v2), some (.int v3), some (.int v4), none, none, none, none] [.int s_6, .ref (ad 82)]) h ?_ (fun j90_5 hj90_5 h => ?_)
    · intro s_6 h
      refine G_put (pc := 90) 0 X (dg dt_R_linear 50 rfl) fc_8 w_1063 rfl (Nat.le_of_ble_eq_true rfl) rfl rfl sh_82 rfl h (fun σ_7 h => ?_)
      refine G_aload_n (pc := 93) 0 X (dg dt_R_linear 51 rfl) rfl rfl ?_
      refine G_getI (pc := 94) 0 X (dg dt_R_linear 52 rfl) fc_8 w_1063 rfl (Nat.le_of_ble_eq_true rfl) sh_82 rfl ?_
      refine G_if_le (pc := 97) 102 X (dg dt_R_linear 53 rfl) (by decide) h (fun h => ?_) (fun h => ?_)
      · refine G_aload_n (pc := 102) 0 X (dg dt_R_linear 56 rfl) rfl rfl ?_
        refine G_iload_n (pc := 103) 1 X (dg dt_R_linear 57 rfl) rfl rfl ?_
        obtain ⟨r_9, σ_10, hc_8, h⟩ := cal_go h
        refine G_callV (pc := 104) (S := []) [.int v1] nosub X  (dg dt_R_linear 58 rfl) cb_R_make cv_R_make w_1163 (s_R_make _ ad _ _ hc_8) rfl ⟨Nat.le_of_ble_eq_true rfl, Nat.le_of_ble_eq_true rfl⟩ sh_82 rfl (Nat.le_of_ble_eq_true rfl) Rc0 ?_
        refine G_istore (pc := 107) X (dg dt_R_linear 59 rfl) (Nat.le_of_ble_eq_true rfl) rfl ?_
        refine G_iconst (pc := 109) 0 X (dg dt_R_linear 60 rfl) (by decide) ?_
        refine G_istore (pc := 110) X (dg dt_R_linear 61 rfl) (Nat.le_of_ble_eq_true rfl) rfl ?_
        refine G_weak (L' := [some (.ref (ad 82)), some (.int v1), some (.int v2), some (.int v3), some (.int v4), none, some (.int r_9), some (.int 0), none]) ⟨rfl, ⟨rfl, ⟨rfl, ⟨rfl, ⟨rfl, ⟨rfl, ⟨rfl, trivial⟩⟩⟩⟩⟩⟩⟩ ?_
        refine s_R_linear_L112  X hq  (fun σ_14 h => ?_) _ _ _ h
        refine G_iload (pc := 171) X (dg dt_R_linear 97 rfl) rfl ?_
        exact G_iret (pc := 173) X hq (dg dt_R_linear 98 rfl) h
      · refine G_iconst (pc := 100) 0 X (dg dt_R_linear 54 rfl) (by decide) ?_
        exact G_iret (pc := 101) X hq (dg dt_R_linear 55 rfl) h
    refine jn_go (fun j72_15 => j72_15 = some (rv, σe) → G θ (0, 0) (g_SH, ad) σ 72 [some (.ref (ad 82)), some (.int v1), some (.int v2), some (.int v3), some (.int v4), none, none, none, none] [.ref (ad 82)]) h ?_ (fun j72_15 hj72_15 h => ?_)
    · intro  h
      refine G_iconst (pc := 72) 1 X (dg dt_R_linear 41 rfl) (by decide) ?_
      refine G_goto (pc := 73) 90 X (dg dt_R_linear 42 rfl) (by decide) ?_
      exact G_wk (hj90_5 1 h) ⟨rfl, ⟨rfl, ⟨rfl, ⟨rfl, ⟨rfl, trivial⟩⟩⟩⟩⟩
    refine G_if_eq (pc := 51) 72 X (dg dt_R_linear 30 rfl) (by decide) h (fun h => ?_) (fun h => ?_)
    · exact G_wk (hj72_15  h) ⟨rfl, ⟨rfl, ⟨rfl, ⟨rfl, ⟨rfl, trivial⟩⟩⟩⟩⟩
    · refine G_aload_n (pc := 54) 0 X (dg dt_R_linear 31 rfl) rfl rfl ?_
      refine G_iload_n (pc := 55) 2 X (dg dt_R_linear 32 rfl) rfl rfl ?_
      refine G_iload_n (pc := 56) 1 X (dg dt_R_linear 33 rfl) rfl rfl ?_
      obtain ⟨r_17, hc_16, h⟩ := cap_go h
      refine G_callV (pc := 57) (S := [.ref (ad 82)]) [.int v2, .int v1] nosub X  (dg dt_R_linear 34 rfl) cb_R_isPrimeTo cv_R_isPrimeTo w_1171 (s_R_isPrimeTo _ ad _ _ _ hc_16) rfl ⟨Nat.le_of_ble_eq_true rfl, Nat.le_of_ble_eq_true rfl⟩ sh_82 rfl (Nat.le_of_ble_eq_true rfl) Rc0 ?_
      refine G_if_eq (pc := 60) 72 X (dg dt_R_linear 35 rfl) (by decide) h (fun h => ?_) (fun h => ?_)
      · exact G_wk (hj72_15  h) ⟨rfl, ⟨rfl, ⟨rfl, ⟨rfl, ⟨rfl, trivial⟩⟩⟩⟩⟩
      · refine G_aload_n (pc := 63) 0 X (dg dt_R_linear 36 rfl) rfl rfl ?_
        refine G_iload_n (pc := 64) 3 X (dg dt_R_linear 37 rfl) rfl rfl ?_
        refine G_iload_n (pc := 65) 1 X (dg dt_R_linear 38 rfl) rfl rfl ?_
        obtain ⟨r_19, hc_18, h⟩ := cap_go h
        refine G_callV (pc := 66) (S := [.ref (ad 82)]) [.int v3, .int v1] nosub X  (dg dt_R_linear 39 rfl) cb_R_isPrimeTo cv_R_isPrimeTo w_1171 (s_R_isPrimeTo _ ad _ _ _ hc_18) rfl ⟨Nat.le_of_ble_eq_true rfl, Nat.le_of_ble_eq_true rfl⟩ sh_82 rfl (Nat.le_of_ble_eq_true rfl) Rc0 ?_
        refine G_if_ne (pc := 69) 76 X (dg dt_R_linear 40 rfl) (by decide) h (fun h => ?_) (fun h => ?_)
        · refine G_aload_n (pc := 76) 0 X (dg dt_R_linear 43 rfl) rfl rfl ?_
          refine G_getI (pc := 77) 1 X (dg dt_R_linear 44 rfl) fc_8 w_1064 rfl (Nat.le_of_ble_eq_true rfl) sh_82 rfl ?_
          refine G_bipush (pc := 80) 12 X (dg dt_R_linear 45 rfl) (by decide) ?_
          refine G_icmp_ne (pc := 82) 89 X (dg dt_R_linear 46 rfl) (by decide) h (fun h => ?_) (fun h => ?_)
          · refine G_iconst (pc := 89) 0 X (dg dt_R_linear 49 rfl) (by decide) ?_
            exact G_wk (hj90_5 0 h) ⟨rfl, ⟨rfl, ⟨rfl, ⟨rfl, ⟨rfl, trivial⟩⟩⟩⟩⟩
          · refine G_iconst (pc := 85) 2 X (dg dt_R_linear 47 rfl) (by decide) ?_
            refine G_goto (pc := 86) 90 X (dg dt_R_linear 48 rfl) (by decide) ?_
            exact G_wk (hj90_5 2 h) ⟨rfl, ⟨rfl, ⟨rfl, ⟨rfl, ⟨rfl, trivial⟩⟩⟩⟩⟩
        · exact G_wk (hj72_15  h) ⟨rfl, ⟨rfl, ⟨rfl, ⟨rfl, ⟨rfl, trivial⟩⟩⟩⟩⟩
  refine jn_go (fun j45_20 => j45_20 = some (rv, σe) → G θ (0, 0) (g_SH, ad) σ 45 [some (.ref (ad 82)), some (.int v1), some (.int v2), some (.int v3), some (.int v4), none, none, none, none] []) h ?_ (fun j45_20 hj45_20 h => ?_)
  · intro  h
    refine G_iconst (pc := 45) 0 X (dg dt_R_linear 26 rfl) (by decide) ?_
    exact G_wk (hj46_3 0 h) ⟨rfl, ⟨rfl, ⟨rfl, ⟨rfl, ⟨rfl, trivial⟩⟩⟩⟩⟩
  refine G_if_eq (pc := 7) 45 X (dg dt_R_linear 5 rfl) (by decide) h (fun h => ?_) (fun h => ?_)
  · exact G_wk (hj45_20  h) ⟨rfl, ⟨rfl, ⟨rfl, ⟨rfl, ⟨rfl, trivial⟩⟩⟩⟩⟩
  · refine G_aload_n (pc := 10) 0 X (dg dt_R_linear 6 rfl) rfl rfl ?_
    refine G_iload_n (pc := 11) 2 X (dg dt_R_linear 7 rfl) rfl rfl ?_
    refine G_iconst (pc := 12) 0 X (dg dt_R_linear 8 rfl) (by decide) ?_
    refine G_iconst (pc := 13) 4 X (dg dt_R_linear 9 rfl) (by decide) ?_
    obtain ⟨r_22, hc_21, h⟩ := cap_go h
    refine G_callV (pc := 14) (S := []) [.int v2, .int 0, .int 4] nosub X  (dg dt_R_linear 10 rfl) cb_R_between cv_R_between w_1159 (s_R_between _ ad _ _ _ _ hc_21) rfl ⟨Nat.le_of_ble_eq_true rfl, Nat.le_of_ble_eq_true rfl⟩ sh_82 rfl (Nat.le_of_ble_eq_true rfl) Rc0 ?_
    refine G_if_eq (pc := 17) 45 X (dg dt_R_linear 11 rfl) (by decide) h (fun h => ?_) (fun h => ?_)
    · exact G_wk (hj45_20  h) ⟨rfl, ⟨rfl, ⟨rfl, ⟨rfl, ⟨rfl, trivial⟩⟩⟩⟩⟩
    · refine G_aload_n (pc := 20) 0 X (dg dt_R_linear 12 rfl) rfl rfl ?_
      refine G_iload_n (pc := 21) 3 X (dg dt_R_linear 13 rfl) rfl rfl ?_
      refine G_iconst (pc := 22) 0 X (dg dt_R_linear 14 rfl) (by decide) ?_
      refine G_iconst (pc := 23) 4 X (dg dt_R_linear 15 rfl) (by decide) ?_
      obtain ⟨r_24, hc_23, h⟩ := cap_go h
      refine G_callV (pc := 24) (S := []) [.int v3, .int 0, .int 4] nosub X  (dg dt_R_linear 16 rfl) cb_R_between cv_R_between w_1159 (s_R_between _ ad _ _ _ _ hc_23) rfl ⟨Nat.le_of_ble_eq_true rfl, Nat.le_of_ble_eq_true rfl⟩ sh_82 rfl (Nat.le_of_ble_eq_true rfl) Rc0 ?_
      refine G_if_eq (pc := 27) 45 X (dg dt_R_linear 17 rfl) (by decide) h (fun h => ?_) (fun h => ?_)
      · exact G_wk (hj45_20  h) ⟨rfl, ⟨rfl, ⟨rfl, ⟨rfl, ⟨rfl, trivial⟩⟩⟩⟩⟩
      · refine G_aload_n (pc := 30) 0 X (dg dt_R_linear 18 rfl) rfl rfl ?_
        refine G_iload (pc := 31) X (dg dt_R_linear 19 rfl) rfl ?_
        refine G_iconst (pc := 33) 0 X (dg dt_R_linear 20 rfl) (by decide) ?_
        refine G_iconst (pc := 34) 4 X (dg dt_R_linear 21 rfl) (by decide) ?_
        obtain ⟨r_26, hc_25, h⟩ := cap_go h
        refine G_callV (pc := 35) (S := []) [.int v4, .int 0, .int 4] nosub X  (dg dt_R_linear 22 rfl) cb_R_between cv_R_between w_1159 (s_R_between _ ad _ _ _ _ hc_25) rfl ⟨Nat.le_of_ble_eq_true rfl, Nat.le_of_ble_eq_true rfl⟩ sh_82 rfl (Nat.le_of_ble_eq_true rfl) Rc0 ?_
        refine G_if_eq (pc := 38) 45 X (dg dt_R_linear 23 rfl) (by decide) h (fun h => ?_) (fun h => ?_)
        · exact G_wk (hj45_20  h) ⟨rfl, ⟨rfl, ⟨rfl, ⟨rfl, ⟨rfl, trivial⟩⟩⟩⟩⟩
        · refine G_iconst (pc := 41) 1 X (dg dt_R_linear 24 rfl) (by decide) ?_
          refine G_goto (pc := 42) 46 X (dg dt_R_linear 25 rfl) (by decide) ?_
          exact G_wk (hj46_3 1 h) ⟨rfl, ⟨rfl, ⟨rfl, ⟨rfl, ⟨rfl, trivial⟩⟩⟩⟩⟩
set_option maxRecDepth 100000 in
set_option maxHeartbeats 4000000 in
theorem s_R_grid (l : Launch) (ad : Nat → Nat) (σ : St) (v1 : Int32)  {rv : Int32} {σe : St} (h : f_R_grid σ v1 = some (rv, σe)) : Rt l [] yX12_grid cX12_grid 2 (some .int) 1 23 (g_SH, ad) [.ref (ad 82), .int v1] σ (some (.int rv)) σe := by
  refine Rt.intro (L := [some (.ref (ad 82)), some (.int v1)]) (by decide +kernel) (Nat.le_of_ble_eq_true rfl) rfl (fun θ hl X hq => ?_)
  subst hl
  unfold f_R_grid at h
  refine G_aload_n (pc := 0) 0 X (dg dt_R_grid 0 rfl) rfl rfl ?_
  refine G_aload_n (pc := 1) 0 X (dg dt_R_grid 1 rfl) rfl rfl ?_
  refine G_iload_n (pc := 2) 1 X (dg dt_R_grid 2 rfl) rfl rfl ?_
  refine G_iconst (pc := 3) 2 X (dg dt_R_grid 3 rfl) (by decide) ?_
  refine G_iconst (pc := 4) 5 X (dg dt_R_grid 4 rfl) (by decide) ?_
  obtain ⟨r_2, hc_1, h⟩ := cap_go h
  refine G_callV (pc := 5) (S := [.ref (ad 82)]) [.int v1, .int 2, .int 5] nosub X  (dg dt_R_grid 5 rfl) cb_R_between cv_R_between w_1159 (s_R_between _ ad _ _ _ _ hc_1) rfl ⟨Nat.le_of_ble_eq_true rfl, Nat.le_of_ble_eq_true rfl⟩ sh_82 rfl (Nat.le_of_ble_eq_true rfl) Rc0 ?_
  refine jn_go (fun j29_3 => ∀ (s_4 : Int32), j29_3 s_4 = some (rv, σe) → G θ (0, 0) (g_SH, ad) σ 29 [some (.ref (ad 82)), some (.int v1)] [.int s_4, .ref (ad 82)]) h ?_ (fun j29_3 hj29_3 h => ?_)
  · intro s_4 h
    refine G_put (pc := 29) 0 X (dg dt_R_grid 16 rfl) fc_8 w_1063 rfl (Nat.le_of_ble_eq_true rfl) rfl rfl sh_82 rfl h (fun σ_5 h => ?_)
    refine G_aload_n (pc := 32) 0 X (dg dt_R_grid 17 rfl) rfl rfl ?_
    refine G_getI (pc := 33) 0 X (dg dt_R_grid 18 rfl) fc_8 w_1063 rfl (Nat.le_of_ble_eq_true rfl) sh_82 rfl ?_
    refine G_if_le (pc := 36) 43 X (dg dt_R_grid 19 rfl) (by decide) h (fun h => ?_) (fun h => ?_)
    · refine G_aload_n (pc := 43) 0 X (dg dt_R_grid 22 rfl) rfl rfl ?_
      refine G_iload_n (pc := 44) 1 X (dg dt_R_grid 23 rfl) rfl rfl ?_
      obtain ⟨r_7, σ_8, hc_6, h⟩ := cal_go h
      refine G_callV (pc := 45) (S := []) [.int v1] nosub X  (dg dt_R_grid 24 rfl) cb_R_make cv_R_make w_1163 (s_R_make _ ad _ _ hc_6) rfl ⟨Nat.le_of_ble_eq_true rfl, Nat.le_of_ble_eq_true rfl⟩ sh_82 rfl (Nat.le_of_ble_eq_true rfl) Rc0 ?_
      exact G_iret (pc := 48) X hq (dg dt_R_grid 25 rfl) h
    · refine G_iconst (pc := 39) 0 X (dg dt_R_grid 20 rfl) (by decide) ?_
      refine G_goto (pc := 40) 48 X (dg dt_R_grid 21 rfl) (by decide) ?_
      exact G_iret (pc := 48) X hq (dg dt_R_grid 25 rfl) h
  refine G_if_ne (pc := 8) 15 X (dg dt_R_grid 6 rfl) (by decide) h (fun h => ?_) (fun h => ?_)
  · refine G_aload_n (pc := 15) 0 X (dg dt_R_grid 9 rfl) rfl rfl ?_
    refine G_getI (pc := 16) 1 X (dg dt_R_grid 10 rfl) fc_8 w_1064 rfl (Nat.le_of_ble_eq_true rfl) sh_82 rfl ?_
    refine G_bipush (pc := 19) 12 X (dg dt_R_grid 11 rfl) (by decide) ?_
    refine G_icmp_ne (pc := 21) 28 X (dg dt_R_grid 12 rfl) (by decide) h (fun h => ?_) (fun h => ?_)
    · refine G_iconst (pc := 28) 0 X (dg dt_R_grid 15 rfl) (by decide) ?_
      exact G_wk (hj29_3 0 h) ⟨rfl, ⟨rfl, trivial⟩⟩
    · refine G_iconst (pc := 24) 2 X (dg dt_R_grid 13 rfl) (by decide) ?_
      refine G_goto (pc := 25) 29 X (dg dt_R_grid 14 rfl) (by decide) ?_
      exact G_wk (hj29_3 2 h) ⟨rfl, ⟨rfl, trivial⟩⟩
  · refine G_iconst (pc := 11) 1 X (dg dt_R_grid 7 rfl) (by decide) ?_
    refine G_goto (pc := 12) 29 X (dg dt_R_grid 8 rfl) (by decide) ?_
    exact G_wk (hj29_3 1 h) ⟨rfl, ⟨rfl, trivial⟩⟩
set_option maxRecDepth 100000 in
set_option maxHeartbeats 4000000 in
theorem s_R_thrown (l : Launch) (ad : Nat → Nat) (σ : St)   {rv : Int32} (h : f_R_thrown σ = some rv) : Rt l [] yX12_thrown cX12_thrown 1 (some .int) 0 0 (g_SH, ad) [.ref (ad 82)] σ (some (.int rv)) σ := by
  refine Rt.intro (L := [some (.ref (ad 82))]) (by decide +kernel) (Nat.le_of_ble_eq_true rfl) rfl (fun θ hl X hq => ?_)
  subst hl
  unfold f_R_thrown at h
  refine G_aload_n (pc := 0) 0 X (dg dt_R_thrown 0 rfl) rfl rfl ?_
  refine G_getI (pc := 1) 0 X (dg dt_R_thrown 1 rfl) fc_8 w_1063 rfl (Nat.le_of_ble_eq_true rfl) sh_82 rfl ?_
  exact G_iretp (pc := 4) X hq (dg dt_R_thrown 2 rfl) h
