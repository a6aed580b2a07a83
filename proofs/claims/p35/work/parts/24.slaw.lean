set_option maxRecDepth 100000 in
set_option maxHeartbeats 4000000 in
theorem s_L_set_L19 {θ : Th} {ad : Nat → Nat}  {rv : Int32} (X : Cx θ [] cL_set 7 "QuasigroveLaw" 0 0)
    {v0 : Nat} {v1 : Int32} {v2 : Int32} {σ : St} (hq : Rq θ (g_SH, ad) (some .int) (some (.int rv)) σ) (hg_v0 : aok v0) {kx91 : Int32 → Option Int32} (hkx91 : ∀ (v3 : Int32), kx91 v3 = some rv → G θ (0, 0) (g_SH, ad) σ 91 [none, none, none, some (.int v3), none, none, none] []) :
    ∀ (n : Nat) (v3 : Int32) (v4 : Int32), f_L_set_L19 v0 v1 v2 σ kx91 n v3 v4 = some rv → G θ (0, 0) (g_SH, ad) σ 19 [some (.ref (ad v0)), some (.int v1), some (.int v2), some (.int v3), some (.int v4), none, none] [] := by
  intro n
  induction n with
  | zero => intro v3 v4 h; rw [f_L_set_L19] at h; cases h
  | succ n ih =>
    intro v3 v4 h
    rw [f_L_set_L19] at h
    refine G_iload (pc := 19) X (dg dt_L_set 14 rfl) rfl ?_
    refine G_iload_n (pc := 21) 1 X (dg dt_L_set 15 rfl) rfl rfl ?_
    refine G_icmp_ge (pc := 22) 91 X (dg dt_L_set 16 rfl) (by decide) h (fun h => ?_) (fun h => ?_)
    · exact G_wk (hkx91 v3 h) ⟨rfl, trivial⟩
    · refine G_aload_n (pc := 25) 0 X (dg dt_L_set 17 rfl) rfl rfl ?_
      refine G_iload_n (pc := 26) 2 X (dg dt_L_set 18 rfl) rfl rfl ?_
      refine G_iload_n (pc := 27) 1 X (dg dt_L_set 19 rfl) rfl rfl ?_
      refine G_idiv (pc := 28) X (dg dt_L_set 20 rfl) h (fun q_4 h => ?_)
      refine G_iload_n (pc := 29) 1 X (dg dt_L_set 21 rfl) rfl rfl ?_
      refine G_imul (pc := 30) X (dg dt_L_set 22 rfl) ?_
      refine G_iload (pc := 31) X (dg dt_L_set 23 rfl) rfl ?_
      refine G_iadd (pc := 33) X (dg dt_L_set 24 rfl) ?_
      refine G_iald (pc := 34) X (dg dt_L_set 25 rfl) (sh_a hg_v0) h (fun r_5 h => ?_)
      refine G_istore (pc := 35) X (dg dt_L_set 26 rfl) (Nat.le_of_ble_eq_true rfl) rfl ?_
      refine G_aload_n (pc := 37) 0 X (dg dt_L_set 27 rfl) rfl rfl ?_
      refine G_iload_n (pc := 38) 1 X (dg dt_L_set 28 rfl) rfl rfl ?_
      refine G_iload (pc := 39) X (dg dt_L_set 29 rfl) rfl ?_
      refine G_imul (pc := 41) X (dg dt_L_set 30 rfl) ?_
      refine G_iload_n (pc := 42) 2 X (dg dt_L_set 31 rfl) rfl rfl ?_
      refine G_iload_n (pc := 43) 1 X (dg dt_L_set 32 rfl) rfl rfl ?_
      refine G_irem (pc := 44) X (dg dt_L_set 33 rfl) h (fun q_6 h => ?_)
      refine G_iadd (pc := 45) X (dg dt_L_set 34 rfl) ?_
      refine G_iald (pc := 46) X (dg dt_L_set 35 rfl) (sh_a hg_v0) h (fun r_7 h => ?_)
      refine G_istore (pc := 47) X (dg dt_L_set 36 rfl) (Nat.le_of_ble_eq_true rfl) rfl ?_
      refine G_iload_n (pc := 49) 3 X (dg dt_L_set 37 rfl) rfl rfl ?_
      refine G_iload (pc := 50) X (dg dt_L_set 38 rfl) rfl ?_
      refine jn_go (fun j65_8 => ∀ (s_9 : Int32), j65_8 s_9 = some rv → G θ (0, 0) (g_SH, ad) σ 65 [some (.ref (ad v0)), some (.int v1), some (.int v2), none, some (.int v4), none, some (.int r_7)] [.int s_9, .int v3]) h ?_ (fun j65_8 hj65_8 h => ?_)
      · intro s_9 h
        refine G_iand (pc := 65) X (dg dt_L_set 47 rfl) ?_
        refine G_istore_n (pc := 66) 3 X (dg dt_L_set 48 rfl) rfl (Nat.le_of_ble_eq_true rfl) rfl ?_
        refine G_iload_n (pc := 67) 3 X (dg dt_L_set 49 rfl) rfl rfl ?_
        refine G_iload (pc := 68) X (dg dt_L_set 50 rfl) rfl ?_
        refine jn_go (fun j83_10 => ∀ (s_11 : Int32), j83_10 s_11 = some rv → G θ (0, 0) (g_SH, ad) σ 83 [some (.ref (ad v0)), some (.int v1), some (.int v2), none, some (.int v4), none, none] [.int s_11, .int (v3 &&& s_9)]) h ?_ (fun j83_10 hj83_10 h => ?_)
        · intro s_11 h
          refine G_iand (pc := 83) X (dg dt_L_set 59 rfl) ?_
          refine G_istore_n_lt (pc := 84) 3 X (dg dt_L_set 60 rfl) rfl (Nat.le_of_ble_eq_true rfl) rfl h (fun v3_12 h => ?_)
          refine G_iinc (pc := 85) (v4 + 1) X (dg dt_L_set 61 rfl) rfl (Nat.le_of_ble_eq_true rfl) rfl rfl ?_
          refine G_goto (pc := 88) 19 X (dg dt_L_set 62 rfl) (by decide) ?_
          exact G_wk (ih v3_12 (v4 + 1) h) ⟨rfl, ⟨rfl, ⟨rfl, ⟨rfl, ⟨rfl, trivial⟩⟩⟩⟩⟩
        refine G_if_ge (pc := 70) 77 X (dg dt_L_set 51 rfl) (by decide) h (fun h => ?_) (fun h => ?_)
        · refine G_iconst (pc := 77) 1 X (dg dt_L_set 54 rfl) (by decide) ?_
          refine G_iload (pc := 78) X (dg dt_L_set 55 rfl) rfl ?_
          refine G_ishl (pc := 80) X (dg dt_L_set 56 rfl) ?_
          refine G_iconst (pc := 81) (-1) X (dg dt_L_set 57 rfl) (by decide) ?_
          refine G_ixor (pc := 82) X (dg dt_L_set 58 rfl) ?_
          exact G_wk (hj83_10 ((1 <<< (r_7 &&& 31)) ^^^ (-1)) h) ⟨rfl, ⟨rfl, ⟨rfl, ⟨rfl, trivial⟩⟩⟩⟩
        · refine G_iload_n (pc := 73) 3 X (dg dt_L_set 52 rfl) rfl rfl ?_
          refine G_goto (pc := 74) 83 X (dg dt_L_set 53 rfl) (by decide) ?_
          exact G_wk (hj83_10 (v3 &&& s_9) h) ⟨rfl, ⟨rfl, ⟨rfl, ⟨rfl, trivial⟩⟩⟩⟩
      refine G_if_ge (pc := 52) 59 X (dg dt_L_set 39 rfl) (by decide) h (fun h => ?_) (fun h => ?_)
      · refine G_iconst (pc := 59) 1 X (dg dt_L_set 42 rfl) (by decide) ?_
        refine G_iload (pc := 60) X (dg dt_L_set 43 rfl) rfl ?_
        refine G_ishl (pc := 62) X (dg dt_L_set 44 rfl) ?_
        refine G_iconst (pc := 63) (-1) X (dg dt_L_set 45 rfl) (by decide) ?_
        refine G_ixor (pc := 64) X (dg dt_L_set 46 rfl) ?_
        exact G_wk (hj65_8 ((1 <<< (r_5 &&& 31)) ^^^ (-1)) h) ⟨rfl, ⟨rfl, ⟨rfl, ⟨rfl, ⟨rfl, trivial⟩⟩⟩⟩⟩
      · refine G_iload_n (pc := 55) 3 X (dg dt_L_set 40 rfl) rfl rfl ?_
        refine G_goto (pc := 56) 65 X (dg dt_L_set 41 rfl) (by decide) ?_
        exact G_wk (hj65_8 v3 h) ⟨rfl, ⟨rfl, ⟨rfl, ⟨rfl, ⟨rfl, trivial⟩⟩⟩⟩⟩
set_option maxRecDepth 100000 in
set_option maxHeartbeats 4000000 in
theorem s_L_set (l : Launch) (ad : Nat → Nat) (σ : St) (v0 : Nat) (v1 : Int32) (v2 : Int32) (hg_v0 : aok v0) {rv : Int32} (h : f_L_set σ v0 v1 v2 = some rv) : Rt l [] yL_set cL_set 7 (some .int) 0 0 (g_SH, ad) [.ref (ad v0), .int v1, .int v2] σ (some (.int rv)) σ := by
  refine Rt.intro (L := [some (.ref (ad v0)), some (.int v1), some (.int v2), none, none, none, none]) (by decide +kernel) (Nat.le_of_ble_eq_true rfl) rfl (fun θ hl X hq => ?_)
  subst hl
  unfold f_L_set at h
  refine G_aload_n (pc := 0) 0 X (dg dt_L_set 0 rfl) rfl rfl ?_
  refine G_iload_n (pc := 1) 2 X (dg dt_L_set 1 rfl) rfl rfl ?_
  refine G_iald (pc := 2) X (dg dt_L_set 2 rfl) (sh_a hg_v0) h (fun r_1 h => ?_)
  refine jn_go (fun j15_2 => ∀ (s_3 : Int32), j15_2 s_3 = some rv → G θ (0, 0) (g_SH, ad) σ 15 [some (.ref (ad v0)), some (.int v1), some (.int v2), none, none, none, none] [.int s_3]) h ?_ (fun j15_2 hj15_2 h => ?_)
  · intro s_3 h
    refine G_istore_n (pc := 15) 3 X (dg dt_L_set 11 rfl) rfl (Nat.le_of_ble_eq_true rfl) rfl ?_
    refine G_iconst (pc := 16) 0 X (dg dt_L_set 12 rfl) (by decide) ?_
    refine G_istore (pc := 17) X (dg dt_L_set 13 rfl) (Nat.le_of_ble_eq_true rfl) rfl ?_
    refine G_weak (L' := [some (.ref (ad v0)), some (.int v1), some (.int v2), some (.int s_3), some (.int 0), none, none]) ⟨rfl, ⟨rfl, ⟨rfl, ⟨rfl, ⟨rfl, trivial⟩⟩⟩⟩⟩ ?_
    refine s_L_set_L19  X hq hg_v0 (fun v3_13 h => ?_) _ _ _ h
    refine G_iload_n (pc := 91) 3 X (dg dt_L_set 63 rfl) rfl rfl ?_
    exact G_iretp (pc := 92) X hq (dg dt_L_set 64 rfl) h
  refine G_if_ge (pc := 3) 14 X (dg dt_L_set 3 rfl) (by decide) h (fun h => ?_) (fun h => ?_)
  · refine G_iconst (pc := 14) 0 X (dg dt_L_set 10 rfl) (by decide) ?_
    exact G_wk (hj15_2 0 h) ⟨rfl, ⟨rfl, ⟨rfl, trivial⟩⟩⟩
  · refine G_iconst (pc := 6) 1 X (dg dt_L_set 4 rfl) (by decide) ?_
    refine G_iload_n (pc := 7) 1 X (dg dt_L_set 5 rfl) rfl rfl ?_
    refine G_ishl (pc := 8) X (dg dt_L_set 6 rfl) ?_
    refine G_iconst (pc := 9) 1 X (dg dt_L_set 7 rfl) (by decide) ?_
    refine G_isub (pc := 10) X (dg dt_L_set 8 rfl) ?_
    refine G_goto (pc := 11) 15 X (dg dt_L_set 9 rfl) (by decide) ?_
    exact G_wk (hj15_2 ((1 <<< (v1 &&& 31)) - 1) h) ⟨rfl, ⟨rfl, ⟨rfl, trivial⟩⟩⟩
set_option maxRecDepth 100000 in
set_option maxHeartbeats 4000000 in
theorem s_L_forced_L34 {θ : Th} {ad : Nat → Nat}  {rv : Int32} (X : Cx θ [] cL_forced 8 "QuasigroveLaw" 1 26)
    {v0 : Nat} {v1 : Int32} {v2 : Int32} {v3 : Int32} {v4 : Int32} {σ : St} (hq : Rq θ (g_SH, ad) (some .int) (some (.int rv)) σ) (hg_v0 : aok v0) {kx92 : Int32 → Int32 → Option Int32} (hkx92 : ∀ (v5 : Int32) (v6 : Int32), kx92 v5 v6 = some rv → G θ (0, 0) (g_SH, ad) σ 92 [some (.ref (ad v0)), some (.int v1), some (.int v2), some (.int v3), some (.int v4), some (.int v5), some (.int v6), none] []) :
    ∀ (n : Nat) (v5 : Int32) (v6 : Int32) (v7 : Int32), f_L_forced_L34 v0 v1 v2 v3 v4 σ kx92 n v5 v6 v7 = some rv → G θ (0, 0) (g_SH, ad) σ 34 [some (.ref (ad v0)), some (.int v1), some (.int v2), some (.int v3), some (.int v4), some (.int v5), some (.int v6), some (.int v7)] [] := by
  intro n
  induction n with
  | zero => intro v5 v6 v7 h; rw [f_L_forced_L34] at h; cases h
  | succ n ih =>
    intro v5 v6 v7 h
    rw [f_L_forced_L34] at h
    refine G_iload (pc := 34) X (dg dt_L_forced 23 rfl) rfl ?_
    refine G_iload_n (pc := 36) 1 X (dg dt_L_forced 24 rfl) rfl rfl ?_
    refine G_icmp_ge (pc := 37) 92 X (dg dt_L_forced 25 rfl) (by decide) h (fun h => ?_) (fun h => ?_)
    · exact G_wk (hkx92 v5 v6 h) ⟨rfl, ⟨rfl, ⟨rfl, ⟨rfl, ⟨rfl, ⟨rfl, ⟨rfl, trivial⟩⟩⟩⟩⟩⟩⟩
    · refine G_iload (pc := 40) X (dg dt_L_forced 26 rfl) rfl ?_
      refine G_aload_n (pc := 42) 0 X (dg dt_L_forced 27 rfl) rfl rfl ?_
      refine G_iload_n (pc := 43) 1 X (dg dt_L_forced 28 rfl) rfl rfl ?_
      refine G_iload_n (pc := 44) 2 X (dg dt_L_forced 29 rfl) rfl rfl ?_
      refine G_iload_n (pc := 45) 1 X (dg dt_L_forced 30 rfl) rfl rfl ?_
      refine G_idiv (pc := 46) X (dg dt_L_forced 31 rfl) h (fun q_3 h => ?_)
      refine G_iload_n (pc := 47) 1 X (dg dt_L_forced 32 rfl) rfl rfl ?_
      refine G_imul (pc := 48) X (dg dt_L_forced 33 rfl) ?_
      refine G_iload (pc := 49) X (dg dt_L_forced 34 rfl) rfl ?_
      refine G_iadd (pc := 51) X (dg dt_L_forced 35 rfl) ?_
      obtain ⟨r_5, hc_4, h⟩ := cap_go h
      refine G_callS (pc := 52) (S := [.int v5]) [.ref (ad v0), .int v1, .int ((q_3 * v1) + v7)] nosub X  (dg dt_L_forced 36 rfl) cb_L_set w_509 w_508 (s_L_set _ ad _ _ _ _ hg_v0 hc_4) rfl ⟨Nat.le_of_ble_eq_true rfl, Nat.le_of_ble_eq_true rfl⟩  (Nat.le_of_ble_eq_true rfl) Rc0 ?_
      refine G_iload (pc := 55) X (dg dt_L_forced 37 rfl) rfl ?_
      refine G_ishr (pc := 57) X (dg dt_L_forced 38 rfl) ?_
      refine G_iconst (pc := 58) 1 X (dg dt_L_forced 39 rfl) (by decide) ?_
      refine G_iand (pc := 59) X (dg dt_L_forced 40 rfl) ?_
      refine G_iadd (pc := 60) X (dg dt_L_forced 41 rfl) ?_
      refine G_istore_lt (pc := 61) X (dg dt_L_forced 42 rfl) (Nat.le_of_ble_eq_true rfl) rfl h (fun v5_6 h => ?_)
      refine G_iload (pc := 63) X (dg dt_L_forced 43 rfl) rfl ?_
      refine G_aload_n (pc := 65) 0 X (dg dt_L_forced 44 rfl) rfl rfl ?_
      refine G_iload_n (pc := 66) 1 X (dg dt_L_forced 45 rfl) rfl rfl ?_
      refine G_iload_n (pc := 67) 1 X (dg dt_L_forced 46 rfl) rfl rfl ?_
      refine G_iload (pc := 68) X (dg dt_L_forced 47 rfl) rfl ?_
      refine G_imul (pc := 70) X (dg dt_L_forced 48 rfl) ?_
      refine G_iload_n (pc := 71) 2 X (dg dt_L_forced 49 rfl) rfl rfl ?_
      refine G_iload_n (pc := 72) 1 X (dg dt_L_forced 50 rfl) rfl rfl ?_
      refine G_irem (pc := 73) X (dg dt_L_forced 51 rfl) h (fun q_7 h => ?_)
      refine G_iadd (pc := 74) X (dg dt_L_forced 52 rfl) ?_
      obtain ⟨r_9, hc_8, h⟩ := cap_go h
      refine G_callS (pc := 75) (S := [.int v6]) [.ref (ad v0), .int v1, .int ((v1 * v7) + q_7)] nosub X  (dg dt_L_forced 53 rfl) cb_L_set w_509 w_508 (s_L_set _ ad _ _ _ _ hg_v0 hc_8) rfl ⟨Nat.le_of_ble_eq_true rfl, Nat.le_of_ble_eq_true rfl⟩  (Nat.le_of_ble_eq_true rfl) Rc0 ?_
      refine G_iload (pc := 78) X (dg dt_L_forced 54 rfl) rfl ?_
      refine G_ishr (pc := 80) X (dg dt_L_forced 55 rfl) ?_
      refine G_iconst (pc := 81) 1 X (dg dt_L_forced 56 rfl) (by decide) ?_
      refine G_iand (pc := 82) X (dg dt_L_forced 57 rfl) ?_
      refine G_iadd (pc := 83) X (dg dt_L_forced 58 rfl) ?_
      refine G_istore_lt (pc := 84) X (dg dt_L_forced 59 rfl) (Nat.le_of_ble_eq_true rfl) rfl h (fun v6_10 h => ?_)
      refine G_iinc (pc := 86) (v7 + 1) X (dg dt_L_forced 60 rfl) rfl (Nat.le_of_ble_eq_true rfl) rfl rfl ?_
      refine G_goto (pc := 89) 34 X (dg dt_L_forced 61 rfl) (by decide) ?_
      exact G_wk (ih v5_6 v6_10 (v7 + 1) h) ⟨rfl, ⟨rfl, ⟨rfl, ⟨rfl, ⟨rfl, ⟨rfl, ⟨rfl, ⟨rfl, trivial⟩⟩⟩⟩⟩⟩⟩⟩
set_option maxRecDepth 100000 in
set_option maxHeartbeats 4000000 in
theorem s_L_forced_L19 {θ : Th} {ad : Nat → Nat}  {rv : Int32} (X : Cx θ [] cL_forced 8 "QuasigroveLaw" 1 26)
    {v0 : Nat} {v1 : Int32} {v2 : Int32} {v3 : Int32} {σ : St} (hq : Rq θ (g_SH, ad) (some .int) (some (.int rv)) σ) (hg_v0 : aok v0) {kx122 : Int32 → Option Int32} (hkx122 : ∀ (v4 : Int32), kx122 v4 = some rv → G θ (0, 0) (g_SH, ad) σ 122 [none, none, some (.int v2), none, some (.int v4), none, none, none] []) {kx136 : Option Int32} (hkx136 : kx136 = some rv → G θ (0, 0) (g_SH, ad) σ 136 [some (.ref (ad v0)), some (.int v1), some (.int v2), none, none, none, none, none] []) :
    ∀ (n : Nat) (v4 : Int32), f_L_forced_L19 v0 v1 v2 v3 σ kx122 kx136 n v4 = some rv → G θ (0, 0) (g_SH, ad) σ 19 [some (.ref (ad v0)), some (.int v1), some (.int v2), some (.int v3), some (.int v4), none, none, none] [] := by
  intro n
  induction n with
  | zero => intro v4 h; rw [f_L_forced_L19] at h; cases h
  | succ n ih =>
    intro v4 h
    rw [f_L_forced_L19] at h
    refine G_iload (pc := 19) X (dg dt_L_forced 14 rfl) rfl ?_
    refine G_iload_n (pc := 21) 1 X (dg dt_L_forced 15 rfl) rfl rfl ?_
    refine G_icmp_ge (pc := 22) 136 X (dg dt_L_forced 16 rfl) (by decide) h (fun h => ?_) (fun h => ?_)
    · exact G_wk (hkx136  h) ⟨rfl, ⟨rfl, ⟨rfl, trivial⟩⟩⟩
    · refine G_iconst (pc := 25) 0 X (dg dt_L_forced 17 rfl) (by decide) ?_
      refine G_istore (pc := 26) X (dg dt_L_forced 18 rfl) (Nat.le_of_ble_eq_true rfl) rfl ?_
      refine G_iconst (pc := 28) 0 X (dg dt_L_forced 19 rfl) (by decide) ?_
      refine G_istore (pc := 29) X (dg dt_L_forced 20 rfl) (Nat.le_of_ble_eq_true rfl) rfl ?_
      refine G_iconst (pc := 31) 0 X (dg dt_L_forced 21 rfl) (by decide) ?_
      refine G_istore (pc := 32) X (dg dt_L_forced 22 rfl) (Nat.le_of_ble_eq_true rfl) rfl ?_
      refine G_weak (L' := [some (.ref (ad v0)), some (.int v1), some (.int v2), some (.int v3), some (.int v4), some (.int 0), some (.int 0), some (.int 0)]) ⟨rfl, ⟨rfl, ⟨rfl, ⟨rfl, ⟨rfl, ⟨rfl, ⟨rfl, ⟨rfl, trivial⟩⟩⟩⟩⟩⟩⟩⟩ ?_
      refine s_L_forced_L34  X hq hg_v0 (fun v5_11 v6_12 h => ?_) _ _ _ _ h
      refine G_iload_n (pc := 92) 3 X (dg dt_L_forced 62 rfl) rfl rfl ?_
      refine G_iload (pc := 93) X (dg dt_L_forced 63 rfl) rfl ?_
      refine G_ishr (pc := 95) X (dg dt_L_forced 64 rfl) ?_
      refine G_iconst (pc := 96) 1 X (dg dt_L_forced 65 rfl) (by decide) ?_
      refine G_iand (pc := 97) X (dg dt_L_forced 66 rfl) ?_
      refine G_iconst (pc := 98) 1 X (dg dt_L_forced 67 rfl) (by decide) ?_
      refine jn_go (fun j130_13 => j130_13 = some rv → G θ (0, 0) (g_SH, ad) σ 130 [some (.ref (ad v0)), some (.int v1), some (.int v2), some (.int v3), some (.int v4), none, none, none] []) h ?_ (fun j130_13 hj130_13 h => ?_)
      · intro  h
        refine G_iinc (pc := 130) (v4 + 1) X (dg dt_L_forced 86 rfl) rfl (Nat.le_of_ble_eq_true rfl) rfl rfl ?_
        refine G_goto (pc := 133) 19 X (dg dt_L_forced 87 rfl) (by decide) ?_
        exact G_wk (ih (v4 + 1) h) ⟨rfl, ⟨rfl, ⟨rfl, ⟨rfl, ⟨rfl, trivial⟩⟩⟩⟩⟩
      refine G_icmp_ne (pc := 99) 130 X (dg dt_L_forced 68 rfl) (by decide) h (fun h => ?_) (fun h => ?_)
      · exact G_wk (hj130_13  h) ⟨rfl, ⟨rfl, ⟨rfl, ⟨rfl, ⟨rfl, trivial⟩⟩⟩⟩⟩
      · refine G_iload_n (pc := 102) 3 X (dg dt_L_forced 69 rfl) rfl rfl ?_
        refine G_iconst (pc := 103) 1 X (dg dt_L_forced 70 rfl) (by decide) ?_
        refine G_iload (pc := 104) X (dg dt_L_forced 71 rfl) rfl ?_
        refine G_ishl (pc := 106) X (dg dt_L_forced 72 rfl) ?_
        refine G_icmp_eq (pc := 107) 122 X (dg dt_L_forced 73 rfl) (by decide) h (fun h => ?_) (fun h => ?_)
        · exact G_wk (hkx122 v4 h) ⟨rfl, ⟨rfl, trivial⟩⟩
        · refine G_iload (pc := 110) X (dg dt_L_forced 74 rfl) rfl ?_
          refine G_iconst (pc := 112) 1 X (dg dt_L_forced 75 rfl) (by decide) ?_
          refine G_icmp_eq (pc := 113) 122 X (dg dt_L_forced 76 rfl) (by decide) h (fun h => ?_) (fun h => ?_)
          · exact G_wk (hkx122 v4 h) ⟨rfl, ⟨rfl, trivial⟩⟩
          · refine G_iload (pc := 116) X (dg dt_L_forced 77 rfl) rfl ?_
            refine G_iconst (pc := 118) 1 X (dg dt_L_forced 78 rfl) (by decide) ?_
            refine G_icmp_ne (pc := 119) 130 X (dg dt_L_forced 79 rfl) (by decide) h (fun h => ?_) (fun h => ?_)
            · exact G_wk (hj130_13  h) ⟨rfl, ⟨rfl, ⟨rfl, ⟨rfl, ⟨rfl, trivial⟩⟩⟩⟩⟩
            · exact G_wk (hkx122 v4 h) ⟨rfl, ⟨rfl, trivial⟩⟩
set_option maxRecDepth 100000 in
set_option maxHeartbeats 4000000 in
theorem s_L_forced_L2 {θ : Th} {ad : Nat → Nat}  {rv : Int32} (X : Cx θ [] cL_forced 8 "QuasigroveLaw" 1 26)
    {v0 : Nat} {v1 : Int32} {σ : St} (hq : Rq θ (g_SH, ad) (some .int) (some (.int rv)) σ) (hg_v0 : aok v0) {kx122 : Int32 → Int32 → Option Int32} (hkx122 : ∀ (v2 : Int32) (v4 : Int32), kx122 v2 v4 = some rv → G θ (0, 0) (g_SH, ad) σ 122 [none, none, some (.int v2), none, some (.int v4), none, none, none] []) :
    ∀ (n : Nat) (v2 : Int32), f_L_forced_L2 v0 v1 σ kx122 n v2 = some rv → G θ (0, 0) (g_SH, ad) σ 2 [some (.ref (ad v0)), some (.int v1), some (.int v2), none, none, none, none, none] [] := by
  intro n
  induction n with
  | zero => intro v2 h; rw [f_L_forced_L2] at h; cases h
  | succ n ih =>
    intro v2 h
    rw [f_L_forced_L2] at h
    refine G_iload_n (pc := 2) 2 X (dg dt_L_forced 2 rfl) rfl rfl ?_
    refine G_iload_n (pc := 3) 1 X (dg dt_L_forced 3 rfl) rfl rfl ?_
    refine G_iload_n (pc := 4) 1 X (dg dt_L_forced 4 rfl) rfl rfl ?_
    refine G_imul (pc := 5) X (dg dt_L_forced 5 rfl) ?_
    refine G_icmp_ge (pc := 6) 142 X (dg dt_L_forced 6 rfl) (by decide) h (fun h => ?_) (fun h => ?_)
    · refine G_iconst (pc := 142) (-1) X (dg dt_L_forced 90 rfl) (by decide) ?_
      exact G_iretp (pc := 143) X hq (dg dt_L_forced 91 rfl) h
    · refine G_aload_n (pc := 9) 0 X (dg dt_L_forced 7 rfl) rfl rfl ?_
      refine G_iload_n (pc := 10) 1 X (dg dt_L_forced 8 rfl) rfl rfl ?_
      refine G_iload_n (pc := 11) 2 X (dg dt_L_forced 9 rfl) rfl rfl ?_
      obtain ⟨r_2, hc_1, h⟩ := cap_go h
      refine G_callS (pc := 12) (S := []) [.ref (ad v0), .int v1, .int v2] nosub X  (dg dt_L_forced 10 rfl) cb_L_set w_509 w_508 (s_L_set _ ad _ _ _ _ hg_v0 hc_1) rfl ⟨Nat.le_of_ble_eq_true rfl, Nat.le_of_ble_eq_true rfl⟩  (Nat.le_of_ble_eq_true rfl) Rc0 ?_
      refine G_istore_n (pc := 15) 3 X (dg dt_L_forced 11 rfl) rfl (Nat.le_of_ble_eq_true rfl) rfl ?_
      refine G_iconst (pc := 16) 0 X (dg dt_L_forced 12 rfl) (by decide) ?_
      refine G_istore (pc := 17) X (dg dt_L_forced 13 rfl) (Nat.le_of_ble_eq_true rfl) rfl ?_
      refine G_weak (L' := [some (.ref (ad v0)), some (.int v1), some (.int v2), some (.int r_2), some (.int 0), none, none, none]) ⟨rfl, ⟨rfl, ⟨rfl, ⟨rfl, ⟨rfl, trivial⟩⟩⟩⟩⟩ ?_
      refine s_L_forced_L19  X hq hg_v0 (fun v4_14 h => ?_) (fun h => ?_) _ _ h
      · exact G_wk (hkx122 v2 v4_14 h) ⟨rfl, ⟨rfl, trivial⟩⟩
      · refine G_iinc (pc := 136) (v2 + 1) X (dg dt_L_forced 88 rfl) rfl (Nat.le_of_ble_eq_true rfl) rfl rfl ?_
        refine G_goto (pc := 139) 2 X (dg dt_L_forced 89 rfl) (by decide) ?_
        exact G_wk (ih (v2 + 1) h) ⟨rfl, ⟨rfl, ⟨rfl, trivial⟩⟩⟩
set_option maxRecDepth 100000 in
set_option maxHeartbeats 4000000 in
theorem s_L_forced (l : Launch) (ad : Nat → Nat) (σ : St) (v0 : Nat) (v1 : Int32) (hg_v0 : aok v0) {rv : Int32} (h : f_L_forced σ v0 v1 = some rv) : Rt l [] yL_forced cL_forced 8 (some .int) 1 26 (g_SH, ad) [.ref (ad v0), .int v1] σ (some (.int rv)) σ := by
  refine Rt.intro (L := [some (.ref (ad v0)), some (.int v1), none, none, none, none, none, none]) (by decide +kernel) (Nat.le_of_ble_eq_true rfl) rfl (fun θ hl X hq => ?_)
  subst hl
  unfold f_L_forced at h
  refine G_iconst (pc := 0) 0 X (dg dt_L_forced 0 rfl) (by decide) ?_
  refine G_istore_n (pc := 1) 2 X (dg dt_L_forced 1 rfl) rfl (Nat.le_of_ble_eq_true rfl) rfl ?_
  refine G_weak (L' := [some (.ref (ad v0)), some (.int v1), some (.int 0), none, none, none, none, none]) ⟨rfl, ⟨rfl, ⟨rfl, trivial⟩⟩⟩ ?_
  refine s_L_forced_L2  X hq hg_v0 (fun v2_15 v4_16 h => ?_) _ _ h
  refine G_bipush (pc := 122) 10 X (dg dt_L_forced 80 rfl) (by decide) ?_
  refine G_iload_n (pc := 124) 2 X (dg dt_L_forced 81 rfl) rfl rfl ?_
  refine G_imul (pc := 125) X (dg dt_L_forced 82 rfl) ?_
  refine G_iload (pc := 126) X (dg dt_L_forced 83 rfl) rfl ?_
  refine G_iadd (pc := 128) X (dg dt_L_forced 84 rfl) ?_
  exact G_iretp (pc := 129) X hq (dg dt_L_forced 85 rfl) h
set_option maxRecDepth 100000 in
set_option maxHeartbeats 4000000 in
theorem s_L_told {l : Launch} (htr : l.stackTraces = false) (_ : Unit) (ad : Nat → Nat) (σ : St) (v1 : Int32) (v2 : Int32) (v3 : Int32) (v4 : Int32) (v5 : Int32)  {rv : Except Nat Int32} {σe : St} (h : f_L_told σ v1 v2 v3 v4 v5 = some (rv, σe)) : RX l g_strs yL_told cL_told 6 (some .int) 8 148 (g_SH, ad) [.ref (ad 0), .int v1, .int v2, .int v3, .int v4, .int v5] σ (xi rv) σe := by
  refine RX.intro htr (L := [some (.ref (ad 0)), some (.int v1), some (.int v2), some (.int v3), some (.int v4), some (.int v5)]) (by decide +kernel) (Nat.le_of_ble_eq_true rfl) rfl (fun θ hl X hq => ?_)
  subst hl
  unfold f_L_told at h
  refine G_iload_n (pc := 0) 1 X (dg dt_L_told 0 rfl) rfl rfl ?_
  refine G_if_ne (pc := 1) 17 X (dg dt_L_told 1 rfl) (by decide) h (fun h => ?_) (fun h => ?_)
  · refine G_aload_n (pc := 17) 0 X (dg dt_L_told 9 rfl) rfl rfl ?_
    refine G_iload_n (pc := 18) 2 X (dg dt_L_told 10 rfl) rfl rfl ?_
    refine G_iload_n (pc := 19) 3 X (dg dt_L_told 11 rfl) rfl rfl ?_
    refine G_iload (pc := 20) X (dg dt_L_told 12 rfl) rfl ?_
    refine G_iload (pc := 22) X (dg dt_L_told 13 rfl) rfl ?_
    refine cax_go h (fun ex hc_1 hex => by subst hex; exact G_callVX (pc := 24) (S := []) [.int v2, .int v3, .int v4, .int v5] (fun _ h => h) X hq (dg dt_L_told 14 rfl) cb_Q_turn cv_Q_turn w_488 (s_Q_turn htr () ad _ _ _ _ _ hc_1) rfl ⟨Nat.le_of_ble_eq_true rfl, Nat.le_of_ble_eq_true rfl⟩ sh_0 rfl (Nat.le_of_ble_eq_true rfl)) (fun r_2 σ_3 hc_1 h => ?_)
    refine G_callV (pc := 24) (S := []) [.int v2, .int v3, .int v4, .int v5] (fun _ h => h) X  (dg dt_L_told 14 rfl) cb_Q_turn cv_Q_turn w_488 (s_Q_turn htr () ad _ _ _ _ _ hc_1) rfl ⟨Nat.le_of_ble_eq_true rfl, Nat.le_of_ble_eq_true rfl⟩ sh_0 rfl (Nat.le_of_ble_eq_true rfl) Rc0 ?_
    exact G_xiret (pc := 27) X hq (dg dt_L_told 15 rfl) h
  · refine G_aload_n (pc := 4) 0 X (dg dt_L_told 2 rfl) rfl rfl ?_
    refine G_iload_n (pc := 5) 2 X (dg dt_L_told 3 rfl) rfl rfl ?_
    refine G_iload_n (pc := 6) 3 X (dg dt_L_told 4 rfl) rfl rfl ?_
    refine G_iload (pc := 7) X (dg dt_L_told 5 rfl) rfl ?_
    refine G_iload (pc := 9) X (dg dt_L_told 6 rfl) rfl ?_
    refine cax_go h (fun ex hc_4 hex => by subst hex; exact G_callVX (pc := 11) (S := []) [.int v2, .int v3, .int v4, .int v5] (fun _ h => h) X hq (dg dt_L_told 7 rfl) cb_Q_put cv_Q_put w_475 (s_Q_put htr () ad _ _ _ _ _ hc_4) rfl ⟨Nat.le_of_ble_eq_true rfl, Nat.le_of_ble_eq_true rfl⟩ sh_0 rfl (Nat.le_of_ble_eq_true rfl)) (fun r_5 σ_6 hc_4 h => ?_)
    refine G_callV (pc := 11) (S := []) [.int v2, .int v3, .int v4, .int v5] (fun _ h => h) X  (dg dt_L_told 7 rfl) cb_Q_put cv_Q_put w_475 (s_Q_put htr () ad _ _ _ _ _ hc_4) rfl ⟨Nat.le_of_ble_eq_true rfl, Nat.le_of_ble_eq_true rfl⟩ sh_0 rfl (Nat.le_of_ble_eq_true rfl) Rc0 ?_
    refine G_goto (pc := 14) 27 X (dg dt_L_told 8 rfl) (by decide) ?_
    exact G_xiret (pc := 27) X hq (dg dt_L_told 15 rfl) h
set_option maxRecDepth 100000 in
set_option maxHeartbeats 4000000 in
theorem s_L_up (l : Launch) (ad : Nat → Nat) (σ : St) (v0 : Int32) (v1 : Int32)  {rv : Int32} (h : f_L_up σ v0 v1 = some rv) : Rt l [] yL_up cL_up 2 (some .int) 0 0 (g_SH, ad) [.int v0, .int v1] σ (some (.int rv)) σ := by
  refine Rt.intro (L := [some (.int v0), some (.int v1)]) (by decide +kernel) (Nat.le_of_ble_eq_true rfl) rfl (fun θ hl X hq => ?_)
  subst hl
  unfold f_L_up at h
  refine G_iload_n (pc := 0) 0 X (dg dt_L_up 0 rfl) rfl rfl ?_
  refine G_iconst (pc := 1) 2 X (dg dt_L_up 1 rfl) (by decide) ?_
  refine G_iushr (pc := 2) X (dg dt_L_up 2 rfl) ?_
  refine G_iload_n (pc := 3) 1 X (dg dt_L_up 3 rfl) rfl rfl ?_
  refine G_irem (pc := 4) X (dg dt_L_up 4 rfl) h (fun q_1 h => ?_)
  exact G_iretp (pc := 5) X hq (dg dt_L_up 5 rfl) h
