/-! the law's own methods that read the script or catch -/
theorem w_226 : Cond.castable "java/lang/IllegalArgumentException" "java/lang/IllegalArgumentException" ∈ g_NW := g_memN (i := 226) (by decide +kernel) rfl
theorem w_298 : Cond.castable "java/lang/IllegalStateException" "java/lang/IllegalStateException" ∈ g_NW := g_memN (i := 298) (by decide +kernel) rfl
theorem w_466 : Cond.code yL_cell cL_cell 2 (some .int) ∈ g_GW := g_mem (i := 466) (by decide +kernel) rfl
theorem w_468 : Cond.static yL_act ∈ g_GW := g_mem (i := 468) (by decide +kernel) rfl
theorem w_469 : Cond.codeWith yL_act cL_act 7 (some .int) [(0, 11, 12, 22), (0, 11, 18, 24)] ∈ g_GW := g_mem (i := 469) (by decide +kernel) rfl
theorem w_470 : Cond.classLink "QuasigroveLaw" 22 "java/lang/IllegalArgumentException" ∈ g_GW := g_mem (i := 470) (by decide +kernel) rfl
theorem w_471 : Cond.classLink "QuasigroveLaw" 24 "java/lang/IllegalStateException" ∈ g_GW := g_mem (i := 471) (by decide +kernel) rfl
theorem w_472 : Cond.methodLink "QuasigroveLaw" 16 yL_told ∈ g_GW := g_mem (i := 472) (by decide +kernel) rfl
def tb_L_cell : List (Nat × Instr × Nat) := [(0, .aload_n 0, 1), (1, .arraylength, 1), (2, .ifCond .ne 7, 3), (5, .iconst 0, 1), (6, .goto 14, 3), (9, .aload_n 0, 1), (10, .iload_n 1, 1), (11, .aload_n 0, 1), (12, .arraylength, 1), (13, .irem, 1), (14, .iaload, 1), (15, .bipush 31, 2), (17, .iload_n 1, 1), (18, .imul, 1), (19, .iadd, 1), (20, .ireturn, 1)]
theorem dt_L_cell : decAll cL_cell tb_L_cell := by unfold decAll tb_L_cell; decide +kernel
def tb_L_act : List (Nat × Instr × Nat) := [(0, .aload_n 0, 1), (1, .iload_n 1, 1), (2, .iload_n 2, 1), (3, .iload_n 3, 1), (4, .iload 4, 2), (6, .iload 5, 2), (8, .invokestatic 16, 3), (11, .ireturn, 1), (12, .astore 6, 2), (14, .sipush (-1002), 3), (17, .ireturn, 1), (18, .astore 6, 2), (20, .sipush (-1003), 3), (23, .ireturn, 1)]
theorem dt_L_act : decAll cL_act tb_L_act := by unfold decAll tb_L_act; decide +kernel
theorem cb_L_cell : CBd yL_cell cL_cell 2 (some .int) 2 := ⟨w_466, w_6, by decide +kernel, by decide +kernel, by decide +kernel⟩
def f_L_cell (n : Nat) (xs : Nat → Int32) (v1 : Int32) : Option Int32 :=
  if Int32.ofNat n = 0 then some 0
  else rmi v1 (Int32.ofNat n) fun q =>
    if inb q n = true then some (xs (ix q) + 31 * v1) else none

set_option maxRecDepth 100000 in
set_option maxHeartbeats 4000000 in
theorem s_L_cell (l : Launch) (ad : Nat → Nat) (σ : St) (b n : Nat) (xs : Nat → Int32) (v1 : Int32) {rv : Int32} (h : f_L_cell n xs v1 = some rv) : RtS l yL_cell cL_cell 2 0 0 (g_SH, ad) [.ref b, .int v1] σ b n xs rv := by
  refine RtS.intro (L := [some (.ref b), some (.int v1)]) (by decide +kernel) (Nat.le_of_ble_eq_true rfl) rfl (fun θ hl X hS9 hq => ?_)
  unfold f_L_cell at h
  refine G_aload_n (pc := 0) 0 X (dg dt_L_cell 0 rfl) rfl rfl ?_
  refine G_slen (pc := 1) X hS9 (dg dt_L_cell 1 rfl) ?_
  refine G_if_ne (pc := 2) 9 X (dg dt_L_cell 2 rfl) (by decide) h (fun h => ?_) (fun h => ?_)
  · refine G_aload_n (pc := 9) 0 X (dg dt_L_cell 5 rfl) rfl rfl ?_
    refine G_iload_n (pc := 10) 1 X (dg dt_L_cell 6 rfl) rfl rfl ?_
    refine G_aload_n (pc := 11) 0 X (dg dt_L_cell 7 rfl) rfl rfl ?_
    refine G_slen (pc := 12) X hS9 (dg dt_L_cell 8 rfl) ?_
    refine G_irem (pc := 13) X (dg dt_L_cell 9 rfl) h (fun q h => ?_)
    by_cases hin : inb q n = true
    · rw [if_pos hin] at h
      refine G_sld (pc := 14) X hS9 (dg dt_L_cell 10 rfl) hin ?_
      refine G_bipush (pc := 15) 31 X (dg dt_L_cell 11 rfl) (by decide) ?_
      refine G_iload_n (pc := 17) 1 X (dg dt_L_cell 12 rfl) rfl rfl ?_
      refine G_imul (pc := 18) X (dg dt_L_cell 13 rfl) ?_
      refine G_iadd (pc := 19) X (dg dt_L_cell 14 rfl) ?_
      exact G_iretp (pc := 20) X hq (dg dt_L_cell 15 rfl) h
    · rw [if_neg hin] at h
      cases h
  · refine G_iconst (pc := 5) 0 X (dg dt_L_cell 3 rfl) (by decide) ?_
    refine G_goto (pc := 6) 20 X (dg dt_L_cell 4 rfl) (by decide) ?_
    exact G_iretp (pc := 20) X hq (dg dt_L_cell 15 rfl) h

def f_L_act (σ : St) (v1 : Int32) (v2 : Int32) (v3 : Int32) (v4 : Int32) (v5 : Int32) : Option (Int32 × St) := match f_L_told σ v1 v2 v3 v4 v5 with
  | some (.ok v, σ1) => some (v, σ1)
  | some (.error 2, σ1) => some (-1002, σ1)
  | some (.error 3, σ1) => some (-1003, σ1)
  | _ => none

set_option maxRecDepth 100000 in
set_option maxHeartbeats 4000000 in
theorem s_L_act {l : Launch} (htr : l.stackTraces = false) (ad : Nat → Nat) (σ : St) (v1 : Int32) (v2 : Int32) (v3 : Int32) (v4 : Int32) (v5 : Int32) {k : Int32} {σe : St} (h : f_L_act σ v1 v2 v3 v4 v5 = some (k, σe)) : RtW l yL_act cL_act 7 [(0, 11, 12, 22), (0, 11, 18, 24)] 9 173 (g_SH, ad) [.ref (ad 0), .int v1, .int v2, .int v3, .int v4, .int v5] σ k σe := by
  refine RtW.intro (L := [some (.ref (ad 0)), some (.int v1), some (.int v2), some (.int v3), some (.int v4), some (.int v5), none]) (by decide +kernel) (Nat.le_of_ble_eq_true rfl) rfl (fun θ hl X hq => ?_)
  subst hl
  unfold f_L_act at h
  refine G_aload_n (pc := 0) 0 X (dg dt_L_act 0 rfl) rfl rfl ?_
  refine G_iload_n (pc := 1) 1 X (dg dt_L_act 1 rfl) rfl rfl ?_
  refine G_iload_n (pc := 2) 2 X (dg dt_L_act 2 rfl) rfl rfl ?_
  refine G_iload_n (pc := 3) 3 X (dg dt_L_act 3 rfl) rfl rfl ?_
  refine G_iload (pc := 4) X (dg dt_L_act 4 rfl) rfl ?_
  refine G_iload (pc := 6) X (dg dt_L_act 5 rfl) rfl ?_
  generalize hf : f_L_told σ v1 v2 v3 v4 v5 = o at h
  match o, hf, h with
  | none, hf, h => cases h
  | some (.ok v, σ1), hf, h =>
    cases h
    refine G_callS (pc := 8) (S := []) [.ref (ad 0), .int v1, .int v2, .int v3, .int v4, .int v5] (fun _ h => h) X (dg dt_L_act 6 rfl) cb_L_told w_473 w_472 (s_L_told htr () ad _ _ _ _ _ _ hf) rfl ⟨Nat.le_of_ble_eq_true rfl, Nat.le_of_ble_eq_true rfl⟩ (Nat.le_of_ble_eq_true rfl) Rc0 ?_
    exact G_wret (pc := 11) (cs := (0, 0)) X hq (dg dt_L_act 7 rfl) (by decide) rfl
  | some (.error e, σ1), hf, h =>
    match e, hf, h with
    | 0, hf, h => cases h
    | 1, hf, h => cases h
    | 2, hf, h =>
      cases h
      refine G_callSC (pc := 8) (S := []) (e := 2) [.ref (ad 0), .int v1, .int v2, .int v3, .int v4, .int v5] [] (0, 11, 12, 22) [(0, 11, 18, 24)] X hq (dg dt_L_act 6 rfl) cb_L_told w_473 w_472 (s_L_told htr () ad _ _ _ _ _ _ hf) rfl ⟨Nat.le_of_ble_eq_true rfl, Nat.le_of_ble_eq_true rfl⟩ (Nat.le_of_ble_eq_true rfl) rfl (fun _ h => absurd h List.not_mem_nil) (by decide) (by decide) w_470 w_226 (fun q => ?_)
      refine G_astore (pc := 12) X (dg dt_L_act 8 rfl) (Nat.le_of_ble_eq_true rfl) rfl ?_
      refine G_sipush (pc := 14) (-1002) X (dg dt_L_act 9 rfl) (by decide) ?_
      exact G_wret (pc := 17) (cs := (1, 6)) X hq (dg dt_L_act 10 rfl) (by decide) rfl
    | 3, hf, h =>
      cases h
      refine G_callSC (pc := 8) (S := []) (e := 3) [.ref (ad 0), .int v1, .int v2, .int v3, .int v4, .int v5] [(0, 11, 12, 22)] (0, 11, 18, 24) [] X hq (dg dt_L_act 6 rfl) cb_L_told w_473 w_472 (s_L_told htr () ad _ _ _ _ _ _ hf) rfl ⟨Nat.le_of_ble_eq_true rfl, Nat.le_of_ble_eq_true rfl⟩ (Nat.le_of_ble_eq_true rfl) rfl (List.forall_mem_cons.mpr ⟨⟨_, by decide, w_470, fun U h => h⟩, (fun _ h => absurd h List.not_mem_nil)⟩) (by decide) (by decide) w_471 w_298 (fun q => ?_)
      refine G_astore (pc := 18) X (dg dt_L_act 11 rfl) (Nat.le_of_ble_eq_true rfl) rfl ?_
      refine G_sipush (pc := 20) (-1003) X (dg dt_L_act 12 rfl) (by decide) ?_
      exact G_wret (pc := 23) (cs := (1, 6)) X hq (dg dt_L_act 13 rfl) (by decide) rfl
    | n + 4, hf, h => cases h
