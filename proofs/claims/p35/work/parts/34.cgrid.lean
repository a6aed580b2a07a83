/-! the constructor of a grid, wherever it lies in the table -/
def gridAfter (SH : List Shp) (k : Nat) : List Shp :=
  (((((SH ++ [Sum.inr (Sum.inl (0, 25))] : List Shp).set k (Sum.inl (0, [some (some SH.length), some none, some none, none, none]))) ++ [Sum.inr (Sum.inl (0, 5))]).set k (Sum.inl (0, [some (some SH.length), some (some (SH.length + 1)), some none, none, none]))) ++ [Sum.inr (Sum.inl (0, 5))]).set k (Sum.inl (0, [some (some SH.length), some (some (SH.length + 1)), some (some (SH.length + 2)), none, none]))
theorem gs_at {SH : List Shp} {k : Nat} {x y : Shp} (h : k < SH.length) : ((SH.set k x) ++ [y])[k]? = some x := by
  rw [List.getElem?_append_left (by simpa using h)]
  simp [h]
set_option maxRecDepth 100000 in
set_option maxHeartbeats 8000000 in
theorem s_C_Grid (l : Launch) {SH : List Shp} {k : Nat} {σ : St} (hs : SH[k]? = some (.inl (0, [some none, some none, some none, none, none]))) (hr : g_rb SH SH.length = true) (hz : ∀ m j, SH.length ≤ m → σ m j = 0) : RtC false l [] yX2_init cX2_init 1 1 20 3 35 SH (fun ad => [.ref (ad k)]) σ (gridAfter SH k) (wr (wr σ k 3 2) k 4 0) := by
  have hk : k < SH.length := (List.getElem?_eq_some_iff.mp hs).1
  refine RtC.intro (L := fun ad => [some (.ref (ad k))]) (by decide +kernel) rfl (fun _ => Nat.le_of_ble_eq_true rfl) (fun _ => rfl) (fun ad0 θ hl X hI hR hq _ => ?_)
  subst hl
  refine G_aload_n (pc := 0) 0 X (dg dt_C_Grid 0 rfl) rfl rfl ?_
  refine G_objInit (pc := 1) X (dg dt_C_Grid 1 rfl) w_38 w_30 w_31 (Nat.le_of_ble_eq_true rfl) (Nat.le_of_ble_eq_true rfl) ?_
  refine G_aload_n (pc := 4) 0 X (dg dt_C_Grid 2 rfl) rfl rfl ?_
  refine G_bipush (pc := 5) 25 X (dg dt_C_Grid 3 rfl) (by decide) ?_
  refine G_newa (pc := 7) (N := 25) X (dg dt_C_Grid 4 rfl) w_58 rfl (Or.inl ⟨rfl, rfl⟩) (by decide) (by decide) (by decide) hr (fun j => hz _ j (Nat.le_refl _)) (Rm_of hR (Nat.le_of_ble_eq_true rfl) (Nat.le_of_ble_eq_true rfl)) (fun ad1 q1 ag1 e1 => ?_)
  have hl1 : (SH ++ [Sum.inr (Sum.inl (0, 25))] : List Shp).length = SH.length + 1 := by simp
  have hk1 : (SH ++ [Sum.inr (Sum.inl (0, 25))] : List Shp)[k]? = some (.inl (0, [some none, some none, some none, none, none])) := by rw [List.getElem?_append_left hk]; exact hs
  have r1 : g_rb (SH ++ [Sum.inr (Sum.inl (0, 25))] : List Shp) (SH.length + 1) = true := g_rb_app hr rfl (Nat.le_succ _)
  refine G_putR (pc := 9) (k := k) (t := SH.length) 0 X hI (dg dt_C_Grid 5 rfl) fc_0 w_39 rfl rfl (Nat.le_of_ble_eq_true rfl) rfl (Or.inr ⟨_, rfl⟩) hk1 rfl (ag1 k hk) e1 ?_
  refine G_aload_n (pc := 12) 0 X (dg dt_C_Grid 6 rfl) rfl rfl ?_
  refine G_iconst (pc := 13) 5 X (dg dt_C_Grid 7 rfl) (by decide) ?_
  have r2 : g_rb ((SH ++ [Sum.inr (Sum.inl (0, 25))] : List Shp).set k (.inl (0, [some (some SH.length), some none, some none, none, none]))) (SH.length + 1) = true := g_rb_set r1 (by simp [g_rb])
  have hl2 : ((SH ++ [Sum.inr (Sum.inl (0, 25))] : List Shp).set k (.inl (0, [some (some SH.length), some none, some none, none, none]))).length = SH.length + 1 := by simp
  refine G_newa (pc := 14) (N := 5) X (dg dt_C_Grid 8 rfl) w_58 rfl (Or.inl ⟨rfl, rfl⟩) (by decide) (by decide) (by decide) (g_rb_mono r2 (Nat.le_of_eq hl2.symm)) (fun j => hz _ j (Nat.le_trans (Nat.le_succ _) (Nat.le_of_eq hl2.symm))) (Rm_of hR (Nat.le_of_ble_eq_true rfl) (Nat.le_of_ble_eq_true rfl)) (fun ad2 q2 ag2 e2 => ?_)
  have ag2 : ∀ i, i < SH.length + 1 → ad2 i = ad1 i := fun i hi => ag2 i (Nat.lt_of_lt_of_eq hi hl2.symm)
  have e2 : ad2 (SH.length + 1) = q2 := by rw [← hl2]; exact e2
  have hk2 : (((SH ++ [Sum.inr (Sum.inl (0, 25))] : List Shp).set k (.inl (0, [some (some SH.length), some none, some none, none, none]))) ++ [Sum.inr (Sum.inl (0, 5))])[k]? = some (.inl (0, [some (some SH.length), some none, some none, none, none])) := gs_at (by rw [hl1]; omega)
  have r3 : g_rb (((SH ++ [Sum.inr (Sum.inl (0, 25))] : List Shp).set k (.inl (0, [some (some SH.length), some none, some none, none, none]))) ++ [Sum.inr (Sum.inl (0, 5))]) (SH.length + 2) = true := g_rb_app r2 rfl (Nat.le_succ _)
  refine G_putR (pc := 16) (k := k) (t := SH.length + 1) 1 X hI (dg dt_C_Grid 9 rfl) fc_0 w_40 rfl rfl (Nat.le_of_ble_eq_true rfl) rfl (Or.inr ⟨_, rfl⟩) hk2 rfl ((ag2 k (by omega)).trans (ag1 k hk)) e2 ?_
  refine G_aload_n (pc := 19) 0 X (dg dt_C_Grid 10 rfl) rfl rfl ?_
  refine G_iconst (pc := 20) 5 X (dg dt_C_Grid 11 rfl) (by decide) ?_
  have r4 : g_rb ((((SH ++ [Sum.inr (Sum.inl (0, 25))] : List Shp).set k (.inl (0, [some (some SH.length), some none, some none, none, none]))) ++ [Sum.inr (Sum.inl (0, 5))]).set k (.inl (0, [some (some SH.length), some (some (SH.length + 1)), some none, none, none]))) (SH.length + 2) = true := g_rb_set r3 (by simp [g_rb])
  have hl4 : ((((SH ++ [Sum.inr (Sum.inl (0, 25))] : List Shp).set k (.inl (0, [some (some SH.length), some none, some none, none, none]))) ++ [Sum.inr (Sum.inl (0, 5))]).set k (.inl (0, [some (some SH.length), some (some (SH.length + 1)), some none, none, none]))).length = SH.length + 2 := by simp
  refine G_newa (pc := 21) (N := 5) X (dg dt_C_Grid 12 rfl) w_58 rfl (Or.inl ⟨rfl, rfl⟩) (by decide) (by decide) (by decide) (g_rb_mono r4 (Nat.le_of_eq hl4.symm)) (fun j => hz _ j (Nat.le_trans (Nat.le_add_right _ 2) (Nat.le_of_eq hl4.symm))) (Rm_of hR (Nat.le_of_ble_eq_true rfl) (Nat.le_of_ble_eq_true rfl)) (fun ad3 q3 ag3 e3 => ?_)
  have ag3 : ∀ i, i < SH.length + 2 → ad3 i = ad2 i := fun i hi => ag3 i (Nat.lt_of_lt_of_eq hi hl4.symm)
  have e3 : ad3 (SH.length + 2) = q3 := by rw [← hl4]; exact e3
  have hk3 : (((((SH ++ [Sum.inr (Sum.inl (0, 25))] : List Shp).set k (.inl (0, [some (some SH.length), some none, some none, none, none]))) ++ [Sum.inr (Sum.inl (0, 5))]).set k (.inl (0, [some (some SH.length), some (some (SH.length + 1)), some none, none, none]))) ++ [Sum.inr (Sum.inl (0, 5))])[k]? = some (.inl (0, [some (some SH.length), some (some (SH.length + 1)), some none, none, none])) := gs_at (by simp; omega)
  have a3 : ad3 k = ad0 k := (ag3 k (by omega)).trans ((ag2 k (by omega)).trans (ag1 k hk))
  refine G_putR (pc := 23) (k := k) (t := SH.length + 2) 2 X hI (dg dt_C_Grid 13 rfl) fc_0 w_41 rfl rfl (Nat.le_of_ble_eq_true rfl) rfl (Or.inr ⟨_, rfl⟩) hk3 rfl a3 e3 ?_
  have hk4 : (gridAfter SH k)[k]? = some (.inl (0, [some (some SH.length), some (some (SH.length + 1)), some (some (SH.length + 2)), none, none])) := by
    unfold gridAfter
    rw [List.getElem?_set]
    rw [if_pos rfl, if_pos (by simp; omega)]
  show G θ (3, 35) (gridAfter SH k, ad3) σ 26 _ _
  refine G_aload_n (pc := 26) 0 X (dg dt_C_Grid 14 rfl) rfl rfl ?_
  refine G_iconst (pc := 27) 2 X (dg dt_C_Grid 15 rfl) (by decide) ?_
  refine G_putQ (pc := 28) (k := k) 3 X (dg dt_C_Grid 16 rfl) fc_0 w_42 rfl (Nat.le_of_ble_eq_true rfl) rfl rfl hk4 rfl a3 ?_
  refine G_aload_n (pc := 31) 0 X (dg dt_C_Grid 17 rfl) rfl rfl ?_
  refine G_iconst (pc := 32) 0 X (dg dt_C_Grid 18 rfl) (by decide) ?_
  refine G_putQ (pc := 33) (k := k) 4 X (dg dt_C_Grid 19 rfl) fc_0 w_45 rfl (Nat.le_of_ble_eq_true rfl) rfl rfl hk4 rfl a3 ?_
  exact G_cret (pc := 36) X hq (dg dt_C_Grid 20 rfl) (fun i hi => (ag3 i (by omega)).trans ((ag2 i (by omega)).trans (ag1 i hi)))
