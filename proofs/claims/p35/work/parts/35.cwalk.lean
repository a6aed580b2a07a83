set_option maxRecDepth 100000 in
set_option maxHeartbeats 8000000 in
theorem s_C_Maps (l : Launch) {σ : St} (hz : ∀ m j, 7 ≤ m → σ m j = 0) {σm : St} (hm : f_Maps_init σ = some ((), σm)) : RtC false l [] yX4_init cX4_init 3 1 27 3 725 qt_Maps_0 (fun ad => [.ref (ad 6)]) σ qt_Maps_6 σm := by
  refine RtC.intro (L := (fun ad => [some (.ref (ad 6)), none, none])) (by decide +kernel) rfl (fun _ => Nat.le_of_ble_eq_true rfl) (fun _ => rfl) (fun ad0 θ hl X hI hR hq hE => ?_)
  subst hl
  have hq6_0 : ad0 6 = ad0 6 := rfl
  refine G_aload_n (pc := 0) 0 X (dg dt_C_Maps 0 rfl) rfl rfl ?_
  refine G_objInit (pc := 1) X (dg dt_C_Maps 1 rfl) w_64 w_30 w_31 (Nat.le_of_ble_eq_true rfl) (Nat.le_of_ble_eq_true rfl) ?_
  refine G_aload_n (pc := 4) 0 X (dg dt_C_Maps 2 rfl) rfl rfl ?_
  refine G_sipush (pc := 5) 600 X (dg dt_C_Maps 3 rfl) (by decide) ?_
  refine G_newa (pc := 8) (N := 600) X (dg dt_C_Maps 4 rfl) w_58 rfl (Or.inl ⟨rfl, rfl⟩) (by decide) (by decide) (by decide) (by decide +kernel) (fun j => hz 7 j (by decide)) (Rm_of hR (Nat.le_of_ble_eq_true rfl) (Nat.le_of_ble_eq_true rfl)) (fun ad1 q1 ag1 e1 => ?_)
  have hq6_1 : ad1 6 = ad0 6 := (ag1 6 (by decide)).trans hq6_0
  have hq7_1 : ad1 7 = q1 := e1
  show G θ (1, 600) (qt_Maps_1, ad1) _ _ _ _
  refine G_putR (pc := 10) (k := 6) (t := 7) 0 X hI (dg dt_C_Maps 5 rfl) fc_1 w_69 rfl rfl (Nat.le_of_ble_eq_true rfl) rfl (Or.inr ⟨_, rfl⟩) rfl rfl hq6_1 hq7_1 ?_
  show G θ (1, 600) (qt_Maps_2, ad1) _ _ _ _
  refine G_aload_n (pc := 13) 0 X (dg dt_C_Maps 6 rfl) rfl rfl ?_
  refine G_bipush (pc := 14) 120 X (dg dt_C_Maps 7 rfl) (by decide) ?_
  refine G_newa (pc := 16) (N := 120) X (dg dt_C_Maps 8 rfl) w_58 rfl (Or.inl ⟨rfl, rfl⟩) (by decide) (by decide) (by decide) (by decide +kernel) (fun j => hz 8 j (by decide)) (Rm_of hR (Nat.le_of_ble_eq_true rfl) (Nat.le_of_ble_eq_true rfl)) (fun ad2 q2 ag2 e2 => ?_)
  have hq6_2 : ad2 6 = ad0 6 := (ag2 6 (by decide)).trans hq6_1
  have hq8_2 : ad2 8 = q2 := e2
  show G θ (2, 720) (qt_Maps_3, ad2) _ _ _ _
  refine G_putR (pc := 18) (k := 6) (t := 8) 1 X hI (dg dt_C_Maps 9 rfl) fc_1 w_70 rfl rfl (Nat.le_of_ble_eq_true rfl) rfl (Or.inr ⟨_, rfl⟩) rfl rfl hq6_2 hq8_2 ?_
  show G θ (2, 720) (qt_Maps_4, ad2) _ _ _ _
  refine G_aload_n (pc := 21) 0 X (dg dt_C_Maps 10 rfl) rfl rfl ?_
  refine G_iconst (pc := 22) 5 X (dg dt_C_Maps 11 rfl) (by decide) ?_
  refine G_newa (pc := 23) (N := 5) X (dg dt_C_Maps 12 rfl) w_58 rfl (Or.inl ⟨rfl, rfl⟩) (by decide) (by decide) (by decide) (by decide +kernel) (fun j => hz 9 j (by decide)) (Rm_of hR (Nat.le_of_ble_eq_true rfl) (Nat.le_of_ble_eq_true rfl)) (fun ad3 q3 ag3 e3 => ?_)
  have hq6_3 : ad3 6 = ad0 6 := (ag3 6 (by decide)).trans hq6_2
  have hq9_3 : ad3 9 = q3 := e3
  show G θ (3, 725) (qt_Maps_5, ad3) _ _ _ _
  refine G_putR (pc := 25) (k := 6) (t := 9) 2 X hI (dg dt_C_Maps 13 rfl) fc_1 w_71 rfl rfl (Nat.le_of_ble_eq_true rfl) rfl (Or.inr ⟨_, rfl⟩) rfl rfl hq6_3 hq9_3 ?_
  show G θ (3, 725) (qt_Maps_6, ad3) _ _ _ _
  refine G_iconst (pc := 28) 0 X (dg dt_C_Maps 14 rfl) (by decide) ?_
  refine G_istore_n (pc := 29) 1 X (dg dt_C_Maps 15 rfl) rfl (Nat.le_of_ble_eq_true rfl) rfl ?_
  exact s_C_MapsLoops (SH0 := qt_Maps_0) X (Rm_rc (Rm_of hR (Nat.le_of_ble_eq_true rfl) (Nat.le_of_ble_eq_true rfl))) hq rfl rfl rfl rfl (fun i hi => ((ag3 i (Nat.lt_of_lt_of_le hi (by decide))).trans ((ag2 i (Nat.lt_of_lt_of_le hi (by decide))).trans (ag1 i (Nat.lt_of_lt_of_le hi (by decide)))))) hq6_3 hm
set_option maxRecDepth 100000 in
set_option maxHeartbeats 8000000 in
theorem s_C_Tape (l : Launch) {σ : St} (hz : ∀ m j, 11 ≤ m → σ m j = 0) : RtC false l [] yX9_init cX9_init 1 1 20 3 121 qt_Tape_0 (fun ad => [.ref (ad 10)]) σ qt_Tape_6 (wr σ 10 3 0) := by
  refine RtC.intro (L := (fun ad => [some (.ref (ad 10))])) (by decide +kernel) rfl (fun _ => Nat.le_of_ble_eq_true rfl) (fun _ => rfl) (fun ad0 θ hl X hI hR hq hE => ?_)
  subst hl
  have hq10_0 : ad0 10 = ad0 10 := rfl
  refine G_aload_n (pc := 0) 0 X (dg dt_C_Tape 0 rfl) rfl rfl ?_
  refine G_objInit (pc := 1) X (dg dt_C_Tape 1 rfl) w_84 w_30 w_31 (Nat.le_of_ble_eq_true rfl) (Nat.le_of_ble_eq_true rfl) ?_
  refine G_aload_n (pc := 4) 0 X (dg dt_C_Tape 2 rfl) rfl rfl ?_
  refine G_bipush (pc := 5) 40 X (dg dt_C_Tape 3 rfl) (by decide) ?_
  refine G_newa (pc := 7) (N := 40) X (dg dt_C_Tape 4 rfl) w_58 rfl (Or.inl ⟨rfl, rfl⟩) (by decide) (by decide) (by decide) (by decide +kernel) (fun j => hz 11 j (by decide)) (Rm_of hR (Nat.le_of_ble_eq_true rfl) (Nat.le_of_ble_eq_true rfl)) (fun ad1 q1 ag1 e1 => ?_)
  have hq10_1 : ad1 10 = ad0 10 := (ag1 10 (by decide)).trans hq10_0
  have hq11_1 : ad1 11 = q1 := e1
  show G θ (1, 40) (qt_Tape_1, ad1) _ _ _ _
  refine G_putR (pc := 9) (k := 10) (t := 11) 0 X hI (dg dt_C_Tape 5 rfl) fc_5 w_85 rfl rfl (Nat.le_of_ble_eq_true rfl) rfl (Or.inr ⟨_, rfl⟩) rfl rfl hq10_1 hq11_1 ?_
  show G θ (1, 40) (qt_Tape_2, ad1) _ _ _ _
  refine G_aload_n (pc := 12) 0 X (dg dt_C_Tape 6 rfl) rfl rfl ?_
  refine G_bipush (pc := 13) 41 X (dg dt_C_Tape 7 rfl) (by decide) ?_
  refine G_newa (pc := 15) (N := 41) X (dg dt_C_Tape 8 rfl) w_58 rfl (Or.inl ⟨rfl, rfl⟩) (by decide) (by decide) (by decide) (by decide +kernel) (fun j => hz 12 j (by decide)) (Rm_of hR (Nat.le_of_ble_eq_true rfl) (Nat.le_of_ble_eq_true rfl)) (fun ad2 q2 ag2 e2 => ?_)
  have hq10_2 : ad2 10 = ad0 10 := (ag2 10 (by decide)).trans hq10_1
  have hq12_2 : ad2 12 = q2 := e2
  show G θ (2, 81) (qt_Tape_3, ad2) _ _ _ _
  refine G_putR (pc := 17) (k := 10) (t := 12) 1 X hI (dg dt_C_Tape 9 rfl) fc_5 w_86 rfl rfl (Nat.le_of_ble_eq_true rfl) rfl (Or.inr ⟨_, rfl⟩) rfl rfl hq10_2 hq12_2 ?_
  show G θ (2, 81) (qt_Tape_4, ad2) _ _ _ _
  refine G_aload_n (pc := 20) 0 X (dg dt_C_Tape 10 rfl) rfl rfl ?_
  refine G_bipush (pc := 21) 40 X (dg dt_C_Tape 11 rfl) (by decide) ?_
  refine G_newa (pc := 23) (N := 40) X (dg dt_C_Tape 12 rfl) w_58 rfl (Or.inl ⟨rfl, rfl⟩) (by decide) (by decide) (by decide) (by decide +kernel) (fun j => hz 13 j (by decide)) (Rm_of hR (Nat.le_of_ble_eq_true rfl) (Nat.le_of_ble_eq_true rfl)) (fun ad3 q3 ag3 e3 => ?_)
  have hq10_3 : ad3 10 = ad0 10 := (ag3 10 (by decide)).trans hq10_2
  have hq13_3 : ad3 13 = q3 := e3
  show G θ (3, 121) (qt_Tape_5, ad3) _ _ _ _
  refine G_putR (pc := 25) (k := 10) (t := 13) 2 X hI (dg dt_C_Tape 13 rfl) fc_5 w_87 rfl rfl (Nat.le_of_ble_eq_true rfl) rfl (Or.inr ⟨_, rfl⟩) rfl rfl hq10_3 hq13_3 ?_
  show G θ (3, 121) (qt_Tape_6, ad3) _ _ _ _
  refine G_aload_n (pc := 28) 0 X (dg dt_C_Tape 14 rfl) rfl rfl ?_
  refine G_iconst (pc := 29) 0 X (dg dt_C_Tape 15 rfl) (by decide) ?_
  refine G_putQ (pc := 30) (k := 10) 3 X (dg dt_C_Tape 16 rfl) fc_5 w_88 rfl (Nat.le_of_ble_eq_true rfl) rfl rfl rfl rfl hq10_3 ?_
  exact G_cret (pc := 33) X hq (dg dt_C_Tape 17 rfl) (fun i hi => ((ag3 i (Nat.lt_of_lt_of_le hi (by decide))).trans ((ag2 i (Nat.lt_of_lt_of_le hi (by decide))).trans (ag1 i (Nat.lt_of_lt_of_le hi (by decide))))))
set_option maxRecDepth 100000 in
set_option maxHeartbeats 8000000 in
theorem s_C_RowFilling (l : Launch) {σ : St} (hz : ∀ m j, 15 ≤ m → σ m j = 0) : RtC false l [] yX7_init cX7_init 2 1 20 1 5 qt_RowFilling_0 (fun ad => [.ref (ad 14), .ref (ad 6)]) σ qt_RowFilling_3 σ := by
  refine RtC.intro (L := (fun ad => [some (.ref (ad 14)), some (.ref (ad 6))])) (by decide +kernel) rfl (fun _ => Nat.le_of_ble_eq_true rfl) (fun _ => rfl) (fun ad0 θ hl X hI hR hq hE => ?_)
  subst hl
  have hq14_0 : ad0 14 = ad0 14 := rfl
  have hq6_0 : ad0 6 = ad0 6 := rfl
  refine G_aload_n (pc := 0) 0 X (dg dt_C_RowFilling 0 rfl) rfl rfl ?_
  refine G_objInit (pc := 1) X (dg dt_C_RowFilling 1 rfl) w_103 w_30 w_31 (Nat.le_of_ble_eq_true rfl) (Nat.le_of_ble_eq_true rfl) ?_
  refine G_aload_n (pc := 4) 0 X (dg dt_C_RowFilling 2 rfl) rfl rfl ?_
  refine G_iconst (pc := 5) 5 X (dg dt_C_RowFilling 3 rfl) (by decide) ?_
  refine G_newa (pc := 6) (N := 5) X (dg dt_C_RowFilling 4 rfl) w_58 rfl (Or.inl ⟨rfl, rfl⟩) (by decide) (by decide) (by decide) (by decide +kernel) (fun j => hz 15 j (by decide)) (Rm_of hR (Nat.le_of_ble_eq_true rfl) (Nat.le_of_ble_eq_true rfl)) (fun ad1 q1 ag1 e1 => ?_)
  have hq14_1 : ad1 14 = ad0 14 := (ag1 14 (by decide)).trans hq14_0
  have hq6_1 : ad1 6 = ad0 6 := (ag1 6 (by decide)).trans hq6_0
  have hq15_1 : ad1 15 = q1 := e1
  show G θ (1, 5) (qt_RowFilling_1, ad1) _ _ _ _
  refine G_putR (pc := 8) (k := 14) (t := 15) 1 X hI (dg dt_C_RowFilling 5 rfl) fc_3 w_105 rfl rfl (Nat.le_of_ble_eq_true rfl) rfl (Or.inr ⟨_, rfl⟩) rfl rfl hq14_1 hq15_1 ?_
  show G θ (1, 5) (qt_RowFilling_2, ad1) _ _ _ _
  refine G_aload_n (pc := 11) 0 X (dg dt_C_RowFilling 6 rfl) rfl rfl ?_
  refine G_aload_n (pc := 12) 1 X (dg dt_C_RowFilling 7 rfl) rfl rfl ?_
  refine G_putR (pc := 13) (k := 14) (t := 6) 0 X hI (dg dt_C_RowFilling 8 rfl) fc_3 w_104 rfl rfl (Nat.le_of_ble_eq_true rfl) rfl (Or.inl ⟨_, rfl⟩) rfl rfl hq14_1 hq6_1 ?_
  show G θ (1, 5) (qt_RowFilling_3, ad1) _ _ _ _
  exact G_cret (pc := 16) X hq (dg dt_C_RowFilling 9 rfl) (fun i hi => (ag1 i (Nat.lt_of_lt_of_le hi (by decide))))
set_option maxRecDepth 100000 in
set_option maxHeartbeats 8000000 in
theorem s_C_Telling (l : Launch) {σ : St} (hz : ∀ m j, 17 ≤ m → σ m j = 0) : RtC false l [] yX10_init cX10_init 2 1 20 1 576 qt_Telling_0 (fun ad => [.ref (ad 16), .ref (ad 6)]) σ qt_Telling_3 (wr σ 16 2 0) := by
  refine RtC.intro (L := (fun ad => [some (.ref (ad 16)), some (.ref (ad 6))])) (by decide +kernel) rfl (fun _ => Nat.le_of_ble_eq_true rfl) (fun _ => rfl) (fun ad0 θ hl X hI hR hq hE => ?_)
  subst hl
  have hq16_0 : ad0 16 = ad0 16 := rfl
  have hq6_0 : ad0 6 = ad0 6 := rfl
  refine G_aload_n (pc := 0) 0 X (dg dt_C_Telling 0 rfl) rfl rfl ?_
  refine G_objInit (pc := 1) X (dg dt_C_Telling 1 rfl) w_116 w_30 w_31 (Nat.le_of_ble_eq_true rfl) (Nat.le_of_ble_eq_true rfl) ?_
  refine G_aload_n (pc := 4) 0 X (dg dt_C_Telling 2 rfl) rfl rfl ?_
  refine G_sipush (pc := 5) 576 X (dg dt_C_Telling 3 rfl) (by decide) ?_
  refine G_newa (pc := 8) (N := 576) X (dg dt_C_Telling 4 rfl) w_58 rfl (Or.inl ⟨rfl, rfl⟩) (by decide) (by decide) (by decide) (by decide +kernel) (fun j => hz 17 j (by decide)) (Rm_of hR (Nat.le_of_ble_eq_true rfl) (Nat.le_of_ble_eq_true rfl)) (fun ad1 q1 ag1 e1 => ?_)
  have hq16_1 : ad1 16 = ad0 16 := (ag1 16 (by decide)).trans hq16_0
  have hq6_1 : ad1 6 = ad0 6 := (ag1 6 (by decide)).trans hq6_0
  have hq17_1 : ad1 17 = q1 := e1
  show G θ (1, 576) (qt_Telling_1, ad1) _ _ _ _
  refine G_putR (pc := 10) (k := 16) (t := 17) 1 X hI (dg dt_C_Telling 5 rfl) fc_6 w_118 rfl rfl (Nat.le_of_ble_eq_true rfl) rfl (Or.inr ⟨_, rfl⟩) rfl rfl hq16_1 hq17_1 ?_
  show G θ (1, 576) (qt_Telling_2, ad1) _ _ _ _
  refine G_aload_n (pc := 13) 0 X (dg dt_C_Telling 6 rfl) rfl rfl ?_
  refine G_iconst (pc := 14) 0 X (dg dt_C_Telling 7 rfl) (by decide) ?_
  refine G_putQ (pc := 15) (k := 16) 2 X (dg dt_C_Telling 8 rfl) fc_6 w_119 rfl (Nat.le_of_ble_eq_true rfl) rfl rfl rfl rfl hq16_1 ?_
  refine G_aload_n (pc := 18) 0 X (dg dt_C_Telling 9 rfl) rfl rfl ?_
  refine G_aload_n (pc := 19) 1 X (dg dt_C_Telling 10 rfl) rfl rfl ?_
  refine G_putR (pc := 20) (k := 16) (t := 6) 0 X hI (dg dt_C_Telling 11 rfl) fc_6 w_117 rfl rfl (Nat.le_of_ble_eq_true rfl) rfl (Or.inl ⟨_, rfl⟩) rfl rfl hq16_1 hq6_1 ?_
  show G θ (1, 576) (qt_Telling_3, ad1) _ _ _ _
  exact G_cret (pc := 23) X hq (dg dt_C_Telling 12 rfl) (fun i hi => (ag1 i (Nat.lt_of_lt_of_le hi (by decide))))
set_option maxRecDepth 100000 in
set_option maxHeartbeats 8000000 in
theorem s_C_Symmetry (l : Launch) {σ : St} (hz : ∀ m j, 19 ≤ m → σ m j = 0) : RtC false l [] yX8_init cX8_init 2 1 20 4 255 qt_Symmetry_0 (fun ad => [.ref (ad 18), .ref (ad 6)]) σ qt_Symmetry_9 (wr (wr σ 18 5 0) 18 6 0) := by
  refine RtC.intro (L := (fun ad => [some (.ref (ad 18)), some (.ref (ad 6))])) (by decide +kernel) rfl (fun _ => Nat.le_of_ble_eq_true rfl) (fun _ => rfl) (fun ad0 θ hl X hI hR hq hE => ?_)
  subst hl
  have hq18_0 : ad0 18 = ad0 18 := rfl
  have hq6_0 : ad0 6 = ad0 6 := rfl
  refine G_aload_n (pc := 0) 0 X (dg dt_C_Symmetry 0 rfl) rfl rfl ?_
  refine G_objInit (pc := 1) X (dg dt_C_Symmetry 1 rfl) w_132 w_30 w_31 (Nat.le_of_ble_eq_true rfl) (Nat.le_of_ble_eq_true rfl) ?_
  refine G_aload_n (pc := 4) 0 X (dg dt_C_Symmetry 2 rfl) rfl rfl ?_
  refine G_bipush (pc := 5) 10 X (dg dt_C_Symmetry 3 rfl) (by decide) ?_
  refine G_newa (pc := 7) (N := 10) X (dg dt_C_Symmetry 4 rfl) w_58 rfl (Or.inl ⟨rfl, rfl⟩) (by decide) (by decide) (by decide) (by decide +kernel) (fun j => hz 19 j (by decide)) (Rm_of hR (Nat.le_of_ble_eq_true rfl) (Nat.le_of_ble_eq_true rfl)) (fun ad1 q1 ag1 e1 => ?_)
  have hq18_1 : ad1 18 = ad0 18 := (ag1 18 (by decide)).trans hq18_0
  have hq6_1 : ad1 6 = ad0 6 := (ag1 6 (by decide)).trans hq6_0
  have hq19_1 : ad1 19 = q1 := e1
  show G θ (1, 10) (qt_Symmetry_1, ad1) _ _ _ _
  refine G_putR (pc := 9) (k := 18) (t := 19) 1 X hI (dg dt_C_Symmetry 5 rfl) fc_4 w_134 rfl rfl (Nat.le_of_ble_eq_true rfl) rfl (Or.inr ⟨_, rfl⟩) rfl rfl hq18_1 hq19_1 ?_
  show G θ (1, 10) (qt_Symmetry_2, ad1) _ _ _ _
  refine G_aload_n (pc := 12) 0 X (dg dt_C_Symmetry 6 rfl) rfl rfl ?_
  refine G_bipush (pc := 13) 120 X (dg dt_C_Symmetry 7 rfl) (by decide) ?_
  refine G_newa (pc := 15) (N := 120) X (dg dt_C_Symmetry 8 rfl) w_58 rfl (Or.inl ⟨rfl, rfl⟩) (by decide) (by decide) (by decide) (by decide +kernel) (fun j => hz 20 j (by decide)) (Rm_of hR (Nat.le_of_ble_eq_true rfl) (Nat.le_of_ble_eq_true rfl)) (fun ad2 q2 ag2 e2 => ?_)
  have hq18_2 : ad2 18 = ad0 18 := (ag2 18 (by decide)).trans hq18_1
  have hq6_2 : ad2 6 = ad0 6 := (ag2 6 (by decide)).trans hq6_1
  have hq20_2 : ad2 20 = q2 := e2
  show G θ (2, 130) (qt_Symmetry_3, ad2) _ _ _ _
  refine G_putR (pc := 17) (k := 18) (t := 20) 2 X hI (dg dt_C_Symmetry 9 rfl) fc_4 w_135 rfl rfl (Nat.le_of_ble_eq_true rfl) rfl (Or.inr ⟨_, rfl⟩) rfl rfl hq18_2 hq20_2 ?_
  show G θ (2, 130) (qt_Symmetry_4, ad2) _ _ _ _
  refine G_aload_n (pc := 20) 0 X (dg dt_C_Symmetry 10 rfl) rfl rfl ?_
  refine G_bipush (pc := 21) 120 X (dg dt_C_Symmetry 11 rfl) (by decide) ?_
  refine G_newa (pc := 23) (N := 120) X (dg dt_C_Symmetry 12 rfl) w_155 rfl (Or.inr ⟨rfl, rfl⟩) (by decide) (by decide) (by decide) (by decide +kernel) (fun j => hz 21 j (by decide)) (Rm_of hR (Nat.le_of_ble_eq_true rfl) (Nat.le_of_ble_eq_true rfl)) (fun ad3 q3 ag3 e3 => ?_)
  have hq18_3 : ad3 18 = ad0 18 := (ag3 18 (by decide)).trans hq18_2
  have hq6_3 : ad3 6 = ad0 6 := (ag3 6 (by decide)).trans hq6_2
  have hq21_3 : ad3 21 = q3 := e3
  show G θ (3, 250) (qt_Symmetry_5, ad3) _ _ _ _
  refine G_putR (pc := 25) (k := 18) (t := 21) 3 X hI (dg dt_C_Symmetry 13 rfl) fc_4 w_136 rfl rfl (Nat.le_of_ble_eq_true rfl) rfl (Or.inr ⟨_, rfl⟩) rfl rfl hq18_3 hq21_3 ?_
  show G θ (3, 250) (qt_Symmetry_6, ad3) _ _ _ _
  refine G_aload_n (pc := 28) 0 X (dg dt_C_Symmetry 14 rfl) rfl rfl ?_
  refine G_iconst (pc := 29) 5 X (dg dt_C_Symmetry 15 rfl) (by decide) ?_
  refine G_newa (pc := 30) (N := 5) X (dg dt_C_Symmetry 16 rfl) w_58 rfl (Or.inl ⟨rfl, rfl⟩) (by decide) (by decide) (by decide) (by decide +kernel) (fun j => hz 22 j (by decide)) (Rm_of hR (Nat.le_of_ble_eq_true rfl) (Nat.le_of_ble_eq_true rfl)) (fun ad4 q4 ag4 e4 => ?_)
  have hq18_4 : ad4 18 = ad0 18 := (ag4 18 (by decide)).trans hq18_3
  have hq6_4 : ad4 6 = ad0 6 := (ag4 6 (by decide)).trans hq6_3
  have hq22_4 : ad4 22 = q4 := e4
  show G θ (4, 255) (qt_Symmetry_7, ad4) _ _ _ _
  refine G_putR (pc := 32) (k := 18) (t := 22) 4 X hI (dg dt_C_Symmetry 17 rfl) fc_4 w_137 rfl rfl (Nat.le_of_ble_eq_true rfl) rfl (Or.inr ⟨_, rfl⟩) rfl rfl hq18_4 hq22_4 ?_
  show G θ (4, 255) (qt_Symmetry_8, ad4) _ _ _ _
  refine G_aload_n (pc := 35) 0 X (dg dt_C_Symmetry 18 rfl) rfl rfl ?_
  refine G_iconst (pc := 36) 0 X (dg dt_C_Symmetry 19 rfl) (by decide) ?_
  refine G_putQ (pc := 37) (k := 18) 5 X (dg dt_C_Symmetry 20 rfl) fc_4 w_138 rfl (Nat.le_of_ble_eq_true rfl) rfl rfl rfl rfl hq18_4 ?_
  refine G_aload_n (pc := 40) 0 X (dg dt_C_Symmetry 21 rfl) rfl rfl ?_
  refine G_iconst (pc := 41) 0 X (dg dt_C_Symmetry 22 rfl) (by decide) ?_
  refine G_putQ (pc := 42) (k := 18) 6 X (dg dt_C_Symmetry 23 rfl) fc_4 w_139 rfl (Nat.le_of_ble_eq_true rfl) rfl rfl rfl rfl hq18_4 ?_
  refine G_aload_n (pc := 45) 0 X (dg dt_C_Symmetry 24 rfl) rfl rfl ?_
  refine G_aload_n (pc := 46) 1 X (dg dt_C_Symmetry 25 rfl) rfl rfl ?_
  refine G_putR (pc := 47) (k := 18) (t := 6) 0 X hI (dg dt_C_Symmetry 26 rfl) fc_4 w_133 rfl rfl (Nat.le_of_ble_eq_true rfl) rfl (Or.inl ⟨_, rfl⟩) rfl rfl hq18_4 hq6_4 ?_
  show G θ (4, 255) (qt_Symmetry_9, ad4) _ _ _ _
  exact G_cret (pc := 50) X hq (dg dt_C_Symmetry 27 rfl) (fun i hi => ((ag4 i (Nat.lt_of_lt_of_le hi (by decide))).trans ((ag3 i (Nat.lt_of_lt_of_le hi (by decide))).trans ((ag2 i (Nat.lt_of_lt_of_le hi (by decide))).trans (ag1 i (Nat.lt_of_lt_of_le hi (by decide)))))))
set_option maxRecDepth 100000 in
set_option maxHeartbeats 8000000 in
theorem s_C_Mating (l : Launch) {σ : St} (hz : ∀ m j, 24 ≤ m → σ m j = 0) : RtC false l [] yX5_init cX5_init 2 2 40 10 205 qt_Mating_0 (fun ad => [.ref (ad 23), .ref (ad 6)]) σ qt_Mating_11 (wr (wr (wr (wr (wr (wr σ 26 3 2) 26 4 0) 30 3 2) 30 4 0) 23 5 0) 23 6 0) := by
  refine RtC.intro (L := (fun ad => [some (.ref (ad 23)), some (.ref (ad 6))])) (by decide +kernel) rfl (fun _ => Nat.le_of_ble_eq_true rfl) (fun _ => rfl) (fun ad0 θ hl X hI hR hq hE => ?_)
  subst hl
  have hq23_0 : ad0 23 = ad0 23 := rfl
  have hq6_0 : ad0 6 = ad0 6 := rfl
  refine G_aload_n (pc := 0) 0 X (dg dt_C_Mating 0 rfl) rfl rfl ?_
  refine G_objInit (pc := 1) X (dg dt_C_Mating 1 rfl) w_161 w_30 w_31 (Nat.le_of_ble_eq_true rfl) (Nat.le_of_ble_eq_true rfl) ?_
  refine G_aload_n (pc := 4) 0 X (dg dt_C_Mating 2 rfl) rfl rfl ?_
  refine G_bipush (pc := 5) 120 X (dg dt_C_Mating 3 rfl) (by decide) ?_
  refine G_newa (pc := 7) (N := 120) X (dg dt_C_Mating 4 rfl) w_58 rfl (Or.inl ⟨rfl, rfl⟩) (by decide) (by decide) (by decide) (by decide +kernel) (fun j => hz 24 j (by decide)) (Rm_of hR (Nat.le_of_ble_eq_true rfl) (Nat.le_of_ble_eq_true rfl)) (fun ad1 q1 ag1 e1 => ?_)
  have hq23_1 : ad1 23 = ad0 23 := (ag1 23 (by decide)).trans hq23_0
  have hq6_1 : ad1 6 = ad0 6 := (ag1 6 (by decide)).trans hq6_0
  have hq24_1 : ad1 24 = q1 := e1
  show G θ (1, 120) (qt_Mating_1, ad1) _ _ _ _
  refine G_putR (pc := 9) (k := 23) (t := 24) 1 X hI (dg dt_C_Mating 5 rfl) fc_2 w_165 rfl rfl (Nat.le_of_ble_eq_true rfl) rfl (Or.inr ⟨_, rfl⟩) rfl rfl hq23_1 hq24_1 ?_
  show G θ (1, 120) (qt_Mating_2, ad1) _ _ _ _
  refine G_aload_n (pc := 12) 0 X (dg dt_C_Mating 6 rfl) rfl rfl ?_
  refine G_iconst (pc := 13) 5 X (dg dt_C_Mating 7 rfl) (by decide) ?_
  refine G_newa (pc := 14) (N := 5) X (dg dt_C_Mating 8 rfl) w_58 rfl (Or.inl ⟨rfl, rfl⟩) (by decide) (by decide) (by decide) (by decide +kernel) (fun j => hz 25 j (by decide)) (Rm_of hR (Nat.le_of_ble_eq_true rfl) (Nat.le_of_ble_eq_true rfl)) (fun ad2 q2 ag2 e2 => ?_)
  have hq23_2 : ad2 23 = ad0 23 := (ag2 23 (by decide)).trans hq23_1
  have hq6_2 : ad2 6 = ad0 6 := (ag2 6 (by decide)).trans hq6_1
  have hq25_2 : ad2 25 = q2 := e2
  show G θ (2, 125) (qt_Mating_3, ad2) _ _ _ _
  refine G_putR (pc := 16) (k := 23) (t := 25) 2 X hI (dg dt_C_Mating 9 rfl) fc_2 w_166 rfl rfl (Nat.le_of_ble_eq_true rfl) rfl (Or.inr ⟨_, rfl⟩) rfl rfl hq23_2 hq25_2 ?_
  show G θ (2, 125) (qt_Mating_4, ad2) _ _ _ _
  refine G_aload_n (pc := 19) 0 X (dg dt_C_Mating 10 rfl) rfl rfl ?_
  refine G_new (pc := 20) [some none, some none, some none, none, none] X (dg dt_C_Mating 11 rfl) fc_0 w_162 w_34 w_8 rfl df_0 (by decide +kernel) (fun j => hz 26 j (by decide)) (Rm_of hR (Nat.le_of_ble_eq_true rfl) (Nat.le_of_ble_eq_true rfl)) (fun ad3 q3 ag3 e3 => ?_)
  have hq23_3 : ad3 23 = ad0 23 := (ag3 23 (by decide)).trans hq23_2
  have hq6_3 : ad3 6 = ad0 6 := (ag3 6 (by decide)).trans hq6_2
  have hq26_3 : ad3 26 = q3 := e3
  show G θ (3, 130) (qt_Mating_5, ad3) _ _ _ _
  refine G_dup (pc := 23) X (dg dt_C_Mating 12 rfl) rfl ?_
  refine G_callCN (pc := 24) (b := q3) (S := [.ref (q3), .ref (ad0 23)]) [] nosub X (dg dt_C_Mating 13 rfl) cb_C_Grid w_36 rfl w_163 (fun h9 => absurd h9 (by decide)) (s_C_Grid _ rfl (by decide +kernel) (fun m j hm => hz m j (Nat.le_trans (by decide) hm))) (by show [Value.ref (ad3 26)] = _; rw [hq26_3]) rfl ⟨Nat.le_of_ble_eq_true rfl, Nat.le_of_ble_eq_true rfl⟩ (Nat.le_of_ble_eq_true rfl) (Rm_of hR (Nat.le_of_ble_eq_true rfl) (Nat.le_of_ble_eq_true rfl)) (fun ad4 ag4 => ?_)
  have hq23_4 : ad4 23 = ad0 23 := (ag4 23 (by decide)).trans hq23_3
  have hq6_4 : ad4 6 = ad0 6 := (ag4 6 (by decide)).trans hq6_3
  have hq26_4 : ad4 26 = q3 := (ag4 26 (by decide)).trans hq26_3
  show G θ (6, 165) (qt_Mating_6, ad4) _ _ _ _
  refine G_putR (pc := 27) (k := 23) (t := 26) 3 X hI (dg dt_C_Mating 14 rfl) fc_2 w_167 rfl rfl (Nat.le_of_ble_eq_true rfl) rfl (Or.inl ⟨_, rfl⟩) rfl rfl hq23_4 hq26_4 ?_
  show G θ (6, 165) (qt_Mating_7, ad4) _ _ _ _
  refine G_aload_n (pc := 30) 0 X (dg dt_C_Mating 15 rfl) rfl rfl ?_
  refine G_new (pc := 31) [some none, some none, some none, none, none] X (dg dt_C_Mating 16 rfl) fc_0 w_162 w_34 w_8 rfl df_0 (by decide +kernel) (show ∀ j, (wr (wr σ 26 3 2) 26 4 0) 30 j = 0 from fun j => by rw [wr_ne (by decide), wr_ne (by decide)]; exact hz _ _ (by decide)) (Rm_of hR (Nat.le_of_ble_eq_true rfl) (Nat.le_of_ble_eq_true rfl)) (fun ad5 q5 ag5 e5 => ?_)
  have hq23_5 : ad5 23 = ad0 23 := (ag5 23 (by decide)).trans hq23_4
  have hq6_5 : ad5 6 = ad0 6 := (ag5 6 (by decide)).trans hq6_4
  have hq30_5 : ad5 30 = q5 := e5
  show G θ (7, 170) (qt_Mating_8, ad5) _ _ _ _
  refine G_dup (pc := 34) X (dg dt_C_Mating 17 rfl) rfl ?_
  refine G_callCN (pc := 35) (b := q5) (S := [.ref (q5), .ref (ad0 23)]) [] nosub X (dg dt_C_Mating 18 rfl) cb_C_Grid w_36 rfl w_163 (fun h9 => absurd h9 (by decide)) (s_C_Grid _ rfl (by decide +kernel) (fun m j hm => by have hm : 31 ≤ m := hm; rw [wr_ne (k' := m) (by omega), wr_ne (k' := m) (by omega)]; exact hz m j (by omega))) (by show [Value.ref (ad5 30)] = _; rw [hq30_5]) rfl ⟨Nat.le_of_ble_eq_true rfl, Nat.le_of_ble_eq_true rfl⟩ (Nat.le_of_ble_eq_true rfl) (Rm_of hR (Nat.le_of_ble_eq_true rfl) (Nat.le_of_ble_eq_true rfl)) (fun ad6 ag6 => ?_)
  have hq23_6 : ad6 23 = ad0 23 := (ag6 23 (by decide)).trans hq23_5
  have hq6_6 : ad6 6 = ad0 6 := (ag6 6 (by decide)).trans hq6_5
  have hq30_6 : ad6 30 = q5 := (ag6 30 (by decide)).trans hq30_5
  show G θ (10, 205) (qt_Mating_9, ad6) _ _ _ _
  refine G_putR (pc := 38) (k := 23) (t := 30) 4 X hI (dg dt_C_Mating 19 rfl) fc_2 w_168 rfl rfl (Nat.le_of_ble_eq_true rfl) rfl (Or.inl ⟨_, rfl⟩) rfl rfl hq23_6 hq30_6 ?_
  show G θ (10, 205) (qt_Mating_10, ad6) _ _ _ _
  refine G_aload_n (pc := 41) 0 X (dg dt_C_Mating 20 rfl) rfl rfl ?_
  refine G_iconst (pc := 42) 0 X (dg dt_C_Mating 21 rfl) (by decide) ?_
  refine G_putQ (pc := 43) (k := 23) 5 X (dg dt_C_Mating 22 rfl) fc_2 w_169 rfl (Nat.le_of_ble_eq_true rfl) rfl rfl rfl rfl hq23_6 ?_
  refine G_aload_n (pc := 46) 0 X (dg dt_C_Mating 23 rfl) rfl rfl ?_
  refine G_iconst (pc := 47) 0 X (dg dt_C_Mating 24 rfl) (by decide) ?_
  refine G_putQ (pc := 48) (k := 23) 6 X (dg dt_C_Mating 25 rfl) fc_2 w_170 rfl (Nat.le_of_ble_eq_true rfl) rfl rfl rfl rfl hq23_6 ?_
  refine G_aload_n (pc := 51) 0 X (dg dt_C_Mating 26 rfl) rfl rfl ?_
  refine G_aload_n (pc := 52) 1 X (dg dt_C_Mating 27 rfl) rfl rfl ?_
  refine G_putR (pc := 53) (k := 23) (t := 6) 0 X hI (dg dt_C_Mating 28 rfl) fc_2 w_164 rfl rfl (Nat.le_of_ble_eq_true rfl) rfl (Or.inl ⟨_, rfl⟩) rfl rfl hq23_6 hq6_6 ?_
  show G θ (10, 205) (qt_Mating_11, ad6) _ _ _ _
  exact G_cret (pc := 56) X hq (dg dt_C_Mating 29 rfl) (fun i hi => ((ag6 i (Nat.lt_of_lt_of_le hi (by decide))).trans ((ag5 i (Nat.lt_of_lt_of_le hi (by decide))).trans ((ag4 i (Nat.lt_of_lt_of_le hi (by decide))).trans ((ag3 i (Nat.lt_of_lt_of_le hi (by decide))).trans ((ag2 i (Nat.lt_of_lt_of_le hi (by decide))).trans (ag1 i (Nat.lt_of_lt_of_le hi (by decide)))))))))
set_option maxRecDepth 100000 in
set_option maxHeartbeats 8000000 in
theorem s_C_Q (l : Launch) {σ : St} (hz : ∀ m j, 1 ≤ m → σ m j = 0) {σm : St} (hm : f_Maps_init (wr (wr σ 2 3 2) 2 4 0) = some ((), σm)) (hzm : ∀ m j, 10 ≤ m → σm m j = 0) : RtC true l [] yX11_init cX11_init 2 3 61 81 2445 qt_Q_0 (fun ad => [.ref (ad 0)]) σ qt_Q_59 (wr (wr (wr (wr (wr (wr (wr (wr (wr (wr (wr (wr (wr (wr (wr (wr (wr (wr (wr (wr (wr (wr (wr (wr (wr (wr (wr (wr (wr (wr (wr (wr (wr (wr (wr σm 10 3 0) 16 2 0) 18 5 0) 18 6 0) 26 3 2) 26 4 0) 30 3 2) 30 4 0) 23 5 0) 23 6 0) 0 8 0) 34 3 2) 34 4 0) 38 3 2) 38 4 0) 42 3 2) 42 4 0) 46 3 2) 46 4 0) 50 3 2) 50 4 0) 54 3 2) 54 4 0) 58 3 2) 58 4 0) 62 3 2) 62 4 0) 66 3 2) 66 4 0) 70 3 2) 70 4 0) 74 3 2) 74 4 0) 78 3 2) 78 4 0) := by
  refine RtC.intro (L := (fun ad => [some (.ref (ad 0)), none])) (by decide +kernel) rfl (fun _ => Nat.le_of_ble_eq_true rfl) (fun _ => rfl) (fun ad0 θ hl X hI hR hq hE => ?_)
  subst hl
  have hq0_0 : ad0 0 = ad0 0 := rfl
  refine G_aload_n (pc := 0) 0 X (dg dt_C_Q 0 rfl) rfl rfl ?_
  refine G_objInit (pc := 1) X (dg dt_C_Q 1 rfl) w_29 w_30 w_31 (Nat.le_of_ble_eq_true rfl) (Nat.le_of_ble_eq_true rfl) ?_
  refine G_aload_n (pc := 4) 0 X (dg dt_C_Q 2 rfl) rfl rfl ?_
  refine G_bipush (pc := 5) 12 X (dg dt_C_Q 3 rfl) (by decide) ?_
  refine G_newq (pc := 7) (N := 12) X (dg dt_C_Q 4 rfl) w_32 (hE rfl) (by decide) (by decide) (by decide) (by decide +kernel) (Rm_of hR (Nat.le_of_ble_eq_true rfl) (Nat.le_of_ble_eq_true rfl)) (fun ad1 q1 ag1 e1 => ?_)
  have hq0_1 : ad1 0 = ad0 0 := (ag1 0 (by decide)).trans hq0_0
  have hq1_1 : ad1 1 = q1 := e1
  show G θ (1, 12) (qt_Q_1, ad1) _ _ _ _
  refine G_putR (pc := 10) (k := 0) (t := 1) 0 X hI (dg dt_C_Q 5 rfl) fc_7 w_186 rfl rfl (Nat.le_of_ble_eq_true rfl) rfl (Or.inr ⟨_, rfl⟩) rfl rfl hq0_1 hq1_1 ?_
  show G θ (1, 12) (qt_Q_2, ad1) _ _ _ _
  refine G_aload_n (pc := 13) 0 X (dg dt_C_Q 6 rfl) rfl rfl ?_
  refine G_new (pc := 14) [some none, some none, some none, none, none] X (dg dt_C_Q 7 rfl) fc_0 w_32 w_34 w_8 rfl df_0 (by decide +kernel) (fun j => hz 2 j (by decide)) (Rm_of hR (Nat.le_of_ble_eq_true rfl) (Nat.le_of_ble_eq_true rfl)) (fun ad2 q2 ag2 e2 => ?_)
  have hq0_2 : ad2 0 = ad0 0 := (ag2 0 (by decide)).trans hq0_1
  have hq2_2 : ad2 2 = q2 := e2
  show G θ (2, 17) (qt_Q_3, ad2) _ _ _ _
  refine G_dup (pc := 17) X (dg dt_C_Q 8 rfl) rfl ?_
  refine G_callCN (pc := 18) (b := q2) (S := [.ref (q2), .ref (ad0 0)]) [] nosub X (dg dt_C_Q 9 rfl) cb_C_Grid w_36 rfl w_35 (fun h9 => absurd h9 (by decide)) (s_C_Grid _ rfl (by decide +kernel) (fun m j hm => hz m j (Nat.le_trans (by decide) hm))) (by show [Value.ref (ad2 2)] = _; rw [hq2_2]) rfl ⟨Nat.le_of_ble_eq_true rfl, Nat.le_of_ble_eq_true rfl⟩ (Nat.le_of_ble_eq_true rfl) (Rm_of hR (Nat.le_of_ble_eq_true rfl) (Nat.le_of_ble_eq_true rfl)) (fun ad3 ag3 => ?_)
  have hq0_3 : ad3 0 = ad0 0 := (ag3 0 (by decide)).trans hq0_2
  have hq2_3 : ad3 2 = q2 := (ag3 2 (by decide)).trans hq2_2
  show G θ (5, 52) (qt_Q_4, ad3) _ _ _ _
  refine G_putR (pc := 21) (k := 0) (t := 2) 1 X hI (dg dt_C_Q 10 rfl) fc_7 w_187 rfl rfl (Nat.le_of_ble_eq_true rfl) rfl (Or.inl ⟨_, rfl⟩) rfl rfl hq0_3 hq2_3 ?_
  show G θ (5, 52) (qt_Q_5, ad3) _ _ _ _
  refine G_aload_n (pc := 24) 0 X (dg dt_C_Q 11 rfl) rfl rfl ?_
  refine G_new (pc := 25) [some none, some none, some none] X (dg dt_C_Q 12 rfl) fc_1 w_59 w_60 w_9 rfl df_1 (by decide +kernel) (show ∀ j, (wr (wr σ 2 3 2) 2 4 0) 6 j = 0 from fun j => by rw [wr_ne (by decide), wr_ne (by decide)]; exact hz _ _ (by decide)) (Rm_of hR (Nat.le_of_ble_eq_true rfl) (Nat.le_of_ble_eq_true rfl)) (fun ad4 q4 ag4 e4 => ?_)
  have hq0_4 : ad4 0 = ad0 0 := (ag4 0 (by decide)).trans hq0_3
  have hq6_4 : ad4 6 = q4 := e4
  show G θ (6, 55) (qt_Q_6, ad4) _ _ _ _
  refine G_dup (pc := 28) X (dg dt_C_Q 13 rfl) rfl ?_
  refine G_callC (pc := 29) (b := q4) (S := [.ref (q4), .ref (ad0 0)]) [] nosub X (dg dt_C_Q 14 rfl) cb_C_Maps w_62 rfl w_61 (fun h9 => absurd h9 (by decide)) (s_C_Maps _ (fun m j hm => by have hm : 7 ≤ m := hm; rw [wr_ne (k' := m) (by omega), wr_ne (k' := m) (by omega)]; exact hz m j (by omega)) hm) (by show [Value.ref (ad4 6)] = _; rw [hq6_4]) rfl ⟨Nat.le_of_ble_eq_true rfl, Nat.le_of_ble_eq_true rfl⟩ (Nat.le_of_ble_eq_true rfl) (Rm_of hR (Nat.le_of_ble_eq_true rfl) (Nat.le_of_ble_eq_true rfl)) (fun ad5 ag5 => ?_)
  have hq0_5 : ad5 0 = ad0 0 := (ag5 0 (by decide)).trans hq0_4
  have hq6_5 : ad5 6 = q4 := (ag5 6 (by decide)).trans hq6_4
  show G θ (9, 780) (qt_Q_7, ad5) _ _ _ _
  refine G_putR (pc := 32) (k := 0) (t := 6) 2 X hI (dg dt_C_Q 15 rfl) fc_7 w_188 rfl rfl (Nat.le_of_ble_eq_true rfl) rfl (Or.inl ⟨_, rfl⟩) rfl rfl hq0_5 hq6_5 ?_
  show G θ (9, 780) (qt_Q_8, ad5) _ _ _ _
  refine G_aload_n (pc := 35) 0 X (dg dt_C_Q 16 rfl) rfl rfl ?_
  refine G_new (pc := 36) [some none, some none, some none, none] X (dg dt_C_Q 17 rfl) fc_5 w_79 w_80 w_10 rfl df_5 (by decide +kernel) (fun j => hzm 10 j (by decide)) (Rm_of hR (Nat.le_of_ble_eq_true rfl) (Nat.le_of_ble_eq_true rfl)) (fun ad6 q6 ag6 e6 => ?_)
  have hq0_6 : ad6 0 = ad0 0 := (ag6 0 (by decide)).trans hq0_5
  have hq10_6 : ad6 10 = q6 := e6
  show G θ (10, 784) (qt_Q_9, ad6) _ _ _ _
  refine G_dup (pc := 39) X (dg dt_C_Q 18 rfl) rfl ?_
  refine G_callCN (pc := 40) (b := q6) (S := [.ref (q6), .ref (ad0 0)]) [] nosub X (dg dt_C_Q 19 rfl) cb_C_Tape w_82 rfl w_81 (fun h9 => absurd h9 (by decide)) (s_C_Tape _ (fun m j hm => hzm m j (Nat.le_trans (by decide) hm))) (by show [Value.ref (ad6 10)] = _; rw [hq10_6]) rfl ⟨Nat.le_of_ble_eq_true rfl, Nat.le_of_ble_eq_true rfl⟩ (Nat.le_of_ble_eq_true rfl) (Rm_of hR (Nat.le_of_ble_eq_true rfl) (Nat.le_of_ble_eq_true rfl)) (fun ad7 ag7 => ?_)
  have hq0_7 : ad7 0 = ad0 0 := (ag7 0 (by decide)).trans hq0_6
  have hq10_7 : ad7 10 = q6 := (ag7 10 (by decide)).trans hq10_6
  show G θ (13, 905) (qt_Q_10, ad7) _ _ _ _
  refine G_putR (pc := 43) (k := 0) (t := 10) 3 X hI (dg dt_C_Q 20 rfl) fc_7 w_189 rfl rfl (Nat.le_of_ble_eq_true rfl) rfl (Or.inl ⟨_, rfl⟩) rfl rfl hq0_7 hq10_7 ?_
  show G θ (13, 905) (qt_Q_11, ad7) _ _ _ _
  refine G_aload_n (pc := 46) 0 X (dg dt_C_Q 21 rfl) rfl rfl ?_
  refine G_new (pc := 47) [some none, some none] X (dg dt_C_Q 22 rfl) fc_3 w_98 w_99 w_11 rfl df_3 (by decide +kernel) (show ∀ j, (wr σm 10 3 0) 14 j = 0 from fun j => by rw [wr_ne (by decide)]; exact hzm _ _ (by decide)) (Rm_of hR (Nat.le_of_ble_eq_true rfl) (Nat.le_of_ble_eq_true rfl)) (fun ad8 q8 ag8 e8 => ?_)
  have hq0_8 : ad8 0 = ad0 0 := (ag8 0 (by decide)).trans hq0_7
  have hq14_8 : ad8 14 = q8 := e8
  show G θ (14, 907) (qt_Q_12, ad8) _ _ _ _
  refine G_dup (pc := 50) X (dg dt_C_Q 23 rfl) rfl ?_
  refine G_aload_n (pc := 51) 0 X (dg dt_C_Q 24 rfl) rfl rfl ?_
  refine G_getRQ (pc := 52) (k := 0) 2 X (dg dt_C_Q 25 rfl) fc_7 w_188 rfl (Nat.le_of_ble_eq_true rfl) rfl rfl hq0_8 ?_
  have hq6_8 : ad8 6 = ad8 6 := rfl
  refine G_callC (pc := 55) (b := q8) (S := [.ref (q8), .ref (ad0 0)]) [.ref (ad8 6)] nosub X (dg dt_C_Q 26 rfl) cb_C_RowFilling w_101 rfl w_100 (fun h9 => absurd h9 (by decide)) (s_C_RowFilling _ (fun m j hm => by have hm : 15 ≤ m := hm; rw [wr_ne (k' := m) (by omega)]; exact hzm m j (by omega))) (by show [Value.ref (ad8 14), Value.ref (ad8 6)] = _; rw [hq14_8, hq6_8]) rfl ⟨Nat.le_of_ble_eq_true rfl, Nat.le_of_ble_eq_true rfl⟩ (Nat.le_of_ble_eq_true rfl) (Rm_of hR (Nat.le_of_ble_eq_true rfl) (Nat.le_of_ble_eq_true rfl)) (fun ad9 ag9 => ?_)
  have hq0_9 : ad9 0 = ad0 0 := (ag9 0 (by decide)).trans hq0_8
  have hq14_9 : ad9 14 = q8 := (ag9 14 (by decide)).trans hq14_8
  have hq6_9 : ad9 6 = ad8 6 := (ag9 6 (by decide)).trans hq6_8
  show G θ (15, 912) (qt_Q_13, ad9) _ _ _ _
  refine G_putR (pc := 58) (k := 0) (t := 14) 4 X hI (dg dt_C_Q 27 rfl) fc_7 w_190 rfl rfl (Nat.le_of_ble_eq_true rfl) rfl (Or.inl ⟨_, rfl⟩) rfl rfl hq0_9 hq14_9 ?_
  show G θ (15, 912) (qt_Q_14, ad9) _ _ _ _
  refine G_aload_n (pc := 61) 0 X (dg dt_C_Q 28 rfl) rfl rfl ?_
  refine G_new (pc := 62) [some none, some none, none] X (dg dt_C_Q 29 rfl) fc_6 w_111 w_112 w_12 rfl df_6 (by decide +kernel) (show ∀ j, (wr σm 10 3 0) 16 j = 0 from fun j => by rw [wr_ne (by decide)]; exact hzm _ _ (by decide)) (Rm_of hR (Nat.le_of_ble_eq_true rfl) (Nat.le_of_ble_eq_true rfl)) (fun ad10 q10 ag10 e10 => ?_)
  have hq0_10 : ad10 0 = ad0 0 := (ag10 0 (by decide)).trans hq0_9
  have hq6_10 : ad10 6 = ad8 6 := (ag10 6 (by decide)).trans hq6_9
  have hq16_10 : ad10 16 = q10 := e10
  show G θ (16, 915) (qt_Q_15, ad10) _ _ _ _
  refine G_dup (pc := 65) X (dg dt_C_Q 30 rfl) rfl ?_
  refine G_aload_n (pc := 66) 0 X (dg dt_C_Q 31 rfl) rfl rfl ?_
  refine G_getRQ (pc := 67) (k := 0) 2 X (dg dt_C_Q 32 rfl) fc_7 w_188 rfl (Nat.le_of_ble_eq_true rfl) rfl rfl hq0_10 ?_
  rw [hq6_10]
  refine G_callC (pc := 70) (b := q10) (S := [.ref (q10), .ref (ad0 0)]) [.ref (ad8 6)] nosub X (dg dt_C_Q 33 rfl) cb_C_Telling w_114 rfl w_113 (fun h9 => absurd h9 (by decide)) (s_C_Telling _ (fun m j hm => by have hm : 17 ≤ m := hm; rw [wr_ne (k' := m) (by omega)]; exact hzm m j (by omega))) (by show [Value.ref (ad10 16), Value.ref (ad10 6)] = _; rw [hq16_10, hq6_10]) rfl ⟨Nat.le_of_ble_eq_true rfl, Nat.le_of_ble_eq_true rfl⟩ (Nat.le_of_ble_eq_true rfl) (Rm_of hR (Nat.le_of_ble_eq_true rfl) (Nat.le_of_ble_eq_true rfl)) (fun ad11 ag11 => ?_)
  have hq0_11 : ad11 0 = ad0 0 := (ag11 0 (by decide)).trans hq0_10
  have hq6_11 : ad11 6 = ad8 6 := (ag11 6 (by decide)).trans hq6_10
  have hq16_11 : ad11 16 = q10 := (ag11 16 (by decide)).trans hq16_10
  show G θ (17, 1491) (qt_Q_16, ad11) _ _ _ _
  refine G_putR (pc := 73) (k := 0) (t := 16) 5 X hI (dg dt_C_Q 34 rfl) fc_7 w_191 rfl rfl (Nat.le_of_ble_eq_true rfl) rfl (Or.inl ⟨_, rfl⟩) rfl rfl hq0_11 hq16_11 ?_
  show G θ (17, 1491) (qt_Q_17, ad11) _ _ _ _
  refine G_aload_n (pc := 76) 0 X (dg dt_C_Q 35 rfl) rfl rfl ?_
  refine G_new (pc := 77) [some none, some none, some none, some none, some none, none, none] X (dg dt_C_Q 36 rfl) fc_4 w_127 w_128 w_13 rfl df_4 (by decide +kernel) (show ∀ j, (wr (wr σm 10 3 0) 16 2 0) 18 j = 0 from fun j => by rw [wr_ne (by decide), wr_ne (by decide)]; exact hzm _ _ (by decide)) (Rm_of hR (Nat.le_of_ble_eq_true rfl) (Nat.le_of_ble_eq_true rfl)) (fun ad12 q12 ag12 e12 => ?_)
  have hq0_12 : ad12 0 = ad0 0 := (ag12 0 (by decide)).trans hq0_11
  have hq6_12 : ad12 6 = ad8 6 := (ag12 6 (by decide)).trans hq6_11
  have hq18_12 : ad12 18 = q12 := e12
  show G θ (18, 1498) (qt_Q_18, ad12) _ _ _ _
  refine G_dup (pc := 80) X (dg dt_C_Q 37 rfl) rfl ?_
  refine G_aload_n (pc := 81) 0 X (dg dt_C_Q 38 rfl) rfl rfl ?_
  refine G_getRQ (pc := 82) (k := 0) 2 X (dg dt_C_Q 39 rfl) fc_7 w_188 rfl (Nat.le_of_ble_eq_true rfl) rfl rfl hq0_12 ?_
  rw [hq6_12]
  refine G_callC (pc := 85) (b := q12) (S := [.ref (q12), .ref (ad0 0)]) [.ref (ad8 6)] nosub X (dg dt_C_Q 40 rfl) cb_C_Symmetry w_130 rfl w_129 (fun h9 => absurd h9 (by decide)) (s_C_Symmetry _ (fun m j hm => by have hm : 19 ≤ m := hm; rw [wr_ne (k' := m) (by omega), wr_ne (k' := m) (by omega)]; exact hzm m j (by omega))) (by show [Value.ref (ad12 18), Value.ref (ad12 6)] = _; rw [hq18_12, hq6_12]) rfl ⟨Nat.le_of_ble_eq_true rfl, Nat.le_of_ble_eq_true rfl⟩ (Nat.le_of_ble_eq_true rfl) (Rm_of hR (Nat.le_of_ble_eq_true rfl) (Nat.le_of_ble_eq_true rfl)) (fun ad13 ag13 => ?_)
  have hq0_13 : ad13 0 = ad0 0 := (ag13 0 (by decide)).trans hq0_12
  have hq6_13 : ad13 6 = ad8 6 := (ag13 6 (by decide)).trans hq6_12
  have hq18_13 : ad13 18 = q12 := (ag13 18 (by decide)).trans hq18_12
  show G θ (22, 1753) (qt_Q_19, ad13) _ _ _ _
  refine G_putR (pc := 88) (k := 0) (t := 18) 6 X hI (dg dt_C_Q 41 rfl) fc_7 w_192 rfl rfl (Nat.le_of_ble_eq_true rfl) rfl (Or.inl ⟨_, rfl⟩) rfl rfl hq0_13 hq18_13 ?_
  show G θ (22, 1753) (qt_Q_20, ad13) _ _ _ _
  refine G_aload_n (pc := 91) 0 X (dg dt_C_Q 42 rfl) rfl rfl ?_
  refine G_new (pc := 92) [some none, some none, some none, some none, some none, none, none] X (dg dt_C_Q 43 rfl) fc_2 w_156 w_157 w_14 rfl df_2 (by decide +kernel) (show ∀ j, (wr (wr (wr (wr σm 10 3 0) 16 2 0) 18 5 0) 18 6 0) 23 j = 0 from fun j => by rw [wr_ne (by decide), wr_ne (by decide), wr_ne (by decide), wr_ne (by decide)]; exact hzm _ _ (by decide)) (Rm_of hR (Nat.le_of_ble_eq_true rfl) (Nat.le_of_ble_eq_true rfl)) (fun ad14 q14 ag14 e14 => ?_)
  have hq0_14 : ad14 0 = ad0 0 := (ag14 0 (by decide)).trans hq0_13
  have hq6_14 : ad14 6 = ad8 6 := (ag14 6 (by decide)).trans hq6_13
  have hq23_14 : ad14 23 = q14 := e14
  show G θ (23, 1760) (qt_Q_21, ad14) _ _ _ _
  refine G_dup (pc := 95) X (dg dt_C_Q 44 rfl) rfl ?_
  refine G_aload_n (pc := 96) 0 X (dg dt_C_Q 45 rfl) rfl rfl ?_
  refine G_getRQ (pc := 97) (k := 0) 2 X (dg dt_C_Q 46 rfl) fc_7 w_188 rfl (Nat.le_of_ble_eq_true rfl) rfl rfl hq0_14 ?_
  rw [hq6_14]
  refine G_callC (pc := 100) (b := q14) (S := [.ref (q14), .ref (ad0 0)]) [.ref (ad8 6)] nosub X (dg dt_C_Q 47 rfl) cb_C_Mating w_159 rfl w_158 (fun h9 => absurd h9 (by decide)) (s_C_Mating _ (fun m j hm => by have hm : 24 ≤ m := hm; rw [wr_ne (k' := m) (by omega), wr_ne (k' := m) (by omega), wr_ne (k' := m) (by omega), wr_ne (k' := m) (by omega)]; exact hzm m j (by omega))) (by show [Value.ref (ad14 23), Value.ref (ad14 6)] = _; rw [hq23_14, hq6_14]) rfl ⟨Nat.le_of_ble_eq_true rfl, Nat.le_of_ble_eq_true rfl⟩ (Nat.le_of_ble_eq_true rfl) (Rm_of hR (Nat.le_of_ble_eq_true rfl) (Nat.le_of_ble_eq_true rfl)) (fun ad15 ag15 => ?_)
  have hq0_15 : ad15 0 = ad0 0 := (ag15 0 (by decide)).trans hq0_14
  have hq6_15 : ad15 6 = ad8 6 := (ag15 6 (by decide)).trans hq6_14
  have hq23_15 : ad15 23 = q14 := (ag15 23 (by decide)).trans hq23_14
  show G θ (33, 1965) (qt_Q_22, ad15) _ _ _ _
  refine G_putR (pc := 103) (k := 0) (t := 23) 7 X hI (dg dt_C_Q 48 rfl) fc_7 w_193 rfl rfl (Nat.le_of_ble_eq_true rfl) rfl (Or.inl ⟨_, rfl⟩) rfl rfl hq0_15 hq23_15 ?_
  show G θ (33, 1965) (qt_Q_23, ad15) _ _ _ _
  refine G_aload_n (pc := 106) 0 X (dg dt_C_Q 49 rfl) rfl rfl ?_
  refine G_iconst (pc := 107) 0 X (dg dt_C_Q 50 rfl) (by decide) ?_
  refine G_putQ (pc := 108) (k := 0) 8 X (dg dt_C_Q 51 rfl) fc_7 w_194 rfl (Nat.le_of_ble_eq_true rfl) rfl rfl rfl rfl hq0_15 ?_
  refine G_iconst (pc := 111) 0 X (dg dt_C_Q 52 rfl) (by decide) ?_
  refine G_istore_n (pc := 112) 1 X (dg dt_C_Q 53 rfl) rfl (Nat.le_of_ble_eq_true rfl) rfl ?_
  refine G_iload_n (pc := 113) 1 X (dg dt_C_Q 54 rfl) rfl rfl ?_
  refine G_aload_n (pc := 114) 0 X (dg dt_C_Q 55 rfl) rfl rfl ?_
  refine G_getRQ (pc := 115) (k := 0) 0 X (dg dt_C_Q 56 rfl) fc_7 w_186 rfl (Nat.le_of_ble_eq_true rfl) rfl rfl hq0_15 ?_
  have hq1_15 : ad15 1 = ad15 1 := rfl
  refine G_alenQQ (pc := 118) 12 X (dg dt_C_Q 57 rfl) (k := 1) rfl (by decide) hq1_15 ?_
  refine G_icmp_ge (pc := 119) (a := 1) (b := 0) (r := 0) 141 X (dg dt_C_Q 58 rfl) (by decide) (by decide) (fun h => absurd h (by decide)) (fun _ => ?_)
  refine G_aload_n (pc := 122) 0 X (dg dt_C_Q 59 rfl) rfl rfl ?_
  refine G_getRQ (pc := 123) (k := 0) 0 X (dg dt_C_Q 60 rfl) fc_7 w_186 rfl (Nat.le_of_ble_eq_true rfl) rfl rfl hq0_15 ?_
  rw [hq1_15]
  refine G_iload_n (pc := 126) 1 X (dg dt_C_Q 61 rfl) rfl rfl ?_
  refine G_new (pc := 127) [some none, some none, some none, none, none] X (dg dt_C_Q 62 rfl) fc_0 w_32 w_34 w_8 rfl df_0 (by decide +kernel) (show ∀ j, (wr (wr (wr (wr (wr (wr (wr (wr (wr (wr (wr σm 10 3 0) 16 2 0) 18 5 0) 18 6 0) 26 3 2) 26 4 0) 30 3 2) 30 4 0) 23 5 0) 23 6 0) 0 8 0) 34 j = 0 from fun j => by rw [wr_ne (by decide), wr_ne (by decide), wr_ne (by decide), wr_ne (by decide), wr_ne (by decide), wr_ne (by decide), wr_ne (by decide), wr_ne (by decide), wr_ne (by decide), wr_ne (by decide), wr_ne (by decide)]; exact hzm _ _ (by decide)) (Rm_of hR (Nat.le_of_ble_eq_true rfl) (Nat.le_of_ble_eq_true rfl)) (fun ad16 q16 ag16 e16 => ?_)
  have hq0_16 : ad16 0 = ad0 0 := (ag16 0 (by decide)).trans hq0_15
  have hq6_16 : ad16 6 = ad8 6 := (ag16 6 (by decide)).trans hq6_15
  have hq1_16 : ad16 1 = ad15 1 := (ag16 1 (by decide)).trans hq1_15
  have hq34_16 : ad16 34 = q16 := e16
  show G θ (34, 1970) (qt_Q_24, ad16) _ _ _ _
  refine G_dup (pc := 130) X (dg dt_C_Q 63 rfl) rfl ?_
  refine G_callCN (pc := 131) (b := q16) (S := [.ref (q16), .int 0, .ref (ad15 1)]) [] nosub X (dg dt_C_Q 64 rfl) cb_C_Grid w_36 rfl w_35 (fun h9 => absurd h9 (by decide)) (s_C_Grid _ rfl (by decide +kernel) (fun m j hm => by have hm : 35 ≤ m := hm; rw [wr_ne (k' := m) (by omega), wr_ne (k' := m) (by omega), wr_ne (k' := m) (by omega), wr_ne (k' := m) (by omega), wr_ne (k' := m) (by omega), wr_ne (k' := m) (by omega), wr_ne (k' := m) (by omega), wr_ne (k' := m) (by omega), wr_ne (k' := m) (by omega), wr_ne (k' := m) (by omega), wr_ne (k' := m) (by omega)]; exact hzm m j (by omega))) (by show [Value.ref (ad16 34)] = _; rw [hq34_16]) rfl ⟨Nat.le_of_ble_eq_true rfl, Nat.le_of_ble_eq_true rfl⟩ (Nat.le_of_ble_eq_true rfl) (Rm_of hR (Nat.le_of_ble_eq_true rfl) (Nat.le_of_ble_eq_true rfl)) (fun ad17 ag17 => ?_)
  have hq0_17 : ad17 0 = ad0 0 := (ag17 0 (by decide)).trans hq0_16
  have hq6_17 : ad17 6 = ad8 6 := (ag17 6 (by decide)).trans hq6_16
  have hq1_17 : ad17 1 = ad15 1 := (ag17 1 (by decide)).trans hq1_16
  have hq34_17 : ad17 34 = q16 := (ag17 34 (by decide)).trans hq34_16
  show G θ (37, 2005) (qt_Q_25, ad17) _ _ _ _
  refine G_astq (pc := 134) (k := 1) (t := 34) X (dg dt_C_Q 65 rfl) rfl (by decide) rfl hq1_17 hq34_17 ?_
  show G θ (37, 2005) (qt_Q_26, ad17) _ _ _ _
  refine G_iinc (pc := 135) 1 X (dg dt_C_Q 66 rfl) rfl (Nat.le_of_ble_eq_true rfl) rfl (by decide) ?_
  refine G_goto (pc := 138) 113 X (dg dt_C_Q 67 rfl) (by decide) ?_
  refine G_iload_n (pc := 113) 1 X (dg dt_C_Q 54 rfl) rfl rfl ?_
  refine G_aload_n (pc := 114) 0 X (dg dt_C_Q 55 rfl) rfl rfl ?_
  refine G_getRQ (pc := 115) (k := 0) 0 X (dg dt_C_Q 56 rfl) fc_7 w_186 rfl (Nat.le_of_ble_eq_true rfl) rfl rfl hq0_17 ?_
  have hq1_17 : ad17 1 = ad17 1 := rfl
  refine G_alenQQ (pc := 118) 12 X (dg dt_C_Q 57 rfl) (k := 1) rfl (by decide) hq1_17 ?_
  refine G_icmp_ge (pc := 119) (a := 1) (b := 0) (r := 0) 141 X (dg dt_C_Q 58 rfl) (by decide) (by decide) (fun h => absurd h (by decide)) (fun _ => ?_)
  refine G_aload_n (pc := 122) 0 X (dg dt_C_Q 59 rfl) rfl rfl ?_
  refine G_getRQ (pc := 123) (k := 0) 0 X (dg dt_C_Q 60 rfl) fc_7 w_186 rfl (Nat.le_of_ble_eq_true rfl) rfl rfl hq0_17 ?_
  rw [hq1_17]
  refine G_iload_n (pc := 126) 1 X (dg dt_C_Q 61 rfl) rfl rfl ?_
  refine G_new (pc := 127) [some none, some none, some none, none, none] X (dg dt_C_Q 62 rfl) fc_0 w_32 w_34 w_8 rfl df_0 (by decide +kernel) (show ∀ j, (wr (wr (wr (wr (wr (wr (wr (wr (wr (wr (wr (wr (wr σm 10 3 0) 16 2 0) 18 5 0) 18 6 0) 26 3 2) 26 4 0) 30 3 2) 30 4 0) 23 5 0) 23 6 0) 0 8 0) 34 3 2) 34 4 0) 38 j = 0 from fun j => by rw [wr_ne (by decide), wr_ne (by decide), wr_ne (by decide), wr_ne (by decide), wr_ne (by decide), wr_ne (by decide), wr_ne (by decide), wr_ne (by decide), wr_ne (by decide), wr_ne (by decide), wr_ne (by decide), wr_ne (by decide), wr_ne (by decide)]; exact hzm _ _ (by decide)) (Rm_of hR (Nat.le_of_ble_eq_true rfl) (Nat.le_of_ble_eq_true rfl)) (fun ad18 q18 ag18 e18 => ?_)
  have hq0_18 : ad18 0 = ad0 0 := (ag18 0 (by decide)).trans hq0_17
  have hq6_18 : ad18 6 = ad8 6 := (ag18 6 (by decide)).trans hq6_17
  have hq1_18 : ad18 1 = ad17 1 := (ag18 1 (by decide)).trans hq1_17
  have hq38_18 : ad18 38 = q18 := e18
  show G θ (38, 2010) (qt_Q_27, ad18) _ _ _ _
  refine G_dup (pc := 130) X (dg dt_C_Q 63 rfl) rfl ?_
  refine G_callCN (pc := 131) (b := q18) (S := [.ref (q18), .int 1, .ref (ad17 1)]) [] nosub X (dg dt_C_Q 64 rfl) cb_C_Grid w_36 rfl w_35 (fun h9 => absurd h9 (by decide)) (s_C_Grid _ rfl (by decide +kernel) (fun m j hm => by have hm : 39 ≤ m := hm; rw [wr_ne (k' := m) (by omega), wr_ne (k' := m) (by omega), wr_ne (k' := m) (by omega), wr_ne (k' := m) (by omega), wr_ne (k' := m) (by omega), wr_ne (k' := m) (by omega), wr_ne (k' := m) (by omega), wr_ne (k' := m) (by omega), wr_ne (k' := m) (by omega), wr_ne (k' := m) (by omega), wr_ne (k' := m) (by omega), wr_ne (k' := m) (by omega), wr_ne (k' := m) (by omega)]; exact hzm m j (by omega))) (by show [Value.ref (ad18 38)] = _; rw [hq38_18]) rfl ⟨Nat.le_of_ble_eq_true rfl, Nat.le_of_ble_eq_true rfl⟩ (Nat.le_of_ble_eq_true rfl) (Rm_of hR (Nat.le_of_ble_eq_true rfl) (Nat.le_of_ble_eq_true rfl)) (fun ad19 ag19 => ?_)
  have hq0_19 : ad19 0 = ad0 0 := (ag19 0 (by decide)).trans hq0_18
  have hq6_19 : ad19 6 = ad8 6 := (ag19 6 (by decide)).trans hq6_18
  have hq1_19 : ad19 1 = ad17 1 := (ag19 1 (by decide)).trans hq1_18
  have hq38_19 : ad19 38 = q18 := (ag19 38 (by decide)).trans hq38_18
  show G θ (41, 2045) (qt_Q_28, ad19) _ _ _ _
  refine G_astq (pc := 134) (k := 1) (t := 38) X (dg dt_C_Q 65 rfl) rfl (by decide) rfl hq1_19 hq38_19 ?_
  show G θ (41, 2045) (qt_Q_29, ad19) _ _ _ _
  refine G_iinc (pc := 135) 2 X (dg dt_C_Q 66 rfl) rfl (Nat.le_of_ble_eq_true rfl) rfl (by decide) ?_
  refine G_goto (pc := 138) 113 X (dg dt_C_Q 67 rfl) (by decide) ?_
  refine G_iload_n (pc := 113) 1 X (dg dt_C_Q 54 rfl) rfl rfl ?_
  refine G_aload_n (pc := 114) 0 X (dg dt_C_Q 55 rfl) rfl rfl ?_
  refine G_getRQ (pc := 115) (k := 0) 0 X (dg dt_C_Q 56 rfl) fc_7 w_186 rfl (Nat.le_of_ble_eq_true rfl) rfl rfl hq0_19 ?_
  have hq1_19 : ad19 1 = ad19 1 := rfl
  refine G_alenQQ (pc := 118) 12 X (dg dt_C_Q 57 rfl) (k := 1) rfl (by decide) hq1_19 ?_
  refine G_icmp_ge (pc := 119) (a := 1) (b := 0) (r := 0) 141 X (dg dt_C_Q 58 rfl) (by decide) (by decide) (fun h => absurd h (by decide)) (fun _ => ?_)
  refine G_aload_n (pc := 122) 0 X (dg dt_C_Q 59 rfl) rfl rfl ?_
  refine G_getRQ (pc := 123) (k := 0) 0 X (dg dt_C_Q 60 rfl) fc_7 w_186 rfl (Nat.le_of_ble_eq_true rfl) rfl rfl hq0_19 ?_
  rw [hq1_19]
  refine G_iload_n (pc := 126) 1 X (dg dt_C_Q 61 rfl) rfl rfl ?_
  refine G_new (pc := 127) [some none, some none, some none, none, none] X (dg dt_C_Q 62 rfl) fc_0 w_32 w_34 w_8 rfl df_0 (by decide +kernel) (show ∀ j, (wr (wr (wr (wr (wr (wr (wr (wr (wr (wr (wr (wr (wr (wr (wr σm 10 3 0) 16 2 0) 18 5 0) 18 6 0) 26 3 2) 26 4 0) 30 3 2) 30 4 0) 23 5 0) 23 6 0) 0 8 0) 34 3 2) 34 4 0) 38 3 2) 38 4 0) 42 j = 0 from fun j => by rw [wr_ne (by decide), wr_ne (by decide), wr_ne (by decide), wr_ne (by decide), wr_ne (by decide), wr_ne (by decide), wr_ne (by decide), wr_ne (by decide), wr_ne (by decide), wr_ne (by decide), wr_ne (by decide), wr_ne (by decide), wr_ne (by decide), wr_ne (by decide), wr_ne (by decide)]; exact hzm _ _ (by decide)) (Rm_of hR (Nat.le_of_ble_eq_true rfl) (Nat.le_of_ble_eq_true rfl)) (fun ad20 q20 ag20 e20 => ?_)
  have hq0_20 : ad20 0 = ad0 0 := (ag20 0 (by decide)).trans hq0_19
  have hq6_20 : ad20 6 = ad8 6 := (ag20 6 (by decide)).trans hq6_19
  have hq1_20 : ad20 1 = ad19 1 := (ag20 1 (by decide)).trans hq1_19
  have hq42_20 : ad20 42 = q20 := e20
  show G θ (42, 2050) (qt_Q_30, ad20) _ _ _ _
  refine G_dup (pc := 130) X (dg dt_C_Q 63 rfl) rfl ?_
  refine G_callCN (pc := 131) (b := q20) (S := [.ref (q20), .int 2, .ref (ad19 1)]) [] nosub X (dg dt_C_Q 64 rfl) cb_C_Grid w_36 rfl w_35 (fun h9 => absurd h9 (by decide)) (s_C_Grid _ rfl (by decide +kernel) (fun m j hm => by have hm : 43 ≤ m := hm; rw [wr_ne (k' := m) (by omega), wr_ne (k' := m) (by omega), wr_ne (k' := m) (by omega), wr_ne (k' := m) (by omega), wr_ne (k' := m) (by omega), wr_ne (k' := m) (by omega), wr_ne (k' := m) (by omega), wr_ne (k' := m) (by omega), wr_ne (k' := m) (by omega), wr_ne (k' := m) (by omega), wr_ne (k' := m) (by omega), wr_ne (k' := m) (by omega), wr_ne (k' := m) (by omega), wr_ne (k' := m) (by omega), wr_ne (k' := m) (by omega)]; exact hzm m j (by omega))) (by show [Value.ref (ad20 42)] = _; rw [hq42_20]) rfl ⟨Nat.le_of_ble_eq_true rfl, Nat.le_of_ble_eq_true rfl⟩ (Nat.le_of_ble_eq_true rfl) (Rm_of hR (Nat.le_of_ble_eq_true rfl) (Nat.le_of_ble_eq_true rfl)) (fun ad21 ag21 => ?_)
  have hq0_21 : ad21 0 = ad0 0 := (ag21 0 (by decide)).trans hq0_20
  have hq6_21 : ad21 6 = ad8 6 := (ag21 6 (by decide)).trans hq6_20
  have hq1_21 : ad21 1 = ad19 1 := (ag21 1 (by decide)).trans hq1_20
  have hq42_21 : ad21 42 = q20 := (ag21 42 (by decide)).trans hq42_20
  show G θ (45, 2085) (qt_Q_31, ad21) _ _ _ _
  refine G_astq (pc := 134) (k := 1) (t := 42) X (dg dt_C_Q 65 rfl) rfl (by decide) rfl hq1_21 hq42_21 ?_
  show G θ (45, 2085) (qt_Q_32, ad21) _ _ _ _
  refine G_iinc (pc := 135) 3 X (dg dt_C_Q 66 rfl) rfl (Nat.le_of_ble_eq_true rfl) rfl (by decide) ?_
  refine G_goto (pc := 138) 113 X (dg dt_C_Q 67 rfl) (by decide) ?_
  refine G_iload_n (pc := 113) 1 X (dg dt_C_Q 54 rfl) rfl rfl ?_
  refine G_aload_n (pc := 114) 0 X (dg dt_C_Q 55 rfl) rfl rfl ?_
  refine G_getRQ (pc := 115) (k := 0) 0 X (dg dt_C_Q 56 rfl) fc_7 w_186 rfl (Nat.le_of_ble_eq_true rfl) rfl rfl hq0_21 ?_
  have hq1_21 : ad21 1 = ad21 1 := rfl
  refine G_alenQQ (pc := 118) 12 X (dg dt_C_Q 57 rfl) (k := 1) rfl (by decide) hq1_21 ?_
  refine G_icmp_ge (pc := 119) (a := 1) (b := 0) (r := 0) 141 X (dg dt_C_Q 58 rfl) (by decide) (by decide) (fun h => absurd h (by decide)) (fun _ => ?_)
  refine G_aload_n (pc := 122) 0 X (dg dt_C_Q 59 rfl) rfl rfl ?_
  refine G_getRQ (pc := 123) (k := 0) 0 X (dg dt_C_Q 60 rfl) fc_7 w_186 rfl (Nat.le_of_ble_eq_true rfl) rfl rfl hq0_21 ?_
  rw [hq1_21]
  refine G_iload_n (pc := 126) 1 X (dg dt_C_Q 61 rfl) rfl rfl ?_
  refine G_new (pc := 127) [some none, some none, some none, none, none] X (dg dt_C_Q 62 rfl) fc_0 w_32 w_34 w_8 rfl df_0 (by decide +kernel) (show ∀ j, (wr (wr (wr (wr (wr (wr (wr (wr (wr (wr (wr (wr (wr (wr (wr (wr (wr σm 10 3 0) 16 2 0) 18 5 0) 18 6 0) 26 3 2) 26 4 0) 30 3 2) 30 4 0) 23 5 0) 23 6 0) 0 8 0) 34 3 2) 34 4 0) 38 3 2) 38 4 0) 42 3 2) 42 4 0) 46 j = 0 from fun j => by rw [wr_ne (by decide), wr_ne (by decide), wr_ne (by decide), wr_ne (by decide), wr_ne (by decide), wr_ne (by decide), wr_ne (by decide), wr_ne (by decide), wr_ne (by decide), wr_ne (by decide), wr_ne (by decide), wr_ne (by decide), wr_ne (by decide), wr_ne (by decide), wr_ne (by decide), wr_ne (by decide), wr_ne (by decide)]; exact hzm _ _ (by decide)) (Rm_of hR (Nat.le_of_ble_eq_true rfl) (Nat.le_of_ble_eq_true rfl)) (fun ad22 q22 ag22 e22 => ?_)
  have hq0_22 : ad22 0 = ad0 0 := (ag22 0 (by decide)).trans hq0_21
  have hq6_22 : ad22 6 = ad8 6 := (ag22 6 (by decide)).trans hq6_21
  have hq1_22 : ad22 1 = ad21 1 := (ag22 1 (by decide)).trans hq1_21
  have hq46_22 : ad22 46 = q22 := e22
  show G θ (46, 2090) (qt_Q_33, ad22) _ _ _ _
  refine G_dup (pc := 130) X (dg dt_C_Q 63 rfl) rfl ?_
  refine G_callCN (pc := 131) (b := q22) (S := [.ref (q22), .int 3, .ref (ad21 1)]) [] nosub X (dg dt_C_Q 64 rfl) cb_C_Grid w_36 rfl w_35 (fun h9 => absurd h9 (by decide)) (s_C_Grid _ rfl (by decide +kernel) (fun m j hm => by have hm : 47 ≤ m := hm; rw [wr_ne (k' := m) (by omega), wr_ne (k' := m) (by omega), wr_ne (k' := m) (by omega), wr_ne (k' := m) (by omega), wr_ne (k' := m) (by omega), wr_ne (k' := m) (by omega), wr_ne (k' := m) (by omega), wr_ne (k' := m) (by omega), wr_ne (k' := m) (by omega), wr_ne (k' := m) (by omega), wr_ne (k' := m) (by omega), wr_ne (k' := m) (by omega), wr_ne (k' := m) (by omega), wr_ne (k' := m) (by omega), wr_ne (k' := m) (by omega), wr_ne (k' := m) (by omega), wr_ne (k' := m) (by omega)]; exact hzm m j (by omega))) (by show [Value.ref (ad22 46)] = _; rw [hq46_22]) rfl ⟨Nat.le_of_ble_eq_true rfl, Nat.le_of_ble_eq_true rfl⟩ (Nat.le_of_ble_eq_true rfl) (Rm_of hR (Nat.le_of_ble_eq_true rfl) (Nat.le_of_ble_eq_true rfl)) (fun ad23 ag23 => ?_)
  have hq0_23 : ad23 0 = ad0 0 := (ag23 0 (by decide)).trans hq0_22
  have hq6_23 : ad23 6 = ad8 6 := (ag23 6 (by decide)).trans hq6_22
  have hq1_23 : ad23 1 = ad21 1 := (ag23 1 (by decide)).trans hq1_22
  have hq46_23 : ad23 46 = q22 := (ag23 46 (by decide)).trans hq46_22
  show G θ (49, 2125) (qt_Q_34, ad23) _ _ _ _
  refine G_astq (pc := 134) (k := 1) (t := 46) X (dg dt_C_Q 65 rfl) rfl (by decide) rfl hq1_23 hq46_23 ?_
  show G θ (49, 2125) (qt_Q_35, ad23) _ _ _ _
  refine G_iinc (pc := 135) 4 X (dg dt_C_Q 66 rfl) rfl (Nat.le_of_ble_eq_true rfl) rfl (by decide) ?_
  refine G_goto (pc := 138) 113 X (dg dt_C_Q 67 rfl) (by decide) ?_
  refine G_iload_n (pc := 113) 1 X (dg dt_C_Q 54 rfl) rfl rfl ?_
  refine G_aload_n (pc := 114) 0 X (dg dt_C_Q 55 rfl) rfl rfl ?_
  refine G_getRQ (pc := 115) (k := 0) 0 X (dg dt_C_Q 56 rfl) fc_7 w_186 rfl (Nat.le_of_ble_eq_true rfl) rfl rfl hq0_23 ?_
  have hq1_23 : ad23 1 = ad23 1 := rfl
  refine G_alenQQ (pc := 118) 12 X (dg dt_C_Q 57 rfl) (k := 1) rfl (by decide) hq1_23 ?_
  refine G_icmp_ge (pc := 119) (a := 1) (b := 0) (r := 0) 141 X (dg dt_C_Q 58 rfl) (by decide) (by decide) (fun h => absurd h (by decide)) (fun _ => ?_)
  refine G_aload_n (pc := 122) 0 X (dg dt_C_Q 59 rfl) rfl rfl ?_
  refine G_getRQ (pc := 123) (k := 0) 0 X (dg dt_C_Q 60 rfl) fc_7 w_186 rfl (Nat.le_of_ble_eq_true rfl) rfl rfl hq0_23 ?_
  rw [hq1_23]
  refine G_iload_n (pc := 126) 1 X (dg dt_C_Q 61 rfl) rfl rfl ?_
  refine G_new (pc := 127) [some none, some none, some none, none, none] X (dg dt_C_Q 62 rfl) fc_0 w_32 w_34 w_8 rfl df_0 (by decide +kernel) (show ∀ j, (wr (wr (wr (wr (wr (wr (wr (wr (wr (wr (wr (wr (wr (wr (wr (wr (wr (wr (wr σm 10 3 0) 16 2 0) 18 5 0) 18 6 0) 26 3 2) 26 4 0) 30 3 2) 30 4 0) 23 5 0) 23 6 0) 0 8 0) 34 3 2) 34 4 0) 38 3 2) 38 4 0) 42 3 2) 42 4 0) 46 3 2) 46 4 0) 50 j = 0 from fun j => by rw [wr_ne (by decide), wr_ne (by decide), wr_ne (by decide), wr_ne (by decide), wr_ne (by decide), wr_ne (by decide), wr_ne (by decide), wr_ne (by decide), wr_ne (by decide), wr_ne (by decide), wr_ne (by decide), wr_ne (by decide), wr_ne (by decide), wr_ne (by decide), wr_ne (by decide), wr_ne (by decide), wr_ne (by decide), wr_ne (by decide), wr_ne (by decide)]; exact hzm _ _ (by decide)) (Rm_of hR (Nat.le_of_ble_eq_true rfl) (Nat.le_of_ble_eq_true rfl)) (fun ad24 q24 ag24 e24 => ?_)
  have hq0_24 : ad24 0 = ad0 0 := (ag24 0 (by decide)).trans hq0_23
  have hq6_24 : ad24 6 = ad8 6 := (ag24 6 (by decide)).trans hq6_23
  have hq1_24 : ad24 1 = ad23 1 := (ag24 1 (by decide)).trans hq1_23
  have hq50_24 : ad24 50 = q24 := e24
  show G θ (50, 2130) (qt_Q_36, ad24) _ _ _ _
  refine G_dup (pc := 130) X (dg dt_C_Q 63 rfl) rfl ?_
  refine G_callCN (pc := 131) (b := q24) (S := [.ref (q24), .int 4, .ref (ad23 1)]) [] nosub X (dg dt_C_Q 64 rfl) cb_C_Grid w_36 rfl w_35 (fun h9 => absurd h9 (by decide)) (s_C_Grid _ rfl (by decide +kernel) (fun m j hm => by have hm : 51 ≤ m := hm; rw [wr_ne (k' := m) (by omega), wr_ne (k' := m) (by omega), wr_ne (k' := m) (by omega), wr_ne (k' := m) (by omega), wr_ne (k' := m) (by omega), wr_ne (k' := m) (by omega), wr_ne (k' := m) (by omega), wr_ne (k' := m) (by omega), wr_ne (k' := m) (by omega), wr_ne (k' := m) (by omega), wr_ne (k' := m) (by omega), wr_ne (k' := m) (by omega), wr_ne (k' := m) (by omega), wr_ne (k' := m) (by omega), wr_ne (k' := m) (by omega), wr_ne (k' := m) (by omega), wr_ne (k' := m) (by omega), wr_ne (k' := m) (by omega), wr_ne (k' := m) (by omega)]; exact hzm m j (by omega))) (by show [Value.ref (ad24 50)] = _; rw [hq50_24]) rfl ⟨Nat.le_of_ble_eq_true rfl, Nat.le_of_ble_eq_true rfl⟩ (Nat.le_of_ble_eq_true rfl) (Rm_of hR (Nat.le_of_ble_eq_true rfl) (Nat.le_of_ble_eq_true rfl)) (fun ad25 ag25 => ?_)
  have hq0_25 : ad25 0 = ad0 0 := (ag25 0 (by decide)).trans hq0_24
  have hq6_25 : ad25 6 = ad8 6 := (ag25 6 (by decide)).trans hq6_24
  have hq1_25 : ad25 1 = ad23 1 := (ag25 1 (by decide)).trans hq1_24
  have hq50_25 : ad25 50 = q24 := (ag25 50 (by decide)).trans hq50_24
  show G θ (53, 2165) (qt_Q_37, ad25) _ _ _ _
  refine G_astq (pc := 134) (k := 1) (t := 50) X (dg dt_C_Q 65 rfl) rfl (by decide) rfl hq1_25 hq50_25 ?_
  show G θ (53, 2165) (qt_Q_38, ad25) _ _ _ _
  refine G_iinc (pc := 135) 5 X (dg dt_C_Q 66 rfl) rfl (Nat.le_of_ble_eq_true rfl) rfl (by decide) ?_
  refine G_goto (pc := 138) 113 X (dg dt_C_Q 67 rfl) (by decide) ?_
  refine G_iload_n (pc := 113) 1 X (dg dt_C_Q 54 rfl) rfl rfl ?_
  refine G_aload_n (pc := 114) 0 X (dg dt_C_Q 55 rfl) rfl rfl ?_
  refine G_getRQ (pc := 115) (k := 0) 0 X (dg dt_C_Q 56 rfl) fc_7 w_186 rfl (Nat.le_of_ble_eq_true rfl) rfl rfl hq0_25 ?_
  have hq1_25 : ad25 1 = ad25 1 := rfl
  refine G_alenQQ (pc := 118) 12 X (dg dt_C_Q 57 rfl) (k := 1) rfl (by decide) hq1_25 ?_
  refine G_icmp_ge (pc := 119) (a := 1) (b := 0) (r := 0) 141 X (dg dt_C_Q 58 rfl) (by decide) (by decide) (fun h => absurd h (by decide)) (fun _ => ?_)
  refine G_aload_n (pc := 122) 0 X (dg dt_C_Q 59 rfl) rfl rfl ?_
  refine G_getRQ (pc := 123) (k := 0) 0 X (dg dt_C_Q 60 rfl) fc_7 w_186 rfl (Nat.le_of_ble_eq_true rfl) rfl rfl hq0_25 ?_
  rw [hq1_25]
  refine G_iload_n (pc := 126) 1 X (dg dt_C_Q 61 rfl) rfl rfl ?_
  refine G_new (pc := 127) [some none, some none, some none, none, none] X (dg dt_C_Q 62 rfl) fc_0 w_32 w_34 w_8 rfl df_0 (by decide +kernel) (show ∀ j, (wr (wr (wr (wr (wr (wr (wr (wr (wr (wr (wr (wr (wr (wr (wr (wr (wr (wr (wr (wr (wr σm 10 3 0) 16 2 0) 18 5 0) 18 6 0) 26 3 2) 26 4 0) 30 3 2) 30 4 0) 23 5 0) 23 6 0) 0 8 0) 34 3 2) 34 4 0) 38 3 2) 38 4 0) 42 3 2) 42 4 0) 46 3 2) 46 4 0) 50 3 2) 50 4 0) 54 j = 0 from fun j => by rw [wr_ne (by decide), wr_ne (by decide), wr_ne (by decide), wr_ne (by decide), wr_ne (by decide), wr_ne (by decide), wr_ne (by decide), wr_ne (by decide), wr_ne (by decide), wr_ne (by decide), wr_ne (by decide), wr_ne (by decide), wr_ne (by decide), wr_ne (by decide), wr_ne (by decide), wr_ne (by decide), wr_ne (by decide), wr_ne (by decide), wr_ne (by decide), wr_ne (by decide), wr_ne (by decide)]; exact hzm _ _ (by decide)) (Rm_of hR (Nat.le_of_ble_eq_true rfl) (Nat.le_of_ble_eq_true rfl)) (fun ad26 q26 ag26 e26 => ?_)
  have hq0_26 : ad26 0 = ad0 0 := (ag26 0 (by decide)).trans hq0_25
  have hq6_26 : ad26 6 = ad8 6 := (ag26 6 (by decide)).trans hq6_25
  have hq1_26 : ad26 1 = ad25 1 := (ag26 1 (by decide)).trans hq1_25
  have hq54_26 : ad26 54 = q26 := e26
  show G θ (54, 2170) (qt_Q_39, ad26) _ _ _ _
  refine G_dup (pc := 130) X (dg dt_C_Q 63 rfl) rfl ?_
  refine G_callCN (pc := 131) (b := q26) (S := [.ref (q26), .int 5, .ref (ad25 1)]) [] nosub X (dg dt_C_Q 64 rfl) cb_C_Grid w_36 rfl w_35 (fun h9 => absurd h9 (by decide)) (s_C_Grid _ rfl (by decide +kernel) (fun m j hm => by have hm : 55 ≤ m := hm; rw [wr_ne (k' := m) (by omega), wr_ne (k' := m) (by omega), wr_ne (k' := m) (by omega), wr_ne (k' := m) (by omega), wr_ne (k' := m) (by omega), wr_ne (k' := m) (by omega), wr_ne (k' := m) (by omega), wr_ne (k' := m) (by omega), wr_ne (k' := m) (by omega), wr_ne (k' := m) (by omega), wr_ne (k' := m) (by omega), wr_ne (k' := m) (by omega), wr_ne (k' := m) (by omega), wr_ne (k' := m) (by omega), wr_ne (k' := m) (by omega), wr_ne (k' := m) (by omega), wr_ne (k' := m) (by omega), wr_ne (k' := m) (by omega), wr_ne (k' := m) (by omega), wr_ne (k' := m) (by omega), wr_ne (k' := m) (by omega)]; exact hzm m j (by omega))) (by show [Value.ref (ad26 54)] = _; rw [hq54_26]) rfl ⟨Nat.le_of_ble_eq_true rfl, Nat.le_of_ble_eq_true rfl⟩ (Nat.le_of_ble_eq_true rfl) (Rm_of hR (Nat.le_of_ble_eq_true rfl) (Nat.le_of_ble_eq_true rfl)) (fun ad27 ag27 => ?_)
  have hq0_27 : ad27 0 = ad0 0 := (ag27 0 (by decide)).trans hq0_26
  have hq6_27 : ad27 6 = ad8 6 := (ag27 6 (by decide)).trans hq6_26
  have hq1_27 : ad27 1 = ad25 1 := (ag27 1 (by decide)).trans hq1_26
  have hq54_27 : ad27 54 = q26 := (ag27 54 (by decide)).trans hq54_26
  show G θ (57, 2205) (qt_Q_40, ad27) _ _ _ _
  refine G_astq (pc := 134) (k := 1) (t := 54) X (dg dt_C_Q 65 rfl) rfl (by decide) rfl hq1_27 hq54_27 ?_
  show G θ (57, 2205) (qt_Q_41, ad27) _ _ _ _
  refine G_iinc (pc := 135) 6 X (dg dt_C_Q 66 rfl) rfl (Nat.le_of_ble_eq_true rfl) rfl (by decide) ?_
  refine G_goto (pc := 138) 113 X (dg dt_C_Q 67 rfl) (by decide) ?_
  refine G_iload_n (pc := 113) 1 X (dg dt_C_Q 54 rfl) rfl rfl ?_
  refine G_aload_n (pc := 114) 0 X (dg dt_C_Q 55 rfl) rfl rfl ?_
  refine G_getRQ (pc := 115) (k := 0) 0 X (dg dt_C_Q 56 rfl) fc_7 w_186 rfl (Nat.le_of_ble_eq_true rfl) rfl rfl hq0_27 ?_
  have hq1_27 : ad27 1 = ad27 1 := rfl
  refine G_alenQQ (pc := 118) 12 X (dg dt_C_Q 57 rfl) (k := 1) rfl (by decide) hq1_27 ?_
  refine G_icmp_ge (pc := 119) (a := 1) (b := 0) (r := 0) 141 X (dg dt_C_Q 58 rfl) (by decide) (by decide) (fun h => absurd h (by decide)) (fun _ => ?_)
  refine G_aload_n (pc := 122) 0 X (dg dt_C_Q 59 rfl) rfl rfl ?_
  refine G_getRQ (pc := 123) (k := 0) 0 X (dg dt_C_Q 60 rfl) fc_7 w_186 rfl (Nat.le_of_ble_eq_true rfl) rfl rfl hq0_27 ?_
  rw [hq1_27]
  refine G_iload_n (pc := 126) 1 X (dg dt_C_Q 61 rfl) rfl rfl ?_
  refine G_new (pc := 127) [some none, some none, some none, none, none] X (dg dt_C_Q 62 rfl) fc_0 w_32 w_34 w_8 rfl df_0 (by decide +kernel) (show ∀ j, (wr (wr (wr (wr (wr (wr (wr (wr (wr (wr (wr (wr (wr (wr (wr (wr (wr (wr (wr (wr (wr (wr (wr σm 10 3 0) 16 2 0) 18 5 0) 18 6 0) 26 3 2) 26 4 0) 30 3 2) 30 4 0) 23 5 0) 23 6 0) 0 8 0) 34 3 2) 34 4 0) 38 3 2) 38 4 0) 42 3 2) 42 4 0) 46 3 2) 46 4 0) 50 3 2) 50 4 0) 54 3 2) 54 4 0) 58 j = 0 from fun j => by rw [wr_ne (by decide), wr_ne (by decide), wr_ne (by decide), wr_ne (by decide), wr_ne (by decide), wr_ne (by decide), wr_ne (by decide), wr_ne (by decide), wr_ne (by decide), wr_ne (by decide), wr_ne (by decide), wr_ne (by decide), wr_ne (by decide), wr_ne (by decide), wr_ne (by decide), wr_ne (by decide), wr_ne (by decide), wr_ne (by decide), wr_ne (by decide), wr_ne (by decide), wr_ne (by decide), wr_ne (by decide), wr_ne (by decide)]; exact hzm _ _ (by decide)) (Rm_of hR (Nat.le_of_ble_eq_true rfl) (Nat.le_of_ble_eq_true rfl)) (fun ad28 q28 ag28 e28 => ?_)
  have hq0_28 : ad28 0 = ad0 0 := (ag28 0 (by decide)).trans hq0_27
  have hq6_28 : ad28 6 = ad8 6 := (ag28 6 (by decide)).trans hq6_27
  have hq1_28 : ad28 1 = ad27 1 := (ag28 1 (by decide)).trans hq1_27
  have hq58_28 : ad28 58 = q28 := e28
  show G θ (58, 2210) (qt_Q_42, ad28) _ _ _ _
  refine G_dup (pc := 130) X (dg dt_C_Q 63 rfl) rfl ?_
  refine G_callCN (pc := 131) (b := q28) (S := [.ref (q28), .int 6, .ref (ad27 1)]) [] nosub X (dg dt_C_Q 64 rfl) cb_C_Grid w_36 rfl w_35 (fun h9 => absurd h9 (by decide)) (s_C_Grid _ rfl (by decide +kernel) (fun m j hm => by have hm : 59 ≤ m := hm; rw [wr_ne (k' := m) (by omega), wr_ne (k' := m) (by omega), wr_ne (k' := m) (by omega), wr_ne (k' := m) (by omega), wr_ne (k' := m) (by omega), wr_ne (k' := m) (by omega), wr_ne (k' := m) (by omega), wr_ne (k' := m) (by omega), wr_ne (k' := m) (by omega), wr_ne (k' := m) (by omega), wr_ne (k' := m) (by omega), wr_ne (k' := m) (by omega), wr_ne (k' := m) (by omega), wr_ne (k' := m) (by omega), wr_ne (k' := m) (by omega), wr_ne (k' := m) (by omega), wr_ne (k' := m) (by omega), wr_ne (k' := m) (by omega), wr_ne (k' := m) (by omega), wr_ne (k' := m) (by omega), wr_ne (k' := m) (by omega), wr_ne (k' := m) (by omega), wr_ne (k' := m) (by omega)]; exact hzm m j (by omega))) (by show [Value.ref (ad28 58)] = _; rw [hq58_28]) rfl ⟨Nat.le_of_ble_eq_true rfl, Nat.le_of_ble_eq_true rfl⟩ (Nat.le_of_ble_eq_true rfl) (Rm_of hR (Nat.le_of_ble_eq_true rfl) (Nat.le_of_ble_eq_true rfl)) (fun ad29 ag29 => ?_)
  have hq0_29 : ad29 0 = ad0 0 := (ag29 0 (by decide)).trans hq0_28
  have hq6_29 : ad29 6 = ad8 6 := (ag29 6 (by decide)).trans hq6_28
  have hq1_29 : ad29 1 = ad27 1 := (ag29 1 (by decide)).trans hq1_28
  have hq58_29 : ad29 58 = q28 := (ag29 58 (by decide)).trans hq58_28
  show G θ (61, 2245) (qt_Q_43, ad29) _ _ _ _
  refine G_astq (pc := 134) (k := 1) (t := 58) X (dg dt_C_Q 65 rfl) rfl (by decide) rfl hq1_29 hq58_29 ?_
  show G θ (61, 2245) (qt_Q_44, ad29) _ _ _ _
  refine G_iinc (pc := 135) 7 X (dg dt_C_Q 66 rfl) rfl (Nat.le_of_ble_eq_true rfl) rfl (by decide) ?_
  refine G_goto (pc := 138) 113 X (dg dt_C_Q 67 rfl) (by decide) ?_
  refine G_iload_n (pc := 113) 1 X (dg dt_C_Q 54 rfl) rfl rfl ?_
  refine G_aload_n (pc := 114) 0 X (dg dt_C_Q 55 rfl) rfl rfl ?_
  refine G_getRQ (pc := 115) (k := 0) 0 X (dg dt_C_Q 56 rfl) fc_7 w_186 rfl (Nat.le_of_ble_eq_true rfl) rfl rfl hq0_29 ?_
  have hq1_29 : ad29 1 = ad29 1 := rfl
  refine G_alenQQ (pc := 118) 12 X (dg dt_C_Q 57 rfl) (k := 1) rfl (by decide) hq1_29 ?_
  refine G_icmp_ge (pc := 119) (a := 1) (b := 0) (r := 0) 141 X (dg dt_C_Q 58 rfl) (by decide) (by decide) (fun h => absurd h (by decide)) (fun _ => ?_)
  refine G_aload_n (pc := 122) 0 X (dg dt_C_Q 59 rfl) rfl rfl ?_
  refine G_getRQ (pc := 123) (k := 0) 0 X (dg dt_C_Q 60 rfl) fc_7 w_186 rfl (Nat.le_of_ble_eq_true rfl) rfl rfl hq0_29 ?_
  rw [hq1_29]
  refine G_iload_n (pc := 126) 1 X (dg dt_C_Q 61 rfl) rfl rfl ?_
  refine G_new (pc := 127) [some none, some none, some none, none, none] X (dg dt_C_Q 62 rfl) fc_0 w_32 w_34 w_8 rfl df_0 (by decide +kernel) (show ∀ j, (wr (wr (wr (wr (wr (wr (wr (wr (wr (wr (wr (wr (wr (wr (wr (wr (wr (wr (wr (wr (wr (wr (wr (wr (wr σm 10 3 0) 16 2 0) 18 5 0) 18 6 0) 26 3 2) 26 4 0) 30 3 2) 30 4 0) 23 5 0) 23 6 0) 0 8 0) 34 3 2) 34 4 0) 38 3 2) 38 4 0) 42 3 2) 42 4 0) 46 3 2) 46 4 0) 50 3 2) 50 4 0) 54 3 2) 54 4 0) 58 3 2) 58 4 0) 62 j = 0 from fun j => by rw [wr_ne (by decide), wr_ne (by decide), wr_ne (by decide), wr_ne (by decide), wr_ne (by decide), wr_ne (by decide), wr_ne (by decide), wr_ne (by decide), wr_ne (by decide), wr_ne (by decide), wr_ne (by decide), wr_ne (by decide), wr_ne (by decide), wr_ne (by decide), wr_ne (by decide), wr_ne (by decide), wr_ne (by decide), wr_ne (by decide), wr_ne (by decide), wr_ne (by decide), wr_ne (by decide), wr_ne (by decide), wr_ne (by decide), wr_ne (by decide), wr_ne (by decide)]; exact hzm _ _ (by decide)) (Rm_of hR (Nat.le_of_ble_eq_true rfl) (Nat.le_of_ble_eq_true rfl)) (fun ad30 q30 ag30 e30 => ?_)
  have hq0_30 : ad30 0 = ad0 0 := (ag30 0 (by decide)).trans hq0_29
  have hq6_30 : ad30 6 = ad8 6 := (ag30 6 (by decide)).trans hq6_29
  have hq1_30 : ad30 1 = ad29 1 := (ag30 1 (by decide)).trans hq1_29
  have hq62_30 : ad30 62 = q30 := e30
  show G θ (62, 2250) (qt_Q_45, ad30) _ _ _ _
  refine G_dup (pc := 130) X (dg dt_C_Q 63 rfl) rfl ?_
  refine G_callCN (pc := 131) (b := q30) (S := [.ref (q30), .int 7, .ref (ad29 1)]) [] nosub X (dg dt_C_Q 64 rfl) cb_C_Grid w_36 rfl w_35 (fun h9 => absurd h9 (by decide)) (s_C_Grid _ rfl (by decide +kernel) (fun m j hm => by have hm : 63 ≤ m := hm; rw [wr_ne (k' := m) (by omega), wr_ne (k' := m) (by omega), wr_ne (k' := m) (by omega), wr_ne (k' := m) (by omega), wr_ne (k' := m) (by omega), wr_ne (k' := m) (by omega), wr_ne (k' := m) (by omega), wr_ne (k' := m) (by omega), wr_ne (k' := m) (by omega), wr_ne (k' := m) (by omega), wr_ne (k' := m) (by omega), wr_ne (k' := m) (by omega), wr_ne (k' := m) (by omega), wr_ne (k' := m) (by omega), wr_ne (k' := m) (by omega), wr_ne (k' := m) (by omega), wr_ne (k' := m) (by omega), wr_ne (k' := m) (by omega), wr_ne (k' := m) (by omega), wr_ne (k' := m) (by omega), wr_ne (k' := m) (by omega), wr_ne (k' := m) (by omega), wr_ne (k' := m) (by omega), wr_ne (k' := m) (by omega), wr_ne (k' := m) (by omega)]; exact hzm m j (by omega))) (by show [Value.ref (ad30 62)] = _; rw [hq62_30]) rfl ⟨Nat.le_of_ble_eq_true rfl, Nat.le_of_ble_eq_true rfl⟩ (Nat.le_of_ble_eq_true rfl) (Rm_of hR (Nat.le_of_ble_eq_true rfl) (Nat.le_of_ble_eq_true rfl)) (fun ad31 ag31 => ?_)
  have hq0_31 : ad31 0 = ad0 0 := (ag31 0 (by decide)).trans hq0_30
  have hq6_31 : ad31 6 = ad8 6 := (ag31 6 (by decide)).trans hq6_30
  have hq1_31 : ad31 1 = ad29 1 := (ag31 1 (by decide)).trans hq1_30
  have hq62_31 : ad31 62 = q30 := (ag31 62 (by decide)).trans hq62_30
  show G θ (65, 2285) (qt_Q_46, ad31) _ _ _ _
  refine G_astq (pc := 134) (k := 1) (t := 62) X (dg dt_C_Q 65 rfl) rfl (by decide) rfl hq1_31 hq62_31 ?_
  show G θ (65, 2285) (qt_Q_47, ad31) _ _ _ _
  refine G_iinc (pc := 135) 8 X (dg dt_C_Q 66 rfl) rfl (Nat.le_of_ble_eq_true rfl) rfl (by decide) ?_
  refine G_goto (pc := 138) 113 X (dg dt_C_Q 67 rfl) (by decide) ?_
  refine G_iload_n (pc := 113) 1 X (dg dt_C_Q 54 rfl) rfl rfl ?_
  refine G_aload_n (pc := 114) 0 X (dg dt_C_Q 55 rfl) rfl rfl ?_
  refine G_getRQ (pc := 115) (k := 0) 0 X (dg dt_C_Q 56 rfl) fc_7 w_186 rfl (Nat.le_of_ble_eq_true rfl) rfl rfl hq0_31 ?_
  have hq1_31 : ad31 1 = ad31 1 := rfl
  refine G_alenQQ (pc := 118) 12 X (dg dt_C_Q 57 rfl) (k := 1) rfl (by decide) hq1_31 ?_
  refine G_icmp_ge (pc := 119) (a := 1) (b := 0) (r := 0) 141 X (dg dt_C_Q 58 rfl) (by decide) (by decide) (fun h => absurd h (by decide)) (fun _ => ?_)
  refine G_aload_n (pc := 122) 0 X (dg dt_C_Q 59 rfl) rfl rfl ?_
  refine G_getRQ (pc := 123) (k := 0) 0 X (dg dt_C_Q 60 rfl) fc_7 w_186 rfl (Nat.le_of_ble_eq_true rfl) rfl rfl hq0_31 ?_
  rw [hq1_31]
  refine G_iload_n (pc := 126) 1 X (dg dt_C_Q 61 rfl) rfl rfl ?_
  refine G_new (pc := 127) [some none, some none, some none, none, none] X (dg dt_C_Q 62 rfl) fc_0 w_32 w_34 w_8 rfl df_0 (by decide +kernel) (show ∀ j, (wr (wr (wr (wr (wr (wr (wr (wr (wr (wr (wr (wr (wr (wr (wr (wr (wr (wr (wr (wr (wr (wr (wr (wr (wr (wr (wr σm 10 3 0) 16 2 0) 18 5 0) 18 6 0) 26 3 2) 26 4 0) 30 3 2) 30 4 0) 23 5 0) 23 6 0) 0 8 0) 34 3 2) 34 4 0) 38 3 2) 38 4 0) 42 3 2) 42 4 0) 46 3 2) 46 4 0) 50 3 2) 50 4 0) 54 3 2) 54 4 0) 58 3 2) 58 4 0) 62 3 2) 62 4 0) 66 j = 0 from fun j => by rw [wr_ne (by decide), wr_ne (by decide), wr_ne (by decide), wr_ne (by decide), wr_ne (by decide), wr_ne (by decide), wr_ne (by decide), wr_ne (by decide), wr_ne (by decide), wr_ne (by decide), wr_ne (by decide), wr_ne (by decide), wr_ne (by decide), wr_ne (by decide), wr_ne (by decide), wr_ne (by decide), wr_ne (by decide), wr_ne (by decide), wr_ne (by decide), wr_ne (by decide), wr_ne (by decide), wr_ne (by decide), wr_ne (by decide), wr_ne (by decide), wr_ne (by decide), wr_ne (by decide), wr_ne (by decide)]; exact hzm _ _ (by decide)) (Rm_of hR (Nat.le_of_ble_eq_true rfl) (Nat.le_of_ble_eq_true rfl)) (fun ad32 q32 ag32 e32 => ?_)
  have hq0_32 : ad32 0 = ad0 0 := (ag32 0 (by decide)).trans hq0_31
  have hq6_32 : ad32 6 = ad8 6 := (ag32 6 (by decide)).trans hq6_31
  have hq1_32 : ad32 1 = ad31 1 := (ag32 1 (by decide)).trans hq1_31
  have hq66_32 : ad32 66 = q32 := e32
  show G θ (66, 2290) (qt_Q_48, ad32) _ _ _ _
  refine G_dup (pc := 130) X (dg dt_C_Q 63 rfl) rfl ?_
  refine G_callCN (pc := 131) (b := q32) (S := [.ref (q32), .int 8, .ref (ad31 1)]) [] nosub X (dg dt_C_Q 64 rfl) cb_C_Grid w_36 rfl w_35 (fun h9 => absurd h9 (by decide)) (s_C_Grid _ rfl (by decide +kernel) (fun m j hm => by have hm : 67 ≤ m := hm; rw [wr_ne (k' := m) (by omega), wr_ne (k' := m) (by omega), wr_ne (k' := m) (by omega), wr_ne (k' := m) (by omega), wr_ne (k' := m) (by omega), wr_ne (k' := m) (by omega), wr_ne (k' := m) (by omega), wr_ne (k' := m) (by omega), wr_ne (k' := m) (by omega), wr_ne (k' := m) (by omega), wr_ne (k' := m) (by omega), wr_ne (k' := m) (by omega), wr_ne (k' := m) (by omega), wr_ne (k' := m) (by omega), wr_ne (k' := m) (by omega), wr_ne (k' := m) (by omega), wr_ne (k' := m) (by omega), wr_ne (k' := m) (by omega), wr_ne (k' := m) (by omega), wr_ne (k' := m) (by omega), wr_ne (k' := m) (by omega), wr_ne (k' := m) (by omega), wr_ne (k' := m) (by omega), wr_ne (k' := m) (by omega), wr_ne (k' := m) (by omega), wr_ne (k' := m) (by omega), wr_ne (k' := m) (by omega)]; exact hzm m j (by omega))) (by show [Value.ref (ad32 66)] = _; rw [hq66_32]) rfl ⟨Nat.le_of_ble_eq_true rfl, Nat.le_of_ble_eq_true rfl⟩ (Nat.le_of_ble_eq_true rfl) (Rm_of hR (Nat.le_of_ble_eq_true rfl) (Nat.le_of_ble_eq_true rfl)) (fun ad33 ag33 => ?_)
  have hq0_33 : ad33 0 = ad0 0 := (ag33 0 (by decide)).trans hq0_32
  have hq6_33 : ad33 6 = ad8 6 := (ag33 6 (by decide)).trans hq6_32
  have hq1_33 : ad33 1 = ad31 1 := (ag33 1 (by decide)).trans hq1_32
  have hq66_33 : ad33 66 = q32 := (ag33 66 (by decide)).trans hq66_32
  show G θ (69, 2325) (qt_Q_49, ad33) _ _ _ _
  refine G_astq (pc := 134) (k := 1) (t := 66) X (dg dt_C_Q 65 rfl) rfl (by decide) rfl hq1_33 hq66_33 ?_
  show G θ (69, 2325) (qt_Q_50, ad33) _ _ _ _
  refine G_iinc (pc := 135) 9 X (dg dt_C_Q 66 rfl) rfl (Nat.le_of_ble_eq_true rfl) rfl (by decide) ?_
  refine G_goto (pc := 138) 113 X (dg dt_C_Q 67 rfl) (by decide) ?_
  refine G_iload_n (pc := 113) 1 X (dg dt_C_Q 54 rfl) rfl rfl ?_
  refine G_aload_n (pc := 114) 0 X (dg dt_C_Q 55 rfl) rfl rfl ?_
  refine G_getRQ (pc := 115) (k := 0) 0 X (dg dt_C_Q 56 rfl) fc_7 w_186 rfl (Nat.le_of_ble_eq_true rfl) rfl rfl hq0_33 ?_
  have hq1_33 : ad33 1 = ad33 1 := rfl
  refine G_alenQQ (pc := 118) 12 X (dg dt_C_Q 57 rfl) (k := 1) rfl (by decide) hq1_33 ?_
  refine G_icmp_ge (pc := 119) (a := 1) (b := 0) (r := 0) 141 X (dg dt_C_Q 58 rfl) (by decide) (by decide) (fun h => absurd h (by decide)) (fun _ => ?_)
  refine G_aload_n (pc := 122) 0 X (dg dt_C_Q 59 rfl) rfl rfl ?_
  refine G_getRQ (pc := 123) (k := 0) 0 X (dg dt_C_Q 60 rfl) fc_7 w_186 rfl (Nat.le_of_ble_eq_true rfl) rfl rfl hq0_33 ?_
  rw [hq1_33]
  refine G_iload_n (pc := 126) 1 X (dg dt_C_Q 61 rfl) rfl rfl ?_
  refine G_new (pc := 127) [some none, some none, some none, none, none] X (dg dt_C_Q 62 rfl) fc_0 w_32 w_34 w_8 rfl df_0 (by decide +kernel) (show ∀ j, (wr (wr (wr (wr (wr (wr (wr (wr (wr (wr (wr (wr (wr (wr (wr (wr (wr (wr (wr (wr (wr (wr (wr (wr (wr (wr (wr (wr (wr σm 10 3 0) 16 2 0) 18 5 0) 18 6 0) 26 3 2) 26 4 0) 30 3 2) 30 4 0) 23 5 0) 23 6 0) 0 8 0) 34 3 2) 34 4 0) 38 3 2) 38 4 0) 42 3 2) 42 4 0) 46 3 2) 46 4 0) 50 3 2) 50 4 0) 54 3 2) 54 4 0) 58 3 2) 58 4 0) 62 3 2) 62 4 0) 66 3 2) 66 4 0) 70 j = 0 from fun j => by rw [wr_ne (by decide), wr_ne (by decide), wr_ne (by decide), wr_ne (by decide), wr_ne (by decide), wr_ne (by decide), wr_ne (by decide), wr_ne (by decide), wr_ne (by decide), wr_ne (by decide), wr_ne (by decide), wr_ne (by decide), wr_ne (by decide), wr_ne (by decide), wr_ne (by decide), wr_ne (by decide), wr_ne (by decide), wr_ne (by decide), wr_ne (by decide), wr_ne (by decide), wr_ne (by decide), wr_ne (by decide), wr_ne (by decide), wr_ne (by decide), wr_ne (by decide), wr_ne (by decide), wr_ne (by decide), wr_ne (by decide), wr_ne (by decide)]; exact hzm _ _ (by decide)) (Rm_of hR (Nat.le_of_ble_eq_true rfl) (Nat.le_of_ble_eq_true rfl)) (fun ad34 q34 ag34 e34 => ?_)
  have hq0_34 : ad34 0 = ad0 0 := (ag34 0 (by decide)).trans hq0_33
  have hq6_34 : ad34 6 = ad8 6 := (ag34 6 (by decide)).trans hq6_33
  have hq1_34 : ad34 1 = ad33 1 := (ag34 1 (by decide)).trans hq1_33
  have hq70_34 : ad34 70 = q34 := e34
  show G θ (70, 2330) (qt_Q_51, ad34) _ _ _ _
  refine G_dup (pc := 130) X (dg dt_C_Q 63 rfl) rfl ?_
  refine G_callCN (pc := 131) (b := q34) (S := [.ref (q34), .int 9, .ref (ad33 1)]) [] nosub X (dg dt_C_Q 64 rfl) cb_C_Grid w_36 rfl w_35 (fun h9 => absurd h9 (by decide)) (s_C_Grid _ rfl (by decide +kernel) (fun m j hm => by have hm : 71 ≤ m := hm; rw [wr_ne (k' := m) (by omega), wr_ne (k' := m) (by omega), wr_ne (k' := m) (by omega), wr_ne (k' := m) (by omega), wr_ne (k' := m) (by omega), wr_ne (k' := m) (by omega), wr_ne (k' := m) (by omega), wr_ne (k' := m) (by omega), wr_ne (k' := m) (by omega), wr_ne (k' := m) (by omega), wr_ne (k' := m) (by omega), wr_ne (k' := m) (by omega), wr_ne (k' := m) (by omega), wr_ne (k' := m) (by omega), wr_ne (k' := m) (by omega), wr_ne (k' := m) (by omega), wr_ne (k' := m) (by omega), wr_ne (k' := m) (by omega), wr_ne (k' := m) (by omega), wr_ne (k' := m) (by omega), wr_ne (k' := m) (by omega), wr_ne (k' := m) (by omega), wr_ne (k' := m) (by omega), wr_ne (k' := m) (by omega), wr_ne (k' := m) (by omega), wr_ne (k' := m) (by omega), wr_ne (k' := m) (by omega), wr_ne (k' := m) (by omega), wr_ne (k' := m) (by omega)]; exact hzm m j (by omega))) (by show [Value.ref (ad34 70)] = _; rw [hq70_34]) rfl ⟨Nat.le_of_ble_eq_true rfl, Nat.le_of_ble_eq_true rfl⟩ (Nat.le_of_ble_eq_true rfl) (Rm_of hR (Nat.le_of_ble_eq_true rfl) (Nat.le_of_ble_eq_true rfl)) (fun ad35 ag35 => ?_)
  have hq0_35 : ad35 0 = ad0 0 := (ag35 0 (by decide)).trans hq0_34
  have hq6_35 : ad35 6 = ad8 6 := (ag35 6 (by decide)).trans hq6_34
  have hq1_35 : ad35 1 = ad33 1 := (ag35 1 (by decide)).trans hq1_34
  have hq70_35 : ad35 70 = q34 := (ag35 70 (by decide)).trans hq70_34
  show G θ (73, 2365) (qt_Q_52, ad35) _ _ _ _
  refine G_astq (pc := 134) (k := 1) (t := 70) X (dg dt_C_Q 65 rfl) rfl (by decide) rfl hq1_35 hq70_35 ?_
  show G θ (73, 2365) (qt_Q_53, ad35) _ _ _ _
  refine G_iinc (pc := 135) 10 X (dg dt_C_Q 66 rfl) rfl (Nat.le_of_ble_eq_true rfl) rfl (by decide) ?_
  refine G_goto (pc := 138) 113 X (dg dt_C_Q 67 rfl) (by decide) ?_
  refine G_iload_n (pc := 113) 1 X (dg dt_C_Q 54 rfl) rfl rfl ?_
  refine G_aload_n (pc := 114) 0 X (dg dt_C_Q 55 rfl) rfl rfl ?_
  refine G_getRQ (pc := 115) (k := 0) 0 X (dg dt_C_Q 56 rfl) fc_7 w_186 rfl (Nat.le_of_ble_eq_true rfl) rfl rfl hq0_35 ?_
  have hq1_35 : ad35 1 = ad35 1 := rfl
  refine G_alenQQ (pc := 118) 12 X (dg dt_C_Q 57 rfl) (k := 1) rfl (by decide) hq1_35 ?_
  refine G_icmp_ge (pc := 119) (a := 1) (b := 0) (r := 0) 141 X (dg dt_C_Q 58 rfl) (by decide) (by decide) (fun h => absurd h (by decide)) (fun _ => ?_)
  refine G_aload_n (pc := 122) 0 X (dg dt_C_Q 59 rfl) rfl rfl ?_
  refine G_getRQ (pc := 123) (k := 0) 0 X (dg dt_C_Q 60 rfl) fc_7 w_186 rfl (Nat.le_of_ble_eq_true rfl) rfl rfl hq0_35 ?_
  rw [hq1_35]
  refine G_iload_n (pc := 126) 1 X (dg dt_C_Q 61 rfl) rfl rfl ?_
  refine G_new (pc := 127) [some none, some none, some none, none, none] X (dg dt_C_Q 62 rfl) fc_0 w_32 w_34 w_8 rfl df_0 (by decide +kernel) (show ∀ j, (wr (wr (wr (wr (wr (wr (wr (wr (wr (wr (wr (wr (wr (wr (wr (wr (wr (wr (wr (wr (wr (wr (wr (wr (wr (wr (wr (wr (wr (wr (wr σm 10 3 0) 16 2 0) 18 5 0) 18 6 0) 26 3 2) 26 4 0) 30 3 2) 30 4 0) 23 5 0) 23 6 0) 0 8 0) 34 3 2) 34 4 0) 38 3 2) 38 4 0) 42 3 2) 42 4 0) 46 3 2) 46 4 0) 50 3 2) 50 4 0) 54 3 2) 54 4 0) 58 3 2) 58 4 0) 62 3 2) 62 4 0) 66 3 2) 66 4 0) 70 3 2) 70 4 0) 74 j = 0 from fun j => by rw [wr_ne (by decide), wr_ne (by decide), wr_ne (by decide), wr_ne (by decide), wr_ne (by decide), wr_ne (by decide), wr_ne (by decide), wr_ne (by decide), wr_ne (by decide), wr_ne (by decide), wr_ne (by decide), wr_ne (by decide), wr_ne (by decide), wr_ne (by decide), wr_ne (by decide), wr_ne (by decide), wr_ne (by decide), wr_ne (by decide), wr_ne (by decide), wr_ne (by decide), wr_ne (by decide), wr_ne (by decide), wr_ne (by decide), wr_ne (by decide), wr_ne (by decide), wr_ne (by decide), wr_ne (by decide), wr_ne (by decide), wr_ne (by decide), wr_ne (by decide), wr_ne (by decide)]; exact hzm _ _ (by decide)) (Rm_of hR (Nat.le_of_ble_eq_true rfl) (Nat.le_of_ble_eq_true rfl)) (fun ad36 q36 ag36 e36 => ?_)
  have hq0_36 : ad36 0 = ad0 0 := (ag36 0 (by decide)).trans hq0_35
  have hq6_36 : ad36 6 = ad8 6 := (ag36 6 (by decide)).trans hq6_35
  have hq1_36 : ad36 1 = ad35 1 := (ag36 1 (by decide)).trans hq1_35
  have hq74_36 : ad36 74 = q36 := e36
  show G θ (74, 2370) (qt_Q_54, ad36) _ _ _ _
  refine G_dup (pc := 130) X (dg dt_C_Q 63 rfl) rfl ?_
  refine G_callCN (pc := 131) (b := q36) (S := [.ref (q36), .int 10, .ref (ad35 1)]) [] nosub X (dg dt_C_Q 64 rfl) cb_C_Grid w_36 rfl w_35 (fun h9 => absurd h9 (by decide)) (s_C_Grid _ rfl (by decide +kernel) (fun m j hm => by have hm : 75 ≤ m := hm; rw [wr_ne (k' := m) (by omega), wr_ne (k' := m) (by omega), wr_ne (k' := m) (by omega), wr_ne (k' := m) (by omega), wr_ne (k' := m) (by omega), wr_ne (k' := m) (by omega), wr_ne (k' := m) (by omega), wr_ne (k' := m) (by omega), wr_ne (k' := m) (by omega), wr_ne (k' := m) (by omega), wr_ne (k' := m) (by omega), wr_ne (k' := m) (by omega), wr_ne (k' := m) (by omega), wr_ne (k' := m) (by omega), wr_ne (k' := m) (by omega), wr_ne (k' := m) (by omega), wr_ne (k' := m) (by omega), wr_ne (k' := m) (by omega), wr_ne (k' := m) (by omega), wr_ne (k' := m) (by omega), wr_ne (k' := m) (by omega), wr_ne (k' := m) (by omega), wr_ne (k' := m) (by omega), wr_ne (k' := m) (by omega), wr_ne (k' := m) (by omega), wr_ne (k' := m) (by omega), wr_ne (k' := m) (by omega), wr_ne (k' := m) (by omega), wr_ne (k' := m) (by omega), wr_ne (k' := m) (by omega), wr_ne (k' := m) (by omega)]; exact hzm m j (by omega))) (by show [Value.ref (ad36 74)] = _; rw [hq74_36]) rfl ⟨Nat.le_of_ble_eq_true rfl, Nat.le_of_ble_eq_true rfl⟩ (Nat.le_of_ble_eq_true rfl) (Rm_of hR (Nat.le_of_ble_eq_true rfl) (Nat.le_of_ble_eq_true rfl)) (fun ad37 ag37 => ?_)
  have hq0_37 : ad37 0 = ad0 0 := (ag37 0 (by decide)).trans hq0_36
  have hq6_37 : ad37 6 = ad8 6 := (ag37 6 (by decide)).trans hq6_36
  have hq1_37 : ad37 1 = ad35 1 := (ag37 1 (by decide)).trans hq1_36
  have hq74_37 : ad37 74 = q36 := (ag37 74 (by decide)).trans hq74_36
  show G θ (77, 2405) (qt_Q_55, ad37) _ _ _ _
  refine G_astq (pc := 134) (k := 1) (t := 74) X (dg dt_C_Q 65 rfl) rfl (by decide) rfl hq1_37 hq74_37 ?_
  show G θ (77, 2405) (qt_Q_56, ad37) _ _ _ _
  refine G_iinc (pc := 135) 11 X (dg dt_C_Q 66 rfl) rfl (Nat.le_of_ble_eq_true rfl) rfl (by decide) ?_
  refine G_goto (pc := 138) 113 X (dg dt_C_Q 67 rfl) (by decide) ?_
  refine G_iload_n (pc := 113) 1 X (dg dt_C_Q 54 rfl) rfl rfl ?_
  refine G_aload_n (pc := 114) 0 X (dg dt_C_Q 55 rfl) rfl rfl ?_
  refine G_getRQ (pc := 115) (k := 0) 0 X (dg dt_C_Q 56 rfl) fc_7 w_186 rfl (Nat.le_of_ble_eq_true rfl) rfl rfl hq0_37 ?_
  have hq1_37 : ad37 1 = ad37 1 := rfl
  refine G_alenQQ (pc := 118) 12 X (dg dt_C_Q 57 rfl) (k := 1) rfl (by decide) hq1_37 ?_
  refine G_icmp_ge (pc := 119) (a := 1) (b := 0) (r := 0) 141 X (dg dt_C_Q 58 rfl) (by decide) (by decide) (fun h => absurd h (by decide)) (fun _ => ?_)
  refine G_aload_n (pc := 122) 0 X (dg dt_C_Q 59 rfl) rfl rfl ?_
  refine G_getRQ (pc := 123) (k := 0) 0 X (dg dt_C_Q 60 rfl) fc_7 w_186 rfl (Nat.le_of_ble_eq_true rfl) rfl rfl hq0_37 ?_
  rw [hq1_37]
  refine G_iload_n (pc := 126) 1 X (dg dt_C_Q 61 rfl) rfl rfl ?_
  refine G_new (pc := 127) [some none, some none, some none, none, none] X (dg dt_C_Q 62 rfl) fc_0 w_32 w_34 w_8 rfl df_0 (by decide +kernel) (show ∀ j, (wr (wr (wr (wr (wr (wr (wr (wr (wr (wr (wr (wr (wr (wr (wr (wr (wr (wr (wr (wr (wr (wr (wr (wr (wr (wr (wr (wr (wr (wr (wr (wr (wr σm 10 3 0) 16 2 0) 18 5 0) 18 6 0) 26 3 2) 26 4 0) 30 3 2) 30 4 0) 23 5 0) 23 6 0) 0 8 0) 34 3 2) 34 4 0) 38 3 2) 38 4 0) 42 3 2) 42 4 0) 46 3 2) 46 4 0) 50 3 2) 50 4 0) 54 3 2) 54 4 0) 58 3 2) 58 4 0) 62 3 2) 62 4 0) 66 3 2) 66 4 0) 70 3 2) 70 4 0) 74 3 2) 74 4 0) 78 j = 0 from fun j => by rw [wr_ne (by decide), wr_ne (by decide), wr_ne (by decide), wr_ne (by decide), wr_ne (by decide), wr_ne (by decide), wr_ne (by decide), wr_ne (by decide), wr_ne (by decide), wr_ne (by decide), wr_ne (by decide), wr_ne (by decide), wr_ne (by decide), wr_ne (by decide), wr_ne (by decide), wr_ne (by decide), wr_ne (by decide), wr_ne (by decide), wr_ne (by decide), wr_ne (by decide), wr_ne (by decide), wr_ne (by decide), wr_ne (by decide), wr_ne (by decide), wr_ne (by decide), wr_ne (by decide), wr_ne (by decide), wr_ne (by decide), wr_ne (by decide), wr_ne (by decide), wr_ne (by decide), wr_ne (by decide), wr_ne (by decide)]; exact hzm _ _ (by decide)) (Rm_of hR (Nat.le_of_ble_eq_true rfl) (Nat.le_of_ble_eq_true rfl)) (fun ad38 q38 ag38 e38 => ?_)
  have hq0_38 : ad38 0 = ad0 0 := (ag38 0 (by decide)).trans hq0_37
  have hq6_38 : ad38 6 = ad8 6 := (ag38 6 (by decide)).trans hq6_37
  have hq1_38 : ad38 1 = ad37 1 := (ag38 1 (by decide)).trans hq1_37
  have hq78_38 : ad38 78 = q38 := e38
  show G θ (78, 2410) (qt_Q_57, ad38) _ _ _ _
  refine G_dup (pc := 130) X (dg dt_C_Q 63 rfl) rfl ?_
  refine G_callCN (pc := 131) (b := q38) (S := [.ref (q38), .int 11, .ref (ad37 1)]) [] nosub X (dg dt_C_Q 64 rfl) cb_C_Grid w_36 rfl w_35 (fun h9 => absurd h9 (by decide)) (s_C_Grid _ rfl (by decide +kernel) (fun m j hm => by have hm : 79 ≤ m := hm; rw [wr_ne (k' := m) (by omega), wr_ne (k' := m) (by omega), wr_ne (k' := m) (by omega), wr_ne (k' := m) (by omega), wr_ne (k' := m) (by omega), wr_ne (k' := m) (by omega), wr_ne (k' := m) (by omega), wr_ne (k' := m) (by omega), wr_ne (k' := m) (by omega), wr_ne (k' := m) (by omega), wr_ne (k' := m) (by omega), wr_ne (k' := m) (by omega), wr_ne (k' := m) (by omega), wr_ne (k' := m) (by omega), wr_ne (k' := m) (by omega), wr_ne (k' := m) (by omega), wr_ne (k' := m) (by omega), wr_ne (k' := m) (by omega), wr_ne (k' := m) (by omega), wr_ne (k' := m) (by omega), wr_ne (k' := m) (by omega), wr_ne (k' := m) (by omega), wr_ne (k' := m) (by omega), wr_ne (k' := m) (by omega), wr_ne (k' := m) (by omega), wr_ne (k' := m) (by omega), wr_ne (k' := m) (by omega), wr_ne (k' := m) (by omega), wr_ne (k' := m) (by omega), wr_ne (k' := m) (by omega), wr_ne (k' := m) (by omega), wr_ne (k' := m) (by omega), wr_ne (k' := m) (by omega)]; exact hzm m j (by omega))) (by show [Value.ref (ad38 78)] = _; rw [hq78_38]) rfl ⟨Nat.le_of_ble_eq_true rfl, Nat.le_of_ble_eq_true rfl⟩ (Nat.le_of_ble_eq_true rfl) (Rm_of hR (Nat.le_of_ble_eq_true rfl) (Nat.le_of_ble_eq_true rfl)) (fun ad39 ag39 => ?_)
  have hq0_39 : ad39 0 = ad0 0 := (ag39 0 (by decide)).trans hq0_38
  have hq6_39 : ad39 6 = ad8 6 := (ag39 6 (by decide)).trans hq6_38
  have hq1_39 : ad39 1 = ad37 1 := (ag39 1 (by decide)).trans hq1_38
  have hq78_39 : ad39 78 = q38 := (ag39 78 (by decide)).trans hq78_38
  show G θ (81, 2445) (qt_Q_58, ad39) _ _ _ _
  refine G_astq (pc := 134) (k := 1) (t := 78) X (dg dt_C_Q 65 rfl) rfl (by decide) rfl hq1_39 hq78_39 ?_
  show G θ (81, 2445) (qt_Q_59, ad39) _ _ _ _
  refine G_iinc (pc := 135) 12 X (dg dt_C_Q 66 rfl) rfl (Nat.le_of_ble_eq_true rfl) rfl (by decide) ?_
  refine G_goto (pc := 138) 113 X (dg dt_C_Q 67 rfl) (by decide) ?_
  refine G_iload_n (pc := 113) 1 X (dg dt_C_Q 54 rfl) rfl rfl ?_
  refine G_aload_n (pc := 114) 0 X (dg dt_C_Q 55 rfl) rfl rfl ?_
  refine G_getRQ (pc := 115) (k := 0) 0 X (dg dt_C_Q 56 rfl) fc_7 w_186 rfl (Nat.le_of_ble_eq_true rfl) rfl rfl hq0_39 ?_
  have hq1_39 : ad39 1 = ad39 1 := rfl
  refine G_alenQQ (pc := 118) 12 X (dg dt_C_Q 57 rfl) (k := 1) rfl (by decide) hq1_39 ?_
  refine G_icmp_ge (pc := 119) (a := 0) (b := 1) (r := 0) 141 X (dg dt_C_Q 58 rfl) (by decide) (by decide) (fun _ => ?_) (fun h => absurd h (by decide))
  exact G_cret (pc := 141) X hq (dg dt_C_Q 68 rfl) (fun i hi => ((ag39 i (Nat.lt_of_lt_of_le hi (by decide))).trans ((ag38 i (Nat.lt_of_lt_of_le hi (by decide))).trans ((ag37 i (Nat.lt_of_lt_of_le hi (by decide))).trans ((ag36 i (Nat.lt_of_lt_of_le hi (by decide))).trans ((ag35 i (Nat.lt_of_lt_of_le hi (by decide))).trans ((ag34 i (Nat.lt_of_lt_of_le hi (by decide))).trans ((ag33 i (Nat.lt_of_lt_of_le hi (by decide))).trans ((ag32 i (Nat.lt_of_lt_of_le hi (by decide))).trans ((ag31 i (Nat.lt_of_lt_of_le hi (by decide))).trans ((ag30 i (Nat.lt_of_lt_of_le hi (by decide))).trans ((ag29 i (Nat.lt_of_lt_of_le hi (by decide))).trans ((ag28 i (Nat.lt_of_lt_of_le hi (by decide))).trans ((ag27 i (Nat.lt_of_lt_of_le hi (by decide))).trans ((ag26 i (Nat.lt_of_lt_of_le hi (by decide))).trans ((ag25 i (Nat.lt_of_lt_of_le hi (by decide))).trans ((ag24 i (Nat.lt_of_lt_of_le hi (by decide))).trans ((ag23 i (Nat.lt_of_lt_of_le hi (by decide))).trans ((ag22 i (Nat.lt_of_lt_of_le hi (by decide))).trans ((ag21 i (Nat.lt_of_lt_of_le hi (by decide))).trans ((ag20 i (Nat.lt_of_lt_of_le hi (by decide))).trans ((ag19 i (Nat.lt_of_lt_of_le hi (by decide))).trans ((ag18 i (Nat.lt_of_lt_of_le hi (by decide))).trans ((ag17 i (Nat.lt_of_lt_of_le hi (by decide))).trans ((ag16 i (Nat.lt_of_lt_of_le hi (by decide))).trans ((ag15 i (Nat.lt_of_lt_of_le hi (by decide))).trans ((ag14 i (Nat.lt_of_lt_of_le hi (by decide))).trans ((ag13 i (Nat.lt_of_lt_of_le hi (by decide))).trans ((ag12 i (Nat.lt_of_lt_of_le hi (by decide))).trans ((ag11 i (Nat.lt_of_lt_of_le hi (by decide))).trans ((ag10 i (Nat.lt_of_lt_of_le hi (by decide))).trans ((ag9 i (Nat.lt_of_lt_of_le hi (by decide))).trans ((ag8 i (Nat.lt_of_lt_of_le hi (by decide))).trans ((ag7 i (Nat.lt_of_lt_of_le hi (by decide))).trans ((ag6 i (Nat.lt_of_lt_of_le hi (by decide))).trans ((ag5 i (Nat.lt_of_lt_of_le hi (by decide))).trans ((ag4 i (Nat.lt_of_lt_of_le hi (by decide))).trans ((ag3 i (Nat.lt_of_lt_of_le hi (by decide))).trans ((ag2 i (Nat.lt_of_lt_of_le hi (by decide))).trans (ag1 i (Nat.lt_of_lt_of_le hi (by decide))))))))))))))))))))))))))))))))))))))))))
