/-! the world: shapes of its cells -/
def g_SH : List Shp := [.inl (7, [some (some 1), some (some 2), some (some 6), some (some 10), some (some 14), some (some 16), some (some 18), some (some 23), none]),
  .inr (.inr [some 34, some 38, some 42, some 46, some 50, some 54, some 58, some 62, some 66, some 70, some 74, some 78]),
  .inl (0, [some (some 3), some (some 4), some (some 5), none, none]),
  .inr (.inl (0, 25)),
  .inr (.inl (0, 5)),
  .inr (.inl (0, 5)),
  .inl (1, [some (some 7), some (some 8), some (some 9)]),
  .inr (.inl (0, 600)),
  .inr (.inl (0, 120)),
  .inr (.inl (0, 5)),
  .inl (5, [some (some 11), some (some 12), some (some 13), none]),
  .inr (.inl (0, 40)),
  .inr (.inl (0, 41)),
  .inr (.inl (0, 40)),
  .inl (3, [some (some 6), some (some 15)]),
  .inr (.inl (0, 5)),
  .inl (6, [some (some 6), some (some 17), none]),
  .inr (.inl (0, 576)),
  .inl (4, [some (some 6), some (some 19), some (some 20), some (some 21), some (some 22), none, none]),
  .inr (.inl (0, 10)),
  .inr (.inl (0, 120)),
  .inr (.inl (1, 120)),
  .inr (.inl (0, 5)),
  .inl (2, [some (some 6), some (some 24), some (some 25), some (some 26), some (some 30), none, none]),
  .inr (.inl (0, 120)),
  .inr (.inl (0, 5)),
  .inl (0, [some (some 27), some (some 28), some (some 29), none, none]),
  .inr (.inl (0, 25)),
  .inr (.inl (0, 5)),
  .inr (.inl (0, 5)),
  .inl (0, [some (some 31), some (some 32), some (some 33), none, none]),
  .inr (.inl (0, 25)),
  .inr (.inl (0, 5)),
  .inr (.inl (0, 5)),
  .inl (0, [some (some 35), some (some 36), some (some 37), none, none]),
  .inr (.inl (0, 25)),
  .inr (.inl (0, 5)),
  .inr (.inl (0, 5)),
  .inl (0, [some (some 39), some (some 40), some (some 41), none, none]),
  .inr (.inl (0, 25)),
  .inr (.inl (0, 5)),
  .inr (.inl (0, 5)),
  .inl (0, [some (some 43), some (some 44), some (some 45), none, none]),
  .inr (.inl (0, 25)),
  .inr (.inl (0, 5)),
  .inr (.inl (0, 5)),
  .inl (0, [some (some 47), some (some 48), some (some 49), none, none]),
  .inr (.inl (0, 25)),
  .inr (.inl (0, 5)),
  .inr (.inl (0, 5)),
  .inl (0, [some (some 51), some (some 52), some (some 53), none, none]),
  .inr (.inl (0, 25)),
  .inr (.inl (0, 5)),
  .inr (.inl (0, 5)),
  .inl (0, [some (some 55), some (some 56), some (some 57), none, none]),
  .inr (.inl (0, 25)),
  .inr (.inl (0, 5)),
  .inr (.inl (0, 5)),
  .inl (0, [some (some 59), some (some 60), some (some 61), none, none]),
  .inr (.inl (0, 25)),
  .inr (.inl (0, 5)),
  .inr (.inl (0, 5)),
  .inl (0, [some (some 63), some (some 64), some (some 65), none, none]),
  .inr (.inl (0, 25)),
  .inr (.inl (0, 5)),
  .inr (.inl (0, 5)),
  .inl (0, [some (some 67), some (some 68), some (some 69), none, none]),
  .inr (.inl (0, 25)),
  .inr (.inl (0, 5)),
  .inr (.inl (0, 5)),
  .inl (0, [some (some 71), some (some 72), some (some 73), none, none]),
  .inr (.inl (0, 25)),
  .inr (.inl (0, 5)),
  .inr (.inl (0, 5)),
  .inl (0, [some (some 75), some (some 76), some (some 77), none, none]),
  .inr (.inl (0, 25)),
  .inr (.inl (0, 5)),
  .inr (.inl (0, 5)),
  .inl (0, [some (some 79), some (some 80), some (some 81), none, none]),
  .inr (.inl (0, 25)),
  .inr (.inl (0, 5)),
  .inr (.inl (0, 5)),
  .inr (.inl (0, 25)),
  .inr (.inl (0, 25)),
  .inr (.inl (0, 25))]
theorem sh_0 : g_SH[0]? = some (.inl (7, [some (some 1), some (some 2), some (some 6), some (some 10), some (some 14), some (some 16), some (some 18), some (some 23), none])) := rfl
theorem sh_1 : g_SH[1]? = some (.inr (.inr [some 34, some 38, some 42, some 46, some 50, some 54, some 58, some 62, some 66, some 70, some 74, some 78])) := rfl
theorem sh_2 : g_SH[2]? = some (.inl (0, [some (some 3), some (some 4), some (some 5), none, none])) := rfl
theorem sh_3 : g_SH[3]? = some (.inr (.inl (0, 25))) := rfl
theorem sh_4 : g_SH[4]? = some (.inr (.inl (0, 5))) := rfl
theorem sh_5 : g_SH[5]? = some (.inr (.inl (0, 5))) := rfl
theorem sh_6 : g_SH[6]? = some (.inl (1, [some (some 7), some (some 8), some (some 9)])) := rfl
theorem sh_7 : g_SH[7]? = some (.inr (.inl (0, 600))) := rfl
theorem sh_8 : g_SH[8]? = some (.inr (.inl (0, 120))) := rfl
theorem sh_9 : g_SH[9]? = some (.inr (.inl (0, 5))) := rfl
theorem sh_10 : g_SH[10]? = some (.inl (5, [some (some 11), some (some 12), some (some 13), none])) := rfl
theorem sh_11 : g_SH[11]? = some (.inr (.inl (0, 40))) := rfl
theorem sh_12 : g_SH[12]? = some (.inr (.inl (0, 41))) := rfl
theorem sh_13 : g_SH[13]? = some (.inr (.inl (0, 40))) := rfl
theorem sh_14 : g_SH[14]? = some (.inl (3, [some (some 6), some (some 15)])) := rfl
theorem sh_15 : g_SH[15]? = some (.inr (.inl (0, 5))) := rfl
theorem sh_16 : g_SH[16]? = some (.inl (6, [some (some 6), some (some 17), none])) := rfl
theorem sh_17 : g_SH[17]? = some (.inr (.inl (0, 576))) := rfl
theorem sh_18 : g_SH[18]? = some (.inl (4, [some (some 6), some (some 19), some (some 20), some (some 21), some (some 22), none, none])) := rfl
theorem sh_19 : g_SH[19]? = some (.inr (.inl (0, 10))) := rfl
theorem sh_20 : g_SH[20]? = some (.inr (.inl (0, 120))) := rfl
theorem sh_21 : g_SH[21]? = some (.inr (.inl (1, 120))) := rfl
theorem sh_22 : g_SH[22]? = some (.inr (.inl (0, 5))) := rfl
theorem sh_23 : g_SH[23]? = some (.inl (2, [some (some 6), some (some 24), some (some 25), some (some 26), some (some 30), none, none])) := rfl
theorem sh_24 : g_SH[24]? = some (.inr (.inl (0, 120))) := rfl
theorem sh_25 : g_SH[25]? = some (.inr (.inl (0, 5))) := rfl
theorem sh_26 : g_SH[26]? = some (.inl (0, [some (some 27), some (some 28), some (some 29), none, none])) := rfl
theorem sh_27 : g_SH[27]? = some (.inr (.inl (0, 25))) := rfl
theorem sh_28 : g_SH[28]? = some (.inr (.inl (0, 5))) := rfl
theorem sh_29 : g_SH[29]? = some (.inr (.inl (0, 5))) := rfl
theorem sh_30 : g_SH[30]? = some (.inl (0, [some (some 31), some (some 32), some (some 33), none, none])) := rfl
theorem sh_31 : g_SH[31]? = some (.inr (.inl (0, 25))) := rfl
theorem sh_32 : g_SH[32]? = some (.inr (.inl (0, 5))) := rfl
theorem sh_33 : g_SH[33]? = some (.inr (.inl (0, 5))) := rfl
theorem sh_34 : g_SH[34]? = some (.inl (0, [some (some 35), some (some 36), some (some 37), none, none])) := rfl
theorem sh_35 : g_SH[35]? = some (.inr (.inl (0, 25))) := rfl
theorem sh_36 : g_SH[36]? = some (.inr (.inl (0, 5))) := rfl
theorem sh_37 : g_SH[37]? = some (.inr (.inl (0, 5))) := rfl
theorem sh_38 : g_SH[38]? = some (.inl (0, [some (some 39), some (some 40), some (some 41), none, none])) := rfl
theorem sh_39 : g_SH[39]? = some (.inr (.inl (0, 25))) := rfl
theorem sh_40 : g_SH[40]? = some (.inr (.inl (0, 5))) := rfl
theorem sh_41 : g_SH[41]? = some (.inr (.inl (0, 5))) := rfl
theorem sh_42 : g_SH[42]? = some (.inl (0, [some (some 43), some (some 44), some (some 45), none, none])) := rfl
theorem sh_43 : g_SH[43]? = some (.inr (.inl (0, 25))) := rfl
theorem sh_44 : g_SH[44]? = some (.inr (.inl (0, 5))) := rfl
theorem sh_45 : g_SH[45]? = some (.inr (.inl (0, 5))) := rfl
theorem sh_46 : g_SH[46]? = some (.inl (0, [some (some 47), some (some 48), some (some 49), none, none])) := rfl
theorem sh_47 : g_SH[47]? = some (.inr (.inl (0, 25))) := rfl
theorem sh_48 : g_SH[48]? = some (.inr (.inl (0, 5))) := rfl
theorem sh_49 : g_SH[49]? = some (.inr (.inl (0, 5))) := rfl
theorem sh_50 : g_SH[50]? = some (.inl (0, [some (some 51), some (some 52), some (some 53), none, none])) := rfl
theorem sh_51 : g_SH[51]? = some (.inr (.inl (0, 25))) := rfl
theorem sh_52 : g_SH[52]? = some (.inr (.inl (0, 5))) := rfl
theorem sh_53 : g_SH[53]? = some (.inr (.inl (0, 5))) := rfl
theorem sh_54 : g_SH[54]? = some (.inl (0, [some (some 55), some (some 56), some (some 57), none, none])) := rfl
theorem sh_55 : g_SH[55]? = some (.inr (.inl (0, 25))) := rfl
theorem sh_56 : g_SH[56]? = some (.inr (.inl (0, 5))) := rfl
theorem sh_57 : g_SH[57]? = some (.inr (.inl (0, 5))) := rfl
theorem sh_58 : g_SH[58]? = some (.inl (0, [some (some 59), some (some 60), some (some 61), none, none])) := rfl
theorem sh_59 : g_SH[59]? = some (.inr (.inl (0, 25))) := rfl
theorem sh_60 : g_SH[60]? = some (.inr (.inl (0, 5))) := rfl
theorem sh_61 : g_SH[61]? = some (.inr (.inl (0, 5))) := rfl
theorem sh_62 : g_SH[62]? = some (.inl (0, [some (some 63), some (some 64), some (some 65), none, none])) := rfl
theorem sh_63 : g_SH[63]? = some (.inr (.inl (0, 25))) := rfl
theorem sh_64 : g_SH[64]? = some (.inr (.inl (0, 5))) := rfl
theorem sh_65 : g_SH[65]? = some (.inr (.inl (0, 5))) := rfl
theorem sh_66 : g_SH[66]? = some (.inl (0, [some (some 67), some (some 68), some (some 69), none, none])) := rfl
theorem sh_67 : g_SH[67]? = some (.inr (.inl (0, 25))) := rfl
theorem sh_68 : g_SH[68]? = some (.inr (.inl (0, 5))) := rfl
theorem sh_69 : g_SH[69]? = some (.inr (.inl (0, 5))) := rfl
theorem sh_70 : g_SH[70]? = some (.inl (0, [some (some 71), some (some 72), some (some 73), none, none])) := rfl
theorem sh_71 : g_SH[71]? = some (.inr (.inl (0, 25))) := rfl
theorem sh_72 : g_SH[72]? = some (.inr (.inl (0, 5))) := rfl
theorem sh_73 : g_SH[73]? = some (.inr (.inl (0, 5))) := rfl
theorem sh_74 : g_SH[74]? = some (.inl (0, [some (some 75), some (some 76), some (some 77), none, none])) := rfl
theorem sh_75 : g_SH[75]? = some (.inr (.inl (0, 25))) := rfl
theorem sh_76 : g_SH[76]? = some (.inr (.inl (0, 5))) := rfl
theorem sh_77 : g_SH[77]? = some (.inr (.inl (0, 5))) := rfl
theorem sh_78 : g_SH[78]? = some (.inl (0, [some (some 79), some (some 80), some (some 81), none, none])) := rfl
theorem sh_79 : g_SH[79]? = some (.inr (.inl (0, 25))) := rfl
theorem sh_80 : g_SH[80]? = some (.inr (.inl (0, 5))) := rfl
theorem sh_81 : g_SH[81]? = some (.inr (.inl (0, 5))) := rfl
theorem sh_82 : g_SH[82]? = some (.inr (.inl (0, 25))) := rfl
theorem sh_83 : g_SH[83]? = some (.inr (.inl (0, 25))) := rfl
theorem sh_84 : g_SH[84]? = some (.inr (.inl (0, 25))) := rfl
theorem gk_2 : gok 2 := Or.inl rfl
theorem gk_26 : gok 26 := Or.inr (Or.inl rfl)
theorem gk_30 : gok 30 := Or.inr (Or.inr (Or.inl rfl))
theorem gk_gid {i : Nat} (h : i < 12) : gok (gid i) := Or.inr (Or.inr (Or.inr ⟨i, h, rfl⟩))
def aok (k : Nat) : Prop := k = 82 ∨ k = 83 ∨ k = 84
theorem gk_82 : aok 82 := Or.inl rfl
theorem gk_83 : aok 83 := Or.inr (Or.inl rfl)
theorem gk_84 : aok 84 := Or.inr (Or.inr rfl)
theorem sh_a {k : Nat} (h : aok k) : g_SH[k]? = some (.inr (.inl (0, 25))) := by
  rcases h with rfl | rfl | rfl <;> rfl
theorem gok_ind {P : Nat → Prop} {k : Nat} (h : gok k) (h2 : P 2) (h26 : P 26) (h30 : P 30) (hi : ∀ i : Fin 12, P (gid i)) : P k := by
  rcases h with rfl | rfl | rfl | ⟨i, hi2, rfl⟩
  · exact h2
  · exact h26
  · exact h30
  · exact hi ⟨i, hi2⟩
theorem sh_g {k : Nat} (h : gok k) : g_SH[k]? = some (.inl (0, [some (some (k + 1)), some (some (k + 2)), some (some (k + 3)), none, none])) := gok_ind (P := fun k => g_SH[k]? = some (.inl (0, [some (some (k + 1)), some (some (k + 2)), some (some (k + 3)), none, none]))) h rfl rfl rfl (fun i => match i with | 0 => rfl | 1 => rfl | 2 => rfl | 3 => rfl | 4 => rfl | 5 => rfl | 6 => rfl | 7 => rfl | 8 => rfl | 9 => rfl | 10 => rfl | 11 => rfl)
theorem sh_g1 {k : Nat} (h : gok k) : g_SH[k + 1]? = some (.inr (.inl (0, 25))) := gok_ind (P := fun k => g_SH[k + 1]? = some (.inr (.inl (0, 25)))) h rfl rfl rfl (fun i => match i with | 0 => rfl | 1 => rfl | 2 => rfl | 3 => rfl | 4 => rfl | 5 => rfl | 6 => rfl | 7 => rfl | 8 => rfl | 9 => rfl | 10 => rfl | 11 => rfl)
theorem sh_g2 {k : Nat} (h : gok k) : g_SH[k + 2]? = some (.inr (.inl (0, 5))) := gok_ind (P := fun k => g_SH[k + 2]? = some (.inr (.inl (0, 5)))) h rfl rfl rfl (fun i => match i with | 0 => rfl | 1 => rfl | 2 => rfl | 3 => rfl | 4 => rfl | 5 => rfl | 6 => rfl | 7 => rfl | 8 => rfl | 9 => rfl | 10 => rfl | 11 => rfl)
theorem sh_g3 {k : Nat} (h : gok k) : g_SH[k + 3]? = some (.inr (.inl (0, 5))) := gok_ind (P := fun k => g_SH[k + 3]? = some (.inr (.inl (0, 5)))) h rfl rfl rfl (fun i => match i with | 0 => rfl | 1 => rfl | 2 => rfl | 3 => rfl | 4 => rfl | 5 => rfl | 6 => rfl | 7 => rfl | 8 => rfl | 9 => rfl | 10 => rfl | 11 => rfl)
theorem fi_0 : ∀ w ∈ u_ws RX2 TX2 5, w ∈ g_GW := by decide +kernel
theorem fc_0 : FC 0 RX2 TX2 5 tyX2 := ⟨rfl, fi_0, tyX2_ok, nmX2⟩
theorem fi_1 : ∀ w ∈ u_ws RX4 TX4 3, w ∈ g_GW := by decide +kernel
theorem fc_1 : FC 1 RX4 TX4 3 tyX4 := ⟨rfl, fi_1, tyX4_ok, nmX4⟩
theorem fi_2 : ∀ w ∈ u_ws RX5 TX5 7, w ∈ g_GW := by decide +kernel
theorem fc_2 : FC 2 RX5 TX5 7 tyX5 := ⟨rfl, fi_2, tyX5_ok, nmX5⟩
theorem fi_3 : ∀ w ∈ u_ws RX7 TX7 2, w ∈ g_GW := by decide +kernel
theorem fc_3 : FC 3 RX7 TX7 2 tyX7 := ⟨rfl, fi_3, tyX7_ok, nmX7⟩
theorem fi_4 : ∀ w ∈ u_ws RX8 TX8 7, w ∈ g_GW := by decide +kernel
theorem fc_4 : FC 4 RX8 TX8 7 tyX8 := ⟨rfl, fi_4, tyX8_ok, nmX8⟩
theorem fi_5 : ∀ w ∈ u_ws RX9 TX9 4, w ∈ g_GW := by decide +kernel
theorem fc_5 : FC 5 RX9 TX9 4 tyX9 := ⟨rfl, fi_5, tyX9_ok, nmX9⟩
theorem fi_6 : ∀ w ∈ u_ws RX10 TX10 3, w ∈ g_GW := by decide +kernel
theorem fc_6 : FC 6 RX10 TX10 3 tyX10 := ⟨rfl, fi_6, tyX10_ok, nmX10⟩
theorem fi_7 : ∀ w ∈ u_ws RX11 TX11 9, w ∈ g_GW := by decide +kernel
theorem fc_7 : FC 7 RX11 TX11 9 tyX11 := ⟨rfl, fi_7, tyX11_ok, nmX11⟩
section
variable {θ : Th} {cs : Nat × Nat} {ad : Nat → Nat} {σ : St} {pc : Nat} {L : LV} {S : List Value} {strs : List (String × Nat × String)} {cc : ByteArray} {nL : Nat} {own : String} {fr lo : Nat}
theorem gld_ts (i : Int32) (h : inb i 12 = true) : ([some 34, some 38, some 42, some 46, some 50, some 54, some 58, some 62, some 66, some 70, some 74, some 78] : List (Option Nat))[ix i]? = some (some (gid (ix i))) := by
  simp only [inb, Bool.and_eq_true, decide_eq_true_eq] at h
  have h2 : ix i < 12 := h.2
  generalize ix i = j at h2 ⊢
  revert j
  decide
theorem G_gld {β : Type} {f : Nat → Option β} {r : β} {i : Int32} (X : Cx θ strs cc nL own fr lo) (hd : decode cc pc = .ok (.aaload, 1)) (h : gld i f = some r) (kk : ∀ t, gok t → f t = some r → G θ cs (g_SH, ad) σ (pc + 1) L (.ref (ad t) :: S)) : G θ cs (g_SH, ad) σ pc L (.int i :: .ref (ad 1) :: S) := by
  unfold gld at h
  split at h
  next hin =>
    have hlt : ix i < 12 := by
      simp only [inb, Bool.and_eq_true, decide_eq_true_eq] at hin
      exact hin.2
    exact G_aald (w := (g_SH, ad)) (k := 1) X hd sh_1 hin (gld_ts i hin) (kk _ (gk_gid hlt) h)
  next => cases h
end
