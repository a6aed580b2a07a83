/-! what is owed of the numbers, and the law's loop -/
def Ok_grid (Inv : St → Prop) : Prop := ∀ σ, Inv σ → ∀ (p0 : Int32), ∃ (k b9 : Int32) (σ1 σ2 : St), fw_grid σ p0 = some (k, σ1) ∧ f_R_grid σ1 p0 = some (b9, σ2) ∧ σ2 82 0 = k ∧ (k = 0 → σ2 103 0 = b9) ∧ Inv σ2
def Ok_linear (Inv : St → Prop) : Prop := ∀ σ, Inv σ → ∀ (p0 : Int32) (p1 : Int32) (p2 : Int32) (p3 : Int32), ∃ (k b9 : Int32) (σ1 σ2 : St), fw_linear σ p0 p1 p2 p3 = some (k, σ1) ∧ f_R_linear σ1 p0 p1 p2 p3 = some (b9, σ2) ∧ σ2 82 0 = k ∧ (k = 0 → σ2 103 0 = b9) ∧ Inv σ2
def Ok_put (Inv : St → Prop) : Prop := ∀ σ, Inv σ → ∀ (p0 : Int32) (p1 : Int32) (p2 : Int32) (p3 : Int32), ∃ (k b9 : Int32) (σ1 σ2 : St), fw_put σ p0 p1 p2 p3 = some (k, σ1) ∧ f_R_put σ1 p0 p1 p2 p3 = some (b9, σ2) ∧ σ2 82 0 = k ∧ (k = 0 → σ2 103 0 = b9) ∧ Inv σ2
def Ok_isotope (Inv : St → Prop) : Prop := ∀ σ, Inv σ → ∀ (p0 : Int32) (p1 : Int32) (p2 : Int32) (p3 : Int32), ∃ (k b9 : Int32) (σ1 σ2 : St), fw_isotope σ p0 p1 p2 p3 = some (k, σ1) ∧ f_R_isotope σ1 p0 p1 p2 p3 = some (b9, σ2) ∧ σ2 82 0 = k ∧ (k = 0 → σ2 103 0 = b9) ∧ Inv σ2
def Ok_conjugate (Inv : St → Prop) : Prop := ∀ σ, Inv σ → ∀ (p0 : Int32) (p1 : Int32), ∃ (k b9 : Int32) (σ1 σ2 : St), fw_conjugate σ p0 p1 = some (k, σ1) ∧ f_R_conjugate σ1 p0 p1 = some (b9, σ2) ∧ σ2 82 0 = k ∧ (k = 0 → σ2 103 0 = b9) ∧ Inv σ2
def Ok_cell (Inv : St → Prop) : Prop := ∀ σ, Inv σ → ∀ (p0 : Int32) (p1 : Int32) (p2 : Int32), ∃ (k b9 : Int32) (σ1 σ2 : St), fw_cell σ p0 p1 p2 = some (k, σ1) ∧ f_R_cell σ1 p0 p1 p2 = some (b9, σ2) ∧ σ2 82 0 = k ∧ (k = 0 → σ2 103 0 = b9) ∧ Inv σ2
def Ok_of (Inv : St → Prop) : Prop := ∀ σ, Inv σ → ∀ (p0 : Int32) (p1 : Int32), ∃ (k b9 : Int32) (σ1 σ2 : St), fw_of σ p0 p1 = some (k, σ1) ∧ f_R_of σ1 p0 p1 = some (b9, σ2) ∧ σ2 82 0 = k ∧ (k = 0 → σ2 103 0 = b9) ∧ Inv σ2
def Ok_distance (Inv : St → Prop) : Prop := ∀ σ, Inv σ → ∀ (p0 : Int32) (p1 : Int32), ∃ (k b9 : Int32) (σ1 σ2 : St), fw_distance σ p0 p1 = some (k, σ1) ∧ f_R_distance σ1 p0 p1 = some (b9, σ2) ∧ σ2 82 0 = k ∧ (k = 0 → σ2 103 0 = b9) ∧ Inv σ2
def Ok_turn (Inv : St → Prop) : Prop := ∀ σ, Inv σ → ∀ (p0 : Int32) (p1 : Int32) (p2 : Int32) (p3 : Int32), ∃ (k b9 : Int32) (σ1 σ2 : St), fw_turn σ p0 p1 p2 p3 = some (k, σ1) ∧ f_R_turn σ1 p0 p1 p2 p3 = some (b9, σ2) ∧ σ2 82 0 = k ∧ (k = 0 → σ2 103 0 = b9) ∧ Inv σ2
def Ok_stir (Inv : St → Prop) : Prop := ∀ σ, Inv σ → ∀ (p0 : Int32) (p1 : Int32) (p2 : Int32), ∃ (k b9 : Int32) (σ1 σ2 : St), fw_stir σ p0 p1 p2 = some (k, σ1) ∧ f_R_stir σ1 p0 p1 p2 = some (b9, σ2) ∧ σ2 82 0 = k ∧ (k = 0 → σ2 103 0 = b9) ∧ Inv σ2
def Ok_can (Inv : St → Prop) : Prop := ∀ σ, Inv σ → ∀ (p0 : Int32) (p1 : Int32) (p2 : Int32), ∃ (k b9 : Int32) (σ1 σ2 : St), fw_can σ p0 p1 p2 = some (k, σ1) ∧ f_R_can σ1 p0 p1 p2 = some (b9, σ2) ∧ σ2 82 0 = k ∧ (k = 0 → σ2 103 0 = b9) ∧ Inv σ2
def Ok_fills (Inv : St → Prop) : Prop := ∀ σ, Inv σ → ∀ (p0 : Int32) (p1 : Int32), ∃ (k b9 : Int32) (σ1 σ2 : St), fw_fills σ p0 p1 = some (k, σ1) ∧ f_R_fills σ1 p0 p1 = some (b9, σ2) ∧ σ2 82 0 = k ∧ (k = 0 → σ2 103 0 = b9) ∧ Inv σ2
def Ok_fillsAnew (Inv : St → Prop) : Prop := ∀ σ, Inv σ → ∀ (p0 : Int32) (p1 : Int32), ∃ (k b9 : Int32) (σ1 σ2 : St), fw_fillsAnew σ p0 p1 = some (k, σ1) ∧ f_R_fillsAnew σ1 p0 p1 = some (b9, σ2) ∧ σ2 82 0 = k ∧ (k = 0 → σ2 103 0 = b9) ∧ Inv σ2
def Ok_fill (Inv : St → Prop) : Prop := ∀ σ, Inv σ → ∀ (p0 : Int32), ∃ (k b9 : Int32) (σ1 σ2 : St), fw_fill σ p0 = some (k, σ1) ∧ f_R_fill σ1 p0 = some (b9, σ2) ∧ σ2 82 0 = k ∧ (k = 0 → σ2 103 0 = b9) ∧ Inv σ2
def Ok_forced (Inv : St → Prop) : Prop := ∀ σ, Inv σ → ∀ (p0 : Int32), ∃ (k b9 : Int32) (σ1 σ2 : St), fw_forced σ p0 = some (k, σ1) ∧ f_R_forced σ1 p0 = some (b9, σ2) ∧ σ2 82 0 = k ∧ (k = 0 → σ2 103 0 = b9) ∧ Inv σ2
def Ok_logic (Inv : St → Prop) : Prop := ∀ σ, Inv σ → ∀ (p0 : Int32), ∃ (k b9 : Int32) (σ1 σ2 : St), fw_logic σ p0 = some (k, σ1) ∧ f_R_logic σ1 p0 = some (b9, σ2) ∧ σ2 82 0 = k ∧ (k = 0 → σ2 103 0 = b9) ∧ Inv σ2
def Ok_critical (Inv : St → Prop) : Prop := ∀ σ, Inv σ → ∀ (p0 : Int32), ∃ (k b9 : Int32) (σ1 σ2 : St), fw_critical σ p0 = some (k, σ1) ∧ f_R_critical σ1 p0 = some (b9, σ2) ∧ σ2 82 0 = k ∧ (k = 0 → σ2 103 0 = b9) ∧ Inv σ2
def Ok_type (Inv : St → Prop) : Prop := ∀ σ, Inv σ → ∀ (p0 : Int64) (p1 : Int32), ∃ (k b9 : Int32) (σ1 σ2 : St), fw_type σ p0 p1 = some (k, σ1) ∧ f_R_type σ1 p0 p1 = some (b9, σ2) ∧ σ2 82 0 = k ∧ (k = 0 → σ2 103 0 = b9) ∧ Inv σ2
def Ok_wipe (Inv : St → Prop) : Prop := ∀ σ, Inv σ → ∃ (k b9 : Int32) (σ1 σ2 : St), f_Q_wipe σ = some (k, σ1) ∧ f_R_wipe σ1 = some (b9, σ2) ∧ k = b9 ∧ Inv σ2
def Ok_fault (Inv : St → Prop) : Prop := ∀ σ, Inv σ → ∃ (k b9 : Int32) (σ1 σ2 : St), f_Q_fault σ = some (k, σ1) ∧ f_R_fault σ1 = some (b9, σ2) ∧ k = b9 ∧ Inv σ2
def Ok_breaks (Inv : St → Prop) : Prop := ∀ σ, Inv σ → ∀ (p0 : Int32), ∃ (k b9 : Int32) (σ1 σ2 : St), fw_breaks σ p0 = some (k, σ1) ∧ f_R_breaks σ1 p0 = some (b9, σ2) ∧ σ2 82 0 = k ∧ (k = 0 → σ2 103 0 = b9) ∧ Inv σ2
def Ok_unit (Inv : St → Prop) : Prop := ∀ σ, Inv σ → ∀ (p0 : Int32), ∃ (k b9 : Int32) (σ1 σ2 : St), fw_unit σ p0 = some (k, σ1) ∧ f_R_unit σ1 p0 = some (b9, σ2) ∧ σ2 82 0 = k ∧ (k = 0 → σ2 103 0 = b9) ∧ Inv σ2
def Ok_nucleus (Inv : St → Prop) : Prop := ∀ σ, Inv σ → ∀ (p0 : Int32) (p1 : Int32), ∃ (k b9 : Int32) (σ1 σ2 : St), fw_nucleus σ p0 p1 = some (k, σ1) ∧ f_R_nucleus σ1 p0 p1 = some (b9, σ2) ∧ σ2 82 0 = k ∧ (k = 0 → σ2 103 0 = b9) ∧ Inv σ2
def Ok_closed (Inv : St → Prop) : Prop := ∀ σ, Inv σ → ∀ (p0 : Int32) (p1 : Int32), ∃ (k b9 : Int32) (σ1 σ2 : St), fw_closed σ p0 p1 = some (k, σ1) ∧ f_R_closed σ1 p0 p1 = some (b9, σ2) ∧ σ2 82 0 = k ∧ (k = 0 → σ2 103 0 = b9) ∧ Inv σ2
def Ok_count (Inv : St → Prop) : Prop := ∀ σ, Inv σ → ∀ (p0 : Int32) (p1 : Int32), ∃ (k b9 : Int32) (σ1 σ2 : St), fw_count σ p0 p1 = some (k, σ1) ∧ f_R_count σ1 p0 p1 = some (b9, σ2) ∧ σ2 82 0 = k ∧ (k = 0 → σ2 103 0 = b9) ∧ Inv σ2
def Ok_isotopies (Inv : St → Prop) : Prop := ∀ σ, Inv σ → ∀ (p0 : Int32) (p1 : Int32), ∃ (k b9 : Int32) (σ1 σ2 : St), fw_isotopies σ p0 p1 = some (k, σ1) ∧ f_R_isotopies σ1 p0 p1 = some (b9, σ2) ∧ σ2 82 0 = k ∧ (k = 0 → σ2 103 0 = b9) ∧ Inv σ2
def Ok_transversals (Inv : St → Prop) : Prop := ∀ σ, Inv σ → ∀ (p0 : Int32), ∃ (k b9 : Int32) (σ1 σ2 : St), fw_transversals σ p0 = some (k, σ1) ∧ f_R_transversals σ1 p0 = some (b9, σ2) ∧ σ2 82 0 = k ∧ (k = 0 → σ2 103 0 = b9) ∧ Inv σ2
def Ok_mates (Inv : St → Prop) : Prop := ∀ σ, Inv σ → ∀ (p0 : Int32), ∃ (k b9 : Int32) (σ1 σ2 : St), fw_mates σ p0 = some (k, σ1) ∧ f_R_mates σ1 p0 = some (b9, σ2) ∧ σ2 82 0 = k ∧ (k = 0 → σ2 103 0 = b9) ∧ Inv σ2
def Ok_mate (Inv : St → Prop) : Prop := ∀ σ, Inv σ → ∀ (p0 : Int32), ∃ (k b9 : Int32) (σ1 σ2 : St), fw_mate σ p0 = some (k, σ1) ∧ f_R_mate σ1 p0 = some (b9, σ2) ∧ σ2 82 0 = k ∧ (k = 0 → σ2 103 0 = b9) ∧ Inv σ2
def Ok_areMates (Inv : St → Prop) : Prop := ∀ σ, Inv σ → ∀ (p0 : Int32) (p1 : Int32), ∃ (k b9 : Int32) (σ1 σ2 : St), fw_areMates σ p0 p1 = some (k, σ1) ∧ f_R_areMates σ1 p0 p1 = some (b9, σ2) ∧ σ2 82 0 = k ∧ (k = 0 → σ2 103 0 = if b9 = 0 then 0 else 1) ∧ Inv σ2
def Ok_parity (Inv : St → Prop) : Prop := ∀ σ, Inv σ → ∀ (p0 : Int32) (p1 : Int32), ∃ (k b9 : Int32) (σ1 σ2 : St), fw_parity σ p0 p1 = some (k, σ1) ∧ f_R_parity σ1 p0 p1 = some (b9, σ2) ∧ σ2 82 0 = k ∧ (k = 0 → σ2 103 0 = b9) ∧ Inv σ2
def Ok_wins (Inv : St → Prop) : Prop := ∀ σ, Inv σ → ∀ (p0 : Int32), ∃ (k b9 : Int32) (σ1 σ2 : St), fw_wins σ p0 = some (k, σ1) ∧ f_R_wins σ1 p0 = some (b9, σ2) ∧ σ2 82 0 = k ∧ (k = 0 → σ2 103 0 = b9) ∧ Inv σ2
def StepOK (Inv : St → Prop) : Prop := Ok_grid Inv ∧ Ok_linear Inv ∧ Ok_put Inv ∧ Ok_isotope Inv ∧ Ok_conjugate Inv ∧ Ok_cell Inv ∧ Ok_of Inv ∧ Ok_distance Inv ∧ Ok_turn Inv ∧ Ok_stir Inv ∧ Ok_can Inv ∧ Ok_fills Inv ∧ Ok_fillsAnew Inv ∧ Ok_fill Inv ∧ Ok_forced Inv ∧ Ok_logic Inv ∧ Ok_critical Inv ∧ Ok_type Inv ∧ Ok_wipe Inv ∧ Ok_fault Inv ∧ Ok_breaks Inv ∧ Ok_unit Inv ∧ Ok_nucleus Inv ∧ Ok_closed Inv ∧ Ok_count Inv ∧ Ok_isotopies Inv ∧ Ok_transversals Inv ∧ Ok_mates Inv ∧ Ok_mate Inv ∧ Ok_areMates Inv ∧ Ok_parity Inv ∧ Ok_wins Inv
theorem and31 (x : Int32) : ∃ j : Nat, j < 32 ∧ x &&& 31 = Int32.ofNat j := by
  refine ⟨(x &&& 31).toBitVec.toNat, ?_, ?_⟩
  · have h : (x &&& 31).toBitVec.toNat = x.toBitVec.toNat &&& 31 := by
      rw [Int32.toBitVec_and, BitVec.toNat_and]
      rfl
    rw [h]
    have := Nat.and_le_right (n := x.toBitVec.toNat) (m := 31)
    omega
  · apply Int32.toBitVec_inj.mp
    apply BitVec.eq_of_toNat_eq
    simp
theorem inb_nI {k n : Nat} (h : k < n) (hn : n < 2 ^ 31) : inb (nI k) n = true := by
  have hv := vp_in_nI h hn
  simp only [vp_in, not_or, Nat.not_le] at hv
  simp only [inb, Bool.and_eq_true, decide_eq_true_eq]
  exact ⟨Int32.not_lt.mp hv.1, hv.2⟩
theorem nI_5 (m : Nat) : nI (m + 5) - 5 = nI m := by
  rw [← nI_add m 5]
  show nI m + 5 - 5 = nI m
  exact Int32.add_sub_cancel _ _
section GS
variable {θ : Th} {cs : Nat × Nat} {w : Wd} {σ : St} {pc : Nat} {L : LV} {S : List Value} {strs : List (String × Nat × String)} {cc : ByteArray} {nL : Nat} {own : String} {fr lo : Nat}
theorem G_tsw {dflt lo9 hi : Int} {offs : Array Int} {len : Nat} {x : Int32} {off : Int} (tgt : Nat) (X : Cx θ strs cc nL own fr lo) (hd : decode cc pc = .ok (.tableswitch dflt lo9 hi offs, len)) (h1 : ¬ x.toInt < lo9) (h2 : ¬ hi < x.toInt) (ho : offs[(x.toInt - lo9).toNat]? = some off) (ht : (pc : Int) + off = (tgt : Int)) (k : G θ cs w σ tgt L S) : G θ cs w σ pc L (.int x :: S) := by
  obtain ⟨p, l, e, R, s, m, args, below, meth, c, A, D, cA, Q⟩ := θ
  obtain ⟨hx, hb, hml, hown, hts, hlk, hA, hK, hfr, hlo⟩ := X
  intro H locs ls hl hP hD hS
  exact lv_tableIn hx hb hd h1 h2 ho ht (k H locs ls hl hP hD hS)
end GS
set_option maxRecDepth 100000 in
set_option maxHeartbeats 8000000 in
theorem law_loop {Inv : St → Prop} (hok : StepOK Inv) {θ : Th} {ad : Nat → Nat} {b n : Nat} {xs : Nat → Int32} (hn : n ≤ 2560) (X : Cx θ g_strs code 7 "QuasigroveLaw" 2048 84000) (hS9 : Sx θ b n xs) (htr : θ.2.1.stackTraces = false) (hR : Rm θ 601024 7293034)
    (hfin : ∀ (σ : St) (cs : Nat × Nat), cs.1 ≤ 601024 → cs.2 ≤ 7293034 → G θ cs (g_SH, ad) σ 2291 [] []) :
    ∀ (m j : Nat) (σ : St) (cs : Nat × Nat), Inv σ → 5 * j ≤ n + 4 → n < 5 * j + m → cs.1 ≤ 104 + j → cs.2 ≤ 60000 + 6 * j → G θ cs (g_SH, ad) σ 23 [some (.ref b), some (.ref (ad 0)), some (.ref (ad 82)), some (.ref (ad 103)), some (.int (nI (5 * j))), none, none] [] := by
  obtain ⟨ok_grid, ok_linear, ok_put, ok_isotope, ok_conjugate, ok_cell, ok_of, ok_distance, ok_turn, ok_stir, ok_can, ok_fills, ok_fillsAnew, ok_fill, ok_forced, ok_logic, ok_critical, ok_type, ok_wipe, ok_fault, ok_breaks, ok_unit, ok_nucleus, ok_closed, ok_count, ok_isotopies, ok_transversals, ok_mates, ok_mate, ok_areMates, ok_parity, ok_wins⟩ := hok
  intro m
  induction m with
  | zero =>
    intro j σ cs hI h1 h2 hc1 hc2
    have hle : ¬ 5 * j + 5 ≤ n := by omega
    refine G_iload (pc := 23) X (dg dt_lawA 13 rfl) rfl ?_
    refine G_aload_n (pc := 25) 0 X (dg dt_lawA 14 rfl) rfl rfl ?_
    refine G_slen (pc := 26) X hS9 (dg dt_lawA 15 rfl) ?_
    refine G_iconst (pc := 27) 5 X (dg dt_lawA 16 rfl) (by decide) ?_
    refine G_isub (pc := 28) X (dg dt_lawA 17 rfl) ?_
    refine G_icmp_gt (pc := 29) (a := 1) (b := 0) (r := 1) 2291 X (dg dt_lawA 18 rfl) (by decide) (if_neg ?_) (fun _ => ?_) (fun h => absurd h (by decide))
    · show ¬ nI (5 * j) ≤ nI n - 5
      by_cases h5 : 5 ≤ n
      · obtain ⟨n', rfl⟩ : ∃ n', n = n' + 5 := ⟨n - 5, by omega⟩
        rw [nI_5]
        exact nI_ge (by omega) (by omega)
      · have hj : j = 0 ∨ j = 1 := by omega
        have hn5 : n = 0 ∨ n = 1 ∨ n = 2 ∨ n = 3 ∨ n = 4 := by omega
        rcases hj with rfl | rfl <;> rcases hn5 with rfl | rfl | rfl | rfl | rfl <;> decide
    · exact G_wk (hfin σ cs (by omega) (by omega)) trivial
  | succ m ih =>
    intro j σ cs hI h1 h2 hc1 hc2
    by_cases hle : 5 * j + 5 ≤ n
    · refine G_iload (pc := 23) X (dg dt_lawA 13 rfl) rfl ?_
      refine G_aload_n (pc := 25) 0 X (dg dt_lawA 14 rfl) rfl rfl ?_
      refine G_slen (pc := 26) X hS9 (dg dt_lawA 15 rfl) ?_
      refine G_iconst (pc := 27) 5 X (dg dt_lawA 16 rfl) (by decide) ?_
      refine G_isub (pc := 28) X (dg dt_lawA 17 rfl) ?_
      refine G_icmp_gt (pc := 29) (a := 0) (b := 1) (r := 1) 2291 X (dg dt_lawA 18 rfl) (by decide) (if_pos ?_) (fun h => absurd h (by decide)) (fun _ => ?_)
      · show nI (5 * j) ≤ nI n - 5
        obtain ⟨n', rfl⟩ : ∃ n', n = n' + 5 := ⟨n - 5, by omega⟩
        rw [nI_5]
        exact nI_le (by omega) (by omega)
      have cont : ∀ (σ2 : St) (cs2 : Nat × Nat), Inv σ2 → cs2.1 ≤ cs.1 + 1 → cs2.2 ≤ cs.2 + 6 → G θ cs2 (g_SH, ad) σ2 2285 [some (.ref b), some (.ref (ad 0)), some (.ref (ad 82)), some (.ref (ad 103)), some (.int (nI (5 * j)))] [] := by
        intro σ2 cs2 hI2 k1 k2
        refine G_iinc (pc := 2285) (nI (5 * (j + 1))) X (dg dt_lawZ 0 rfl) rfl (Nat.le_of_ble_eq_true rfl) rfl (by rw [show 5 * (j + 1) = 5 * j + 5 by omega, ← nI_add]; rfl) ?_
        refine G_goto (pc := 2288) 23 X (dg dt_lawZ 1 rfl) (by decide) ?_
        exact G_wk (ih (j + 1) σ2 cs2 hI2 (by omega) (by omega) (by omega) (by omega)) ⟨rfl, ⟨rfl, ⟨rfl, ⟨rfl, ⟨rfl, trivial⟩⟩⟩⟩⟩
      have hRm : Rm θ (cs.1 + 1) (cs.2 + 6) := Rm_of hR (by omega) (by omega)
      have hRc : Rc θ cs := Rm_rc (a := cs.1) (b := cs.2) (Rm_of hR (by omega) (by omega))
      have hi0 : inb (nI (5 * j)) n = true := inb_nI (by omega) (by omega)
      have hi1 : inb (nI (5 * j) + 1) n = true := by rw [nI_1]; exact inb_nI (by omega) (by omega)
      have hi2 : inb (nI (5 * j) + 2) n = true := by rw [show nI (5 * j) + 2 = nI (5 * j + 2) from nI_add _ 2]; exact inb_nI (by omega) (by omega)
      have hi3 : inb (nI (5 * j) + 3) n = true := by rw [show nI (5 * j) + 3 = nI (5 * j + 3) from nI_add _ 3]; exact inb_nI (by omega) (by omega)
      have hi4 : inb (nI (5 * j) + 4) n = true := by rw [show nI (5 * j) + 4 = nI (5 * j + 4) from nI_add _ 4]; exact inb_nI (by omega) (by omega)
      refine G_aload_n (pc := 32) 0 X (dg dt_lawA 19 rfl) rfl rfl ?_
      refine G_iload (pc := 33) X (dg dt_lawA 20 rfl) rfl ?_
      refine G_sld (pc := 35) X hS9 (dg dt_lawA 21 rfl) hi0 ?_
      refine G_bipush (pc := 36) 31 X (dg dt_lawA 22 rfl) (by decide) ?_
      refine G_iand (pc := 38) X (dg dt_lawA 23 rfl) ?_
      obtain ⟨y, hy, ey⟩ := and31 (xs (ix (nI (5 * j))))
      rw [ey]
      match y, hy with
      | 0, _ =>
        refine G_tsw (pc := 39) 180 X (dg dt_lawA 24 rfl) (by decide) (by decide) (by rfl) (by decide) ?_
        obtain ⟨k, b9, σ1, σ2, g1, g2, g3, g4, g5⟩ := ok_grid σ hI (xs (ix (nI (5 * j) + 1)))
        exact s_law0 X hS9 htr hi1 g1 g2 g3 g4 hRm (cont σ2 (cs.1 + 1, cs.2 + 6) g5 (Nat.le_refl _) (Nat.le_refl _))
      | 1, _ =>
        refine G_tsw (pc := 39) 236 X (dg dt_lawA 24 rfl) (by decide) (by decide) (by rfl) (by decide) ?_
        obtain ⟨k, b9, σ1, σ2, g1, g2, g3, g4, g5⟩ := ok_linear σ hI (xs (ix (nI (5 * j) + 1))) (xs (ix (nI (5 * j) + 2))) (xs (ix (nI (5 * j) + 3))) (xs (ix (nI (5 * j) + 4)))
        exact s_law1 X hS9 htr hi1 hi2 hi3 hi4 g1 g2 g3 g4 hRm (cont σ2 (cs.1 + 1, cs.2 + 6) g5 (Nat.le_refl _) (Nat.le_refl _))
      | 2, _ =>
        refine G_tsw (pc := 39) 328 X (dg dt_lawA 24 rfl) (by decide) (by decide) (by rfl) (by decide) ?_
        obtain ⟨k, b9, σ1, σ2, g1, g2, g3, g4, g5⟩ := ok_put σ hI (xs (ix (nI (5 * j) + 1))) (xs (ix (nI (5 * j) + 2))) (xs (ix (nI (5 * j) + 3))) (xs (ix (nI (5 * j) + 4)))
        exact s_law2 X hS9 htr hi1 hi2 hi3 hi4 g1 g2 g3 g4 hRm (cont σ2 (cs.1 + 1, cs.2 + 6) g5 (Nat.le_refl _) (Nat.le_refl _))
      | 3, _ =>
        refine G_tsw (pc := 39) 420 X (dg dt_lawA 24 rfl) (by decide) (by decide) (by rfl) (by decide) ?_
        obtain ⟨k, b9, σ1, σ2, g1, g2, g3, g4, g5⟩ := ok_isotope σ hI (xs (ix (nI (5 * j) + 1))) (xs (ix (nI (5 * j) + 2))) (xs (ix (nI (5 * j) + 3))) (xs (ix (nI (5 * j) + 4)))
        exact s_law3 X hS9 htr hi1 hi2 hi3 hi4 g1 g2 g3 g4 hRm (cont σ2 (cs.1 + 1, cs.2 + 6) g5 (Nat.le_refl _) (Nat.le_refl _))
      | 4, _ =>
        refine G_tsw (pc := 39) 512 X (dg dt_lawA 24 rfl) (by decide) (by decide) (by rfl) (by decide) ?_
        obtain ⟨k, b9, σ1, σ2, g1, g2, g3, g4, g5⟩ := ok_conjugate σ hI (xs (ix (nI (5 * j) + 1))) (xs (ix (nI (5 * j) + 2)))
        exact s_law4 X hS9 htr hi1 hi2 g1 g2 g3 g4 hRm (cont σ2 (cs.1 + 1, cs.2 + 6) g5 (Nat.le_refl _) (Nat.le_refl _))
      | 5, _ =>
        refine G_tsw (pc := 39) 580 X (dg dt_lawA 24 rfl) (by decide) (by decide) (by rfl) (by decide) ?_
        obtain ⟨k, b9, σ1, σ2, g1, g2, g3, g4, g5⟩ := ok_cell σ hI (xs (ix (nI (5 * j) + 1))) (xs (ix (nI (5 * j) + 2))) (xs (ix (nI (5 * j) + 3)))
        exact s_law5 X hS9 htr hi1 hi2 hi3 g1 g2 g3 g4 hRm (cont σ2 (cs.1 + 1, cs.2 + 6) g5 (Nat.le_refl _) (Nat.le_refl _))
      | 6, _ =>
        refine G_tsw (pc := 39) 660 X (dg dt_lawA 24 rfl) (by decide) (by decide) (by rfl) (by decide) ?_
        obtain ⟨k, b9, σ1, σ2, g1, g2, g3, g4, g5⟩ := ok_of σ hI (xs (ix (nI (5 * j) + 1))) (xs (ix (nI (5 * j) + 2)))
        exact s_law6 X hS9 htr hi1 hi2 g1 g2 g3 g4 hRm (cont σ2 (cs.1 + 1, cs.2 + 6) g5 (Nat.le_refl _) (Nat.le_refl _))
      | 7, _ =>
        refine G_tsw (pc := 39) 728 X (dg dt_lawA 24 rfl) (by decide) (by decide) (by rfl) (by decide) ?_
        obtain ⟨k, b9, σ1, σ2, g1, g2, g3, g4, g5⟩ := ok_distance σ hI (xs (ix (nI (5 * j) + 1))) (xs (ix (nI (5 * j) + 2)))
        exact s_law7 X hS9 htr hi1 hi2 g1 g2 g3 g4 hRm (cont σ2 (cs.1 + 1, cs.2 + 6) g5 (Nat.le_refl _) (Nat.le_refl _))
      | 8, _ =>
        refine G_tsw (pc := 39) 796 X (dg dt_lawA 24 rfl) (by decide) (by decide) (by rfl) (by decide) ?_
        obtain ⟨k, b9, σ1, σ2, g1, g2, g3, g4, g5⟩ := ok_turn σ hI (xs (ix (nI (5 * j) + 1))) (xs (ix (nI (5 * j) + 2))) (xs (ix (nI (5 * j) + 3))) (xs (ix (nI (5 * j) + 4)))
        exact s_law8 X hS9 htr hi1 hi2 hi3 hi4 g1 g2 g3 g4 hRm (cont σ2 (cs.1 + 1, cs.2 + 6) g5 (Nat.le_refl _) (Nat.le_refl _))
      | 9, _ =>
        refine G_tsw (pc := 39) 888 X (dg dt_lawA 24 rfl) (by decide) (by decide) (by rfl) (by decide) ?_
        obtain ⟨k, b9, σ1, σ2, g1, g2, g3, g4, g5⟩ := ok_stir σ hI (xs (ix (nI (5 * j) + 1))) (xs (ix (nI (5 * j) + 2))) (xs (ix (nI (5 * j) + 3)))
        exact s_law9 X hS9 htr hi1 hi2 hi3 g1 g2 g3 g4 hRm (cont σ2 (cs.1 + 1, cs.2 + 6) g5 (Nat.le_refl _) (Nat.le_refl _))
      | 10, _ =>
        refine G_tsw (pc := 39) 968 X (dg dt_lawA 24 rfl) (by decide) (by decide) (by rfl) (by decide) ?_
        obtain ⟨k, b9, σ1, σ2, g1, g2, g3, g4, g5⟩ := ok_can σ hI (xs (ix (nI (5 * j) + 1))) (xs (ix (nI (5 * j) + 2))) (xs (ix (nI (5 * j) + 3)))
        exact s_law10 X hS9 htr hi1 hi2 hi3 g1 g2 g3 g4 hRm (cont σ2 (cs.1 + 1, cs.2 + 6) g5 (Nat.le_refl _) (Nat.le_refl _))
      | 11, _ =>
        refine G_tsw (pc := 39) 1048 X (dg dt_lawA 24 rfl) (by decide) (by decide) (by rfl) (by decide) ?_
        obtain ⟨k, b9, σ1, σ2, g1, g2, g3, g4, g5⟩ := ok_fills σ hI (xs (ix (nI (5 * j) + 1))) (xs (ix (nI (5 * j) + 2)))
        exact s_law11 X hS9 htr hi1 hi2 g1 g2 g3 g4 hRm (cont σ2 (cs.1 + 1, cs.2 + 6) g5 (Nat.le_refl _) (Nat.le_refl _))
      | 12, _ =>
        refine G_tsw (pc := 39) 1116 X (dg dt_lawA 24 rfl) (by decide) (by decide) (by rfl) (by decide) ?_
        obtain ⟨k, b9, σ1, σ2, g1, g2, g3, g4, g5⟩ := ok_fillsAnew σ hI (xs (ix (nI (5 * j) + 1))) (xs (ix (nI (5 * j) + 2)))
        exact s_law12 X hS9 htr hi1 hi2 g1 g2 g3 g4 hRm (cont σ2 (cs.1 + 1, cs.2 + 6) g5 (Nat.le_refl _) (Nat.le_refl _))
      | 13, _ =>
        refine G_tsw (pc := 39) 1184 X (dg dt_lawA 24 rfl) (by decide) (by decide) (by rfl) (by decide) ?_
        obtain ⟨k, b9, σ1, σ2, g1, g2, g3, g4, g5⟩ := ok_fill σ hI (xs (ix (nI (5 * j) + 1)))
        exact s_law13 X hS9 htr hi1 g1 g2 g3 g4 hRm (cont σ2 (cs.1 + 1, cs.2 + 6) g5 (Nat.le_refl _) (Nat.le_refl _))
      | 14, _ =>
        refine G_tsw (pc := 39) 1240 X (dg dt_lawA 24 rfl) (by decide) (by decide) (by rfl) (by decide) ?_
        obtain ⟨k, b9, σ1, σ2, g1, g2, g3, g4, g5⟩ := ok_forced σ hI (xs (ix (nI (5 * j) + 1)))
        exact s_law14 X hS9 htr hi1 g1 g2 g3 g4 hRm (cont σ2 (cs.1 + 1, cs.2 + 6) g5 (Nat.le_refl _) (Nat.le_refl _))
      | 15, _ =>
        refine G_tsw (pc := 39) 1296 X (dg dt_lawA 24 rfl) (by decide) (by decide) (by rfl) (by decide) ?_
        obtain ⟨k, b9, σ1, σ2, g1, g2, g3, g4, g5⟩ := ok_logic σ hI (xs (ix (nI (5 * j) + 1)))
        exact s_law15 X hS9 htr hi1 g1 g2 g3 g4 hRm (cont σ2 (cs.1 + 1, cs.2 + 6) g5 (Nat.le_refl _) (Nat.le_refl _))
      | 16, _ =>
        refine G_tsw (pc := 39) 1352 X (dg dt_lawA 24 rfl) (by decide) (by decide) (by rfl) (by decide) ?_
        obtain ⟨k, b9, σ1, σ2, g1, g2, g3, g4, g5⟩ := ok_critical σ hI (xs (ix (nI (5 * j) + 1)))
        exact s_law16 X hS9 htr hi1 g1 g2 g3 g4 hRm (cont σ2 (cs.1 + 1, cs.2 + 6) g5 (Nat.le_refl _) (Nat.le_refl _))
      | 17, _ =>
        refine G_tsw (pc := 39) 1408 X (dg dt_lawA 24 rfl) (by decide) (by decide) (by rfl) (by decide) ?_
        obtain ⟨k, b9, σ1, σ2, g1, g2, g3, g4, g5⟩ := ok_type σ hI (tyL (xs (ix (nI (5 * j) + 1))) (xs (ix (nI (5 * j) + 2)))) (xs (ix (nI (5 * j) + 3)))
        exact s_law17 X hS9 htr hi1 hi2 hi3 g1 g2 g3 g4 hRm (cont σ2 (cs.1 + 1, cs.2 + 6) g5 (Nat.le_refl _) (Nat.le_refl _))
      | 18, _ =>
        refine G_tsw (pc := 39) 1508 X (dg dt_lawA 24 rfl) (by decide) (by decide) (by rfl) (by decide) ?_
        obtain ⟨k, b9, σ1, σ2, g1, g2, g3, g4⟩ := ok_wipe σ hI
        exact s_law18 X hS9 htr hRc g1 g2 g3 (cont σ2 cs g4 (Nat.le_succ _) (Nat.le_add_right _ 6))
      | 19, _ =>
        refine G_tsw (pc := 39) 1521 X (dg dt_lawA 24 rfl) (by decide) (by decide) (by rfl) (by decide) ?_
        obtain ⟨k, b9, σ1, σ2, g1, g2, g3, g4⟩ := ok_fault σ hI
        exact s_law19 X hS9 htr hRc g1 g2 g3 (cont σ2 cs g4 (Nat.le_succ _) (Nat.le_add_right _ 6))
      | 20, _ =>
        refine G_tsw (pc := 39) 1534 X (dg dt_lawA 24 rfl) (by decide) (by decide) (by rfl) (by decide) ?_
        obtain ⟨k, b9, σ1, σ2, g1, g2, g3, g4, g5⟩ := ok_breaks σ hI (xs (ix (nI (5 * j) + 1)))
        exact s_law20 X hS9 htr hi1 g1 g2 g3 g4 hRm (cont σ2 (cs.1 + 1, cs.2 + 6) g5 (Nat.le_refl _) (Nat.le_refl _))
      | 21, _ =>
        refine G_tsw (pc := 39) 1590 X (dg dt_lawA 24 rfl) (by decide) (by decide) (by rfl) (by decide) ?_
        obtain ⟨k, b9, σ1, σ2, g1, g2, g3, g4, g5⟩ := ok_unit σ hI (xs (ix (nI (5 * j) + 1)))
        exact s_law21 X hS9 htr hi1 g1 g2 g3 g4 hRm (cont σ2 (cs.1 + 1, cs.2 + 6) g5 (Nat.le_refl _) (Nat.le_refl _))
      | 22, _ =>
        refine G_tsw (pc := 39) 1646 X (dg dt_lawA 24 rfl) (by decide) (by decide) (by rfl) (by decide) ?_
        obtain ⟨k, b9, σ1, σ2, g1, g2, g3, g4, g5⟩ := ok_nucleus σ hI (xs (ix (nI (5 * j) + 1))) (xs (ix (nI (5 * j) + 2)))
        exact s_law22 X hS9 htr hi1 hi2 g1 g2 g3 g4 hRm (cont σ2 (cs.1 + 1, cs.2 + 6) g5 (Nat.le_refl _) (Nat.le_refl _))
      | 23, _ =>
        refine G_tsw (pc := 39) 1714 X (dg dt_lawA 24 rfl) (by decide) (by decide) (by rfl) (by decide) ?_
        obtain ⟨k, b9, σ1, σ2, g1, g2, g3, g4, g5⟩ := ok_closed σ hI (xs (ix (nI (5 * j) + 1))) (xs (ix (nI (5 * j) + 2)))
        exact s_law23 X hS9 htr hi1 hi2 g1 g2 g3 g4 hRm (cont σ2 (cs.1 + 1, cs.2 + 6) g5 (Nat.le_refl _) (Nat.le_refl _))
      | 24, _ =>
        refine G_tsw (pc := 39) 1782 X (dg dt_lawA 24 rfl) (by decide) (by decide) (by rfl) (by decide) ?_
        obtain ⟨k, b9, σ1, σ2, g1, g2, g3, g4, g5⟩ := ok_count σ hI (xs (ix (nI (5 * j) + 1))) (xs (ix (nI (5 * j) + 2)))
        exact s_law24 X hS9 htr hi1 hi2 g1 g2 g3 g4 hRm (cont σ2 (cs.1 + 1, cs.2 + 6) g5 (Nat.le_refl _) (Nat.le_refl _))
      | 25, _ =>
        refine G_tsw (pc := 39) 1850 X (dg dt_lawA 24 rfl) (by decide) (by decide) (by rfl) (by decide) ?_
        obtain ⟨k, b9, σ1, σ2, g1, g2, g3, g4, g5⟩ := ok_isotopies σ hI (xs (ix (nI (5 * j) + 1))) (xs (ix (nI (5 * j) + 2)))
        exact s_law25 X hS9 htr hi1 hi2 g1 g2 g3 g4 hRm (cont σ2 (cs.1 + 1, cs.2 + 6) g5 (Nat.le_refl _) (Nat.le_refl _))
      | 26, _ =>
        refine G_tsw (pc := 39) 1918 X (dg dt_lawA 24 rfl) (by decide) (by decide) (by rfl) (by decide) ?_
        obtain ⟨k, b9, σ1, σ2, g1, g2, g3, g4, g5⟩ := ok_transversals σ hI (xs (ix (nI (5 * j) + 1)))
        exact s_law26 X hS9 htr hi1 g1 g2 g3 g4 hRm (cont σ2 (cs.1 + 1, cs.2 + 6) g5 (Nat.le_refl _) (Nat.le_refl _))
      | 27, _ =>
        refine G_tsw (pc := 39) 1974 X (dg dt_lawA 24 rfl) (by decide) (by decide) (by rfl) (by decide) ?_
        obtain ⟨k, b9, σ1, σ2, g1, g2, g3, g4, g5⟩ := ok_mates σ hI (xs (ix (nI (5 * j) + 1)))
        exact s_law27 X hS9 htr hi1 g1 g2 g3 g4 hRm (cont σ2 (cs.1 + 1, cs.2 + 6) g5 (Nat.le_refl _) (Nat.le_refl _))
      | 28, _ =>
        refine G_tsw (pc := 39) 2030 X (dg dt_lawA 24 rfl) (by decide) (by decide) (by rfl) (by decide) ?_
        obtain ⟨k, b9, σ1, σ2, g1, g2, g3, g4, g5⟩ := ok_mate σ hI (xs (ix (nI (5 * j) + 1)))
        exact s_law28 X hS9 htr hi1 g1 g2 g3 g4 hRm (cont σ2 (cs.1 + 1, cs.2 + 6) g5 (Nat.le_refl _) (Nat.le_refl _))
      | 29, _ =>
        refine G_tsw (pc := 39) 2086 X (dg dt_lawA 24 rfl) (by decide) (by decide) (by rfl) (by decide) ?_
        obtain ⟨k, b9, σ1, σ2, g1, g2, g3, g4, g5⟩ := ok_areMates σ hI (xs (ix (nI (5 * j) + 1))) (xs (ix (nI (5 * j) + 2)))
        exact s_law29 X hS9 htr hi1 hi2 g1 g2 g3 g4 hRm (cont σ2 (cs.1 + 1, cs.2 + 6) g5 (Nat.le_refl _) (Nat.le_refl _))
      | 30, _ =>
        refine G_tsw (pc := 39) 2161 X (dg dt_lawA 24 rfl) (by decide) (by decide) (by rfl) (by decide) ?_
        obtain ⟨k, b9, σ1, σ2, g1, g2, g3, g4, g5⟩ := ok_parity σ hI (xs (ix (nI (5 * j) + 1))) (xs (ix (nI (5 * j) + 2)))
        exact s_law30 X hS9 htr hi1 hi2 g1 g2 g3 g4 hRm (cont σ2 (cs.1 + 1, cs.2 + 6) g5 (Nat.le_refl _) (Nat.le_refl _))
      | 31, _ =>
        refine G_tsw (pc := 39) 2229 X (dg dt_lawA 24 rfl) (by decide) (by decide) (by rfl) (by decide) ?_
        obtain ⟨k, b9, σ1, σ2, g1, g2, g3, g4, g5⟩ := ok_wins σ hI (xs (ix (nI (5 * j) + 1)))
        exact s_law31 X hS9 htr hi1 g1 g2 g3 g4 hRm (cont σ2 (cs.1 + 1, cs.2 + 6) g5 (Nat.le_refl _) (Nat.le_refl _))
      | y + 32, hy => exact absurd hy (by omega)
    · refine G_iload (pc := 23) X (dg dt_lawA 13 rfl) rfl ?_
      refine G_aload_n (pc := 25) 0 X (dg dt_lawA 14 rfl) rfl rfl ?_
      refine G_slen (pc := 26) X hS9 (dg dt_lawA 15 rfl) ?_
      refine G_iconst (pc := 27) 5 X (dg dt_lawA 16 rfl) (by decide) ?_
      refine G_isub (pc := 28) X (dg dt_lawA 17 rfl) ?_
      refine G_icmp_gt (pc := 29) (a := 1) (b := 0) (r := 1) 2291 X (dg dt_lawA 18 rfl) (by decide) (if_neg ?_) (fun _ => ?_) (fun h => absurd h (by decide))
      · show ¬ nI (5 * j) ≤ nI n - 5
        by_cases h5 : 5 ≤ n
        · obtain ⟨n', rfl⟩ : ∃ n', n = n' + 5 := ⟨n - 5, by omega⟩
          rw [nI_5]
          exact nI_ge (by omega) (by omega)
        · have hj : j = 0 ∨ j = 1 := by omega
          have hn5 : n = 0 ∨ n = 1 ∨ n = 2 ∨ n = 3 ∨ n = 4 := by omega
          rcases hj with rfl | rfl <;> rcases hn5 with rfl | rfl | rfl | rfl | rfl <;> decide
      · exact G_wk (hfin σ cs (by omega) (by omega)) trivial

