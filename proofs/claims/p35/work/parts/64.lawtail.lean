/-! all cells, and what is asked behind them -/
def p_T3 (N : Nat) (xs : Nat → Int32) (v6 : Int32) (kx1071 : Int32 → St → Option Int32) (n : Nat) (v9 s_89 : Int32) : Int32 → St → Option Int32 := (fun (v17_96 : Int32) (σ_97 : St) => jn (fun (s_99 : Int32) (σ_100 : St) => f_L_law_L178 N xs v6 kx1071 n s_99 (v9 + 1) σ_100) fun j1063_98 =>
        jn (fun (σ_102 : St) => j1063_98 0 σ_102) fun j1062_101 =>
        if s_89 = 0 then
          j1062_101 σ_97
        else
          cay (f_Q_logic σ_97 0) fun r_104 σ_105 =>
          if r_104 = v17_96 then
            j1063_98 1 σ_105
          else
            j1062_101 σ_105)
def p_T2 (N : Nat) (xs : Nat → Int32) (v6 : Int32) (kx1071 : Int32 → St → Option Int32) (n : Nat) (v9 : Int32) : Int32 → Int32 → Int32 → Int32 → St → Option Int32 := (fun (v8_81 : Int32) (v14_82 : Int32) (v15_83 : Int32) (v16_84 : Int32) (σ_85 : St) => cap (f_L_forced σ_85 84 v6) fun r_87 =>
        jn (fun (s_89 : Int32) (σ_90 : St) => f_L_law_L1010 v6 s_89 v9 (p_T3 N xs v6 kx1071 n v9 s_89) FU 0 r_87 σ_90) fun j1008_88 =>
        jn (fun (σ_107 : St) => j1008_88 0 σ_107) fun j1007_106 =>
        if v8_81 = 0 then
          j1007_106 σ_85
        else
          cay (f_Q_forced σ_85 0) fun r_109 σ_110 =>
          if r_109 = r_87 then
            cay (f_Q_of σ_110 0 0) fun r_112 σ_113 =>
            if r_112 = v6 then
              cay (f_Q_of σ_113 0 1) fun r_115 σ_116 =>
              if r_115 = v14_82 then
                cay (f_Q_of σ_116 0 2) fun r_118 σ_119 =>
                if r_118 = v15_83 then
                  cay (f_Q_distance σ_119 0 1) fun r_121 σ_122 =>
                  if r_121 = v16_84 then
                    j1008_88 1 σ_122
                  else
                    j1007_106 σ_122
                else
                  j1007_106 σ_119
              else
                j1007_106 σ_116
            else
              j1007_106 σ_113
          else
            j1007_106 σ_110)
def p_T1 (N : Nat) (xs : Nat → Int32) (v6 : Int32) (kx1071 : Int32 → St → Option Int32) (n : Nat) (v9 : Int32) : Int32 → St → Option Int32 := fun v8_40 σ_41 => f_L_law_L759 v6 v9 (p_T2 N xs v6 kx1071 n v9) FU v8_40 0 0 0 0 σ_41
theorem pl_cntP (p : Nat → Bool) : ∀ m, sumN m (fun i => (p i).toNat) = (List.range m).countP p := by
  intro m
  induction m with
  | zero => rfl
  | succ m ih =>
    rw [sumN, ih, List.range_succ, List.countP_append]
    cases h : p m <;> simp [h]
section LT9
variable {σ : St} {n : Nat} {B B1 : Bd}
theorem pl_759all (h : LW σ n B B1) (hA : Arr σ 82 n B) (hS : Arr σ 83 n B1) (v9 : Int32) (kx : Int32 → Int32 → Int32 → Int32 → St → Option Int32) :
    ∃ τ, f_L_law_L759 (nI n) v9 kx FU 1 0 0 0 0 σ = kx 1 (nI (cnt B)) (nI (sumN n (fun r => sumN n (fun c => dead n B r c)))) (nI (sumN n (fun r => sumN n (fun c => unl B B1 r c)))) τ ∧ Arr τ 84 n B ∧ ∀ m, m ≠ 84 → τ m = σ m := by
  have hw := h.g0.1
  have hn1 := hw.1
  have hn2 := hw.2.1
  have h25 : n * n ≤ 25 := Nat.mul_le_mul hn2 hn2
  have Z : ∃ x : Nat × Nat × Nat × St, (x.1 = sumN (n * n) (fun i => (decide (B (i / n) (i % n) ≠ 0)).toNat) ∧ x.2.1 = sumN (n * n) (fun i => dead n B (i / n) (i % n)) ∧ x.2.2.1 = sumN (n * n) (fun i => unl B B1 (i / n) (i % n)) ∧ (∀ m, m ≠ 84 → x.2.2.2 m = σ m) ∧ ∀ j, j < n * n → x.2.2.2 84 j = ce (B (j / n) (j % n))) ∧ f_L_law_L759 (nI n) v9 kx FU 1 0 0 0 0 σ = kx 1 (nI x.1) (nI x.2.1) (nI x.2.2.1) x.2.2.2 := by
    refine loop_acc (fun m i (x : Nat × Nat × Nat × St) => f_L_law_L759 (nI n) v9 kx m 1 (nI x.1) (nI x.2.1) (nI x.2.2.1) (nI i) x.2.2.2) (n * n) (fun i x => (x.1 + (decide (B (i / n) (i % n) ≠ 0)).toNat, x.2.1 + dead n B (i / n) (i % n), x.2.2.1 + unl B B1 (i / n) (i % n), wr x.2.2.2 84 i (ce (B (i / n) (i % n))))) (fun x => kx 1 (nI x.1) (nI x.2.1) (nI x.2.2.1) x.2.2.2)
      (fun e x => x.1 = sumN e (fun i => (decide (B (i / n) (i % n) ≠ 0)).toNat) ∧ x.2.1 = sumN e (fun i => dead n B (i / n) (i % n)) ∧ x.2.2.1 = sumN e (fun i => unl B B1 (i / n) (i % n)) ∧ (∀ m, m ≠ 84 → x.2.2.2 m = σ m) ∧ ∀ j, j < e → x.2.2.2 84 j = ce (B (j / n) (j % n))) (by omega) (0, 0, 0, σ) ⟨rfl, rfl, rfl, fun m _ => rfl, fun j hj => by omega⟩ ?_ ?_ ?_
    · rintro m i ⟨a, d, u, τ⟩ hi ⟨_, _, _, hf, _⟩
      have hf : ∀ m, m ≠ 84 → τ m = σ m := hf
      exact pl_759 (h.lo (fun m hm => hf m (by omega))) (hA.fr (hf 82 (by omega))) (hS.fr (hf 83 (by omega))) hi a d u m v9 kx
    · rintro i ⟨a, d, u, τ⟩ hi ⟨h1, h2, h3, h4, h5⟩
      have h4 : ∀ m, m ≠ 84 → τ m = σ m := h4
      have h5 : ∀ j, j < i → τ 84 j = ce (B (j / n) (j % n)) := h5
      refine ⟨congrArg (· + _) h1, congrArg (· + _) h2, congrArg (· + _) h3, fun m hm => ?_, fun j hj => ?_⟩
      · show wr τ 84 i _ m = σ m
        rw [wr_fn hm]; exact h4 m hm
      · show wr τ 84 i _ 84 j = _
        rw [wr_get]
        by_cases e : j = i
        · rw [if_pos ⟨rfl, e⟩, e]
        · rw [if_neg (by omega)]; exact h5 j (by omega)
    · rintro m ⟨a, d, u, τ⟩ -
      show f_L_law_L759 (nI n) v9 kx (m + 1) 1 (nI a) (nI d) (nI u) (nI (n * n)) τ = _
      rw [f_L_law_L759.eq_2]
      rw [nI_mul, if_neg (nI_nlt (Nat.le_refl _) (by omega))]
  obtain ⟨⟨a, d, u, τ⟩, ⟨h1, h2, h3, h4, h5⟩, e⟩ := Z
  refine ⟨τ, ?_, fun r c hr hc => ?_, h4⟩
  · rw [e]
    show kx 1 (nI a) (nI d) (nI u) τ = _
    rw [show a = _ from h1, show d = _ from h2, show u = _ from h3, pl_cntP, ← cnt_nn hw, sumN_sq n (dead n B), sumN_sq n (unl B B1)]
  · have b : n * r + c < n * n := by
      have : n * r ≤ n * (n - 1) := Nat.mul_le_mul_left _ (by omega)
      have : n * (n - 1) + n = n * n := by rw [← Nat.mul_succ]; congr 1; omega
      omega
    have := h5 (n * r + c) b
    rwa [(pl_i hc).1, (pl_i hc).2] at this
theorem pl_chkA (h : LW σ n B B1) {x : Int32} (hx : f_Q_forced σ 0 = some (.ok x, σ)) (K : Int32 → St → Option Int32) :
    (jn K fun j1008 => jn (fun (σ : St) => j1008 0 σ) fun j1007 => if (1 : Int32) = 0 then j1007 σ else
      cay (f_Q_forced σ 0) fun r_109 σ_110 => if r_109 = x then
        cay (f_Q_of σ_110 0 0) fun r_112 σ_113 => if r_112 = nI n then
          cay (f_Q_of σ_113 0 1) fun r_115 σ_116 => if r_115 = nI (cnt B) then
            cay (f_Q_of σ_116 0 2) fun r_118 σ_119 => if r_118 = nI (sumN n (fun r => sumN n (fun c => dead n B r c))) then
              cay (f_Q_distance σ_119 0 1) fun r_121 σ_122 => if r_121 = nI (sumN n (fun r => sumN n (fun c => unl B B1 r c))) then j1008 1 σ_122 else j1007 σ_122
            else j1007 σ_119
          else j1007 σ_116
        else j1007 σ_113
      else j1007 σ_110) = K 1 σ := by
  simp only [jn_eq, pl_1, if_false, hx, cay_ok, lq_of0 h, lq_of1 h, lq_of2 h, lq_dist h, if_true]
theorem pl_chkB {x : Int32} {τ : St} (hx : f_Q_logic σ 0 = some (.ok x, τ)) (K : Int32 → St → Option Int32) :
    (jn K fun j1063 => jn (fun (σ : St) => j1063 0 σ) fun j1062 => if (1 : Int32) = 0 then j1062 σ else cay (f_Q_logic σ 0) fun r_104 σ_105 => if r_104 = x then j1063 1 σ_105 else j1062 σ_105) = K 1 τ := by
  simp only [jn_eq, pl_1, if_false, hx, cay_ok, if_true]
theorem pl_tail (h : LW σ n B B1) (hA : Arr σ 82 n B) (hS : Arr σ 83 n B1) (N : Nat) (xs : Nat → Int32) (kx : Int32 → St → Option Int32) (m : Nat) (v9 : Int32) :
    ∃ τ, p_T1 N xs (nI n) kx m v9 1 σ = f_L_law_L178 N xs (nI n) kx m 1 (v9 + 1) τ ∧ LW τ n B B1 ∧ Arr τ 82 n B ∧ Arr τ 83 n B1 := by
  have hw := h.g0.1
  have hn1 := hw.1
  have hn2 := hw.2.1
  have h25 : n * n ≤ 25 := Nat.mul_le_mul hn2 hn2
  obtain ⟨σ1, e1, a1, f1⟩ := pl_759all h hA hS v9 (p_T2 N xs (nI n) kx m v9)
  have h1 : LW σ1 n B B1 := h.lo (fun m hm => f1 m (by omega))
  obtain ⟨x, hx1, hx2⟩ := lq_forced h1 a1
  obtain ⟨v, q1, q2⟩ := pl_logic (n := n) (fun v σ => some (v, σ)) 1 v9 (p_T3 N xs (nI n) kx m v9 1) 25 B 0 (by omega) (by omega) hw
  obtain ⟨σ2, e2, f2⟩ := q2 σ1 FU (FU_gt (by decide)) a1 x hx2
  have h2 : LW σ2 n B B1 := h1.lo (fun m hm => f2 m (by omega))
  obtain ⟨σ3, e3, g3, f3⟩ := copy_ok (k := 2) h2.g0 (by omega)
  obtain ⟨σ4, e4, f4⟩ := q1 σ3 FU (FU_gt (by decide)) g3
  have hx3 : ∃ x', f_Filling_firstForced σ3 2 = some x' := by
    rcases first_ok g3 with ⟨e, _⟩ | ⟨i, _, _, _, e⟩
    · exact ⟨_, e⟩
    · exact ⟨_, e⟩
  obtain ⟨x', hx3⟩ := hx3
  have e5 : f_Q_logic σ2 0 = some (.ok v, σ4) := by
    unfold f_Q_logic
    rw [h2.at0, cax_ok, e3, cal_some]
    unfold f_Filling_fillForced
    rw [hx3, cap_some, show (0 : Int32) = nI 0 from rfl, e4 x' hx3, cal_some]
  have fr : ∀ m, m < 2 ∨ 5 < m → m ≠ 84 → σ4 m = σ m := fun m hm hm2 => by
    rw [f4 m hm, f3 m (by omega), f2 m hm2, f1 m hm2]
  refine ⟨σ4, ?_, ?_, hA.fr (fr 82 (by omega) (by omega)), hS.fr (fr 83 (by omega) (by omega))⟩
  · show f_L_law_L759 (nI n) v9 (p_T2 N xs (nI n) kx m v9) FU 1 0 0 0 0 σ = _
    rw [e1]
    unfold p_T2
    rw [hx2, cap_some, pl_chkA h1 hx1, show (0 : Int32) = nI 0 from rfl, e2]
    unfold p_T3
    rw [pl_chkB e5]
  · obtain ⟨c1, c2, c3⟩ := h
    refine ⟨c1, ?_, fun j hj => (c3 j hj).frame (fun m a b => ?_)⟩
    · rw [fr 0 (by omega) (by omega)]; exact c2
    · unfold gid at a b
      exact fr m (by omega) (by omega)
end LT9
