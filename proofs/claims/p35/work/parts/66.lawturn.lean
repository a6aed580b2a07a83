/-! two rows TURNED -/
def p_K (v6 v9 r_32 r_35 : Int32) (σ : St) (j747_39 : Int32 → St → Option Int32) (r_125 v15_131 : Int32) : Int32 → Int32 → Option Int32 := (fun (v16_138 : Int32) (v18_139 : Int32) => cal (f_L_act σ 1 0 r_32 r_125 r_35) fun r_141 σ_142 =>
          jn (fun (s_144 : Int32) => jn (fun (s_146 : Int32) => f_L_law_L644 v6 s_146 v9 r_32 r_125 v18_139 (fun (σ_158 : St) => j747_39 s_146 σ_158) FU 0 σ_142) fun j639_145 =>
          if r_141 = s_144 then
            j639_145 1
          else
            j639_145 0) fun j631_143 =>
          if r_32 = r_125 then
            j631_143 (-1002)
          else
            if v15_131 = 0 then
              j631_143 (-1003)
            else
              j631_143 v16_138)
def p_U (v6 v9 r_32 r_35 : Int32) (σ : St) (j747_39 : Int32 → St → Option Int32) (r_125 : Int32) : Option Int32 := f_L_law_L439 v6 v9 r_32 r_35 r_125 σ (fun (v15_131 : Int32) => f_L_law_L500 v6 v9 r_32 r_35 r_125 v15_131 σ (p_K v6 v9 r_32 r_35 σ j747_39 r_125 v15_131) FU 0 r_35 0) FU 1 0
section LU9
variable {σ : St} {n : Nat} {B B1 : Bd}
theorem pl_439 (hw : Wf n B) (hA : Arr σ 82 n B) {r r2 : Nat} (hr : r < n) (hr2 : r2 < n) (v9 v12 : Int32) (K : Int32 → Option Int32) :
    f_L_law_L439 (nI n) v9 (nI r) v12 (nI r2) σ K FU 1 0 = K (bI (dB (FRo n B r ∧ FRo n B r2))) := by
  have hn1 := hw.1
  have hn2 := hw.2.1
  have A := loop_flag (fun m i b => f_L_law_L439 (nI n) v9 (nI r) v12 (nI r2) σ K m (bI b) (nI i)) n (fun i => B r i ≠ 0 ∧ B r2 i ≠ 0) (fun b => K (bI b)) (by omega) true ?_ ?_
  · refine A.trans ?_
    rw [Bool.true_and]
    congr 2
    exact dB_cong ⟨fun h => ⟨fun k hk => (h k hk).1, fun k hk => (h k hk).2⟩, fun h k hk => ⟨h.1 k hk, h.2 k hk⟩⟩
  · intro m i b hi
    show f_L_law_L439 (nI n) v9 (nI r) v12 (nI r2) σ K (m + 1) (bI b) (nI i) = f_L_law_L439 (nI n) v9 (nI r) v12 (nI r2) σ K m (bI (b && dB (B r i ≠ 0 ∧ B r2 i ≠ 0))) (nI (i + 1))
    rw [f_L_law_L439.eq_2]
    have b1 := ix25 hn2 hr hi
    have b2 := ix25 hn2 hr2 hi
    have x1 := hw.bd r i
    have x2 := hw.bd r2 i
    have y1 := hA r i hr hi
    have y2 := hA r2 i hr2 hi
    have C1 : (ce (B r i) < 0) = (B r i = 0) := ce_lt0 (by omega)
    have C2 : (ce (B r2 i) < 0) = (B r2 i = 0) := ce_lt0 (by omega)
    rw [if_pos (nI_lt hi (by omega)), nI_mul, nI_add, nI_mul, nI_add, nI_1]
    simp (disch := omega) only [ald_nI, y1, y2, C1, C2, jn_eq]
    cases b
    · rw [if_pos (by rfl)]; rfl
    · rw [if_neg (by decide)]
      by_cases e1 : B r i = 0
      · rw [if_pos e1, dB_f (fun h => h.1 e1)]; rfl
      · rw [if_neg e1]
        by_cases e2 : B r2 i = 0
        · rw [if_pos e2, dB_f (fun h => h.2 e2)]; rfl
        · rw [if_neg e2, dB_t ⟨e1, e2⟩]; rfl
  · intro m b
    show f_L_law_L439 (nI n) v9 (nI r) v12 (nI r2) σ K (m + 1) (bI b) (nI n) = _
    rw [f_L_law_L439.eq_2]
    rw [if_neg (nI_nlt (Nat.le_refl _) (by omega))]
theorem pl_541 (hw : Wf n B) (hA : Arr σ 82 n B) {r r2 c : Nat} (hr : r < n) (hr2 : r2 < n) (hc : c < n) (f1 : FRo n B r) (f2 : FRo n B r2) (v9 v12 v15 v16 v18 : Int32) (K : Int32 → Option Int32) :
    f_L_law_L541 (nI n) v9 (nI r) v12 (nI r2) v15 v16 (nI c) v18 σ K FU (nI c) 0 = K (nI (piF n B r r2 c)) := by
  have hn1 := hw.1
  have hn2 := hw.2.1
  have Z : ∃ x : Nat, (∀ k, k < n → B r k = B r2 c → x = k) ∧ f_L_law_L541 (nI n) v9 (nI r) v12 (nI r2) v15 v16 (nI c) v18 σ K FU (nI c) 0 = K (nI x) := by
    refine loop_acc (fun m i (x : Nat) => f_L_law_L541 (nI n) v9 (nI r) v12 (nI r2) v15 v16 (nI c) v18 σ K m (nI x) (nI i)) n (fun i x => if B r i = B r2 c then i else x) (fun x => K (nI x)) (fun e x => ∀ k, k < e → B r k = B r2 c → x = k) (by omega) c (fun k hk => by omega) ?_ ?_ ?_
    · intro m i x hi _
      show f_L_law_L541 (nI n) v9 (nI r) v12 (nI r2) v15 v16 (nI c) v18 σ K (m + 1) (nI x) (nI i) = f_L_law_L541 (nI n) v9 (nI r) v12 (nI r2) v15 v16 (nI c) v18 σ K m (nI (if B r i = B r2 c then i else x)) (nI (i + 1))
      rw [f_L_law_L541.eq_2]
      have b1 := ix25 hn2 hr hi
      have b2 := ix25 hn2 hr2 hc
      have x1 := hw.bd r i
      have x2 := hw.bd r2 c
      have y1 := hA r i hr hi
      have y2 := hA r2 c hr2 hc
      rw [if_pos (nI_lt hi (by omega)), nI_mul, nI_add, nI_mul, nI_add, nI_1]
      simp (disch := omega) only [ald_nI, y1, y2, ce_inj, jn_eq]
      by_cases e : B r i = B r2 c
      · rw [if_pos e, if_pos e]
      · rw [if_neg e, if_neg e]
    · intro i x hi hx k hk hkb
      show (if B r i = B r2 c then i else x) = k
      by_cases e : B r i = B r2 c
      · rw [if_pos e]
        exact hw.2.2.2.1 r i k (f1 i hi) (by rw [e, hkb])
      · rw [if_neg e]
        by_cases e2 : k = i
        · subst e2; exact absurd hkb e
        · exact hx k (by omega) hkb
    · intro m x _
      show f_L_law_L541 (nI n) v9 (nI r) v12 (nI r2) v15 v16 (nI c) v18 σ K (m + 1) (nI x) (nI n) = _
      rw [f_L_law_L541.eq_2]
      rw [if_neg (nI_nlt (Nat.le_refl _) (by omega))]
  obtain ⟨x, hx, e⟩ := Z
  have hp := piF_ok hw f1 f2 hc
  rw [e, hx _ hp.1 hp.2]
theorem pl_500 (hw : Wf n B) (hA : Arr σ 82 n B) {r r2 c p : Nat} {q : Nat → Nat} (hr : r < n) (hr2 : r2 < n) (hne : r ≠ r2) (f1 : FRo n B r) (f2 : FRo n B r2) (hR : RND n B r r2 c p q) (v9 v12 : Int32) (K : Int32 → Int32 → Option Int32) :
    f_L_law_L500 (nI n) v9 (nI r) v12 (nI r2) 1 σ K FU 0 (nI c) 0 = K (nI p) (sI (rS q p)) := by
  have hn1 := hw.1
  have hn2 := hw.2.1
  have hp1 := hR.p1
  have hpn := hR.pn
  have NE : ¬ nI r = nI r2 := by rw [eq_nI (by omega) (by omega)]; exact hne
  have A := loopE (fun m i (_ : Unit) => f_L_law_L500 (nI n) v9 (nI r) v12 (nI r2) 1 σ K m (nI i) (nI (q i)) (sI (rS q i))) p (fun _ _ => True) (fun R => R = K (nI p) (sI (rS q p))) ?_ ?_ FU 0 () (by omega) (FU_gt (by omega)) trivial
  · have e0 : sI (rS q 0) = 0 := by
      rw [← sI_none]
      exact sI_cong (fun s _ => dB_f (fun ⟨j, hj, _⟩ => by omega))
    have A : f_L_law_L500 (nI n) v9 (nI r) v12 (nI r2) 1 σ K FU (nI 0) (nI (q 0)) (sI (rS q 0)) = _ := A
    rw [e0, hR.q0] at A
    exact A
  · intro m i _ hi _
    have hql := hR.ql i
    refine Or.inr ⟨(), ?_, trivial⟩
    show f_L_law_L500 (nI n) v9 (nI r) v12 (nI r2) 1 σ K (m + 1) (nI i) (nI (q i)) (sI (rS q i)) = f_L_law_L500 (nI n) v9 (nI r) v12 (nI r2) 1 σ K m (nI (i + 1)) (nI (q (i + 1))) (sI (rS q (i + 1)))
    rw [f_L_law_L500.eq_2]
    rw [if_neg NE, if_neg (show ¬ (1 : Int32) = 0 by decide), sI_bv _ (by omega), hR.new hi, if_pos (show bI false = 0 from rfl), lt1_eq, pl_541 hw hA hr hr2 hql f1 f2, ← hR.qs i, nI_1, sI_one (by omega), sI_or]
    congr 1
    exact sI_cong (fun s _ => by rw [rS_next])
  · intro m _ _
    show f_L_law_L500 (nI n) v9 (nI r) v12 (nI r2) 1 σ K (m + 1) (nI p) (nI (q p)) (sI (rS q p)) = _
    have hql := hR.ql p
    rw [f_L_law_L500.eq_2]
    have h1 : rS q p (q p) = true := dB_t ⟨0, by omega, by rw [hR.q0, hR.qp]⟩
    rw [if_neg NE, if_neg (show ¬ (1 : Int32) = 0 by decide), sI_bv _ (by omega), h1, if_neg (show ¬ bI true = 0 by decide)]
theorem pl_500n (v6 v9 v11 v12 v14 v15 v17 : Int32) (h : v11 = v14 ∨ v15 = 0) (K : Int32 → Int32 → Option Int32) : f_L_law_L500 v6 v9 v11 v12 v14 v15 σ K FU 0 v17 0 = K 0 0 := by
  obtain ⟨m, hm⟩ : ∃ m, FU = m + 1 := ⟨FU - 1, by unfold FU; omega⟩
  rw [hm]
  rw [f_L_law_L500.eq_2]
  by_cases e : v11 = v14
  · rw [if_pos e]
  · rw [if_neg e]
    rcases h with h | h
    · exact absurd h e
    · rw [if_pos h]
def cutB (k : Nat) (X Y : Bd) : Bd := fun r c => if c < k then X r c else Y r c
theorem pl_644 (hA : Arr σ 82 n B) (hn2 : n ≤ 5) {r r2 : Nat} (hr : r < n) (hr2 : r2 < n) (S : Nat → Bool) (hS : r = r2 → ∀ c, S c = false) (v8 v9 : Int32) (K : St → Option Int32) :
    ∃ τ, f_L_law_L644 (nI n) v8 v9 (nI r) (nI r2) (sI S) K FU 0 σ = K τ ∧ Arr τ 82 n (EX S r r2 B) ∧ ∀ m, m ≠ 82 → τ m = σ m := by
  have Z : ∃ τ : St, (Arr τ 82 n (cutB n (EX S r r2 B) B) ∧ ∀ m, m ≠ 82 → τ m = σ m) ∧ f_L_law_L644 (nI n) v8 v9 (nI r) (nI r2) (sI S) K FU 0 σ = K τ := by
    have Z2 := loopE (fun m i (τ : St) => f_L_law_L644 (nI n) v8 v9 (nI r) (nI r2) (sI S) K m (nI i) τ) n (fun e τ => Arr τ 82 n (cutB e (EX S r r2 B) B) ∧ ∀ m, m ≠ 82 → τ m = σ m) (fun R => ∃ τ : St, (Arr τ 82 n (cutB n (EX S r r2 B) B) ∧ ∀ m, m ≠ 82 → τ m = σ m) ∧ R = K τ) ?_ ?_ FU 0 σ (by omega) (FU_gt (by omega)) ⟨hA, fun m _ => rfl⟩
    · exact Z2
    · intro m i τ hi ⟨hT, hf⟩
      have b1 := ix25 hn2 hr hi
      have b2 := ix25 hn2 hr2 hi
      have D : ∀ x, cutB i (EX S r r2 B) B x i = B x i := fun x => by unfold cutB; rw [if_neg (by omega)]
      have y1 := hT r i hr hi
      have y2 := hT r2 i hr2 hi
      rw [D] at y1 y2
      have bit := sI_bv S (s := i) (by omega)
      cases hs : S i
      · have t1 := hT.set (r := r) (c := i) (v := B r i) hi
        have t2 := t1.set (r := r2) (c := i) (v := B r2 i) hi
        have z2 : wr τ 82 (n * r + i) (ce (B r i)) 82 (n * r2 + i) = ce (B r2 i) := by
          rw [wr_get]
          by_cases e : n * r2 + i = n * r + i
          · rw [if_pos ⟨rfl, e⟩, (idx_inj hi hi e).1]
          · rw [if_neg (fun h => e h.2)]; exact y2
        refine Or.inr ⟨wr (wr τ 82 (n * r + i) (ce (B r i))) 82 (n * r2 + i) (ce (B r2 i)), ?_, ?_, fun m hm => by rw [wr_fn hm, wr_fn hm]; exact hf m hm⟩
        · show f_L_law_L644 (nI n) v8 v9 (nI r) (nI r2) (sI S) K (m + 1) (nI i) τ = _
          rw [f_L_law_L644.eq_2]
          rw [if_pos (nI_lt hi (by omega)), nI_mul, nI_add, nI_mul, nI_add, nI_1, bit, hs]
          simp (disch := omega) only [ald_nI, ast_nI, y1, y2, z2, jn_eq, show (bI false = 1) = False from eq_false (by decide), if_false, if_true]
        · have e : cutB (i + 1) (EX S r r2 B) B = upB (upB (cutB i (EX S r r2 B) B) r i (B r i)) r2 i (B r2 i) := by
            funext x y
            unfold upB cutB
            by_cases hy : y = i
            · subst hy
              rw [if_pos (by omega), EX_f hs]
              by_cases h1 : x = r2
              · rw [if_pos ⟨h1, rfl⟩, h1]
              · rw [if_neg (fun h => h1 h.1)]
                by_cases h2 : x = r
                · rw [if_pos ⟨h2, rfl⟩, h2]
                · rw [if_neg (fun h => h2 h.1), if_neg (by omega)]
            · rw [if_neg (show ¬ (x = r2 ∧ y = i) from fun h => hy h.2), if_neg (show ¬ (x = r ∧ y = i) from fun h => hy h.2)]
              by_cases h3 : y < i
              · rw [if_pos (by omega), if_pos h3]
              · rw [if_neg (by omega), if_neg h3]
          rw [e]
          exact t2
      · have hne : r ≠ r2 := fun e => by have := hS e i; rw [hs] at this; cases this
        have t1 := hT.set (r := r) (c := i) (v := B r2 i) hi
        have t2 := t1.set (r := r2) (c := i) (v := B r i) hi
        refine Or.inr ⟨wr (wr τ 82 (n * r + i) (ce (B r2 i))) 82 (n * r2 + i) (ce (B r i)), ?_, ?_, fun m hm => by rw [wr_fn hm, wr_fn hm]; exact hf m hm⟩
        · show f_L_law_L644 (nI n) v8 v9 (nI r) (nI r2) (sI S) K (m + 1) (nI i) τ = _
          rw [f_L_law_L644.eq_2]
          rw [if_pos (nI_lt hi (by omega)), nI_mul, nI_add, nI_mul, nI_add, nI_1, bit, hs]
          simp (disch := omega) only [ald_nI, ast_nI, y1, y2, jn_eq, show (bI true = 1) = True from eq_true (by decide), if_true, pl_1, if_false]
        · have e : cutB (i + 1) (EX S r r2 B) B = upB (upB (cutB i (EX S r r2 B) B) r i (B r2 i)) r2 i (B r i) := by
            funext x y
            unfold upB cutB
            by_cases hy : y = i
            · subst hy
              rw [if_pos (by omega), EX_t hs]
              by_cases h1 : x = r2
              · rw [if_pos ⟨h1, rfl⟩, h1, swp_2]
              · rw [if_neg (fun h => h1 h.1)]
                by_cases h2 : x = r
                · rw [if_pos ⟨h2, rfl⟩, h2, swp_1]
                · rw [if_neg (fun h => h2 h.1), if_neg (by omega), swp_o h2 h1]
            · rw [if_neg (show ¬ (x = r2 ∧ y = i) from fun h => hy h.2), if_neg (show ¬ (x = r ∧ y = i) from fun h => hy h.2)]
              by_cases h3 : y < i
              · rw [if_pos (by omega), if_pos h3]
              · rw [if_neg (by omega), if_neg h3]
          rw [e]
          exact t2
    · intro m τ hT
      refine ⟨τ, hT, ?_⟩
      show f_L_law_L644 (nI n) v8 v9 (nI r) (nI r2) (sI S) K (m + 1) (nI n) τ = _
      rw [f_L_law_L644.eq_2]
      rw [if_neg (nI_nlt (Nat.le_refl _) (by omega))]
  obtain ⟨τ, ⟨h1, h2⟩, e⟩ := Z
  refine ⟨τ, e, fun x y hx hy => ?_, h2⟩
  have := h1 x y hx hy
  unfold cutB at this
  rwa [if_pos hy] at this
theorem lq_turn0 (h : LW σ n B B1) {r c : Nat} (hr : r < n) (hc : c < n) : f_Q_turn σ 0 (nI r) (nI r) (nI c) = some (.error 2, σ) := by
  unfold f_Q_turn
  rw [h.at0, cax_ok, needCell_in h.g0 hr hc, cax_ok, needCell_in h.g0 hr hc, cax_ok, jn_eq, if_pos rfl]
  rfl
theorem lq_turn1 (h : LW σ n B B1) {r r2 c : Nat} (hr : r < n) (hr2 : r2 < n) (hc : c < n) (hne : r ≠ r2) : f_Q_turn σ 0 (nI r) (nI r2) (nI c) = if dB (FRo n B r ∧ FRo n B r2) = true then cal (f_Grid_turnRows σ 34 (nI r) (nI r2) (nI c)) fun r_23 σ_24 => some (.ok r_23, σ_24) else some (.error 3, σ) := by
  have hn2 := h.g0.1.2.1
  unfold f_Q_turn
  rw [h.at0, cax_ok, needCell_in h.g0 hr hc, cax_ok, needCell_in h.g0 hr2 hc, cax_ok, jn_eq, if_neg (show ¬ nI r = nI r2 by rw [eq_nI (by omega) (by omega)]; exact hne)]
  show cax (f_Q_needArgument σ 1) _ = _
  rw [nar1, cax_ok, rowFull_ok h.g0 hr, rowFull_ok h.g0 hr2, cap_some, jn_eq, jn_eq, cap_some, dB_and]
  cases dB (FRo n B r)
  · rfl
  · rw [if_neg (show ¬ bI true = 0 by decide)]
    cases dB (FRo n B r2)
    · rfl
    · rw [if_neg (show ¬ bI true = 0 by decide), if_pos (show (true && true) = true from rfl)]
      show cax (f_Q_needState σ 1) _ = _
      rw [nst1, cax_ok]
theorem EX_none {S : Nat → Bool} {r r2 : Nat} (h : ∀ c, S c = false) : EX S r r2 B = B := by
  funext x y
  exact EX_f (h y)
theorem LW.up (h : LW σ n B B1) {τ : St} {X : Bd} (hX : GOK τ 34 n X) (hf : ∀ m, m < 34 ∨ 37 < m → τ m = σ m) : LW τ n X B1 := by
  have h1 : CW τ 2 (fun _ => n) (upG (Bs B B1) 0 X) := CW.up (N := fun _ => n) (j := 0) h (by decide) hX (by rw [hf 0 (by omega)]) (fun m _ _ hm => hf m (by unfold gid at hm; omega))
  rw [Bs_up] at h1
  exact h1
theorem pl_turn (h : LW σ n B B1) (hA : Arr σ 82 n B) (hS : Arr σ 83 n B1) {r r2 c : Nat} (hr : r < n) (hr2 : r2 < n) (hc : c < n) (v9 : Int32) (J : Int32 → St → Option Int32) :
    ∃ B' τ, p_U (nI n) v9 (nI r) (nI c) σ J (nI r2) = J 1 τ ∧ LW τ n B' B1 ∧ Arr τ 82 n B' ∧ Arr τ 83 n B1 := by
  have hw := h.g0.1
  have hn1 := hw.1
  have hn2 := hw.2.1
  unfold p_U
  rw [pl_439 hw hA hr hr2]
  -- the end, once the class has answered as the law wants
  have fin : ∀ (S : Nat → Bool) (σ1 : St) (k w : Int32) (f : Int32), (r = r2 → ∀ c, S c = false) → f_L_act σ 1 0 (nI r) (nI r2) (nI c) = some (w, σ1) → (w = if nI r = nI r2 then (-1002) else if f = 0 then (-1003) else k) → LW σ1 n (EX S r r2 B) B1 → (∀ m, 82 ≤ m → σ1 m = σ m) →
      ∃ B' τ, p_K (nI n) v9 (nI r) (nI c) σ J (nI r2) f k (sI S) = J 1 τ ∧ LW τ n B' B1 ∧ Arr τ 82 n B' ∧ Arr τ 83 n B1 := by
    intro S σ1 k w f hS0 ha hwv hL hf
    obtain ⟨τ, e, aT, fT⟩ := pl_644 (σ := σ1) (hA.fr (hf 82 (by omega))) hn2 hr hr2 S hS0 1 v9 (fun σ => J 1 σ)
    refine ⟨EX S r r2 B, τ, ?_, hL.lo (fun m hm => fT m (by omega)), aT, hS.fr (by rw [fT 83 (by omega), hf 83 (by omega)])⟩
    unfold p_K
    rw [ha, cal_some]
    have T : ∀ (K : Int32 → Option Int32), (jn (fun (s_144 : Int32) => jn K fun j639_145 => if w = s_144 then j639_145 1 else j639_145 0) fun j631_143 => if nI r = nI r2 then j631_143 (-1002) else if f = 0 then j631_143 (-1003) else j631_143 k) = K 1 := by
      intro K
      simp only [jn_eq]
      rw [hwv]
      by_cases e1 : nI r = nI r2
      · simp only [if_pos e1, if_true]
      · by_cases e2 : f = 0
        · simp only [if_neg e1, if_pos e2, if_true]
        · simp only [if_neg e1, if_neg e2, if_true]
    rw [T]
    exact e
  by_cases hne : r = r2
  · subst hne
    rw [pl_500n _ _ _ _ _ _ _ (Or.inl rfl)]
    have ha : f_L_act σ 1 0 (nI r) (nI r) (nI c) = some (-1002, σ) := by
      unfold f_L_act f_L_told
      rw [if_neg (by decide), lq_turn0 h hr hc]
      rfl
    have := fin (fun _ => false) σ 0 (-1002) (bI (dB (FRo n B r ∧ FRo n B r))) (fun _ _ => rfl) ha (by rw [if_pos rfl]) (by rw [EX_none (fun _ => rfl)]; exact h) (fun m _ => rfl)
    rw [sI_none] at this
    exact this
  · have hq := lq_turn1 h hr hr2 hc hne
    have NE : ¬ nI r = nI r2 := by rw [eq_nI (by omega) (by omega)]; exact hne
    cases hd : dB (FRo n B r ∧ FRo n B r2)
    · rw [hd, if_neg (by decide)] at hq
      rw [show bI false = 0 from rfl, pl_500n _ _ _ _ _ _ _ (Or.inr rfl)]
      have ha : f_L_act σ 1 0 (nI r) (nI r2) (nI c) = some (-1003, σ) := by
        unfold f_L_act f_L_told
        rw [if_neg (by decide), hq]
        rfl
      have := fin (fun _ => false) σ 0 (-1003) 0 (fun _ _ => rfl) ha (by rw [if_neg NE, if_pos rfl]) (by rw [EX_none (fun _ => rfl)]; exact h) (fun m _ => rfl)
      rw [sI_none] at this
      exact this
    · obtain ⟨f1, f2⟩ := dB_iff.mp hd
      obtain ⟨p, q, hR⟩ := rnd hw f1 f2 hc
      obtain ⟨τ, e1, g1, fr1⟩ := turn_cls h.g0 hr hr2 hne f1 f2 hR
      rw [hd, if_pos rfl, e1, cal_some] at hq
      rw [show bI true = 1 from rfl, pl_500 hw hA hr hr2 hne f1 f2 hR]
      have ha : f_L_act σ 1 0 (nI r) (nI r2) (nI c) = some (nI p, τ) := by
        unfold f_L_act f_L_told
        rw [if_neg (by decide), hq]
        rfl
      exact fin (rS q p) τ (nI p) (nI p) 1 (fun e => absurd e hne) ha (by rw [if_neg NE, if_neg (by decide)]) (h.up g1 fr1) (fun m hm => fr1 m (by omega))
end LU9
