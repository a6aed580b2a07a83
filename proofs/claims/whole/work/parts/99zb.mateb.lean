/-! mates, the reference's search -/
noncomputable def restM (n : Nat) (L : List Nat) (e c : Nat) (C : Bd) (M : List Nat) : List Bd := (M.filter (fun i => dB (fitM n C (lp n i) c))).flatMap (fun i => EN2 n (lp n) L e (c + 1) (putM n C (lp n i) c))
def KTm : Nat → Nat
  | 0 => 1
  | e + 1 => 121 * (KTm e + 1)
/-- what the search does from the entry of the level c on -/
def SrT (n : Nat) (L : List Nat) (K : Int32 → St → Option (Int32 × St)) (e c : Nat) : Prop := ∀ (σ : St) (ch : Nat → Nat) (P : List Bd), SMr σ n L c ch → HT (lp n) n ch c → ARm σ n P → (c < n → σ 98 c = -1) → (P ++ EN2 n (lp n) L e c (bdT (lp n) n ch c)).length < 2 ^ 31 →
    ∃ cst σ', cst ≤ KTm e ∧ (∀ m, f_R_matesOf_L24 (nI n) K (m + cst) (nI P.length) (nI c) σ = f_R_matesOf_L24 (nI n) K m (nI (P ++ EN2 n (lp n) L e c (bdT (lp n) n ch c)).length) (nI c + -1) σ') ∧ ARm σ' n (P ++ EN2 n (lp n) L e c (bdT (lp n) n ch c)) ∧ (∀ i, i < c → σ' 98 i = σ 98 i) ∧ ∀ o, o ≠ 91 → o ≠ 93 → o ≠ 98 → σ' o = σ o
section RB
variable {n : Nat} {L : List Nat}
theorem restM_nil {e c : Nat} {C : Bd} {M : List Nat} (h : ∀ i, i ∈ M → ¬ fitM n C (lp n i) c) : restM n L e c C M = [] := by
  unfold restM
  rw [List.filter_eq_nil_iff.mpr (fun i hi h2 => h i hi (dB_iff.mp h2))]
  rfl
theorem restM_cons {e c : Nat} {C : Bd} {i : Nat} {M : List Nat} (h : fitM n C (lp n i) c) : restM n L e c C (i :: M) = EN2 n (lp n) L e (c + 1) (putM n C (lp n i) c) ++ restM n L e c C M := by
  unfold restM
  rw [List.filter_cons_of_pos (p := fun i => dB (fitM n C (lp n i) c)) (dB_iff.mpr h), List.flatMap_cons]
theorem restM_skip {e c : Nat} {C : Bd} : ∀ (k : Nat) (i0 : Nat), (∀ y, i0 ≤ y → y < i0 + k → ¬ okAt n L C c y) → restM n L e c C (L.drop i0) = restM n L e c C (L.drop (i0 + k)) := by
  intro k
  induction k with
  | zero => intro i0 _; rfl
  | succ k ih =>
    intro i0 h
    by_cases hi : i0 < L.length
    · have hno : ¬ fitM n C (lp n L[i0]) c := fun hf => h i0 (Nat.le_refl _) (by omega) ⟨L[i0], List.getElem?_eq_getElem hi, hf⟩
      have e1 : restM n L e c C (L.drop i0) = restM n L e c C (L.drop (i0 + 1)) := by
        rw [List.drop_eq_getElem_cons hi]
        unfold restM
        rw [List.filter_cons_of_neg (p := fun i => dB (fitM n C (lp n i) c)) (fun h2 => hno (dB_iff.mp h2))]
      rw [e1, ih (i0 + 1) (fun y h1 h2 => h y (by omega) (by omega)), show i0 + 1 + k = i0 + (k + 1) by omega]
    · rw [List.drop_eq_nil_of_le (by omega), List.drop_eq_nil_of_le (by omega)]
/-- the level c from the place i0 on -/
theorem mate_row (h2 : n ≤ 5) (hn : 2 ≤ n) (hL : ∀ i, i ∈ L → i < facN n) (hLl : L.length ≤ 120) (K : Int32 → St → Option (Int32 × St)) {e c : Nat} (hc : c < n) (H : SrT n L K e (c + 1)) : ∀ j i0, i0 + j = L.length → ∀ (σ : St) (ch : Nat → Nat) (P : List Bd), SMr σ n L c ch → HT (lp n) n ch c → ARm σ n P → σ 98 c + 1 = nI i0 → (P ++ restM n L e c (bdT (lp n) n ch c) (L.drop i0)).length < 2 ^ 31 →
    ∃ cst σ', cst ≤ (j + 1) * (KTm e + 1) ∧ (∀ m, f_R_matesOf_L24 (nI n) K (m + cst) (nI P.length) (nI c) σ = f_R_matesOf_L24 (nI n) K m (nI (P ++ restM n L e c (bdT (lp n) n ch c) (L.drop i0)).length) (nI c + -1) σ') ∧ ARm σ' n (P ++ restM n L e c (bdT (lp n) n ch c) (L.drop i0)) ∧ (∀ i, i < c → σ' 98 i = σ 98 i) ∧ ∀ o, o ≠ 91 → o ≠ 93 → o ≠ 98 → σ' o = σ o := by
  intro j
  induction j using Nat.strongRecOn with
  | _ j ih =>
  intro i0 hj σ ch P sm hT ar h98 hlen
  obtain ⟨la, l97, h22, rc⟩ := sm
  -- one step of the search
  have step : ∀ x, i0 ≤ x → x ≤ L.length → (∀ (v3 : Int32) (K' : Int32 → Option (Int32 × St)), f_R_matesOf_L69 (nI n) v3 (nI c) σ K' FU (nI i0) = K' (nI x)) → ∀ (m : Nat) (v3 : Int32), f_R_matesOf_L24 (nI n) K (m + 1) v3 (nI c) σ = if x < L.length then f_R_matesOf_L24 (nI n) K m v3 (nI (c + 1)) (if c + 1 < n then wr (wr σ 98 c (nI x)) 98 (c + 1) (-1) else wr σ 98 c (nI x)) else f_R_matesOf_L24 (nI n) K m v3 (nI c + -1) (wr σ 98 c (nI x)) := by
    intro x hx1 hx2 h69 m v3
    rw [f_R_matesOf_L24.eq_2, if_neg (nI_pos (by omega)), if_neg (by rw [eq_nI (by omega) (by omega)]; omega), ald_nI (by omega) (by decide), h98, h69, ast_nI (by omega) (by decide)]
    simp only [jn_eq]
    rw [wr_fn (by omega), h22]
    by_cases hx : x < L.length
    · rw [if_pos (nI_lt hx (by omega)), if_pos hx, nI_1]
      by_cases hc1 : c + 1 < n
      · rw [if_pos (nI_lt hc1 (by omega)), if_pos hc1, ast_nI (by omega) (by decide)]
      · rw [if_neg (nI_nlt (by omega) (by omega)), if_neg hc1]
    · rw [if_neg (nI_nlt (by omega) (by omega)), if_neg hx]
  obtain ⟨x, x1, x2, _, x4, x5⟩ := take69 h2 la l97 hL hLl hn h22 hc rc 0 (fun _ => none) (i0 := i0) (by omega)
  have h69 : ∀ (v3 : Int32) (K' : Int32 → Option (Int32 × St)), f_R_matesOf_L69 (nI n) v3 (nI c) σ K' FU (nI i0) = K' (nI x) := by
    intro v3 K'
    obtain ⟨y, y1, y2, y3, y4, y5⟩ := take69 h2 la l97 hL hLl hn h22 hc rc v3 K' (i0 := i0) (by omega)
    rw [y3]
    rcases Nat.lt_trichotomy x y with h | h | h
    · exact absurd (x5 (by omega)) (y4 x x1 h)
    · rw [h]
    · exact absurd (y5 (by omega)) (x4 y y1 h)
  have step := step x x1 x2 h69
  have hskip : restM n L e c (bdT (lp n) n ch c) (L.drop i0) = restM n L e c (bdT (lp n) n ch c) (L.drop x) := by
    have := restM_skip (n := n) (L := L) (e := e) (c := c) (C := bdT (lp n) n ch c) (x - i0) i0 (fun y h1 h2 => x4 y h1 (by omega))
    rw [this, show i0 + (x - i0) = x by omega]
  rw [hskip] at hlen ⊢
  by_cases hx : x < L.length
  · obtain ⟨m0, hm0, hfit⟩ := x5 hx
    have hcons : restM n L e c (bdT (lp n) n ch c) (L.drop x) = EN2 n (lp n) L e (c + 1) (putM n (bdT (lp n) n ch c) (lp n m0) c) ++ restM n L e c (bdT (lp n) n ch c) (L.drop (x + 1)) := by
      have em : L[x] = m0 := (List.getElem?_eq_some_iff.mp hm0).2
      rw [List.drop_eq_getElem_cons hx, em]
      exact restM_cons hfit
    rw [hcons] at hlen ⊢
    rw [← List.append_assoc] at hlen ⊢
    -- the new choice
    generalize hch : (fun i => if i = c then m0 else ch i) = ch'
    have c1 : ∀ i, i < c → ch' i = ch i := fun i hi => by rw [← hch]; show (if i = c then m0 else ch i) = _; rw [if_neg (by omega)]
    have c2 : ch' c = m0 := by rw [← hch]; show (if c = c then m0 else ch c) = _; rw [if_pos rfl]
    have cb : ∀ d, d ≤ c → bdT (lp n) n ch' d = bdT (lp n) n ch d := fun d hd => bdT_congr d (fun i hi => c1 i (by omega))
    have eC : bdT (lp n) n ch' (c + 1) = putM n (bdT (lp n) n ch c) (lp n m0) c := by
      show putM n (bdT (lp n) n ch' c) (lp n (ch' c)) c = _
      rw [cb c (Nat.le_refl _), c2]
    rw [← eC] at hlen ⊢
    generalize hσ1 : (if c + 1 < n then wr (wr σ 98 c (nI x)) 98 (c + 1) (-1) else wr σ 98 c (nI x)) = σ1
    have f1 : ∀ o, o ≠ 98 → σ1 o = σ o := fun o ho => by
      rw [← hσ1]
      split
      · rw [wr_fn ho, wr_fn ho]
      · rw [wr_fn ho]
    have f2 : ∀ i, i < c → σ1 98 i = σ 98 i := fun i hi => by
      rw [← hσ1]
      split
      · rw [wr_get, if_neg (by omega), wr_get, if_neg (by omega)]
      · rw [wr_get, if_neg (by omega)]
    have f3 : σ1 98 c = nI x := by
      rw [← hσ1]
      split
      · rw [wr_get, if_neg (by omega), wr_at]
      · rw [wr_at]
    have f4 : c + 1 < n → σ1 98 (c + 1) = -1 := fun h => by
      rw [← hσ1, if_pos h, wr_at]
    have sm1 : SMr σ1 n L (c + 1) ch' := by
      have s0 : SMr σ1 n L c ch := SMr.fr ⟨la, l97, h22, rc⟩ (fun o _ _ ho => f1 o ho) f2
      refine ⟨s0.1, s0.2.1, s0.2.2.1, fun i hi => ?_⟩
      by_cases e1 : i = c
      · rw [e1, c2]; exact ⟨x, f3, hm0⟩
      · rw [c1 i (by omega)]; exact s0.2.2.2 i (by omega)
    have hT1 : HT (lp n) n ch' (c + 1) := by
      intro s hs
      rw [cb s (by omega)]
      by_cases e1 : s = c
      · rw [e1, c2]; exact hfit
      · rw [c1 s (by omega)]; exact hT s (by omega)
    have ar1 : ARm σ1 n P := ar.fr (fun s => by rw [f1 93 (by omega)])
    have l1 : (P ++ EN2 n (lp n) L e (c + 1) (bdT (lp n) n ch' (c + 1))).length < 2 ^ 31 := by
      rw [List.length_append] at hlen
      omega
    obtain ⟨cst1, σ2, k1, g1, ar2, g2, g3⟩ := H σ1 ch' P sm1 hT1 ar1 f4 l1
    have sm2 : SMr σ2 n L c ch := by
      refine SMr.fr ⟨la, l97, h22, rc⟩ (fun o a b d => ?_) (fun i hi => ?_)
      · rw [g3 o a b d, f1 o d]
      · rw [g2 i (by omega), f2 i hi]
    have p98 : σ2 98 c + 1 = nI (x + 1) := by rw [g2 c (by omega), f3, nI_1]
    obtain ⟨cst2, σ3, k2, q1, ar3, q2, q3⟩ := ih (L.length - (x + 1)) (by omega) (x + 1) (by omega) σ2 ch (P ++ EN2 n (lp n) L e (c + 1) (bdT (lp n) n ch' (c + 1))) sm2 hT ar2 p98 hlen
    refine ⟨cst2 + cst1 + 1, σ3, ?_, fun m => ?_, ar3, fun i hi => ?_, fun o a b d => ?_⟩
    · have : (L.length - (x + 1) + 1) * (KTm e + 1) + (KTm e + 1) ≤ (j + 1) * (KTm e + 1) := by
        rw [← Nat.succ_mul]
        exact Nat.mul_le_mul_right _ (by omega)
      omega
    · rw [show m + (cst2 + cst1 + 1) = (m + cst2 + cst1) + 1 by omega, step, if_pos hx, hσ1, g1, show nI (c + 1) + -1 = nI c from (Int32.sub_eq_add_neg ..).symm.trans (nI_pred c), q1]
    · rw [q2 i hi, g2 i (by omega), f2 i hi]
    · rw [q3 o a b d, g3 o a b d, f1 o d]
  · have ex : x = L.length := by omega
    have hnil : restM n L e c (bdT (lp n) n ch c) (L.drop x) = [] := by
      rw [List.drop_eq_nil_of_le (by omega)]
      exact restM_nil (fun i hi => by cases hi)
    rw [hnil, List.append_nil]
    refine ⟨1, wr σ 98 c (nI x), ?_, fun m => ?_, ar.fr (fun s => by rw [wr_fn (by omega)]), fun i hi => by rw [wr_get, if_neg (by omega)], fun o _ _ ho => wr_fn ho⟩
    · have : 1 * (KTm e + 1) ≤ (j + 1) * (KTm e + 1) := Nat.mul_le_mul_right _ (by omega)
      omega
    · rw [step, if_neg hx]
theorem mate_all (h2 : n ≤ 5) (hn : 2 ≤ n) (hL : ∀ i, i ∈ L → i < facN n) (hLl : L.length ≤ 120) (K : Int32 → St → Option (Int32 × St)) : ∀ e c, c + e = n → SrT n L K e c := by
  intro e
  induction e with
  | zero =>
    intro c hc σ ch P sm hT ar h98 hlen
    have hc : c = n := by omega
    subst hc
    have hlen : (P ++ [bdT (lp c) c ch c]).length < 2 ^ 31 := hlen
    obtain ⟨τ, a1, a2, a3⟩ := mate_one h2 hn hL hLl sm hT ar (by rw [List.length_append] at hlen; omega) K
    exact ⟨1, τ, Nat.le_refl _, a1, a2, fun i _ => by rw [a3 98 (by omega) (by omega)], fun o a b _ => a3 o a b⟩
  | succ e ih =>
    intro c hc σ ch P sm hT ar h98 hlen
    have hcn : c < n := by omega
    have eE : EN2 n (lp n) L (e + 1) c (bdT (lp n) n ch c) = restM n L e c (bdT (lp n) n ch c) (L.drop 0) := rfl
    rw [eE] at hlen ⊢
    obtain ⟨cst, σ', k, a1, a2, a3, a4⟩ := mate_row h2 hn hL hLl K hcn (ih (c + 1) (by omega)) L.length 0 (by omega) σ ch P sm hT ar (by rw [h98 hcn]; rfl) hlen
    refine ⟨cst, σ', Nat.le_trans k ?_, a1, a2, a3, a4⟩
    show (L.length + 1) * (KTm e + 1) ≤ 121 * (KTm e + 1)
    exact Nat.mul_le_mul_right _ (by omega)
end RB
