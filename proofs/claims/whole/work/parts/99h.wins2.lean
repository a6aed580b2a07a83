/-! the table of the reference -/
def gdg (n code i : Nat) : Nat := code / (n + 1) ^ i % (n + 1)
theorem gdg_le {n code i : Nat} : gdg n code i ≤ n := by
  unfold gdg
  have := Nat.mod_lt (code / (n + 1) ^ i) (show n + 1 > 0 by omega)
  omega
theorem add_div0 {a d w : Nat} (hw : 0 < w) (h0 : a % w = 0) (hd : d < w) : (a + d) / w = a / w ∧ (a + d) % w = d := by
  have h := Nat.div_add_mod a w
  rw [h0, Nat.add_zero] at h
  rw [← h, Nat.mul_add_div hw, Nat.div_eq_of_lt hd, Nat.mul_div_cancel_left _ hw, Nat.mul_add_mod, Nat.mod_eq_of_lt hd]
  exact ⟨rfl, rfl⟩
theorem gdg_up {n code i d : Nat} (h0 : gdg n code i = 0) (hd : d ≤ n) : (code + d * (n + 1) ^ i) / (n + 1) ^ (i + 1) = code / (n + 1) ^ (i + 1) := by
  unfold gdg at h0
  rw [Nat.pow_succ, ← Nat.div_div_eq_div_mul, ← Nat.div_div_eq_div_mul, Nat.add_mul_div_right _ _ (Nat.pow_pos (by omega)), (add_div0 (by omega) h0 (by omega)).1]
theorem gdg_add {n code i d : Nat} (h0 : gdg n code i = 0) (hd : d ≤ n) (j : Nat) : gdg n (code + d * (n + 1) ^ i) j = if j = i then d else gdg n code j := by
  have hu := gdg_up h0 hd
  by_cases e : j = i
  · subst e
    rw [if_pos rfl]
    unfold gdg at *
    rw [Nat.add_mul_div_right _ _ (Nat.pow_pos (by omega)), (add_div0 (by omega) h0 (by omega)).2]
  · rw [if_neg e]
    unfold gdg at *
    by_cases hj : j < i
    · obtain ⟨b, rfl⟩ : ∃ b, i = j + 1 + b := ⟨i - j - 1, by omega⟩
      rw [show d * (n + 1) ^ (j + 1 + b) = (d * (n + 1) ^ b * (n + 1)) * (n + 1) ^ j by rw [show j + 1 + b = b + 1 + j by omega, Nat.pow_add, Nat.pow_succ, ← Nat.mul_assoc, ← Nat.mul_assoc], Nat.add_mul_div_right _ _ (Nat.pow_pos (by omega)), Nat.add_mul_mod_self_right]
    · obtain ⟨b, rfl⟩ : ∃ b, j = i + 1 + b := ⟨j - i - 1, by omega⟩
      rw [Nat.pow_add (n + 1) (i + 1) b, ← Nat.div_div_eq_div_mul, hu, Nat.div_div_eq_div_mul]
theorem gdg_lt {n code i d L : Nat} (h0 : gdg n code i = 0) (hd : d ≤ n) (hi : i < L) (hc : code < (n + 1) ^ L) : code + d * (n + 1) ^ i < (n + 1) ^ L := by
  have hu := gdg_up h0 hd
  obtain ⟨b, rfl⟩ : ∃ b, L = i + 1 + b := ⟨L - i - 1, by omega⟩
  rw [Nat.pow_add (n + 1) (i + 1) b] at hc ⊢
  have h1 := Nat.div_lt_of_lt_mul hc
  rw [← hu] at h1
  have h2 := (Nat.div_lt_iff_lt_mul (Nat.pow_pos (show 0 < n + 1 by omega))).mp h1
  rwa [Nat.mul_comm ((n + 1) ^ b)] at h2
noncomputable def BC (n : Nat) (B : Bd) (code : Nat) : Bd := fun r c => @dite Nat (∃ i : Nat, (empties n B)[i]? = some (r, c)) (Classical.propDecidable _) (fun h => gdg n code (Classical.choose h)) (fun _ => B r c)
def zc (n : Nat) (X : Bd) : Nat := n * n - cnt X
section TAB
variable {σ : St} {n code : Nat} {B : Bd}
theorem es_inj {i j : Nat} {p : Nat × Nat} (h1 : (empties n B)[i]? = some p) (h2 : (empties n B)[j]? = some p) : i = j := by
  have hi : i < (empties n B).length := by
    obtain ⟨h, _⟩ := List.getElem?_eq_some_iff.mp h1
    exact h
  exact (List.getElem?_inj hi (nodup_empties n B)).mp (by rw [h1, h2])
theorem BC_at {i r c : Nat} (h : (empties n B)[i]? = some (r, c)) : BC n B code r c = gdg n code i := by
  have hx : ∃ i : Nat, (empties n B)[i]? = some (r, c) := ⟨i, h⟩
  unfold BC
  rw [dif_pos hx, es_inj (Classical.choose_spec hx) h]
theorem BC_off {r c : Nat} (h : ¬ (r, c) ∈ empties n B) : BC n B code r c = B r c := by
  unfold BC
  rw [dif_neg (fun ⟨i, hi⟩ => h (List.mem_iff_getElem?.mpr ⟨i, hi⟩))]
theorem es_at {r c : Nat} (h : (r, c) ∈ empties n B) : ∃ i, i < (empties n B).length ∧ (empties n B)[i]? = some (r, c) := by
  obtain ⟨i, hi⟩ := List.mem_iff_getElem?.mp h
  obtain ⟨h2, _⟩ := List.getElem?_eq_some_iff.mp hi
  exact ⟨i, h2, hi⟩
theorem BC_0 : BC n B 0 = B := by
  funext r c
  by_cases h : (r, c) ∈ empties n B
  · obtain ⟨i, _, hi⟩ := es_at h
    rw [BC_at hi, (mem_empties.mp h).2.2]
    unfold gdg
    rw [Nat.zero_div, Nat.zero_mod]
  · exact BC_off h
theorem BC_out (hw : Wf n B) {r c : Nat} (h : n ≤ r ∨ n ≤ c) : BC n B code r c = 0 := by
  rw [BC_off (fun hm => by have := mem_empties.mp hm; omega)]
  exact hw.out h
theorem BC_zero {r c : Nat} (hr : r < n) (hc : c < n) (h : BC n B code r c = 0) : ∃ i, i < (empties n B).length ∧ (empties n B)[i]? = some (r, c) ∧ gdg n code i = 0 := by
  by_cases hm : (r, c) ∈ empties n B
  · obtain ⟨i, a, b⟩ := es_at hm
    exact ⟨i, a, b, by rw [← BC_at b]; exact h⟩
  · rw [BC_off hm] at h
    exact absurd (mem_empties.mpr ⟨hr, hc, h⟩) hm
theorem BC_bd (hw : Wf n B) (r c : Nat) : BC n B code r c ≤ 5 := by
  have hn := hw.2.1
  by_cases h : (r, c) ∈ empties n B
  · obtain ⟨i, _, hi⟩ := es_at h
    rw [BC_at hi]
    have := gdg_le (n := n) (code := code) (i := i)
    omega
  · rw [BC_off h]; exact hw.bd r c
theorem BC_up {i r c d : Nat} (h : (empties n B)[i]? = some (r, c)) (h0 : gdg n code i = 0) (hd : d ≤ n) : BC n B (code + d * (n + 1) ^ i) = upB (BC n B code) r c d := by
  funext r' c'
  by_cases e : r' = r ∧ c' = c
  · obtain ⟨rfl, rfl⟩ := e
    rw [upB_at, BC_at h, gdg_add h0 hd, if_pos rfl]
  · rw [upB_ne e]
    by_cases hm : (r', c') ∈ empties n B
    · obtain ⟨j, _, hj⟩ := es_at hm
      rw [BC_at hj, BC_at hj, gdg_add h0 hd, if_neg]
      intro e2
      subst e2
      rw [h] at hj
      have := Option.some.inj hj
      exact e ⟨(congrArg Prod.fst this).symm, (congrArg Prod.snd this).symm⟩
    · rw [BC_off hm, BC_off hm]
theorem cnt_nn0 {X : Bd} (h1 : 2 ≤ n) (h2 : n ≤ 5) (ho : ∀ r c, n ≤ r ∨ n ≤ c → X r c = 0) : cnt X = (List.range (n * n)).countP (fun i => decide (X (i / n) (i % n) ≠ 0)) := by
  match n, h1, h2 with
  | 2, _, _ =>
    have := ho
    simp (disch := omega) [cnt, List.range, List.range.loop, List.countP_cons, ho]
  | 3, _, _ => simp (disch := omega) [cnt, List.range, List.range.loop, List.countP_cons, ho]
  | 4, _, _ => simp (disch := omega) [cnt, List.range, List.range.loop, List.countP_cons, ho]
  | 5, _, _ => rfl
theorem cnt_opt0 {X : Bd} (h1 : 2 ≤ n) (h2 : n ≤ 5) (ho : ∀ r c, n ≤ r ∨ n ≤ c → X r c = 0) {r c : Nat} (hr : r < n) (hc : c < n) (h0 : X r c = 0) : cnt X < n * n := by
  rw [cnt_nn0 h1 h2 ho]
  have hin : n * r + c < n * n := by
    have h3 : n * (r + 1) ≤ n * n := Nat.mul_le_mul_left _ hr
    rw [Nat.mul_succ] at h3; omega
  have := countP_lt (p := fun i => decide (X (i / n) (i % n) ≠ 0)) (q := fun _ => true) (n := n * n) (fun _ _ => rfl) hin (by show decide (X ((n * r + c) / n) ((n * r + c) % n) ≠ 0) = false; rw [(idx2 hc).1, (idx2 hc).2, h0]; rfl) rfl
  refine Nat.lt_of_lt_of_le this (Nat.le_trans List.countP_le_length (by simp))
theorem GW_bc (hw : Wf n B) : GW n (zc n (BC n B code)) (BC n B code) ↔ ∃ i, i < n * n * n ∧ wP n (zc n (BC n B code)) (BC n B code) (i / n / n) (i / n % n) (i % n) := by
  refine GW_iff (fun h r c s hr hc => ?_) (by have := hw.1; omega)
  apply Bool.eq_false_iff.mpr
  intro ho
  have := cnt_opt0 hw.1 hw.2.1 (fun r c => BC_out (code := code) hw) hr hc (opt_iff.mp ho).1
  unfold zc at h
  omega
theorem layState_ok (h1 : 2 ≤ n) (h2 : n ≤ 5) (hs : σ 82 13 = nI n) (he : EM σ n (empties n B)) (hL : (empties n B).length ≤ 6) (hcode : code < 46656) : ∃ τ, f_R_layState σ (nI code) = some ((), τ) ∧ (∀ i, i < (empties n B).length → τ 102 i = nI (gdg n code i)) ∧ (∀ i p, (empties n B)[i]? = some p → τ 91 (n * p.1 + p.2) = ce (gdg n code i)) ∧ (∀ x, (∀ p, p ∈ empties n B → x ≠ n * p.1 + p.2) → τ 91 x = σ 91 x) ∧ ∀ m s, m ≠ 91 → m ≠ 102 → τ m s = σ m s := by
  unfold f_R_layState
  have A := loopE (fun m i (τ : St) => f_R_layState_L4 m (nI (code / (n + 1) ^ i)) (nI i) τ) (empties n B).length
    (fun i τ => (∀ k, k < i → τ 102 k = nI (gdg n code k)) ∧ (∀ k p, k < i → (empties n B)[k]? = some p → τ 91 (n * p.1 + p.2) = ce (gdg n code k)) ∧ (∀ x, (∀ p, p ∈ empties n B → x ≠ n * p.1 + p.2) → τ 91 x = σ 91 x) ∧ ∀ m s, m ≠ 91 → m ≠ 102 → τ m s = σ m s)
    (fun R => ∃ τ, R = some ((), τ) ∧ (∀ i, i < (empties n B).length → τ 102 i = nI (gdg n code i)) ∧ (∀ i p, (empties n B)[i]? = some p → τ 91 (n * p.1 + p.2) = ce (gdg n code i)) ∧ (∀ x, (∀ p, p ∈ empties n B → x ≠ n * p.1 + p.2) → τ 91 x = σ 91 x) ∧ ∀ m s, m ≠ 91 → m ≠ 102 → τ m s = σ m s) ?_ ?_ FU 0 σ (by omega) (FU_gt (by omega)) ⟨fun k hk => by omega, fun k p hk => by omega, fun x _ => rfl, fun m s _ _ => rfl⟩
  · have e : code / (n + 1) ^ 0 = code := by rw [Nat.pow_zero, Nat.div_one]
    have A2 : ∃ τ, f_R_layState_L4 FU (nI (code / (n + 1) ^ 0)) (nI 0) σ = some ((), τ) ∧ _ := A
    rw [e] at A2
    exact A2
  · rintro m i τ hi ⟨p1, p2, p3, p4⟩
    obtain ⟨⟨r, c⟩, hp⟩ : ∃ p, (empties n B)[i]? = some p := ⟨_, List.getElem?_eq_getElem hi⟩
    have hm : (r, c) ∈ empties n B := List.mem_iff_getElem?.mpr ⟨i, hp⟩
    obtain ⟨hr, hc, h0⟩ := mem_empties.mp hm
    have hb := ix25 h2 hr hc
    have s1 : τ 82 13 = nI n := by rw [p4 82 13 (by omega) (by omega)]; exact hs
    have s2 : τ 82 15 = nI (empties n B).length := by rw [p4 82 15 (by omega) (by omega)]; exact he.1
    have s3 : τ 92 i = nI (n * r + c) := by rw [p4 92 i (by omega) (by omega)]; exact he.2 i _ hp
    have hd : gdg n code i ≤ n := gdg_le
    have hdiv : code / (n + 1) ^ i ≤ code := Nat.div_le_self _ _
    refine Or.inr ⟨wr (wr τ 102 i (nI (gdg n code i))) 91 (n * r + c) (ce (gdg n code i)), ?_, fun k hk => ?_, fun k p hk hkp => ?_, fun x hx => ?_, fun m' s a b => ?_⟩
    · show f_R_layState_L4 (m + 1) (nI (code / (n + 1) ^ i)) (nI i) τ = _
      rw [f_R_layState_L4.eq_2]
      rw [s2, if_pos (nI_lt hi (by omega)), s1, nI_1, rmi_nI (by omega) (by omega) (by omega), ast_nI (by omega) (by decide), wr_fn (by omega), s1, nI_1, dvi_nI (by omega) (by omega) (by omega), ald_nI (by omega) (by decide), wr_fn (by omega), s3, ald_nI (by omega) (by decide), wr_at, ast_nI (by omega) (by decide), nI_1, Nat.div_div_eq_div_mul, ← Nat.pow_succ]
      rfl
    · rw [wr_fn (by omega), wr_get]
      by_cases e : k = i
      · rw [if_pos ⟨rfl, e⟩, e]
      · rw [if_neg (by omega)]; exact p1 k (by omega)
    · rw [wr_get]
      by_cases e : k = i
      · subst e
        rw [hp] at hkp
        have := Option.some.inj hkp
        rw [← this, if_pos ⟨rfl, rfl⟩]
      · rw [if_neg, wr_fn (by omega)]
        · exact p2 k p (by omega) hkp
        · rintro ⟨_, e2⟩
          have hpm : (p.1, p.2) ∈ empties n B := List.mem_iff_getElem?.mpr ⟨k, hkp⟩
          obtain ⟨a, b⟩ := idx_inj (mem_empties.mp hpm).2.1 hc e2
          have : p = (r, c) := by rw [← a, ← b]
          rw [this] at hkp
          exact e (es_inj hkp hp)
    · rw [wr_get, if_neg (fun h => hx (r, c) hm h.2), wr_fn (by omega)]
      exact p3 x hx
    · rw [wr_fn a, wr_fn b]; exact p4 m' s a b
  · rintro m τ ⟨p1, p2, p3, p4⟩
    refine ⟨τ, ?_, p1, fun i p hp => ?_, p3, p4⟩
    · show f_R_layState_L4 (m + 1) (nI (code / (n + 1) ^ (empties n B).length)) (nI (empties n B).length) τ = _
      rw [f_R_layState_L4.eq_2]
      rw [p4 82 15 (by omega) (by omega), he.1, if_neg (nI_nlt (Nat.le_refl _) (by omega))]
    · obtain ⟨hi, _⟩ := List.getElem?_eq_some_iff.mp hp
      exact p2 i p hi hp
theorem laid_WK {τ : St} {c' : Nat} (hw : Wf n B) (hW : WK σ n (BC n B c')) (h1 : τ 82 13 = σ 82 13) (h2 : ∀ i p, (empties n B)[i]? = some p → τ 91 (n * p.1 + p.2) = ce (gdg n code i)) (h3 : ∀ x, (∀ p, p ∈ empties n B → x ≠ n * p.1 + p.2) → τ 91 x = σ 91 x) : WK τ n (BC n B code) := by
  refine ⟨⟨hw.1, hw.2.1, BC_bd hw⟩, by rw [h1]; exact hW.side, fun r c hr hc => ?_⟩
  by_cases hm : (r, c) ∈ empties n B
  · obtain ⟨i, _, hi⟩ := es_at hm
    rw [BC_at hi]
    exact h2 i _ hi
  · rw [BC_off hm, h3 (n * r + c) (fun p hp e => ?_), hW.cel hr hc, BC_off hm]
    have hpm : (p.1, p.2) ∈ empties n B := hp
    obtain ⟨a, b⟩ := idx_inj hc (mem_empties.mp hpm).2.1 e
    rw [a, b] at hm
    exact hm hpm
theorem freeAt_ok {X : Bd} (hW : WK σ n X) (ho : ∀ r c, n ≤ r ∨ n ≤ c → X r c = 0) (he : EM σ n (empties n B)) {i r c : Nat} (hL : i < 25) (hi : (empties n B)[i]? = some (r, c)) (h0 : X r c = 0) : f_R_freeAt σ (nI i) = some (sI (opt n X r c)) := by
  have hn := hW.n2
  have hs := hW.side
  have hm : (r, c) ∈ empties n B := List.mem_iff_getElem?.mpr ⟨i, hi⟩
  obtain ⟨hr, hc, _⟩ := mem_empties.mp hm
  have hb := ix25 hn.2 hr hc
  have e92 : σ 92 i = nI (n * r + c) := he.2 i _ hi
  unfold f_R_freeAt
  rw [hs, lt1_eq, ald_nI (by omega) (by decide), e92, dvi_nI (by omega) (by omega) (by omega), ald_nI (by omega) (by decide), e92, rmi_nI (by omega) (by omega) (by omega), (idx2 hc).1, (idx2 hc).2, sI_all hn.2]
  refine loopE (fun m j (x : Nat → Bool) => f_R_freeAt_L37 (nI r) (nI c) σ (fun v => some v) m (sI x) (nI j)) n (fun j x => ∀ s, s < 5 → x s = (decide (s < n) && dB (∀ k, k < j → X r k ≠ s + 1 ∧ X k c ≠ s + 1))) (fun R => R = some (sI (opt n X r c))) ?_ ?_ FU 0 (fun t => decide (t < n)) (by omega) (FU_gt (by omega)) (fun s hs => by rw [dB_t (fun k hk => by omega), Bool.and_true])
  · intro m j x hj hx
    have v1 := hW.bd r j
    have v2 := hW.bd j c
    have c1 := hW.cel hr hj
    have c2 := hW.cel hj hc
    have b1 := ix25 hn.2 hr hj
    have b2 := ix25 hn.2 hj hc
    refine Or.inr ⟨fun s => x s && !decide (X r j = s + 1) && !decide (X j c = s + 1), ?_, fun s hs => ?_⟩
    · show f_R_freeAt_L37 (nI r) (nI c) σ _ (m + 1) (sI x) (nI j) = f_R_freeAt_L37 (nI r) (nI c) σ _ m (sI fun s => x s && !decide (X r j = s + 1) && !decide (X j c = s + 1)) (nI (j + 1))
      rw [f_R_freeAt_L37.eq_2]
      rw [hs, if_pos (nI_lt hj (by omega)), nI_mul, nI_add, nI_mul, nI_add, ald_nI (by omega) (by decide), ald_nI (by omega) (by decide), c1, c2, nI_1]
      simp only [jn_eq, lt1_eq]
      have key : ∀ u v : Nat, u ≤ 5 → v ≤ 5 → (if ce u = -1 then if ce v = -1 then sI x &&& sI x &&& (sI x &&& sI x) else sI x &&& sI x &&& (((1 : Int32) <<< (ce v &&& 31)) ^^^ (-1)) else if ce v = -1 then sI x &&& (((1 : Int32) <<< (ce u &&& 31)) ^^^ (-1)) &&& (sI x &&& (((1 : Int32) <<< (ce u &&& 31)) ^^^ (-1))) else sI x &&& (((1 : Int32) <<< (ce u &&& 31)) ^^^ (-1)) &&& (((1 : Int32) <<< (ce v &&& 31)) ^^^ (-1))) = sI (fun s => x s && !decide (u = s + 1) && !decide (v = s + 1)) := by
        intro u v hu hv
        rcases u with _ | u
        · rw [if_pos (by rfl)]
          rcases v with _ | v
          · rw [if_pos (by rfl), sI_and, sI_and]
            apply sI_cong
            intro s _
            cases x s <;> simp
          · rw [if_neg (by rw [ce_s]; exact nm1 (by omega)), ce_s, sI_one (by omega), sI_and, sI_andn]
            apply sI_cong
            intro s _
            cases x s <;> simp [eq_comm]
        · rw [if_neg (by rw [ce_s]; exact nm1 (by omega)), ce_s, sI_one (by omega)]
          rcases v with _ | v
          · rw [if_pos (by rfl), sI_andn, sI_and]
            apply sI_cong
            intro s _
            cases x s <;> simp [eq_comm]
          · rw [if_neg (by rw [ce_s]; exact nm1 (by omega)), ce_s, sI_one (by omega), sI_andn, sI_andn]
            apply sI_cong
            intro s _
            cases x s <;> simp [eq_comm]
      rw [← key _ _ v1 v2]
      by_cases a : ce (X r j) = -1
      · rw [if_pos a, if_pos a]
        by_cases b : ce (X j c) = -1
        · rw [if_pos b, if_pos b]
        · rw [if_neg b, if_neg b]
      · rw [if_neg a, if_neg a]
        by_cases b : ce (X j c) = -1
        · rw [if_pos b, if_pos b]
        · rw [if_neg b, if_neg b]
    · show (x s && !decide (X r j = s + 1) && !decide (X j c = s + 1)) = _
      rw [hx s hs]
      cases decide (s < n)
      · rfl
      · rw [Bool.true_and, Bool.true_and]
        apply b_dB
        rw [Bool.and_eq_true, Bool.and_eq_true, dB_iff, Bool.not_eq_true', Bool.not_eq_true', decide_eq_false_iff_not, decide_eq_false_iff_not]
        constructor
        · rintro ⟨⟨a, b⟩, d⟩ k hk
          by_cases e : k = j
          · subst e; exact ⟨b, d⟩
          · exact a k (by omega)
        · intro h
          exact ⟨⟨fun k hk => h k (by omega), (h j (by omega)).1⟩, (h j (by omega)).2⟩
  · intro m x hx
    show f_R_freeAt_L37 (nI r) (nI c) σ _ (m + 1) (sI x) (nI n) = _
    rw [f_R_freeAt_L37.eq_2]
    rw [hs, if_neg (nI_nlt (Nat.le_refl _) (by omega))]
    congr 1
    apply sI_cong
    intro s hs
    rw [hx s hs]
    apply Eq.symm
    rw [Bool.eq_iff_iff, opt_iff, Bool.and_eq_true, dB_iff, decide_eq_true_iff]
    constructor
    · rintro ⟨_, a, b, d⟩
      exact ⟨a, fun k hk => ⟨b k (by omega), d k (by omega)⟩⟩
    · rintro ⟨a, b⟩
      refine ⟨h0, a, fun k hk e => ?_, fun k hk e => ?_⟩
      · by_cases hkn : k < n
        · exact (b k hkn).1 e
        · rw [ho r k (by omega)] at e; omega
      · by_cases hkn : k < n
        · exact (b k hkn).2 e
        · rw [ho k c (by omega)] at e; omega
end TAB
