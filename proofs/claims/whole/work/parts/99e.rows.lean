/-! fillsAnew: row by row -/
theorem bt_sI (p : Nat → Bool) {i : Nat} (hi : i < 32) : bt (sI p) i = (decide (i < 5) && p i) := by
  have e : sI p = nI ((p 0).toNat + 2 * (p 1).toNat + 4 * (p 2).toNat + 8 * (p 3).toNat + 16 * (p 4).toNat) := rfl
  rw [e, bt_nI hi]
  have key : ∀ (a b c d f : Bool) (i : Nat), i < 32 → (a.toNat + 2 * b.toNat + 4 * c.toNat + 8 * d.toNat + 16 * f.toNat).testBit i = (decide (i < 5) && (match i with | 0 => a | 1 => b | 2 => c | 3 => d | _ => f)) := by decide +kernel
  rw [key _ _ _ _ _ i hi]
  by_cases h5 : i < 5
  · rcases (by omega : i = 0 ∨ i = 1 ∨ i = 2 ∨ i = 3 ∨ i = 4) with rfl | rfl | rfl | rfl | rfl <;> rfl
  · rw [decide_eq_false h5]; rfl
theorem sh_bv2 : ∀ k, k < 32 → ((nI k &&& 31).toBitVec.smod 32).toNat = k := sh_bv
theorem bt_shl (x : Int32) {m i : Nat} (hm : m < 32) (hi : i < 32) : bt (x <<< (nI m &&& 31)) i = (decide (m ≤ i) && bt x (i - m)) := by
  unfold bt
  rw [Int32.toBitVec_shiftLeft]
  show (x.toBitVec <<< ((nI m &&& 31).toBitVec.smod 32).toNat).getLsbD i = _
  rw [sh_bv m hm, BitVec.getLsbD_shiftLeft, decide_eq_true hi, Bool.true_and]
  by_cases h : i < m
  · rw [decide_eq_true h, decide_eq_false (by omega : ¬ m ≤ i)]; rfl
  · rw [decide_eq_false h, decide_eq_true (by omega : m ≤ i)]; rfl
def aP (n : Nat) (B : Bd) (r c s : Nat) : Bool := if B r c = 0 then opt n B r c s else decide (B r c = s + 1)
def alB (n : Nat) (B : Bd) (r k : Nat) : Bool := decide (k < 5 * n) && aP n B r (k / 5) (k % 5)
theorem allowed_ok {σ : St} {k n : Nat} {B : Bd} (h : GOK σ k n B) {r : Nat} (hr : r < n) : ∃ x, f_RowFilling_pairsAllowed σ k (nI r) = some x ∧ ∀ i, i < 32 → bt x i = alB n B r i := by
  have hn := h.le
  have ho := h.ord
  unfold f_RowFilling_pairsAllowed
  refine loopE (fun f c (x : Int32) => f_RowFilling_pairsAllowed_L4 k (nI r) σ (fun v => some v) f x (nI c)) n (fun c x => ∀ i, i < 32 → bt x i = (decide (i < 5 * c) && aP n B r (i / 5) (i % 5))) (fun R => ∃ x, R = some x ∧ ∀ i, i < 32 → bt x i = alB n B r i) ?_ ?_ FU 0 0 (by omega) (FU_gt (by omega)) (fun i hi => by rw [bt_0, decide_eq_false (by omega)]; rfl)
  · rintro f c x hc hx
    have hb := h.1.bn r c
    have e0 : f_RowFilling_pairsAllowed_L4 k (nI r) σ (fun v => some v) (f + 1) x (nI c) = f_RowFilling_pairsAllowed_L4 k (nI r) σ (fun v => some v) f (x ||| (sI (aP n B r c) <<< (nI (5 * c) &&& 31))) (nI (c + 1)) := by
      rw [f_RowFilling_pairsAllowed_L4.eq_2]
      rw [ho, if_pos (nI_lt hc (by omega)), sign_in h hr hc, opt_in h hr hc]
      simp only [jn_eq, lt1_eq, cap_some, nI_1]
      rw [show (5 : Int32) = nI 5 from rfl, nI_mul]
      by_cases h0 : B r c = 0
      · rw [if_pos (by rw [h0]; rfl)]
        have : sI (aP n B r c) = sI (opt n B r c) := sI_cong (fun s _ => by unfold aP; rw [if_pos h0])
        rw [this]
      · obtain ⟨s, hs⟩ : ∃ s, B r c = s + 1 := ⟨B r c - 1, by omega⟩
        rw [if_neg (by rw [hs, ce_s]; exact nm1 (by omega)), hs, ce_s, sI_one (by omega)]
        have : sI (aP n B r c) = sI (fun t => decide (t = s)) := sI_cong (fun t _ => by unfold aP; rw [if_neg h0, hs, decide_eq_decide]; omega)
        rw [this]
    refine Or.inr ⟨_, e0, fun i hi => ?_⟩
    rw [bt_or, hx i hi, bt_shl _ (by omega) hi, bt_sI _ (by omega)]
    by_cases h1 : i < 5 * c
    · rw [decide_eq_true h1, decide_eq_true (by omega : i < 5 * (c + 1)), decide_eq_false (by omega : ¬ 5 * c ≤ i), Bool.false_and, Bool.or_false]
    · rw [decide_eq_false h1, Bool.false_and, Bool.false_or, decide_eq_true (by omega : 5 * c ≤ i), Bool.true_and]
      by_cases h2 : i < 5 * (c + 1)
      · rw [decide_eq_true h2, decide_eq_true (by omega : i - 5 * c < 5), show i / 5 = c by omega, show i % 5 = i - 5 * c by omega]
      · rw [decide_eq_false h2, decide_eq_false (by omega : ¬ i - 5 * c < 5)]
        rfl
  · rintro f x hx
    refine ⟨x, ?_, hx⟩
    show f_RowFilling_pairsAllowed_L4 k (nI r) σ _ (f + 1) x (nI n) = _
    rw [f_RowFilling_pairsAllowed_L4.eq_2]
    rw [ho, if_neg (nI_nlt (Nat.le_refl _) (by omega))]
/-- a board with a map as a row -/
def setR (n : Nat) (C : Bd) (r : Nat) (f : Nat → Nat) : Bd := fun r' c => if r' = r then (if c < n then f c + 1 else 0) else C r' c
theorem setR_at {n : Nat} {C : Bd} {r : Nat} {f : Nat → Nat} {c : Nat} (hc : c < n) : setR n C r f r c = f c + 1 := by unfold setR; rw [if_pos rfl, if_pos hc]
theorem setR_ne {n : Nat} {C : Bd} {r : Nat} {f : Nat → Nat} {r' c : Nat} (h : r' ≠ r) : setR n C r f r' c = C r' c := by unfold setR; rw [if_neg h]
/-- what a row's map must keep -/
def RF (n : Nat) (C : Bd) (r : Nat) (f : Nat → Nat) : Prop := (∀ c, c < n → C r c ≠ 0 → C r c = f c + 1) ∧ ∀ r' c, r' ≠ r → c < n → C r' c ≠ f c + 1
theorem setR_wf {n : Nat} {C : Bd} (hw : Wf n C) {r : Nat} (hr : r < n) {f : Nat → Nat} (hf : PM n f) (h : RF n C r f) : Wf n (setR n C r f) := by
  have hrow : ∀ c, setR n C r f r c ≠ 0 → c < n := by
    intro c h0
    apply Classical.byContradiction
    intro hc
    unfold setR at h0
    rw [if_pos rfl, if_neg hc] at h0
    exact h0 rfl
  refine ⟨hw.1, hw.2.1, fun r' c h0 => ?_, fun r' c c' h0 he => ?_, fun r' r'' c h0 he => ?_⟩
  · by_cases e : r' = r
    · subst e
      have hc := hrow c h0
      have := hf.1 c hc
      rw [setR_at hc]
      exact ⟨hr, hc, by omega⟩
    · rw [setR_ne e] at h0 ⊢
      exact hw.2.2.1 r' c h0
  · by_cases e : r' = r
    · subst e
      have hc := hrow c h0
      have hc' := hrow c' (by rw [← he]; exact h0)
      rw [setR_at hc, setR_at hc'] at he
      exact hf.2 c c' hc hc' (by omega)
    · rw [setR_ne e] at h0
      rw [setR_ne e, setR_ne e] at he
      exact hw.2.2.2.1 r' c c' h0 he
  · by_cases e : r' = r
    · subst e
      have hc := hrow c h0
      by_cases e2 : r'' = r'
      · exact e2.symm
      · rw [setR_at hc, setR_ne e2] at he
        exact absurd he.symm (h.2 r'' c e2 hc)
    · rw [setR_ne e] at h0
      by_cases e2 : r'' = r
      · subst e2
        have hc := (hw.2.2.1 r' c h0).2.1
        rw [setR_ne e, setR_at hc] at he
        exact absurd he (h.2 r' c e hc)
      · rw [setR_ne e, setR_ne e2] at he
        exact hw.2.2.2.2 r' r'' c h0 he
noncomputable def rW (n : Nat) (C : Bd) (r m : Nat) : Nat := if dB (RF n C r (cp m)) = true then nC n (setR n C r (cp m)) else 0
/-- the squares that fill a board, by the map of one row -/
theorem nC_row {n : Nat} {C : Bd} (hw : Wf n C) {r : Nat} (hr : r < n) : nC n C = sumN (facN n) (rW n C r) := by
  have h1 := hw.1
  have h2 := hw.2.1
  let g : Nat → List Bd := fun m => if dB (RF n C r (cp m)) = true then comps n (setR n C r (cp m)) else []
  have hlen : ∀ k, k ≤ facN n → (((List.range k).map g).flatten).length = sumN k (rW n C r) := by
    intro k
    induction k with
    | zero => intro _; rfl
    | succ k ih =>
      intro hk
      rw [List.range_succ, List.map_append, List.flatten_append, List.length_append, ih (by omega), sumN]
      congr 1
      show ((g k :: []).flatten).length = _
      rw [List.flatten_cons, List.flatten_nil, List.append_nil]
      show (if dB (RF n C r (cp k)) = true then comps n (setR n C r (cp k)) else []).length = _
      unfold rW nC
      split <;> rfl
  rw [← hlen _ (Nat.le_refl _)]
  have hX : ∀ m X, m < facN n → X ∈ g m → SQ n X ∧ extB C X ∧ ∀ c, c < n → X r c = cp m c + 1 := by
    intro m X hm hXm
    have hXm : X ∈ (if dB (RF n C r (cp m)) = true then comps n (setR n C r (cp m)) else []) := hXm
    by_cases hd : RF n C r (cp m)
    · rw [dB_t hd, if_pos rfl] at hXm
      have hwm := setR_wf hw hr (cp_pm h1 h2 hm).1 hd
      obtain ⟨a, b⟩ := (mem_comps hwm).mp hXm
      refine ⟨a, fun r' c h0 => ?_, fun c hc => by rw [b r c (by rw [setR_at hc]; omega), setR_at hc]⟩
      by_cases e : r' = r
      · subst e
        have hc := (hw.2.2.1 r' c h0).2.1
        rw [b r' c (by rw [setR_at hc]; omega), setR_at hc, hd.1 c hc h0]
      · rw [b r' c (by rw [setR_ne e]; exact h0), setR_ne e]
    · rw [dB_f hd, if_neg (by decide)] at hXm; cases hXm
  refine len_same (nodup_comps hw) ?_ (fun X => ?_)
  · have : ∀ k, k ≤ facN n → (((List.range k).map g).flatten).Nodup := by
      intro k
      induction k with
      | zero => intro _; exact List.nodup_nil
      | succ k ih =>
        intro hk
        rw [List.range_succ, List.map_append, List.flatten_append]
        refine List.nodup_append.mpr ⟨ih (by omega), ?_, ?_⟩
        · show ((g k :: []).flatten).Nodup
          rw [List.flatten_cons, List.flatten_nil, List.append_nil]
          show (if dB (RF n C r (cp k)) = true then comps n (setR n C r (cp k)) else []).Nodup
          by_cases hd : RF n C r (cp k)
          · rw [dB_t hd, if_pos rfl]
            exact nodup_comps (setR_wf hw hr (cp_pm h1 h2 (by omega)).1 hd)
          · rw [dB_f hd, if_neg (by decide)]; exact List.nodup_nil
        · rintro X hXa Y hYb rfl
          obtain ⟨l, hl, hXl⟩ := List.mem_flatten.mp hXa
          obtain ⟨m, hm, rfl⟩ := List.mem_map.mp hl
          have hm := List.mem_range.mp hm
          have hYb : X ∈ (g k :: []).flatten := hYb
          rw [List.flatten_cons, List.flatten_nil, List.append_nil] at hYb
          have q1 := (hX m X (by omega) hXl).2.2
          have q2 := (hX k X (by omega) hYb).2.2
          have := cp_inj h1 h2 (show m < facN n by omega) (show k < facN n by omega) (fun c hc => by have := q1 c hc; have := q2 c hc; omega)
          omega
    exact this _ (Nat.le_refl _)
  · rw [mem_comps hw]
    constructor
    · rintro ⟨a, b⟩
      have hp := row_pm a hr
      obtain ⟨q1, q2⟩ := cp_sur h1 h2 hp
      have hv : ∀ c, c < n → X r c = cp (nmN n (sg X r)) c + 1 := by
        intro c hc
        have := a.2 r c hr hc
        rw [q2 c hc]
        unfold sg
        omega
      have hRF : RF n C r (cp (nmN n (sg X r))) := by
        refine ⟨fun c hc h0 => by rw [← hv c hc, b r c h0], fun r' c hr' hc e => ?_⟩
        have h0 : C r' c ≠ 0 := by omega
        have h3 := b r' c h0
        rw [e, ← hv c hc] at h3
        exact hr' (a.1.2.2.2.2 r' r c (by rw [h3]; exact a.2 r c hr hc) h3)
      refine List.mem_flatten.mpr ⟨g (nmN n (sg X r)), List.mem_map.mpr ⟨_, List.mem_range.mpr q1, rfl⟩, ?_⟩
      show X ∈ (if dB (RF n C r (cp (nmN n (sg X r)))) = true then comps n (setR n C r (cp (nmN n (sg X r)))) else [])
      rw [dB_t hRF, if_pos rfl, mem_comps (setR_wf hw hr (cp_pm h1 h2 q1).1 hRF)]
      refine ⟨a, fun r' c h0 => ?_⟩
      by_cases e : r' = r
      · subst e
        by_cases hc : c < n
        · rw [setR_at hc, ← hv c hc]
        · unfold setR at h0
          rw [if_pos rfl, if_neg hc] at h0
          exact absurd rfl h0
      · rw [setR_ne e] at h0 ⊢
        exact b r' c h0
    · intro h
      obtain ⟨l, hl, hXl⟩ := List.mem_flatten.mp h
      obtain ⟨m, hm, rfl⟩ := List.mem_map.mp hl
      have := hX m X (List.mem_range.mp hm) hXl
      exact ⟨this.1, this.2.1⟩
