/-! fault -/
def pst : Type := Nat × Nat × (Nat → Nat)
def lim (e : Nat) : Nat := if e = 0 then 1 else 2
def upW (w : Nat → Nat) (k v : Nat) : Nat → Nat := fun e => if e = k then v else w e
theorem upW_at {w : Nat → Nat} {k v : Nat} : upW w k v k = v := by unfold upW; rw [if_pos rfl]
theorem upW_ne {w : Nat → Nat} {k v e : Nat} (h : e ≠ k) : upW w k v e = w e := by unfold upW; rw [if_neg h]
def pstep (c s d : Nat) (w : Nat → Nat) : Option (Nat × Nat × (Nat → Nat)) :=
  if c = 41 then (if 0 < d ∧ w d = 2 then some (s, d - 1, upW w (d - 1) (w (d - 1) + 1)) else none)
  else if c = 61 then (if d = 0 ∧ s = 0 ∧ w 0 = 1 then some (1, 0, upW w 0 0) else none)
  else if w d < lim d then (if c = 40 then some (s, d + 1, upW w (d + 1) 0) else some (s, d, upW w d (w d + 1))) else none
def prun (ch : Nat → Nat) : Nat → Option (Nat × Nat × (Nat → Nat))
  | 0 => some (0, 0, fun _ => 0)
  | i + 1 => (prun ch i).bind (fun p => pstep (ch i) p.1 p.2.1 p.2.2)
def PI (i s d : Nat) (w : Nat → Nat) : Prop := s ≤ 1 ∧ d ≤ i ∧ (∀ e, e < d → w e < lim e) ∧ w d ≤ lim d
theorem lim_le (e : Nat) : lim e ≤ 2 := by unfold lim; split <;> omega
theorem lim_s (e : Nat) : lim (e + 1) = 2 := by unfold lim; rw [if_neg (by omega)]
theorem PI.step {c i s d : Nat} {w : Nat → Nat} (h : PI i s d w) {s' d' : Nat} {w' : Nat → Nat} (e : pstep c s d w = some (s', d', w')) : PI (i + 1) s' d' w' := by
  obtain ⟨h1, h2, h3, h4⟩ := h
  unfold pstep at e
  by_cases c1 : c = 41
  · rw [if_pos c1] at e
    by_cases c2 : 0 < d ∧ w d = 2
    · rw [if_pos c2] at e
      obtain ⟨rfl, rfl, rfl⟩ := (by simpa using e : s = s' ∧ d - 1 = d' ∧ _ = w')
      refine ⟨h1, by omega, fun e he => ?_, ?_⟩
      · rw [upW_ne (by omega)]; exact h3 e (by omega)
      · rw [upW_at]; exact h3 (d - 1) (by omega)
    · rw [if_neg c2] at e; cases e
  · rw [if_neg c1] at e
    by_cases c2 : c = 61
    · rw [if_pos c2] at e
      by_cases c3 : d = 0 ∧ s = 0 ∧ w 0 = 1
      · rw [if_pos c3] at e
        obtain ⟨rfl, rfl, rfl⟩ := (by simpa using e : 1 = s' ∧ 0 = d' ∧ _ = w')
        refine ⟨by omega, by omega, fun e he => by omega, ?_⟩
        rw [upW_at]; omega
      · rw [if_neg c3] at e; cases e
    · rw [if_neg c2] at e
      by_cases c3 : w d < lim d
      · rw [if_pos c3] at e
        by_cases c4 : c = 40
        · rw [if_pos c4] at e
          obtain ⟨rfl, rfl, rfl⟩ := (by simpa using e : s = s' ∧ d + 1 = d' ∧ _ = w')
          refine ⟨h1, by omega, fun e he => ?_, ?_⟩
          · rw [upW_ne (by omega)]
            by_cases e2 : e = d
            · rw [e2]; exact c3
            · exact h3 e (by omega)
          · rw [upW_at]; omega
        · rw [if_neg c4] at e
          obtain ⟨rfl, rfl, rfl⟩ := (by simpa using e : s = s' ∧ d = d' ∧ _ = w')
          refine ⟨h1, by omega, fun e he => ?_, ?_⟩
          · rw [upW_ne (by omega)]; exact h3 e he
          · rw [upW_at]; exact c3
      · rw [if_neg c3] at e; cases e
def PF (t : Nat) (ch : Nat → Nat) (v : Int32) : Prop := (∃ i s d w, i < t ∧ prun ch i = some (s, d, w) ∧ pstep (ch i) s d w = none ∧ v = nI i) ∨ (∃ s d w, prun ch t = some (s, d, w) ∧ v = if s = 1 ∧ d = 0 ∧ w 0 = 1 then -1 else nI t)
theorem prun_none {ch : Nat → Nat} {i : Nat} (h : prun ch i = none) : ∀ d, prun ch (i + d) = none
  | 0 => h
  | d + 1 => by
    show (prun ch (i + d)).bind _ = none
    rw [prun_none h d]; rfl
theorem prun_stop {ch : Nat → Nat} {i s d : Nat} {w : Nat → Nat} (h : prun ch i = some (s, d, w)) (h2 : pstep (ch i) s d w = none) {j : Nat} (hj : i < j) : prun ch j = none := by
  have h3 : prun ch (i + 1) = none := by
    show (prun ch i).bind _ = none
    rw [h]; exact h2
  have := prun_none h3 (j - (i + 1))
  rwa [show i + 1 + (j - (i + 1)) = j by omega] at this
theorem PF.uniq {t : Nat} {ch : Nat → Nat} {v v' : Int32} (h : PF t ch v) (h' : PF t ch v') : v = v' := by
  rcases h with ⟨i, s, d, w, a1, a2, a3, a4⟩ | ⟨s, d, w, a1, a2⟩
  · rcases h' with ⟨i', s', d', w', b1, b2, b3, b4⟩ | ⟨s', d', w', b1, b2⟩
    · rcases Nat.lt_trichotomy i i' with h | h | h
      · rw [prun_stop a2 a3 h] at b2; cases b2
      · rw [a4, b4, h]
      · rw [prun_stop b2 b3 h] at a2; cases a2
    · rw [prun_stop a2 a3 a1] at b1; cases b1
  · rcases h' with ⟨i', s', d', w', b1, b2, b3, b4⟩ | ⟨s', d', w', b1, b2⟩
    · rw [prun_stop b2 b3 b1] at a1; cases a1
    · rw [a1] at b1
      obtain ⟨rfl, rfl, rfl⟩ := (by simpa using b1 : s = s' ∧ d = d' ∧ w = w')
      rw [a2, b2]
theorem CT.ch {σ : St} {t : Nat} {ch : Nat → Nat} (h : CT σ t ch) {i : Nat} (hi : i < t) : isCh (ch i) := h.2.2.2 i hi
theorem ch_lt {x : Nat} (h : isCh x) : x < 200 := by unfold isCh at h; omega
theorem canF_ok {σ : St} {c s d : Nat} {w : Nat → Nat} (hc : isCh c) (hd : d < 40) (hs : s ≤ 1) (hw : w d ≤ 2) (h12 : σ 12 d = nI (w d)) : f_Tape_canFollow σ (nI c) (nI d) (nI s) = some (bI (pstep c s d w).isSome) := by
  have h200 := ch_lt hc
  unfold f_Tape_canFollow pstep
  rw [if_neg (nI_pos (by omega)), if_pos (show nI d < 40 from nI_lt hd (by decide)), ald_nI (by omega) (by decide), h12]
  simp only [jn_eq]
  simp (disch := omega) only [eq_l41, eq_l61, eq_l0, eq_l1, eq_l2, le_l0]
  by_cases c1 : c = 41
  · rw [if_pos c1, if_pos c1]
    by_cases c2 : 0 < d ∧ w d = 2
    · rw [if_pos c2, if_neg (by omega), if_pos c2.2]; rfl
    · rw [if_neg c2]
      by_cases c3 : d ≤ 0
      · rw [if_pos c3]; rfl
      · rw [if_neg c3, if_neg (by omega)]; rfl
  · rw [if_neg c1, if_neg c1]
    by_cases c2 : c = 61
    · rw [if_pos c2, if_pos c2]
      by_cases c3 : d = 0
      · subst c3
        rw [if_pos rfl]
        by_cases c4 : s = 0
        · rw [if_pos c4]
          by_cases c5 : w 0 = 1
          · rw [if_pos c5, if_pos ⟨rfl, c4, c5⟩]; rfl
          · rw [if_neg c5, if_neg (by omega)]; rfl
        · rw [if_neg c4, if_neg (by omega)]; rfl
      · rw [if_neg c3, if_neg (by omega)]; rfl
    · rw [if_neg c2, if_neg c2]
      have e : (if d = 0 then (if nI (w d) < 1 then some (1 : Int32) else some 0) else if nI (w d) < 2 then some 1 else some 0) = some (bI (decide (w d < lim d))) := by
        unfold lim
        by_cases c3 : d = 0
        · rw [if_pos c3, if_pos c3]
          by_cases c4 : w d < 1
          · rw [if_pos (show nI (w d) < 1 from nI_lt c4 (by decide)), decide_eq_true c4]; rfl
          · rw [if_neg (show ¬ nI (w d) < 1 from (nI_nlt (show 1 ≤ w d by omega) (show w d < 2 ^ 31 by omega) : ¬ nI (w d) < nI 1)), decide_eq_false c4]; rfl
        · rw [if_neg c3, if_neg c3]
          by_cases c4 : w d < 2
          · rw [if_pos (show nI (w d) < 2 from nI_lt c4 (by decide)), decide_eq_true c4]; rfl
          · rw [if_neg (show ¬ nI (w d) < 2 from (nI_nlt (show 2 ≤ w d by omega) (show w d < 2 ^ 31 by omega) : ¬ nI (w d) < nI 2)), decide_eq_false c4]; rfl
      rw [e]
      by_cases c3 : w d < lim d
      · rw [if_pos c3, decide_eq_true c3]
        by_cases c4 : c = 40
        · rw [if_pos c4]; rfl
        · rw [if_neg c4]; rfl
      · rw [if_neg c3, decide_eq_false c3]; rfl
def CRs (o : Nat) (σ : St) (d : Nat) (w : Nat → Nat) : Prop := ∀ e, e ≤ d → σ o e = nI (w e)
theorem CRs.up {o : Nat} {σ : St} {d : Nat} {w : Nat → Nat} (h : CRs o σ d w) {k v : Nat} {d' : Nat} (hd : d' ≤ d ∨ (d' = d + 1 ∧ k = d + 1)) : CRs o (wr σ o k (nI v)) d' (upW w k v) := by
  intro e he
  rw [wr_get]
  by_cases e1 : e = k
  · rw [if_pos ⟨rfl, e1⟩, e1, upW_at]
  · rw [if_neg (by omega), upW_ne e1]
    exact h e (by omega)
theorem endW_ok {σ : St} {d : Nat} {w : Nat → Nat} (hd : d < 41) (h : σ 12 d = nI (w d)) : f_Tape_endWord σ (nI d) = some ((), wr σ 12 d (nI (w d + 1))) := by
  unfold f_Tape_endWord
  rw [if_neg (nI_pos (by omega)), if_pos (show nI d < 41 from nI_lt hd (by decide)), ald_nI hd (by decide), ast_nI hd (by decide), h, nI_1]
theorem begB_ok {σ : St} {d : Nat} (hd : d < 41) : f_Tape_beginBracket σ (nI d) = some ((), wr σ 12 d (nI 0)) := by
  unfold f_Tape_beginBracket
  rw [if_neg (nI_pos (by omega)), if_pos (show nI d < 41 from nI_lt hd (by decide)), ast_nI hd (by decide)]
  rfl
def Frx (o : Nat) (σ τ : St) : Prop := ∀ m, m ≠ o → τ m = σ m
theorem cfault_L {σ : St} {t : Nat} {ch : Nat → Nat} (h : CT σ t ch) (kA : Int32 → St → Option (Int32 × St)) (kB : Int32 → Int32 → St → Option (Int32 × St)) : (∃ i s d w τ, i < t ∧ prun ch i = some (s, d, w) ∧ pstep (ch i) s d w = none ∧ Frx 12 σ τ ∧ f_Tape_firstFault_L13 kA kB FU (nI 0) (nI 0) (nI 0) (wr σ 12 0 (nI 0)) = kA (nI i) τ) ∨ (∃ s d w τ, prun ch t = some (s, d, w) ∧ PI t s d w ∧ CRs 12 τ d w ∧ Frx 12 σ τ ∧ f_Tape_firstFault_L13 kA kB FU (nI 0) (nI 0) (nI 0) (wr σ 12 0 (nI 0)) = kB (nI d) (nI s) τ) := by
  have ht := h.1
  refine loopE (fun m i (x : (Nat × Nat × (Nat → Nat)) × St) => f_Tape_firstFault_L13 kA kB m (nI x.1.2.1) (nI x.1.1) (nI i) x.2) t
    (fun i x => prun ch i = some x.1 ∧ PI i x.1.1 x.1.2.1 x.1.2.2 ∧ CRs 12 x.2 x.1.2.1 x.1.2.2 ∧ Frx 12 σ x.2)
    (fun R => (∃ i s d w τ, i < t ∧ prun ch i = some (s, d, w) ∧ pstep (ch i) s d w = none ∧ Frx 12 σ τ ∧ R = kA (nI i) τ) ∨ (∃ s d w τ, prun ch t = some (s, d, w) ∧ PI t s d w ∧ CRs 12 τ d w ∧ Frx 12 σ τ ∧ R = kB (nI d) (nI s) τ)) ?_ ?_ FU 0 ((0, 0, fun _ => 0), wr σ 12 0 (nI 0)) (by omega) (FU_gt (by omega)) ⟨rfl, ⟨by show 0 ≤ 1; omega, Nat.le_refl _, fun e he => absurd he (Nat.not_lt_zero e), by show 0 ≤ _; omega⟩, fun e he => ?_, fun m hm => wr_fn hm⟩
  · rintro m i ⟨⟨s, d, w⟩, τ⟩ hi ⟨p1, p2, p3, p4⟩
    have p1 : prun ch i = some (s, d, w) := p1
    have p2 : PI i s d w := p2
    have p3 : CRs 12 τ d w := p3
    have p4 : Frx 12 σ τ := p4
    have hc := h.ch hi
    have h200 := ch_lt hc
    have hl := lim_le d
    have hdi := p2.2.1
    have hwd := p2.2.2.2
    have e10 : τ 10 3 = nI t := by rw [p4 10 (by omega)]; exact h.2.1
    have e11 : τ 11 i = nI (ch i) := by rw [p4 11 (by omega)]; exact h.2.2.1 i hi
    have hcf := canF_ok (σ := τ) hc (show d < 40 by omega) p2.1 (show w d ≤ 2 by omega) (p3 d (Nat.le_refl d))
    have e0 : f_Tape_firstFault_L13 kA kB (m + 1) (nI d) (nI s) (nI i) τ = if bI (pstep (ch i) s d w).isSome = 0 then kA (nI i) τ else (if nI (ch i) = 61 then ast τ 12 41 (nI 0) (nI 0) fun σ_17 => f_Tape_firstFault_L13 kA kB m (nI d) (nI s + 1) (nI (i + 1)) σ_17 else if nI (ch i) = 40 then cal (f_Tape_beginBracket τ (nI d + 1)) fun r_15 σ_16 => f_Tape_firstFault_L13 kA kB m (nI d + 1) (nI s) (nI (i + 1)) σ_16 else if nI (ch i) = 41 then cal (f_Tape_endWord τ (nI d - 1)) fun r_12 σ_13 => f_Tape_firstFault_L13 kA kB m (nI d - 1) (nI s) (nI (i + 1)) σ_13 else cal (f_Tape_endWord τ (nI d - 0)) fun r_12 σ_13 => f_Tape_firstFault_L13 kA kB m (nI d - 0) (nI s) (nI (i + 1)) σ_13) := by
      rw [f_Tape_firstFault_L13.eq_2]
      rw [e10, if_pos (nI_lt hi (by omega)), if_pos (show nI i < 40 from nI_lt (show i < 40 by omega) (by decide)), ald_nI (by omega) (by decide), e11, hcf, cap_some]
      simp only [jn_eq, nI_1]
      rfl
    show (_ ∨ _) ∨ ∃ a' : (Nat × Nat × (Nat → Nat)) × St, f_Tape_firstFault_L13 kA kB (m + 1) (nI d) (nI s) (nI i) τ = _ ∧ _
    rw [e0]
    cases hst : pstep (ch i) s d w with
    | none =>
      left
      left
      exact ⟨i, s, d, w, τ, hi, p1, hst, p4, if_pos rfl⟩
    | some p =>
      obtain ⟨s', d', w'⟩ := p
      have hPI := p2.step hst
      have hrun : prun ch (i + 1) = some (s', d', w') := by
        show (prun ch i).bind _ = _
        rw [p1]; exact hst
      right
      rw [show bI (some (s', d', w')).isSome = 1 from rfl, if_neg (show ¬ (1 : Int32) = 0 by decide)]
      simp (disch := omega) only [eq_l41, eq_l61, eq_l40]
      unfold pstep at hst
      by_cases c2 : ch i = 61
      · rw [if_neg (by omega), if_pos c2] at hst
        rw [if_pos c2]
        by_cases c3 : d = 0 ∧ s = 0 ∧ w 0 = 1
        · rw [if_pos c3] at hst
          obtain ⟨rfl, rfl, rfl⟩ := (by simpa using hst : 1 = s' ∧ 0 = d' ∧ _ = w')
          obtain ⟨rfl, rfl, c5⟩ := c3
          refine ⟨((1, 0, upW w 0 0), wr τ 12 0 (nI 0)), ?_, hrun, hPI, p3.up (Or.inl (Nat.le_refl _)), fun m' hm' => by show wr τ 12 0 (nI 0) m' = _; rw [wr_fn hm']; exact p4 m' hm'⟩
          rw [ast_nI (by omega) (by decide), nI_1]
        · rw [if_neg c3] at hst; cases hst
      · rw [if_neg c2]
        by_cases c4 : ch i = 40
        · rw [if_neg (by omega), if_neg c2] at hst
          rw [if_pos c4, nI_1, begB_ok (by omega), cal_some]
          by_cases c3 : w d < lim d
          · rw [if_pos c3, if_pos c4] at hst
            obtain ⟨rfl, rfl, rfl⟩ := (by simpa using hst : s = s' ∧ d + 1 = d' ∧ _ = w')
            refine ⟨((s, d + 1, upW w (d + 1) 0), wr τ 12 (d + 1) (nI 0)), rfl, hrun, hPI, p3.up (Or.inr ⟨rfl, rfl⟩), fun m' hm' => by show wr τ 12 (d + 1) (nI 0) m' = _; rw [wr_fn hm']; exact p4 m' hm'⟩
          · rw [if_neg c3] at hst; cases hst
        · rw [if_neg c4]
          by_cases c1 : ch i = 41
          · rw [if_pos c1] at hst
            rw [if_pos c1]
            by_cases c3 : 0 < d ∧ w d = 2
            · rw [if_pos c3] at hst
              obtain ⟨rfl, rfl, rfl⟩ := (by simpa using hst : s = s' ∧ d - 1 = d' ∧ _ = w')
              rw [show nI d - 1 = nI (d - 1) from nI_sub (b := 1) (by omega), endW_ok (by omega) (p3 (d - 1) (by omega)), cal_some]
              refine ⟨((s, d - 1, upW w (d - 1) (w (d - 1) + 1)), wr τ 12 (d - 1) (nI (w (d - 1) + 1))), rfl, hrun, hPI, p3.up (d' := d - 1) (Or.inl (by omega)), fun m' hm' => by show wr τ 12 (d - 1) _ m' = _; rw [wr_fn hm']; exact p4 m' hm'⟩
            · rw [if_neg c3] at hst; cases hst
          · rw [if_neg c1, if_neg c2] at hst
            rw [if_neg c1]
            by_cases c3 : w d < lim d
            · rw [if_pos c3, if_neg c4] at hst
              obtain ⟨rfl, rfl, rfl⟩ := (by simpa using hst : s = s' ∧ d = d' ∧ _ = w')
              rw [show nI d - 0 = nI d from Int32.sub_zero _, endW_ok (by omega) (p3 d (Nat.le_refl d)), cal_some]
              refine ⟨((s, d, upW w d (w d + 1)), wr τ 12 d (nI (w d + 1))), rfl, hrun, hPI, p3.up (Or.inl (Nat.le_refl d)), fun m' hm' => by show wr τ 12 d _ m' = _; rw [wr_fn hm']; exact p4 m' hm'⟩
            · rw [if_neg c3] at hst; cases hst
  · rintro m ⟨⟨s, d, w⟩, τ⟩ ⟨p1, p2, p3, p4⟩
    have p1 : prun ch t = some (s, d, w) := p1
    have p4 : Frx 12 σ τ := p4
    have e10 : τ 10 3 = nI t := by rw [p4 10 (by omega)]; exact h.2.1
    refine Or.inr ⟨s, d, w, τ, p1, p2, p3, p4, ?_⟩
    show f_Tape_firstFault_L13 kA kB (m + 1) (nI d) (nI s) (nI t) τ = _
    rw [f_Tape_firstFault_L13.eq_2]
    rw [e10, if_neg (nI_nlt (Nat.le_refl _) (by omega))]
  · have he : e ≤ 0 := he
    rw [show e = 0 by omega]
    exact (wr_at : wr σ 12 0 (nI 0) 12 0 = nI 0)
theorem cfault_ok {σ : St} {t : Nat} {ch : Nat → Nat} (h : CT σ t ch) : ∃ v σ', f_Tape_firstFault σ = some (v, σ') ∧ PF t ch v ∧ Frx 12 σ σ' := by
  have ht := h.1
  unfold f_Tape_firstFault
  rw [show (0 : Int32) = nI 0 from rfl, ast_nI (by omega) (by decide)]
  rcases cfault_L h (fun (v3_18 : Int32) (σ_19 : St) => some (v3_18, σ_19)) (fun (v1_20 : Int32) (v2_21 : Int32) (σ_22 : St) => jn (some ((σ_22 10 3), σ_22)) fun j135_23 => if v2_21 = 1 then if v1_20 = nI 0 then ald σ_22 12 41 (nI 0) fun r_24 => if r_24 = 1 then some ((-1), σ_22) else j135_23 else j135_23 else j135_23) with ⟨i, s, d, w, τ, a1, a2, a3, a4, a5⟩ | ⟨s, d, w, τ, p1, p2, p3, p4, p5⟩
  · exact ⟨nI i, τ, a5, Or.inl ⟨i, s, d, w, a1, a2, a3, rfl⟩, a4⟩
  · have hl := lim_le d
    have hdi := p2.2.1
    have hwd := p2.2.2.2
    have hs1 := p2.1
    have e10 : τ 10 3 = nI t := by rw [p4 10 (by omega)]; exact h.2.1
    refine ⟨if s = 1 ∧ d = 0 ∧ w 0 = 1 then -1 else nI t, τ, p5.trans ?_, Or.inr ⟨s, d, w, p1, rfl⟩, p4⟩
    rw [e10, jn_eq]
    by_cases c1 : s = 1
    · rw [if_pos (by rw [c1]; rfl)]
      by_cases c2 : d = 0
      · subst c2
        rw [if_pos rfl, ald_nI (by omega) (by decide), p3 0 (Nat.le_refl _)]
        by_cases c3 : w 0 = 1
        · rw [if_pos (by rw [c3]; rfl), if_pos ⟨c1, rfl, c3⟩]
        · rw [if_neg (by rw [show (1 : Int32) = nI 1 from rfl, eq_nI (by omega) (by omega)]; exact c3), if_neg (by omega)]
      · rw [if_neg (by rw [eq_nI (by omega) (by omega)]; exact c2), if_neg (by omega)]
    · rw [if_neg (by rw [show (1 : Int32) = nI 1 from rfl, eq_nI (by omega) (by omega)]; exact c1), if_neg (by omega)]
/-! fault, the reference's side -/
theorem MC.ch {σ : St} {t : Nat} {ch : Nat → Nat} (h : MC σ t ch) {i : Nat} (hi : i < t) : isCh (ch i) := h.2.2.2 i hi
theorem rfault_L {σ : St} {t : Nat} {ch : Nat → Nat} (h : MC σ t ch) (kA : Int32 → St → Option (Int32 × St)) (kB : Int32 → Int32 → St → Option (Int32 × St)) : (∃ i s d w τ, i < t ∧ prun ch i = some (s, d, w) ∧ pstep (ch i) s d w = none ∧ Frx 86 σ τ ∧ f_R_faultOf_L13 kA kA kA kB FU (nI 0) (nI 0) (nI 0) (wr σ 86 0 (nI 0)) = kA (nI i) τ) ∨ (∃ s d w τ, prun ch t = some (s, d, w) ∧ PI t s d w ∧ CRs 86 τ d w ∧ Frx 86 σ τ ∧ f_R_faultOf_L13 kA kA kA kB FU (nI 0) (nI 0) (nI 0) (wr σ 86 0 (nI 0)) = kB (nI s) (nI d) τ) := by
  have ht := h.1
  refine loopE (fun m i (x : (Nat × Nat × (Nat → Nat)) × St) => f_R_faultOf_L13 kA kA kA kB m (nI x.1.1) (nI x.1.2.1) (nI i) x.2) t
    (fun i x => prun ch i = some x.1 ∧ PI i x.1.1 x.1.2.1 x.1.2.2 ∧ CRs 86 x.2 x.1.2.1 x.1.2.2 ∧ Frx 86 σ x.2)
    (fun R => (∃ i s d w τ, i < t ∧ prun ch i = some (s, d, w) ∧ pstep (ch i) s d w = none ∧ Frx 86 σ τ ∧ R = kA (nI i) τ) ∨ (∃ s d w τ, prun ch t = some (s, d, w) ∧ PI t s d w ∧ CRs 86 τ d w ∧ Frx 86 σ τ ∧ R = kB (nI s) (nI d) τ)) ?_ ?_ FU 0 ((0, 0, fun _ => 0), wr σ 86 0 (nI 0)) (by omega) (FU_gt (by omega)) ⟨rfl, ⟨by show 0 ≤ 1; omega, Nat.le_refl _, fun e he => absurd he (Nat.not_lt_zero e), by show 0 ≤ _; omega⟩, fun e he => ?_, fun m hm => wr_fn hm⟩
  · rintro m i ⟨⟨s, d, w⟩, τ⟩ hi ⟨p1, p2, p3, p4⟩
    have p1 : prun ch i = some (s, d, w) := p1
    have p2 : PI i s d w := p2
    have p3 : CRs 86 τ d w := p3
    have p4 : Frx 86 σ τ := p4
    have hc := h.ch hi
    have h200 := ch_lt hc
    have hl := lim_le d
    have hdi := p2.2.1
    have hwd := p2.2.2.2
    have hs1 := p2.1
    have e10 : τ 82 4 = nI t := by rw [p4 82 (by omega)]; exact h.2.1
    have e11 : τ 85 i = nI (ch i) := by rw [p4 85 (by omega)]; exact h.2.2.1 i hi
    have hd42 : d < 41 := by omega
    have q0 : w 0 ≤ 1 := by
      by_cases h0 : d = 0
      · subst h0; exact hwd
      · have := p2.2.2.1 0 (by omega)
        unfold lim at this
        rw [if_pos rfl] at this; omega
    have e0 : f_R_faultOf_L13 kA kA kA kB (m + 1) (nI s) (nI d) (nI i) τ =
        if d = 0 ∧ w 0 = 1 then (if s = 0 ∧ ch i = 61 then f_R_faultOf_L13 kA kA kA kB m (nI 1) (nI d) (nI (i + 1)) (wr τ 86 0 (nI 0)) else kA (nI i) τ)
        else if 0 < d ∧ w d = 2 then (if ch i = 41 then f_R_faultOf_L13 kA kA kA kB m (nI s) (nI (d - 1)) (nI (i + 1)) (wr τ 86 (d - 1) (nI (w (d - 1) + 1))) else kA (nI i) τ)
        else if ch i = 40 then f_R_faultOf_L13 kA kA kA kB m (nI s) (nI (d + 1)) (nI (i + 1)) (wr τ 86 (d + 1) (nI 0))
        else if ch i = 41 ∨ ch i = 61 then kA (nI i) τ
        else f_R_faultOf_L13 kA kA kA kB m (nI s) (nI d) (nI (i + 1)) (wr τ 86 d (nI (w d + 1))) := by
      rw [f_R_faultOf_L13.eq_2]
      rw [e10, if_pos (nI_lt hi (by omega)), ald_nI (by omega) (by decide), e11]
      simp only [jn_eq, nI_1]
      rw [show ald τ 86 42 0 = ald τ 86 42 (nI 0) from rfl, ald_nI (by omega) (by decide), p3 0 (by omega), ald_nI (by omega) (by decide), p3 d (Nat.le_refl d), ast_nI (by omega) (by decide), ast_nI (by omega) (by decide)]
      simp (disch := omega) only [eq_l41, eq_l61, eq_l40, eq_l0, eq_l1, eq_l2, le_l0]
      by_cases p1 : d = 0 ∧ w 0 = 1
      · rw [if_pos p1, if_pos p1.1, if_pos p1.2]
        by_cases p4 : s = 0 ∧ ch i = 61
        · rw [if_pos p4, if_pos p4.1, if_pos p4.2, show ast τ 86 42 0 0 = ast τ 86 42 (nI 0) (nI 0) from rfl, ast_nI (by omega) (by decide)]; rfl
        · rw [if_neg p4]
          by_cases c3 : s = 0
          · rw [if_pos c3, if_neg (fun h => p4 ⟨c3, h⟩)]
          · rw [if_neg c3]
      · rw [if_neg p1]
        by_cases c1 : d = 0
        · rw [if_pos c1, if_neg (fun h => p1 ⟨c1, h⟩), if_pos (show d ≤ 0 by omega), if_neg (show ¬ (0 < d ∧ w d = 2) by omega)]
          by_cases c4 : ch i = 40
          · rw [if_pos c4, if_pos c4]; rfl
          · rw [if_neg c4, if_neg c4]
            by_cases c5 : ch i = 41
            · rw [if_pos c5, if_pos (show ch i = 41 ∨ ch i = 61 from Or.inl c5)]
            · rw [if_neg c5]
              by_cases c6 : ch i = 61
              · rw [if_pos c6, if_pos (show ch i = 41 ∨ ch i = 61 from Or.inr c6)]
              · rw [if_neg c6, if_neg (show ¬ (ch i = 41 ∨ ch i = 61) by omega), nI_1]
        · rw [if_neg c1, if_neg (show ¬ d ≤ 0 by omega), ald_nI (by omega) (by decide), p3 d (Nat.le_refl d)]
          by_cases c2 : w d = 2
          · rw [if_pos (show 0 < d ∧ w d = 2 from ⟨by omega, c2⟩), if_pos (show nI (w d) = 2 by rw [c2]; rfl)]
            by_cases c3 : ch i = 41
            · rw [if_pos c3, if_pos c3, show nI d + -1 = nI (d - 1) by rw [← Int32.sub_eq_add_neg]; exact nI_sub (b := 1) (by omega), ald_nI (by omega) (by decide), p3 (d - 1) (by omega), ast_nI (by omega) (by decide), nI_1]
            · rw [if_neg c3, if_neg c3]
          · rw [if_neg (show ¬ nI (w d) = 2 by rw [eq_l2 (by omega)]; exact c2), if_neg (show ¬ (0 < d ∧ w d = 2) by omega)]
            by_cases c4 : ch i = 40
            · rw [if_pos c4, if_pos c4]; rfl
            · rw [if_neg c4, if_neg c4]
              by_cases c5 : ch i = 41
              · rw [if_pos c5, if_pos (show ch i = 41 ∨ ch i = 61 from Or.inl c5)]
              · rw [if_neg c5]
                by_cases c6 : ch i = 61
                · rw [if_pos c6, if_pos (show ch i = 41 ∨ ch i = 61 from Or.inr c6)]
                · rw [if_neg c6, if_neg (show ¬ (ch i = 41 ∨ ch i = 61) by omega), nI_1]
    show (_ ∨ _) ∨ ∃ a' : (Nat × Nat × (Nat → Nat)) × St, f_R_faultOf_L13 kA kA kA kB (m + 1) (nI s) (nI d) (nI i) τ = _ ∧ _
    rw [e0]
    have hrun : ∀ s' d' w', pstep (ch i) s d w = some (s', d', w') → prun ch (i + 1) = some (s', d', w') := by
      intro s' d' w' hst
      show (prun ch i).bind _ = _
      rw [p1]; exact hst
    have hno : pstep (ch i) s d w = none → ∀ K, K = kA (nI i) τ → ((∃ i s d w τ, i < t ∧ prun ch i = some (s, d, w) ∧ pstep (ch i) s d w = none ∧ Frx 86 σ τ ∧ K = kA (nI i) τ) ∨ (∃ s d w τ, prun ch t = some (s, d, w) ∧ PI t s d w ∧ CRs 86 τ d w ∧ Frx 86 σ τ ∧ K = kB (nI s) (nI d) τ)) := fun hst K hK => Or.inl ⟨i, s, d, w, τ, hi, p1, hst, p4, hK⟩
    have hl0 : d = 0 → lim d = 1 := fun h => by rw [h]; rfl
    have hl1 : d ≠ 0 → lim d = 2 := fun h => by unfold lim; rw [if_neg h]
    by_cases c1 : d = 0 ∧ w 0 = 1
    · rw [if_pos c1]
      by_cases c2 : s = 0 ∧ ch i = 61
      · rw [if_pos c2]
        have hst : pstep (ch i) s d w = some (1, 0, upW w 0 0) := by
          unfold pstep
          rw [if_neg (by omega), if_pos c2.2, if_pos ⟨c1.1, c2.1, c1.2⟩]
        refine Or.inr ⟨((1, 0, upW w 0 0), wr τ 86 0 (nI 0)), ?_, hrun _ _ _ hst, p2.step hst, p3.up (d' := 0) (Or.inl (by omega)), fun m' hm' => by show wr τ 86 0 (nI 0) m' = _; rw [wr_fn hm']; exact p4 m' hm'⟩
        rw [c1.1]
      · rw [if_neg c2]
        refine Or.inl (hno ?_ _ rfl)
        unfold pstep
        have h1 := hl0 c1.1
        have h2 := c1.2
        rw [c1.1] at h1 ⊢
        by_cases c4 : ch i = 41
        · rw [if_pos c4, if_neg (by omega)]
        · rw [if_neg c4]
          by_cases c3 : ch i = 61
          · rw [if_pos c3, if_neg (by omega)]
          · rw [if_neg c3, if_neg (by omega)]
    · rw [if_neg c1]
      by_cases c2 : 0 < d ∧ w d = 2
      · rw [if_pos c2]
        have h1 := hl1 (by omega)
        by_cases c3 : ch i = 41
        · rw [if_pos c3]
          have hst : pstep (ch i) s d w = some (s, d - 1, upW w (d - 1) (w (d - 1) + 1)) := by
            unfold pstep
            rw [if_pos c3, if_pos c2]
          exact Or.inr ⟨((s, d - 1, upW w (d - 1) (w (d - 1) + 1)), wr τ 86 (d - 1) (nI (w (d - 1) + 1))), rfl, hrun _ _ _ hst, p2.step hst, p3.up (d' := d - 1) (Or.inl (by omega)), fun m' hm' => by show wr τ 86 (d - 1) _ m' = _; rw [wr_fn hm']; exact p4 m' hm'⟩
        · rw [if_neg c3]
          refine Or.inl (hno ?_ _ rfl)
          unfold pstep
          rw [if_neg c3]
          by_cases c4 : ch i = 61
          · rw [if_pos c4, if_neg (by omega)]
          · rw [if_neg c4, if_neg (by omega)]
      · rw [if_neg c2]
        have hlt : w d < lim d := by
          by_cases h0 : d = 0
          · have h1 := hl0 h0
            rw [h0] at h1 ⊢
            have : w 0 ≠ 1 := fun h => c1 ⟨h0, h⟩
            omega
          · have h1 := hl1 h0
            omega
        by_cases c4 : ch i = 40
        · rw [if_pos c4]
          have hst : pstep (ch i) s d w = some (s, d + 1, upW w (d + 1) 0) := by
            unfold pstep
            rw [if_neg (by omega), if_neg (by omega), if_pos hlt, if_pos c4]
          exact Or.inr ⟨((s, d + 1, upW w (d + 1) 0), wr τ 86 (d + 1) (nI 0)), rfl, hrun _ _ _ hst, p2.step hst, p3.up (d' := d + 1) (Or.inr ⟨rfl, rfl⟩), fun m' hm' => by show wr τ 86 (d + 1) _ m' = _; rw [wr_fn hm']; exact p4 m' hm'⟩
        · rw [if_neg c4]
          by_cases c5 : ch i = 41 ∨ ch i = 61
          · rw [if_pos c5]
            refine Or.inl (hno ?_ _ rfl)
            unfold pstep
            by_cases c6 : ch i = 41
            · rw [if_pos c6, if_neg c2]
            · rw [if_neg c6, if_pos (by omega), if_neg (fun h => c1 ⟨h.1, h.2.2⟩)]
          · rw [if_neg c5]
            have hst : pstep (ch i) s d w = some (s, d, upW w d (w d + 1)) := by
              unfold pstep
              rw [if_neg (by omega), if_neg (by omega), if_pos hlt, if_neg c4]
            exact Or.inr ⟨((s, d, upW w d (w d + 1)), wr τ 86 d (nI (w d + 1))), rfl, hrun _ _ _ hst, p2.step hst, p3.up (d' := d) (Or.inl (Nat.le_refl d)), fun m' hm' => by show wr τ 86 d _ m' = _; rw [wr_fn hm']; exact p4 m' hm'⟩
  · rintro m ⟨⟨s, d, w⟩, τ⟩ ⟨p1, p2, p3, p4⟩
    have p1 : prun ch t = some (s, d, w) := p1
    have p4 : Frx 86 σ τ := p4
    have e10 : τ 82 4 = nI t := by rw [p4 82 (by omega)]; exact h.2.1
    refine Or.inr ⟨s, d, w, τ, p1, p2, p3, p4, ?_⟩
    show f_R_faultOf_L13 kA kA kA kB (m + 1) (nI s) (nI d) (nI t) τ = _
    rw [f_R_faultOf_L13.eq_2]
    rw [e10, if_neg (nI_nlt (Nat.le_refl _) (by omega))]
  · have he : e ≤ 0 := he
    rw [show e = 0 by omega]
    exact (wr_at : wr σ 86 0 (nI 0) 86 0 = nI 0)
theorem rfault_ok {σ : St} {t : Nat} {ch : Nat → Nat} (h : MC σ t ch) : ∃ v σ', f_R_faultOf σ = some (v, σ') ∧ PF t ch v ∧ Frx 86 σ σ' := by
  have ht := h.1
  unfold f_R_faultOf
  rw [show (0 : Int32) = nI 0 from rfl, ast_nI (by omega) (by decide)]
  rcases rfault_L h (fun (v3_18 : Int32) (σ_19 : St) => some (v3_18, σ_19)) (fun (v1_23 : Int32) (v2_24 : Int32) (σ_25 : St) => jn (some ((σ_25 82 4), σ_25)) fun j181_26 => if v1_23 = nI 0 then j181_26 else if v2_24 = nI 0 then ald σ_25 86 42 (nI 0) fun r_27 => if r_27 = 1 then some ((-1), σ_25) else j181_26 else j181_26) with ⟨i, s, d, w, τ, a1, a2, a3, a4, a5⟩ | ⟨s, d, w, τ, p1, p2, p3, p4, p5⟩
  · exact ⟨nI i, τ, a5, Or.inl ⟨i, s, d, w, a1, a2, a3, rfl⟩, a4⟩
  · have hl := lim_le d
    have hdi := p2.2.1
    have hwd := p2.2.2.2
    have hs1 := p2.1
    have e10 : τ 82 4 = nI t := by rw [p4 82 (by omega)]; exact h.2.1
    refine ⟨if s = 1 ∧ d = 0 ∧ w 0 = 1 then -1 else nI t, τ, p5.trans ?_, Or.inr ⟨s, d, w, p1, rfl⟩, p4⟩
    rw [e10, jn_eq]
    by_cases c1 : s = 0
    · rw [if_pos (by rw [c1]), if_neg (by omega)]
    · rw [if_neg (by rw [eq_nI (by omega) (by omega)]; exact c1)]
      by_cases c2 : d = 0
      · subst c2
        rw [if_pos rfl, ald_nI (by omega) (by decide), p3 0 (Nat.le_refl _)]
        by_cases c3 : w 0 = 1
        · rw [if_pos (by rw [c3]; rfl), if_pos ⟨by omega, rfl, c3⟩]
        · rw [if_neg (by rw [show (1 : Int32) = nI 1 from rfl, eq_nI (by omega) (by omega)]; exact c3), if_neg (by omega)]
      · rw [if_neg (by rw [eq_nI (by omega) (by omega)]; exact c2), if_neg (by omega)]
theorem ok_fault : Ok_fault Inv := by
  rintro σ ⟨M, N, B, t, ch, cw, mw, ct, mc, mt, ca⟩
  obtain ⟨v, σ', e, hP, f⟩ := cfault_ok ct
  have fc : FrC σ σ' := fun m hm => f m (by unfold scr at hm; omega)
  have h82 : ∀ m, 82 ≤ m → σ' m = σ m := fun m hm => f m (by omega)
  have mc' : MC (wr σ' 82 0 0) t ch := ⟨mc.1, by rw [wr_get, if_neg (by omega), h82 82 (by omega)]; exact mc.2.1, fun i hi => by rw [wr_fn (by omega), h82 85 (by omega)]; exact mc.2.2.1 i hi, mc.2.2.2⟩
  obtain ⟨v', τ, e2, hP2, f2⟩ := rfault_ok mc'
  have hv := hP.uniq hP2
  subst hv
  have mw' : MW (wr σ' 82 0 0) M N B := by
    obtain ⟨h1, h2, h3, h4⟩ := mw
    exact ⟨h1, by rw [wr_get, if_neg (by omega), h82 82 (by omega)]; exact h2, fun j hj => by rw [wr_fn (by omega), h82 83 (by omega)]; exact h3 j hj, fun j r c a b d => by rw [wr_fn (by omega), h82 84 (by omega)]; exact h4 j r c a b d⟩
  have ca' : CA (wr σ' 82 0 0) := ca.fr (by rw [wr_get, if_neg (by omega), h82 82 (by omega)]) (by rw [wr_get, if_neg (by omega), h82 82 (by omega)]) (by rw [wr_fn (by omega), h82 89 (by omega)])
  have hk : FrK (wr σ' 82 0 0) τ := ⟨fun m hm => f2 m (by omega), fun s _ => by rw [f2 82 (by omega)]⟩
  have hlow : ∀ m, m < 82 → τ m = σ' m := fun m hm => by rw [f2 m (by omega), wr_fn (by omega)]
  refine ⟨v, v, σ', τ, ?_, ?_, rfl, M, N, B, t, ch, ?_, mw'.k hk, ?_, mc'.fr hk.m, ?_, hk.ca ca'⟩
  · unfold f_Q_fault
    rw [e]; rfl
  · unfold f_R_fault
    rw [sto_eq, e2]; rfl
  · obtain ⟨h1, h2, h3⟩ := cw.fr fc
    exact ⟨h1, by rw [hlow 0 (by omega)]; exact h2, fun j hj => (h3 j hj).frame (fun m a b => hlow m (by unfold gid at b; omega))⟩
  · obtain ⟨h1, h2, h3, h4⟩ := ct.fr fc
    exact ⟨h1, by rw [hlow 10 (by omega)]; exact h2, fun i hi => by rw [hlow 11 (by omega)]; exact h3 i hi, h4⟩
  · intro m hm
    rw [hlow 7 (by omega), hlow 8 (by omega)]
    exact mt.fr fc m hm
