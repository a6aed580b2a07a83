/-! turned from whole: 87.turn -/
def itr (f : Nat → Nat) (c0 : Nat) : Nat → Nat
  | 0 => c0
  | i + 1 => f (itr f c0 i)
theorem least (P : Nat → Prop) : ∀ m, (∃ d, 1 ≤ d ∧ d ≤ m ∧ P d) → ∃ p, 1 ≤ p ∧ p ≤ m ∧ P p ∧ ∀ d, 1 ≤ d → d < p → ¬ P d := by
  intro m
  induction m with
  | zero => rintro ⟨d, h1, h2, _⟩; omega
  | succ m ih =>
    rintro ⟨d, h1, h2, h3⟩
    by_cases h : ∃ d, 1 ≤ d ∧ d ≤ m ∧ P d
    · obtain ⟨p, a, b, c, e⟩ := ih h
      exact ⟨p, a, by omega, c, e⟩
    · have hd : d = m + 1 := by
        rcases Nat.lt_or_ge m d with h4 | h4
        · omega
        · exact absurd ⟨d, h1, h4, h3⟩ h
      subst hd
      exact ⟨m + 1, h1, Nat.le_refl _, h3, fun d' a b hp => h ⟨d', a, by omega, hp⟩⟩
theorem itr_lt {n : Nat} {f : Nat → Nat} (hf : ∀ c, c < n → f c < n) {c0 : Nat} (hc : c0 < n) : ∀ i, itr f c0 i < n
  | 0 => hc
  | i + 1 => hf _ (itr_lt hf hc i)
theorem cyc {n : Nat} {f : Nat → Nat} (hf : ∀ c, c < n → f c < n) (inj : ∀ c c', c < n → c' < n → f c = f c' → c = c') {c0 : Nat} (hc : c0 < n) : ∃ p, 1 ≤ p ∧ p ≤ n ∧ itr f c0 p = c0 ∧ ∀ i j, i < p → j < p → itr f c0 i = itr f c0 j → i = j := by
  have hlt := itr_lt hf hc
  have back : ∀ i d, itr f c0 (i + d) = itr f c0 i → itr f c0 d = c0 := by
    intro i
    induction i with
    | zero => intro d h; rw [Nat.zero_add] at h; exact h
    | succ i ih =>
      intro d h
      refine ih d (inj _ _ (hlt _) (hlt _) ?_)
      rw [show i + 1 + d = (i + d) + 1 by omega] at h
      exact h
  have hex : ∃ d, 1 ≤ d ∧ d ≤ n ∧ itr f c0 d = c0 := by
    apply Classical.byContradiction
    intro hno
    have hnd : ((List.range (n + 1)).map (itr f c0)).Nodup := by
      rw [List.Nodup, List.pairwise_map]
      refine List.Pairwise.imp_of_mem ?_ (List.pairwise_lt_range (n := n + 1))
      intro a b ha hb hab e
      have hb := List.mem_range.mp hb
      refine hno ⟨b - a, by omega, by omega, back a (b - a) ?_⟩
      rw [show a + (b - a) = b by omega, e]
    have := len_sub _ (List.range n) hnd (fun x hx => by
      obtain ⟨i, _, e⟩ := List.mem_map.mp hx
      rw [← e]; exact List.mem_range.mpr (hlt i))
    simp at this
    omega
  obtain ⟨p, h1, h2, h3, h4⟩ := least _ n hex
  refine ⟨p, h1, h2, h3, fun i j hi hj e => ?_⟩
  rcases Nat.lt_trichotomy i j with h | h | h
  · exact absurd (back i (j - i) (by rw [show i + (j - i) = j by omega, e])) (h4 (j - i) (by omega) (by omega))
  · exact h
  · exact absurd (back j (i - j) (by rw [show j + (i - j) = i by omega, e])) (h4 (i - j) (by omega) (by omega))
def FRo (n : Nat) (B : Bd) (r : Nat) : Prop := ∀ c, c < n → B r c ≠ 0
theorem row_sur2 {n : Nat} {B : Bd} (hw : Wf n B) {r : Nat} (hf : FRo n B r) {v : Nat} (hv : 1 ≤ v) (hv2 : v ≤ n) : ∃ c, c < n ∧ B r c = v := by
  apply Classical.byContradiction
  intro hno
  have h1 : ((List.range n).map (fun c => B r c - 1)).Nodup := by
    rw [List.Nodup, List.pairwise_map]
    refine List.Pairwise.imp_of_mem ?_ (List.nodup_range (n := n))
    intro a b ha hb hab e
    have := hf a (List.mem_range.mp ha)
    have := hf b (List.mem_range.mp hb)
    exact hab (hw.2.2.2.1 r a b (by omega) (by omega))
  have h2 : ((v - 1) :: (List.range n).map (fun c => B r c - 1)).Nodup := by
    refine List.nodup_cons.mpr ⟨fun hm => ?_, h1⟩
    obtain ⟨c, hc, e⟩ := List.mem_map.mp hm
    have := hf c (List.mem_range.mp hc)
    exact hno ⟨c, List.mem_range.mp hc, by omega⟩
  have h3 := len_sub _ (List.range n) h2 (fun x hx => by
    rcases List.mem_cons.mp hx with e | hm
    · rw [e]; exact List.mem_range.mpr (by omega)
    · obtain ⟨c, hc, e⟩ := List.mem_map.mp hm
      have := hf c (List.mem_range.mp hc)
      have := hw.bn r c
      rw [← e]; exact List.mem_range.mpr (by omega))
  simp at h3
  omega
theorem full_has {n : Nat} {B : Bd} (hw : Wf n B) {r : Nat} (hf : FRo n B r) (s : Nat) : rowHas B r s = decide (s < n) := by
  have hn := hw.2.1
  rw [Bool.eq_iff_iff, rowHas_iff, decide_eq_true_iff]
  constructor
  · rintro ⟨c, hc, e⟩
    have := hw.bn r c
    omega
  · intro hs
    obtain ⟨c, hc, e⟩ := row_sur2 hw hf (v := s + 1) (by omega) (by omega)
    exact ⟨c, by omega, e⟩
theorem has_full {n : Nat} {B : Bd} (hw : Wf n B) {r : Nat} (h : ∀ s, s < n → rowHas B r s = true) : FRo n B r := by
  intro c0 hc0 h0
  have hex : ∀ s, ∃ c, s < n → c < n ∧ B r c = s + 1 := by
    intro s
    by_cases hs : s < n
    · obtain ⟨c, _, e⟩ := rowHas_iff.mp (h s hs)
      exact ⟨c, fun _ => ⟨(hw.2.2.1 r c (by omega)).2.1, e⟩⟩
    · exact ⟨0, fun h => absurd h hs⟩
  obtain ⟨g, hg⟩ := Classical.axiomOfChoice hex
  have h1 : ((List.range n).map g).Nodup := by
    rw [List.Nodup, List.pairwise_map]
    refine List.Pairwise.imp_of_mem ?_ (List.nodup_range (n := n))
    intro a b ha hb hab e
    have h1 := (hg a (List.mem_range.mp ha)).2
    have h2 := (hg b (List.mem_range.mp hb)).2
    rw [e] at h1
    omega
  have h2 : (c0 :: (List.range n).map g).Nodup := by
    refine List.nodup_cons.mpr ⟨fun hm => ?_, h1⟩
    obtain ⟨s, hs, e⟩ := List.mem_map.mp hm
    have := (hg s (List.mem_range.mp hs)).2
    rw [e, h0] at this; omega
  have h3 := len_sub _ (List.range n) h2 (fun x hx => by
    rcases List.mem_cons.mp hx with e | hm
    · rw [e]; exact List.mem_range.mpr hc0
    · obtain ⟨s, hs, e⟩ := List.mem_map.mp hm
      rw [← e]; exact List.mem_range.mpr (hg s (List.mem_range.mp hs)).1)
  simp at h3
  omega
theorem rowFull_ok {σ : St} {k n : Nat} {B : Bd} (h : GOK σ k n B) {r : Nat} (hr : r < n) : f_Grid_isRowFull σ k (nI r) = some (bI (dB (FRo n B r))) := by
  have hn := h.le
  unfold f_Grid_isRowFull
  rw [line_in h hr, cap_some, jn_eq, if_neg (by decide), ald_nI (by omega) (by decide), h.row (by omega), all_ok h, cap_some]
  by_cases hf : FRo n B r
  · rw [if_pos (sI_cong (fun s _ => full_has h.1 hf s)), dB_t hf]; rfl
  · rw [if_neg, dB_f hf]
    · rfl
    · intro e
      refine hf (has_full h.1 (fun s hs => ?_))
      rw [sI_inj e s (by omega)]
      exact decide_eq_true hs
def swp (r1 r2 r : Nat) : Nat := if r = r1 then r2 else if r = r2 then r1 else r
theorem swp_1 {r1 r2 : Nat} : swp r1 r2 r1 = r2 := by unfold swp; rw [if_pos rfl]
theorem swp_2 {r1 r2 : Nat} : swp r1 r2 r2 = r1 := by
  unfold swp
  by_cases h : r2 = r1
  · rw [if_pos h, h]
  · rw [if_neg h, if_pos rfl]
theorem swp_o {r1 r2 r : Nat} (h1 : r ≠ r1) (h2 : r ≠ r2) : swp r1 r2 r = r := by unfold swp; rw [if_neg h1, if_neg h2]
theorem swp_swp {r1 r2 r : Nat} : swp r1 r2 (swp r1 r2 r) = r := by
  by_cases h1 : r = r1
  · rw [h1, swp_1, swp_2]
  · by_cases h2 : r = r2
    · rw [h2, swp_2, swp_1]
    · rw [swp_o h1 h2, swp_o h1 h2]
theorem swp_lt {r1 r2 r n : Nat} (h1 : r1 < n) (h2 : r2 < n) (h : r < n) : swp r1 r2 r < n := by
  unfold swp; split
  · exact h2
  · split
    · exact h1
    · exact h
def EX (S : Nat → Bool) (r1 r2 : Nat) (B : Bd) : Bd := fun r c => if S c = true then B (swp r1 r2 r) c else B r c
theorem EX_t {S : Nat → Bool} {r1 r2 : Nat} {B : Bd} {r c : Nat} (h : S c = true) : EX S r1 r2 B r c = B (swp r1 r2 r) c := by unfold EX; rw [if_pos h]
theorem EX_f {S : Nat → Bool} {r1 r2 : Nat} {B : Bd} {r c : Nat} (h : S c = false) : EX S r1 r2 B r c = B r c := by unfold EX; rw [if_neg (by rw [h]; decide)]
section TU
variable {n r1 r2 : Nat} {B : Bd} {S : Nat → Bool}
theorem EX_nz (hw : Wf n B) (hr1 : r1 < n) (hr2 : r2 < n) (f1 : FRo n B r1) (f2 : FRo n B r2) (r c : Nat) : EX S r1 r2 B r c ≠ 0 ↔ B r c ≠ 0 := by
  cases hS : S c
  · rw [EX_f hS]
  · rw [EX_t hS]
    by_cases h1 : r = r1
    · subst h1
      rw [swp_1]
      constructor
      · intro h; exact f1 c (hw.2.2.1 _ _ h).2.1
      · intro h; exact f2 c (hw.2.2.1 _ _ h).2.1
    · by_cases h2 : r = r2
      · subst h2
        rw [swp_2]
        constructor
        · intro h; exact f2 c (hw.2.2.1 _ _ h).2.1
        · intro h; exact f1 c (hw.2.2.1 _ _ h).2.1
      · rw [swp_o h1 h2]
theorem EX_wf (hw : Wf n B) (hr1 : r1 < n) (hr2 : r2 < n) (f1 : FRo n B r1) (f2 : FRo n B r2) (hcl : ∀ c c', c < n → c' < n → B r1 c' = B r2 c → S c' = S c) : Wf n (EX S r1 r2 B) := by
  have hcol : ∀ r c, EX S r1 r2 B r c = B (if S c = true then swp r1 r2 r else r) c := by
    intro r c; unfold EX; split <;> rfl
  refine ⟨hw.1, hw.2.1, fun r c h => ?_, fun r c c' h he => ?_, fun r r' c h he => ?_⟩
  · have h1 := (EX_nz hw hr1 hr2 f1 f2 r c).mp h
    have h2 := hw.2.2.1 r c h1
    refine ⟨h2.1, h2.2.1, ?_⟩
    rw [hcol]; exact hw.bn _ _
  · have h1 := (hw.2.2.1 r c ((EX_nz hw hr1 hr2 f1 f2 r c).mp h)).2.1
    have h2 := (hw.2.2.1 r c' ((EX_nz hw hr1 hr2 f1 f2 r c').mp (by rw [← he]; exact h))).2.1
    by_cases hS : S c = S c'
    · rw [hcol] at h he
      rw [hcol, ← hS] at he
      exact hw.2.2.2.1 _ c c' h he
    · exfalso
      rw [hcol, hcol] at he
      have h0 := h
      rw [hcol] at h0
      by_cases e1 : r = r1
      · subst e1
        cases hc : S c <;> cases hc' : S c' <;> rw [hc, hc'] at he hS <;> simp [swp_1] at he hS
        · have := hcl c' c h2 h1 he
          rw [hc, hc'] at this; cases this
        · have := hcl c c' h1 h2 he.symm
          rw [hc, hc'] at this; cases this
      · by_cases e2 : r = r2
        · subst e2
          cases hc : S c <;> cases hc' : S c' <;> rw [hc, hc'] at he hS <;> simp [swp_2] at he hS
          · have := hcl c c' h1 h2 he.symm
            rw [hc, hc'] at this; cases this
          · have := hcl c' c h2 h1 he
            rw [hc, hc'] at this; cases this
        · have h3 := swp_o e1 e2
          have e3 : (if S c = true then swp r1 r2 r else r) = r := by rw [h3, ite_self]
          have e4 : (if S c' = true then swp r1 r2 r else r) = r := by rw [h3, ite_self]
          rw [e3] at h0
          rw [e3, e4] at he
          have := hw.2.2.2.1 r c c' h0 he
          exact hS (by rw [this])
  · rw [hcol] at h
    rw [hcol, hcol] at he
    have h1 := hw.2.2.2.2 _ _ c h he
    cases hS : S c
    · rw [hS] at h1; exact h1
    · rw [hS, if_pos rfl, if_pos rfl] at h1
      have := congrArg (swp r1 r2) h1
      rwa [swp_swp, swp_swp] at this
end TU
