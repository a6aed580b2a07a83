/-! mates, the class -/
def clB (X : Bd) (x : Nat) : Nat := X (x / 5) (x % 5)
def ltC (X Y : Bd) : Prop := ∃ x, x < 25 ∧ (∀ y, y < x → clB X y = clB Y y) ∧ clB X x < clB Y x
theorem ltC_irr {X : Bd} : ¬ ltC X X := fun ⟨x, _, _, h⟩ => Nat.lt_irrefl _ h
theorem ltC_tr {X Y Z : Bd} (h1 : ltC X Y) (h2 : ltC Y Z) : ltC X Z := by
  obtain ⟨x, hx, a1, a2⟩ := h1
  obtain ⟨y, hy, b1, b2⟩ := h2
  rcases Nat.lt_trichotomy x y with h | h | h
  · exact ⟨x, hx, fun z hz => by rw [a1 z hz, b1 z (by omega)], by rw [← b1 x h]; exact a2⟩
  · subst h
    exact ⟨x, hx, fun z hz => by rw [a1 z hz, b1 z hz], Nat.lt_trans a2 b2⟩
  · exact ⟨y, hy, fun z hz => by rw [a1 z (by omega), b1 z hz], by rw [a1 y h]; exact b2⟩
def LOW (P : List Bd) (m : Bd) : Prop := m ∈ P ∧ ∀ X, X ∈ P → ¬ ltC X m
theorem LOW_one {X : Bd} : LOW [X] X := ⟨List.mem_singleton.mpr rfl, fun Y hY => by rw [List.mem_singleton.mp hY]; exact ltC_irr⟩
theorem LOW_keep {P : List Bd} {m X : Bd} (h : LOW P m) (hx : ¬ ltC X m) : LOW (P ++ [X]) m := by
  refine ⟨List.mem_append_left _ h.1, fun Y hY => ?_⟩
  rcases List.mem_append.mp hY with h1 | h1
  · exact h.2 Y h1
  · rw [List.mem_singleton.mp h1]; exact hx
theorem LOW_new {P : List Bd} {m X : Bd} (h : LOW P m) (hx : ltC X m) : LOW (P ++ [X]) X := by
  refine ⟨List.mem_append_right _ (List.mem_singleton.mpr rfl), fun Y hY => ?_⟩
  rcases List.mem_append.mp hY with h1 | h1
  · exact fun h2 => h.2 Y h1 (ltC_tr h2 hx)
  · rw [List.mem_singleton.mp h1]; exact ltC_irr
theorem ce_ltb : ∀ a, a < 6 → ∀ b, b < 6 → ((ce a < ce b) ↔ a < b) := by decide
section MC1
variable {σ : St} {k l n : Nat} {X Y : Bd}
theorem lower_ok (hX : GOK σ k n X) (hY : GOK σ l n Y) : f_Grid_isLowerThan σ k l = some (bI (dB (ltC X Y))) := by
  have cX : ∀ x, x < 25 → σ (k + 1) x = ce (clB X x) ∧ clB X x < 6 := by
    intro x hx
    have h := hX.cel (r := x / 5) (c := x % 5) (by omega) (by omega)
    rw [Nat.div_add_mod] at h
    have hb := hX.1.bd (x / 5) (x % 5)
    exact ⟨h, by unfold clB; omega⟩
  have cY : ∀ x, x < 25 → σ (l + 1) x = ce (clB Y x) ∧ clB Y x < 6 := by
    intro x hx
    have h := hY.cel (r := x / 5) (c := x % 5) (by omega) (by omega)
    rw [Nat.div_add_mod] at h
    have hb := hY.1.bd (x / 5) (x % 5)
    exact ⟨h, by unfold clB; omega⟩
  unfold f_Grid_isLowerThan
  have key : ∀ (K : Int32 → Option Int32) f i, i < 25 → f_Grid_isLowerThan_L2 k l σ K (f + 1) (nI i) = if clB X i = clB Y i then f_Grid_isLowerThan_L2 k l σ K f (nI (i + 1)) else K (nI i) := by
    intro K f i hi
    rw [f_Grid_isLowerThan_L2.eq_2]
    rw [if_pos (show nI i < 25 from nI_lt hi (by decide)), ald_nI (by omega) (by decide), ald_nI (by omega) (by decide), (cX i hi).1, (cY i hi).1, nI_1]
    have h1 := (cX i hi).2
    have h2 := (cY i hi).2
    by_cases h : clB X i = clB Y i
    · rw [if_pos (by rw [h]), if_pos h]
    · rw [if_neg (by rw [ce_inj (by omega) (by omega)]; exact h), if_neg h]
  have A := fst_loop (fun f i => f_Grid_isLowerThan_L2 k l σ (fun (v2_3 : Int32) => ald σ (k + 1) 25 v2_3 fun r_4 => ald σ (l + 1) 25 v2_3 fun r_5 => if r_4 < r_5 then some 1 else some 0) f (nI i)) 25 (fun i => clB X i ≠ clB Y i) (fun i => some (bI (dB (clB X i < clB Y i)))) (some 0) (by omega) (fun f i hi hp => by
      show f_Grid_isLowerThan_L2 k l σ _ (f + 1) (nI i) = _
      rw [key _ f i hi, if_pos (Classical.byContradiction hp)]) (fun f i hi hp => by
      show f_Grid_isLowerThan_L2 k l σ _ (f + 1) (nI i) = _
      rw [key _ f i hi, if_neg hp, ald_nI (by omega) (by decide), ald_nI (by omega) (by decide), (cX i hi).1, (cY i hi).1]
      by_cases h : clB X i < clB Y i
      · rw [if_pos ((ce_ltb _ (cX i hi).2 _ (cY i hi).2).mpr h), dB_t h]; rfl
      · rw [if_neg (fun h2 => h ((ce_ltb _ (cX i hi).2 _ (cY i hi).2).mp h2)), dB_f h]; rfl) (fun f => by
      show f_Grid_isLowerThan_L2 k l σ _ (f + 1) (nI 25) = _
      rw [f_Grid_isLowerThan_L2.eq_2]
      rw [if_neg (show ¬ nI 25 < 25 by decide)])
  rcases A with ⟨a, b⟩ | ⟨i, hi, hp, hmin, a⟩
  · refine Eq.trans a ?_
    rw [dB_f]
    · rfl
    · rintro ⟨x, hx, h1, h2⟩
      exact b x hx (by omega)
  · refine Eq.trans a ?_
    show some (bI (dB (clB X i < clB Y i))) = some (bI (dB (ltC X Y)))
    congr 2
    apply dB_cong
    constructor
    · intro h
      exact ⟨i, hi, fun y hy => Classical.byContradiction (hmin y hy), h⟩
    · rintro ⟨x, hx, h1, h2⟩
      rcases Nat.lt_trichotomy x i with h | h | h
      · exact absurd (by omega) (hmin x h)
      · rw [← h]; exact h2
      · exact absurd (h1 i h) hp
theorem Wf_sub (hw : Wf n X) (h : ∀ r c, Y r c ≠ 0 → Y r c = X r c) : Wf n Y := by
  obtain ⟨h1, h2, h3, h4, h5⟩ := hw
  refine ⟨h1, h2, fun r c h0 => ?_, fun r c c' h0 e => ?_, fun r r' c h0 e => ?_⟩
  · have e := h r c h0
    rw [e]
    exact h3 r c (by rw [← e]; exact h0)
  · have e1 := h r c h0
    have e2 := h r c' (by rw [← e]; exact h0)
    exact h4 r c c' (by rw [← e1]; exact h0) (by rw [← e1, ← e2]; exact e)
  · have e1 := h r c h0
    have e2 := h r' c (by rw [← e]; exact h0)
    exact h5 r r' c (by rw [← e1]; exact h0) (by rw [← e1, ← e2]; exact e)
theorem putM_step {r s : Nat} {q : Nat → Nat} {C : Bd} : putM (r + 1) C q s = upB (putM r C q s) r (q r) (s + 1) := by
  funext r' k
  by_cases h : r' = r ∧ k = q r
  · obtain ⟨rfl, rfl⟩ := h
    rw [upB_at]
    exact putM_at (by omega)
  · rw [upB_ne h]
    unfold putM
    by_cases h2 : r' < r ∧ k = q r'
    · rw [if_pos h2, if_pos ⟨by omega, h2.2⟩]
    · rw [if_neg h2, if_neg]
      rintro ⟨a, b⟩
      by_cases e : r' = r
      · subst e; exact h ⟨rfl, b⟩
      · exact h2 ⟨by omega, b⟩
theorem putM_0 {s : Nat} {q : Nat → Nat} {C : Bd} : putM 0 C q s = C := by
  funext r k
  exact putM_ne (fun h => by omega)
/-- what the first c chosen maps make -/
def bdM (n : Nat) (ch : Nat → Nat) : Nat → Bd
  | 0 => B0
  | c + 1 => putM n (bdM n ch c) (cp (ch c)) c
theorem bdM_congr {ch ch' : Nat → Nat} : ∀ c, (∀ i, i < c → ch i = ch' i) → bdM n ch c = bdM n ch' c := by
  intro c
  induction c with
  | zero => intro _; rfl
  | succ c ih =>
    intro h
    rw [bdM, bdM, ih (fun i hi => h i (by omega)), h c (by omega)]
end MC1
