/-! closed sets -/
def prd (n : Nat) (S : Nat → Nat → Nat) (p : Nat → Bool) (s : Nat) : Prop := ∃ a, a < n ∧ ∃ b, b < n ∧ p a = true ∧ p b = true ∧ s = S a b
noncomputable def cl (n : Nat) (S : Nat → Nat → Nat) (p : Nat → Bool) : Nat → Bool := fun s => p s || dB (prd n S p s)
theorem or_oneB {i : Nat} (hi : i < 5) (p : Nat → Bool) : sI p ||| (1 <<< (nI i &&& 31)) = sI (fun s => p s || dB (s = i)) := by
  rw [sI_one hi, sI_or]; apply sI_cong; intro s hs; congr 1; apply b_dB; simp
section CS
variable {σ : St} {k n : Nat} {B : Nat → Nat → Nat}
theorem prod15 (h : GOK σ k n B) (hs : SQ n B) {p : Nat → Bool} {a : Nat} (ha : a < n) (q : Nat → Bool) (K : Int32 → Option Int32) : f_Laws_productsOf_L15 k (sI p) (nI a) σ K FU (sI q) 0 = K (sI (fun s => q s || dB (∃ b, b < n ∧ p a = true ∧ p b = true ∧ s = sg B a b))) := by
  have hn := h.le; have ho := h.ord
  refine loop_or (fun m i q => f_Laws_productsOf_L15 k (sI p) (nI a) σ K m (sI q) (nI i)) n (fun b s => p a = true ∧ p b = true ∧ s = sg B a b) (fun q => K (sI q)) (by omega) q ?_ ?_
  · intro m i q hi
    show f_Laws_productsOf_L15 k (sI p) (nI a) σ K (m + 1) (sI q) (nI i) = _
    rw [f_Laws_productsOf_L15.eq_2]
    rw [ho, if_pos (nI_lt hi (by omega)), isIn_sI p (by omega), isIn_sI p (by omega), sq_sign h hs ha hi]
    simp only [cap_some, jn_eq, lt1_eq, nI_1]
    have l := hs.lt ha hi
    cases h1 : p a
    · rw [if_pos (by rfl)]; congr 1; apply sI_cong; intro s _; rw [dB_f (fun h => by cases h.1), Bool.or_false]
    · cases h2 : p i
      · rw [if_neg (by decide), if_pos (by rfl)]; congr 1; apply sI_cong; intro s _; rw [dB_f (fun h => by cases h.2.1), Bool.or_false]
      · rw [if_neg (by decide), if_neg (by decide), or_oneB (by omega)]; congr 1; apply sI_cong; intro s _; congr 1; apply dB_cong; simp
  · intro m q
    show f_Laws_productsOf_L15 k (sI p) (nI a) σ K (m + 1) (sI q) (nI n) = _
    rw [f_Laws_productsOf_L15.eq_2]
    rw [ho, if_neg (nI_nlt (Nat.le_refl _) (by omega))]
theorem prod_ok (h : GOK σ k n B) (hs : SQ n B) (p : Nat → Bool) : f_Laws_productsOf σ k (sI p) = some (sI (fun s => dB (prd n (sg B) p s))) := by
  have hn := h.le; have ho := h.ord
  unfold f_Laws_productsOf
  refine (loop_or (fun m i q => f_Laws_productsOf_L4 k (sI p) σ (fun v => some v) m (sI q) (nI i)) n (fun a s => ∃ b, b < n ∧ p a = true ∧ p b = true ∧ s = sg B a b) (fun q => some (sI q)) (by omega) (fun _ => false) ?_ ?_).trans ?_
  · intro m i q hi
    show f_Laws_productsOf_L4 k (sI p) σ _ (m + 1) (sI q) (nI i) = _
    rw [f_Laws_productsOf_L4.eq_2]
    rw [ho, if_pos (nI_lt hi (by omega)), prod15 h hs hi, nI_1]
  · intro m q
    show f_Laws_productsOf_L4 k (sI p) σ _ (m + 1) (sI q) (nI n) = _
    rw [f_Laws_productsOf_L4.eq_2]
    rw [ho, if_neg (nI_nlt (Nat.le_refl _) (by omega))]
  · congr 1
noncomputable def itc (n : Nat) (S : Nat → Nat → Nat) : Nat → (Nat → Bool) → Nat → Bool
  | 0, p => p
  | i + 1, p => cl n S (itc n S i p)
theorem closedFrom_ok (h : GOK σ k n B) (hs : SQ n B) (p : Nat → Bool) : f_Laws_closedFrom σ k (sI p) = some (sI (itc n (sg B) n p)) := by
  have hn := h.le; have ho := h.ord
  unfold f_Laws_closedFrom
  obtain ⟨q, e1, e2⟩ := loop_acc (fun m i (q : Nat → Bool) => f_Laws_closedFrom_L4 k σ (fun v => some v) m (sI q) (nI i)) n (fun i q => cl n (sg B) q) (fun q => some (sI q)) (fun i q => q = itc n (sg B) i p) (by omega) p rfl (by
    intro m i q hi _
    show f_Laws_closedFrom_L4 k σ _ (m + 1) (sI q) (nI i) = _
    rw [f_Laws_closedFrom_L4.eq_2]
    rw [ho, if_pos (nI_lt hi (by omega)), prod_ok h hs, cap_some, sI_or, nI_1]
    rfl) (by
    intro i q hi e
    rw [e]
    rfl) (by
    intro m q _
    show f_Laws_closedFrom_L4 k σ _ (m + 1) (sI q) (nI n) = _
    rw [f_Laws_closedFrom_L4.eq_2]
    rw [ho, if_neg (nI_nlt (Nat.le_refl _) (by omega))])
  rw [← e1]
  exact e2
end CS
section CR
variable {σ : St} {M : Nat} {N : Nat → Nat} {B : Nat → Nat → Nat → Nat}
theorem rprod19 (h : MW σ M N B) {j : Nat} (hj : j < M) (hs : SQ (N j) (B j)) {p : Nat → Bool} {a : Nat} (ha : a < N j) (q : Nat → Bool) (K : Int32 → Option Int32) : f_R_products_L19 (nI j) (sI p) (nI a) σ K FU (sI q) 0 = K (sI (fun s => q s || dB (∃ b, b < N j ∧ p a = true ∧ p b = true ∧ s = sg (B j) a b))) := by
  have hM := h.le; have hn := h.n hj; have ho := h.od hj
  refine loop_or (fun m i q => f_R_products_L19 (nI j) (sI p) (nI a) σ K m (sI q) (nI i)) (N j) (fun b s => p a = true ∧ p b = true ∧ s = sg (B j) a b) (fun q => K (sI q)) (by omega) q ?_ ?_
  · intro m i q hi
    show f_R_products_L19 (nI j) (sI p) (nI a) σ K (m + 1) (sI q) (nI i) = _
    rw [f_R_products_L19.eq_2]
    rw [ald_nI (by omega) (by decide), ho, if_pos (nI_lt hi (by omega)), sq_at h hj hs ha hi]
    simp only [cap_some, jn_eq, nI_1, sI_bit p (show a < 5 by omega), sI_bit p (show i < 5 by omega)]
    have l := hs.lt ha hi
    cases h1 : p a
    · rw [if_neg (by decide), if_pos trivial, Int32.or_zero]; congr 1; apply sI_cong; intro s _; rw [dB_f (fun h => by cases h.1), Bool.or_false]
    · cases h2 : p i
      · rw [if_pos rfl, if_neg (by decide), if_pos trivial, Int32.or_zero]; congr 1; apply sI_cong; intro s _; rw [dB_f (fun h => by cases h.2.1), Bool.or_false]
      · rw [if_pos rfl, if_pos rfl, if_neg (by decide), or_oneB (by omega)]; congr 1; apply sI_cong; intro s _; congr 1; apply dB_cong; simp
  · intro m q
    show f_R_products_L19 (nI j) (sI p) (nI a) σ K (m + 1) (sI q) (nI (N j)) = _
    rw [f_R_products_L19.eq_2]
    rw [ald_nI (by omega) (by decide), ho, if_neg (nI_nlt (Nat.le_refl _) (by omega))]
theorem rprod_ok (h : MW σ M N B) {j : Nat} (hj : j < M) (hs : SQ (N j) (B j)) (p : Nat → Bool) : f_R_products σ (nI j) (sI p) = some (sI (cl (N j) (sg (B j)) p)) := by
  have hM := h.le; have hn := h.n hj; have ho := h.od hj
  unfold f_R_products
  refine (loop_or (fun m i q => f_R_products_L5 (nI j) (sI p) σ (fun v => some v) m (sI q) (nI i)) (N j) (fun a s => ∃ b, b < N j ∧ p a = true ∧ p b = true ∧ s = sg (B j) a b) (fun q => some (sI q)) (by omega) p ?_ ?_).trans ?_
  · intro m i q hi
    show f_R_products_L5 (nI j) (sI p) σ _ (m + 1) (sI q) (nI i) = _
    rw [f_R_products_L5.eq_2]
    rw [ald_nI (by omega) (by decide), ho, if_pos (nI_lt hi (by omega)), rprod19 h hj hs hi, nI_1]
  · intro m q
    show f_R_products_L5 (nI j) (sI p) σ _ (m + 1) (sI q) (nI (N j)) = _
    rw [f_R_products_L5.eq_2]
    rw [ald_nI (by omega) (by decide), ho, if_neg (nI_nlt (Nat.le_refl _) (by omega))]
  · congr 1
end CR
theorem bits32 : ∀ v, v < 32 → nI v = sI (fun s => v.testBit s) := by decide +kernel
theorem pow32 {n : Nat} (h1 : 2 ≤ n) (h2 : n ≤ 5) : 4 ≤ 2 ^ n ∧ 2 ^ n ≤ 32 := by
  match n, h1, h2 with
  | 2, _, _ => decide
  | 3, _, _ => decide
  | 4, _, _ => decide
  | 5, _, _ => decide
theorem shl_n {n : Nat} (h1 : 2 ≤ n) (h2 : n ≤ 5) : (1 : Int32) <<< (nI n &&& 31) = nI (2 ^ n) := by
  match n, h1, h2 with
  | 2, _, _ => rfl
  | 3, _, _ => rfl
  | 4, _, _ => rfl
  | 5, _, _ => rfl
theorem all_n {n : Nat} (h1 : 2 ≤ n) (h2 : n ≤ 5) : sI (fun t => decide (t < n)) = nI (2 ^ n - 1) := by
  rw [← sI_all h2, shl_n h1 h2, show (1 : Int32) = nI 1 from rfl, nI_sub (Nat.one_le_two_pow)]
def inN (n : Nat) (p : Nat → Bool) : Prop := ∀ s, p s = true → s < n
theorem bits_in {n v : Nat} (hv : v < 2 ^ n) : inN n (fun s => v.testBit s) := by
  intro s hs
  apply Classical.byContradiction
  intro h
  have h1 : v < 2 ^ s := Nat.lt_of_lt_of_le hv (Nat.pow_le_pow_right (by omega) (by omega))
  have hs : v.testBit s = true := hs
  rw [Nat.testBit_lt_two_pow h1] at hs
  cases hs
theorem cl_in {n : Nat} {S : Nat → Nat → Nat} {p : Nat → Bool} (hS : ∀ a b, a < n → b < n → S a b < n) (hp : inN n p) : inN n (cl n S p) := by
  intro s hs
  unfold cl at hs
  rw [Bool.or_eq_true, dB_iff] at hs
  rcases hs with h | ⟨a, ha, b, hb, _, _, rfl⟩
  · exact hp s h
  · exact hS a b ha hb
theorem itc_in {n : Nat} {S : Nat → Nat → Nat} {p : Nat → Bool} (hS : ∀ a b, a < n → b < n → S a b < n) (hp : inN n p) (i : Nat) : inN n (itc n S i p) := by
  induction i with
  | zero => exact hp
  | succ i ih => exact cl_in hS ih
theorem sI_eq {n : Nat} (hn : n ≤ 5) {p q : Nat → Bool} (hp : inN n p) (hq : inN n q) : (sI p = sI q) = (p = q) := by
  apply propext
  constructor
  · intro h
    funext s
    by_cases hs : s < 5
    · exact sI_inj h s hs
    · have h1 : p s = false := Bool.eq_false_iff.mpr (fun h => by have := hp s h; omega)
      have h2 : q s = false := Bool.eq_false_iff.mpr (fun h => by have := hq s h; omega)
      rw [h1, h2]
  · rintro rfl; rfl
theorem countP_lt {p q : Nat → Bool} {n : Nat} (h : ∀ s, p s = true → q s = true) {s : Nat} (hs : s < n) (h1 : p s = false) (h2 : q s = true) : (List.range n).countP p < (List.range n).countP q := by
  induction n with
  | zero => omega
  | succ n ih =>
    rw [List.range_succ, List.countP_append, List.countP_append]
    simp only [List.countP_cons, List.countP_nil]
    by_cases e : s = n
    · subst e
      have := List.countP_mono_left (l := List.range s) (fun x _ => h x)
      rw [h1, h2]
      simp
      omega
    · have := ih (by omega)
      have h3 := h n
      cases hp : p n <;> cases hq : q n <;> simp_all <;> omega
/-- the closing ends within n steps -/
theorem itc_fix {n : Nat} {S : Nat → Nat → Nat} {p : Nat → Bool} (hS : ∀ a b, a < n → b < n → S a b < n) (hp : inN n p) : ∃ m, m ≤ n ∧ cl n S (itc n S m p) = itc n S m p ∧ ∀ i, i < m → cl n S (itc n S i p) ≠ itc n S i p := by
  have key : ∀ j, (∃ m, m < j ∧ cl n S (itc n S m p) = itc n S m p ∧ ∀ i, i < m → cl n S (itc n S i p) ≠ itc n S i p) ∨ ((∀ i, i < j → cl n S (itc n S i p) ≠ itc n S i p) ∧ j ≤ (List.range n).countP (itc n S j p)) := by
    intro j
    induction j with
    | zero => exact Or.inr ⟨fun i hi => by omega, by omega⟩
    | succ j ih =>
      rcases ih with ⟨m, h1, h2, h3⟩ | ⟨h1, h2⟩
      · exact Or.inl ⟨m, by omega, h2, h3⟩
      · by_cases hf : cl n S (itc n S j p) = itc n S j p
        · exact Or.inl ⟨j, by omega, hf, h1⟩
        · refine Or.inr ⟨fun i hi => ?_, ?_⟩
          · by_cases e : i = j
            · rw [e]; exact hf
            · exact h1 i (by omega)
          · have hex : ∃ s, itc n S j p s = false ∧ cl n S (itc n S j p) s = true := by
              apply Classical.byContradiction
              intro hne
              apply hf
              funext s
              cases e : itc n S j p s
              · cases e2 : cl n S (itc n S j p) s
                · rfl
                · exact absurd ⟨s, e, e2⟩ hne
              · unfold cl; rw [e]; rfl
            obtain ⟨s, e1, e2⟩ := hex
            have hlt := countP_lt (p := itc n S j p) (q := cl n S (itc n S j p)) (n := n) (fun s h => by unfold cl; rw [h]; rfl) (cl_in hS (itc_in hS hp j) s e2) e1 e2
            show j + 1 ≤ (List.range n).countP (cl n S (itc n S j p))
            omega
  rcases key (n + 1) with ⟨m, h1, h2, h3⟩ | ⟨h1, h2⟩
  · exact ⟨m, by omega, h2, h3⟩
  · have := List.countP_le_length (l := List.range n) (p := itc n S (n + 1) p)
    rw [List.length_range] at this
    omega
theorem itc_stay {n : Nat} {S : Nat → Nat → Nat} {p : Nat → Bool} {m : Nat} (h : cl n S (itc n S m p) = itc n S m p) : ∀ d, itc n S (m + d) p = itc n S m p
  | 0 => rfl
  | d + 1 => by
    show cl n S (itc n S (m + d) p) = _
    rw [itc_stay h d, h]
theorem rclosed47 {σ : St} {M : Nat} {N : Nat → Nat} {B : Nat → Nat → Nat → Nat} (h : MW σ M N B) {j : Nat} (hj : j < M) (hs : SQ (N j) (B j)) {p : Nat → Bool} (hp : inN (N j) p) (K : Int32 → Option (Int32 × St)) :
    f_R_closed_L47 (nI j) σ K FU (sI p) = K (sI (itc (N j) (sg (B j)) (N j) p)) := by
  have hn := h.n hj
  have hS : ∀ a b, a < N j → b < N j → sg (B j) a b < N j := fun a b ha hb => hs.lt ha hb
  obtain ⟨m, h1, h2, h3⟩ := itc_fix hS hp
  have e : itc (N j) (sg (B j)) (N j) p = itc (N j) (sg (B j)) m p := by
    have := itc_stay h2 (N j - m)
    rwa [show m + (N j - m) = N j by omega] at this
  rw [e]
  refine loopE (fun f i (_ : Unit) => f_R_closed_L47 (nI j) σ K f (sI (itc (N j) (sg (B j)) i p))) m (fun _ _ => True) (fun R => R = K (sI (itc (N j) (sg (B j)) m p))) ?_ ?_ FU 0 () (by omega) (FU_gt (by omega)) trivial
  · intro f i _ hi _
    refine Or.inr ⟨(), ?_, trivial⟩
    show f_R_closed_L47 (nI j) σ K (f + 1) (sI (itc (N j) (sg (B j)) i p)) = _
    rw [f_R_closed_L47.eq_2]
    rw [rprod_ok h hj hs]
    simp only [cap_some]
    rw [if_neg]
    · rfl
    · rw [sI_eq hn.2 (cl_in hS (itc_in hS hp i)) (itc_in hS hp i)]
      exact h3 i hi
  · intro f _ _
    show f_R_closed_L47 (nI j) σ K (f + 1) (sI (itc (N j) (sg (B j)) m p)) = _
    rw [f_R_closed_L47.eq_2]
    rw [rprod_ok h hj hs]
    simp only [cap_some]
    rw [if_pos]
    rw [h2]
theorem ok_closed : Ok_closed Inv := by
  intro σ hI p0 p1
  refine op_rd hI (Q := fun σ => f_Q_closed σ p0 p1) (R := fun σ => f_R_closed σ p0 p1) (fun M N B cw mt ct => ?_)
  rcases g_cases M cw.le p0 with ⟨j, hj, rfl⟩ | hx
  · have hG := cw.g hj
    have hn := hG.le
    have hp2 := pow32 hn.1 hn.2
    have q0 : ∀ τ : St, GOK τ (gid j) (N j) (B j) → f_Grid_allSigns τ (gid j) = some (nI (2 ^ N j - 1)) := fun τ hG => by rw [all_ok hG, all_n hn.1 hn.2]
    have r0 : ∀ σ1 : St, MW σ1 M N B → f_R_closed σ1 (nI j) p1 = cal (f_R_canAskWith σ1 (nI j) (bI (btw p1 1 (nI (2 ^ N j - 1))))) fun r_6 σ_7 => if r_6 = 0 then some (0, σ_7) else f_R_closed_L47 (nI j) σ_7 (fun v4_12 => some (v4_12, σ_7)) FU p1 := by
      intro σ1 mw
      have hM := mw.le
      unfold f_R_closed
      rw [rgrid_in mw hj]
      simp only [cap_some, jn_eq]
      rw [if_neg (by decide), ald_nI (by omega) (by decide), mw.od hj, shl_n hn.1 hn.2, show nI (2 ^ N j) - 1 = nI (2 ^ N j - 1) from nI_sub (b := 1) (by omega), rbtw]
      simp only [cap_some]
      cases btw p1 1 (nI (2 ^ N j - 1)) <;> rfl
    cases hy : btw p1 1 (nI (2 ^ N j - 1))
    · refine rd_err 2 2 (σ' := σ) ?_ (FrC.refl σ) (by decide) (fun σ1 mw _ => ?_)
      · show f_Q_closed σ (nI j) p1 = _
        unfold f_Q_closed
        rw [gridAt_in cw hj, cax_ok, q0 σ hG, cap_some, isFrom_ok, hy]
        rfl
      · obtain ⟨τ, e, k, h0⟩ := askw_in mw hj false
        refine ⟨0, τ, ?_, k, h0⟩
        show f_R_closed σ1 (nI j) p1 = _
        rw [r0 σ1 mw, hy, e]
        rfl
    · obtain ⟨a, ha1, ha, rfl⟩ := (btw_iff (a := 1) (by omega) (by omega)).mp hy
      have hb := bits32 a (by omega)
      have hin : inN (N j) (fun s => a.testBit s) := bits_in (by omega)
      cases hf : full (N j) (B j)
      · refine rd_err 3 3 (σ' := σ) ?_ (FrC.refl σ) (by decide) (fun σ1 mw _ => ?_)
        · show f_Q_closed σ (nI j) (nI a) = _
          unfold f_Q_closed
          rw [gridAt_in cw hj, cax_ok, q0 σ hG, cap_some, isFrom_ok, hy]
          simp only [cap_some]
          rw [nar true, if_pos rfl, cax_ok, sq_ok hG, hf]
          rfl
        · obtain ⟨τ, e, k, h0⟩ := askw_in mw hj true
          rw [hf] at e h0
          refine ⟨0, τ, ?_, k, h0⟩
          show f_R_closed σ1 (nI j) (nI a) = _
          rw [r0 σ1 mw, hy, e]
          rfl
      · have hs := full_sq hG.1 hf
        refine rd_k (sI (itc (N j) (sg (B j)) (N j) (fun s => a.testBit s))) (σ' := σ) ?_ (FrC.refl σ) (fun σ1 mw => ?_)
        · show f_Q_closed σ (nI j) (nI a) = _
          unfold f_Q_closed
          rw [gridAt_in cw hj, cax_ok, q0 σ hG, cap_some, isFrom_ok, hy]
          simp only [cap_some]
          rw [nar true, if_pos rfl, cax_ok, sq_ok hG, hf]
          simp only [cap_some]
          rw [nst true, if_pos rfl, cax_ok, hb, closedFrom_ok hG hs]
          rfl
        · obtain ⟨τ, e, k, h0⟩ := askw_in mw hj true
          rw [hf] at e h0
          refine ⟨τ, ?_, k, h0⟩
          show f_R_closed σ1 (nI j) (nI a) = _
          rw [r0 σ1 mw, hy, e]
          simp only [cal_some]
          rw [if_neg (by decide), hb, rclosed47 (mw.k k) hj hs hin]
  · refine rd_err 1 1 (σ' := σ) ?_ (FrC.refl σ) (by decide) (fun σ1 mw _ => ?_)
    · show f_Q_closed σ _ _ = _
      unfold f_Q_closed
      rw [gridAt_out cw hx, cax_er]
    · obtain ⟨τ, e, k, h0⟩ := askw_out (v := 0) mw hx
      refine ⟨0, τ, ?_, k, h0⟩
      show f_R_closed σ1 _ _ = _
      unfold f_R_closed
      rw [rgrid_out mw hx]
      show cal (f_R_canAskWith σ1 p0 0) _ = _
      rw [e]
      rfl
