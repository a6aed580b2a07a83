/-! distance, forced, logic -/
theorem s5_bv (a b c d e : Bool) : ((s5 a b c d e >>> (nI 0 &&& 31)) &&& 1 = bI a) ∧ ((s5 a b c d e >>> (nI 1 &&& 31)) &&& 1 = bI b) ∧ ((s5 a b c d e >>> (nI 2 &&& 31)) &&& 1 = bI c) ∧ ((s5 a b c d e >>> (nI 3 &&& 31)) &&& 1 = bI d) ∧ ((s5 a b c d e >>> (nI 4 &&& 31)) &&& 1 = bI e) := by
  revert a b c d e; decide +kernel
theorem sI_bv (p : Nat → Bool) {s : Nat} (hs : s < 5) : (sI p >>> (nI s &&& 31)) &&& 1 = bI (p s) := by
  unfold sI
  obtain ⟨h0, h1, h2, h3, h4⟩ := s5_bv (p 0) (p 1) (p 2) (p 3) (p 4)
  match s, hs with
  | 0, _ => exact h0
  | 1, _ => exact h1
  | 2, _ => exact h2
  | 3, _ => exact h3
  | 4, _ => exact h4
/-- the first i below e with p, or none -/
def Fst {α : Type} (e : Nat) (p : Nat → Prop) (R : α) (X : Nat → α) (Y : α) : Prop := (R = Y ∧ ∀ i, i < e → ¬ p i) ∨ ∃ i, i < e ∧ p i ∧ (∀ i', i' < i → ¬ p i') ∧ R = X i
theorem Fst.uniq {α β : Type} {e : Nat} {p : Nat → Prop} {R Y : α} {X : Nat → α} {R' Y' : β} {X' : Nat → β} (h : Fst e p R X Y) (h' : Fst e p R' X' Y') : (R = Y ∧ R' = Y' ∧ ∀ i, i < e → ¬ p i) ∨ ∃ i, i < e ∧ p i ∧ (∀ i', i' < i → ¬ p i') ∧ R = X i ∧ R' = X' i := by
  rcases h with ⟨a, b⟩ | ⟨i, a, b, c, d⟩
  · rcases h' with ⟨a', b'⟩ | ⟨i', a', b', c', d'⟩
    · exact Or.inl ⟨a, a', b⟩
    · exact absurd b' (b i' a')
  · rcases h' with ⟨a', b'⟩ | ⟨i', a', b', c', d'⟩
    · exact absurd b (b' i a)
    · have e : i = i' := by
        rcases Nat.lt_trichotomy i i' with h | h | h
        · exact absurd b (c' i h)
        · exact h
        · exact absurd b' (c i' h)
      subst e
      exact Or.inr ⟨i, a, b, c, d, d'⟩
theorem fst_loop {α : Type} (F : Nat → Nat → α) (e : Nat) (p : Nat → Prop) (X : Nat → α) (Y : α) (he : e < 1000000000000)
    (h1 : ∀ n i, i < e → ¬ p i → F (n + 1) i = F n (i + 1)) (h2 : ∀ n i, i < e → p i → F (n + 1) i = X i) (h3 : ∀ n, F (n + 1) e = Y) : Fst e p (F FU 0) X Y := by
  rcases loop_find F e (fun i => ¬ p i) X Y he h1 (fun n i hi hp => h2 n i hi (Classical.byContradiction hp)) h3 with ⟨a, b⟩ | ⟨i, a, b, c, d⟩
  · exact Or.inl ⟨b, a⟩
  · exact Or.inr ⟨i, a, Classical.byContradiction b, c, d⟩
theorem fst_nest {α : Type} (F : Nat → Nat → α) (e b : Nat) (p : Nat → Prop) (X : Nat → α) (Y : α) (he : e < 1000000000000)
    (h : ∀ m i, i < e → Fst b (fun j => p (b * i + j)) (F (m + 1) i) (fun j => X (b * i + j)) (F m (i + 1))) (hx : ∀ m, F (m + 1) e = Y) : Fst (b * e) p (F FU 0) X Y := by
  refine loopE (fun m i (_ : Unit) => F m i) e (fun i _ => ∀ i', i' < b * i → ¬ p i') (fun R => Fst (b * e) p R X Y) ?_ ?_ FU 0 () (by omega) (FU_gt (by omega)) (fun i' hi' => by omega)
  · intro m i _ hi hP
    rcases h m i hi with ⟨e1, e2⟩ | ⟨j, hj, hp, hmin, hR⟩
    · refine Or.inr ⟨(), e1, fun i' hi' => ?_⟩
      by_cases h4 : i' < b * i
      · exact hP i' h4
      · have h5 : ¬ p (b * i + (i' - b * i)) := e2 (i' - b * i) (by rw [Nat.mul_succ] at hi'; omega)
        rwa [show b * i + (i' - b * i) = i' by omega] at h5
    · refine Or.inl (Or.inr ⟨b * i + j, ?_, hp, fun i' hi' => ?_, hR⟩)
      · have h6 : b * (i + 1) ≤ b * e := Nat.mul_le_mul_left b hi
        rw [Nat.mul_succ] at h6; omega
      · by_cases h4 : i' < b * i
        · exact hP i' h4
        · have h5 : ¬ p (b * i + (i' - b * i)) := hmin (i' - b * i) (by omega)
          rwa [show b * i + (i' - b * i) = i' by omega] at h5
  · intro m _ hP
    exact Or.inl ⟨hx m, hP⟩
noncomputable def unl (B C : Nat → Nat → Nat) (r c : Nat) : Nat := (dB (B r c ≠ C r c)).toNat
theorem dist51 {σ : St} {k l n n' : Nat} {B C : Nat → Nat → Nat} (h : GOK σ k n B) (h' : GOK σ l n' C) (e : n = n') {r : Nat} (hr : r < n) (a : Nat) (ha : a ≤ 100) (K : Int32 → Option (Except Nat Int32 × St)) : f_Q_distance_L51 k l (nI r) σ K FU (nI a) 0 = K (nI (a + sumN n (unl B C r))) := by
  subst e
  have hn := h.le; have ho := h.ord
  refine loop_sum (fun m i a => f_Q_distance_L51 k l (nI r) σ K m (nI a) (nI i)) n 1 (unl B C r) (fun a => K (nI a)) (by omega) (fun i _ => tn_le _) a ?_ ?_
  · intro m i x hi hx
    show f_Q_distance_L51 k l (nI r) σ K (m + 1) (nI x) (nI i) = _
    rw [f_Q_distance_L51.eq_2]
    have hb := h.1.bd r i
    have hb' := h'.1.bd r i
    rw [ho, if_pos (nI_lt hi (by omega)), sign_in h hr hi, sign_in h' hr hi]
    simp only [cap_some, jn_eq, nI_1]
    simp (disch := omega) only [ce_inj]
    unfold unl
    by_cases e1 : B r i = C r i
    · rw [if_pos e1, dB_f (fun h => h e1)]; rfl
    · rw [if_neg e1, dB_t e1]; rfl
  · intro m x hx
    show f_Q_distance_L51 k l (nI r) σ K (m + 1) (nI x) (nI n) = _
    rw [f_Q_distance_L51.eq_2]
    rw [ho, if_neg (nI_nlt (Nat.le_refl _) (by omega))]
theorem dist39 {σ : St} {k l n n' : Nat} {B C : Nat → Nat → Nat} (h : GOK σ k n B) (h' : GOK σ l n' C) (e : n = n') (K : Int32 → Option (Except Nat Int32 × St)) : f_Q_distance_L39 k l σ K FU 0 0 = K (nI (sumN n (fun r => sumN n (fun c => unl B C r c)))) := by
  have hn := h.le; have ho := h.ord
  have hb : ∀ i, i < n → sumN n (unl B C i) ≤ 5 := fun i _ => Nat.le_trans (sumN_le (b := 1) (fun i _ => tn_le _)) (by omega)
  refine (loop_sum (fun m i a => f_Q_distance_L39 k l σ K m (nI a) (nI i)) n 5 (fun r => sumN n (unl B C r)) (fun a => K (nI a)) (by omega) hb 0 ?_ ?_).trans ?_
  · intro m i x hi hx
    show f_Q_distance_L39 k l σ K (m + 1) (nI x) (nI i) = _
    rw [f_Q_distance_L39.eq_2]
    rw [ho, if_pos (nI_lt hi (by omega)), dist51 h h' e hi x (by omega), nI_1]
  · intro m x hx
    show f_Q_distance_L39 k l σ K (m + 1) (nI x) (nI n) = _
    rw [f_Q_distance_L39.eq_2]
    rw [ho, if_neg (nI_nlt (Nat.le_refl _) (by omega))]
  · rw [Nat.zero_add]
theorem rdist61 {σ : St} {M : Nat} {N : Nat → Nat} {B : Nat → Nat → Nat → Nat} (h : MW σ M N B) {i j : Nat} (hi : i < M) (hj : j < M) (e : N i = N j) (h0 : σ 82 0 = 0) (K : Int32 → Option (Int32 × St)) : f_R_distance_L61 (nI i) (nI j) σ K FU 0 0 = K (nI (sumN (N i) (fun r => sumN (N i) (fun c => unl (B i) (B j) r c)))) := by
  have hM := h.le; have hn := h.n hi; have ho := h.od hi
  have h25 : N i * N i ≤ 25 := Nat.mul_le_mul hn.2 hn.2
  refine (loop_sum (fun m k a => f_R_distance_L61 (nI i) (nI j) σ K m (nI a) (nI k)) (N i * N i) 1 (fun k => unl (B i) (B j) (k / N i) (k % N i)) (fun a => K (nI a)) (by omega) (fun i _ => tn_le _) 0 ?_ ?_).trans ?_
  · intro m k x hk hx
    show f_R_distance_L61 (nI i) (nI j) σ K (m + 1) (nI x) (nI k) = _
    rw [f_R_distance_L61.eq_2]
    have hr : k / N i < N i := Nat.div_lt_of_lt_mul hk
    have hc : k % N i < N i := Nat.mod_lt _ (by omega)
    have hb := (h.wf hi).bd (k / N i) (k % N i)
    have hb' := (h.wf hj).bd (k / N i) (k % N i)
    have e1 := h.ce hi hr hc
    have e2 := h.ce hj (r := k / N i) (c := k % N i) (by omega) (by omega)
    rw [← e] at e2
    rw [Nat.add_assoc, Nat.div_add_mod] at e1 e2
    rw [if_pos h0, ald_nI (by omega) (by decide), ho, ald_nI (by omega) (by decide), ho, nI_mul, if_pos (nI_lt hk (by omega)), show (25 : Int32) = nI 25 from rfl, nI_mul, nI_add, nI_mul, nI_add, ald_nI (by omega) (by decide), ald_nI (by omega) (by decide), e1, e2]
    simp only [jn_eq, nI_1, Int32.add_zero]
    simp (disch := omega) only [ce_inj]
    unfold unl
    by_cases e1 : B i (k / N i) (k % N i) = B j (k / N i) (k % N i)
    · rw [if_pos e1, dB_f (fun h => h e1)]; rfl
    · rw [if_neg e1, dB_t e1]; rfl
  · intro m x hx
    show f_R_distance_L61 (nI i) (nI j) σ K (m + 1) (nI x) (nI (N i * N i)) = _
    rw [f_R_distance_L61.eq_2]
    rw [if_pos h0, ald_nI (by omega) (by decide), ho, ald_nI (by omega) (by decide), ho, nI_mul, if_neg (nI_nlt (Nat.le_refl _) (by omega))]
  · rw [Nat.zero_add, sumN_sq (N i) (unl (B i) (B j))]
theorem ok_distance : Ok_distance Inv := by
  intro σ hI p0 p1
  refine op_rd hI (Q := fun σ => f_Q_distance σ p0 p1) (R := fun σ => f_R_distance σ p0 p1) (fun M N B cw mt ct => ?_)
  have hM12 := cw.le
  rcases g_cases M cw.le p0 with ⟨i, hi, rfl⟩ | hx
  · have hG := cw.g hi
    rcases g_cases M cw.le p1 with ⟨j, hj, rfl⟩ | hx
    · have hG2 := cw.g hj
      have n1 := hG.le
      have n2 := hG2.le
      have r0 : ∀ σ1 : St, MW σ1 M N B → f_R_distance σ1 (nI i) (nI j) = if N i = N j then f_R_distance_L61 (nI i) (nI j) (wr (wr σ1 82 0 0) 82 0 0) (fun v => some (v, wr (wr σ1 82 0 0) 82 0 0)) FU 0 0 else f_R_distance_L61 (nI i) (nI j) (wr (wr σ1 82 0 0) 82 0 2) (fun v => some (v, wr (wr σ1 82 0 0) 82 0 2)) FU 0 0 := by
        intro σ1 mw
        have hM := mw.le
        unfold f_R_distance
        rw [rgrid_in mw hi, rgrid_in mw hj, cap_some, jn_eq, jn_eq, if_neg (by decide), cap_some, if_neg (by decide)]
        simp only [sto_eq]
        rw [jn_eq, wr_at, if_pos rfl, ald_nI (by omega) (by decide), ald_nI (by omega) (by decide), wr_fn (by omega), mw.od hi, mw.od hj]
        simp (disch := omega) only [eq_nI, jn_eq, sto_eq]
      by_cases e : N i = N j
      · refine rd_k (nI (sumN (N i) (fun r => sumN (N i) (fun c => unl (B i) (B j) r c)))) (σ' := σ) ?_ (FrC.refl σ) (fun σ1 mw => ⟨wr (wr σ1 82 0 0) 82 0 0, ?_, FrK.t.trans FrK.t, rfl⟩)
        · show f_Q_distance σ _ _ = _
          unfold f_Q_distance
          rw [gridAt_in cw hi, cax_ok, gridAt_in cw hj, cax_ok, hG.ord, hG2.ord, jn_eq, if_pos (by rw [e])]
          show cax (f_Q_needArgument σ 1) _ = _
          rw [nar1, cax_ok, dist39 hG hG2 e]
        · show f_R_distance σ1 _ _ = _
          rw [r0 σ1 mw, if_pos e, rdist61 ((mw.k FrK.t).k FrK.t) hi hj e (by rw [wr_at])]
      · refine rd_err 2 2 (σ' := σ) ?_ (FrC.refl σ) (by decide) (fun σ1 mw _ => ⟨0, wr (wr σ1 82 0 0) 82 0 2, ?_, FrK.t.trans FrK.t, rfl⟩)
        · show f_Q_distance σ _ _ = _
          unfold f_Q_distance
          rw [gridAt_in cw hi, cax_ok, gridAt_in cw hj, cax_ok, hG.ord, hG2.ord, jn_eq, if_neg (by rw [eq_nI (by omega) (by omega)]; exact e)]
          rfl
        · show f_R_distance σ1 _ _ = _
          rw [r0 σ1 mw, if_neg e]
          rfl
    · refine rd_err 1 1 (σ' := σ) ?_ (FrC.refl σ) (by decide) (fun σ1 mw _ => ⟨0, wr σ1 82 0 1, ?_, FrK.t, rfl⟩)
      · show f_Q_distance σ _ _ = _
        unfold f_Q_distance
        rw [gridAt_in cw hi, cax_ok, gridAt_out cw hx, cax_er]
      · show f_R_distance σ1 _ _ = _
        unfold f_R_distance
        rw [rgrid_in mw hi, rgrid_out mw hx]
        rfl
  · refine rd_err 1 1 (σ' := σ) ?_ (FrC.refl σ) (by decide) (fun σ1 mw _ => ⟨0, wr σ1 82 0 1, ?_, FrK.t, rfl⟩)
    · show f_Q_distance σ _ _ = _
      unfold f_Q_distance
      rw [gridAt_out cw hx, cax_er]
    · show f_R_distance σ1 _ _ = _
      unfold f_R_distance
      rw [rgrid_out mw hx]
      rfl
/-! forced -/
def fP (n : Nat) (B : Nat → Nat → Nat) (r c s : Nat) : Prop := opt n B r c s = true ∧ ((∀ t, opt n B r c t = true → t = s) ∨ (∀ k, k < n → k ≠ c → opt n B r k s = false) ∨ (∀ k, k < n → k ≠ r → opt n B k c s = false))
section FO
variable {σ : St} {k n : Nat} {B : Nat → Nat → Nat}
theorem aloneR (h : GOK σ k n B) {r c s : Nat} (hr : r < n) (hc : c < n) (hs : s < n) : f_Filling_isAloneInRow σ k (nI r) (nI c) (nI s) = some (bI (dB (∀ i, i < n → i ≠ c → opt n B r i s = false))) := by
  have hn := h.le; have ho := h.ord
  unfold f_Filling_isAloneInRow
  have key : ∀ m i, i < n → f_Filling_isAloneInRow_L3 k (nI r) (nI c) (nI s) σ (m + 1) (nI i) = if i = c then f_Filling_isAloneInRow_L3 k (nI r) (nI c) (nI s) σ m (nI (i + 1)) else if bI (opt n B r i s) = 0 then f_Filling_isAloneInRow_L3 k (nI r) (nI c) (nI s) σ m (nI (i + 1)) else some 0 := by
    intro m i hi
    rw [f_Filling_isAloneInRow_L3.eq_2]
    rw [ho, if_pos (nI_lt hi (by omega)), opt_in h hr hi]
    simp (disch := omega) only [jn_eq, nI_1, eq_nI, cap_some, isIn_opt h hs]
  refine (loop_all (fun m i => f_Filling_isAloneInRow_L3 k (nI r) (nI c) (nI s) σ m (nI i)) n (fun i => i ≠ c → opt n B r i s = false) (some 0) (some 1) (by omega) ?_ ?_ ?_).trans (some_bI _)
  · intro m i hi hp
    show f_Filling_isAloneInRow_L3 k (nI r) (nI c) (nI s) σ (m + 1) (nI i) = _
    rw [key m i hi]
    by_cases e : i = c
    · rw [if_pos e]
    · rw [if_neg e, hp e, if_pos (by rfl)]
  · intro m i hi hp
    show f_Filling_isAloneInRow_L3 k (nI r) (nI c) (nI s) σ (m + 1) (nI i) = _
    rw [key m i hi, if_neg (fun e => hp (fun h => absurd e h))]
    cases e : opt n B r i s
    · exact absurd (fun _ => e) hp
    · rfl
  · intro m
    show f_Filling_isAloneInRow_L3 k (nI r) (nI c) (nI s) σ (m + 1) (nI n) = _
    rw [f_Filling_isAloneInRow_L3.eq_2]
    rw [ho, if_neg (nI_nlt (Nat.le_refl _) (by omega))]
theorem aloneC (h : GOK σ k n B) {r c s : Nat} (hr : r < n) (hc : c < n) (hs : s < n) : f_Filling_isAloneInColumn σ k (nI r) (nI c) (nI s) = some (bI (dB (∀ i, i < n → i ≠ r → opt n B i c s = false))) := by
  have hn := h.le; have ho := h.ord
  unfold f_Filling_isAloneInColumn
  have key : ∀ m i, i < n → f_Filling_isAloneInColumn_L3 k (nI r) (nI c) (nI s) σ (m + 1) (nI i) = if i = r then f_Filling_isAloneInColumn_L3 k (nI r) (nI c) (nI s) σ m (nI (i + 1)) else if bI (opt n B i c s) = 0 then f_Filling_isAloneInColumn_L3 k (nI r) (nI c) (nI s) σ m (nI (i + 1)) else some 0 := by
    intro m i hi
    rw [f_Filling_isAloneInColumn_L3.eq_2]
    rw [ho, if_pos (nI_lt hi (by omega)), opt_in h hi hc]
    simp (disch := omega) only [jn_eq, nI_1, eq_nI, cap_some, isIn_opt h hs]
  refine (loop_all (fun m i => f_Filling_isAloneInColumn_L3 k (nI r) (nI c) (nI s) σ m (nI i)) n (fun i => i ≠ r → opt n B i c s = false) (some 0) (some 1) (by omega) ?_ ?_ ?_).trans (some_bI _)
  · intro m i hi hp
    show f_Filling_isAloneInColumn_L3 k (nI r) (nI c) (nI s) σ (m + 1) (nI i) = _
    rw [key m i hi]
    by_cases e : i = r
    · rw [if_pos e]
    · rw [if_neg e, hp e, if_pos (by rfl)]
  · intro m i hi hp
    show f_Filling_isAloneInColumn_L3 k (nI r) (nI c) (nI s) σ (m + 1) (nI i) = _
    rw [key m i hi, if_neg (fun e => hp (fun h => absurd e h))]
    cases e : opt n B i c s
    · exact absurd (fun _ => e) hp
    · rfl
  · intro m
    show f_Filling_isAloneInColumn_L3 k (nI r) (nI c) (nI s) σ (m + 1) (nI n) = _
    rw [f_Filling_isAloneInColumn_L3.eq_2]
    rw [ho, if_neg (nI_nlt (Nat.le_refl _) (by omega))]
theorem one_opt (hn : n ≤ 5) {r c s : Nat} (hs : s < n) (ho : opt n B r c s = true) : (sI (opt n B r c) = (1 : Int32) <<< (nI s &&& 31)) = (∀ t, opt n B r c t = true → t = s) := by
  rw [sI_one (by omega), sI_eq hn opt_in_n (fun t ht => by rw [of_decide_eq_true ht]; exact hs)]
  apply propext
  constructor
  · intro h t ht
    have := congrFun h t
    rw [ht] at this
    exact of_decide_eq_true this.symm
  · intro h
    funext t
    cases e : opt n B r c t
    · apply Eq.symm
      apply decide_eq_false
      rintro rfl
      rw [ho] at e; cases e
    · exact (decide_eq_true (h t e)).symm
theorem forced_ok (h : GOK σ k n B) {r c s : Nat} (hr : r < n) (hc : c < n) (hs : s < n) : f_Filling_isForced σ k (nI r) (nI c) (nI s) = some (bI (dB (fP n B r c s))) := by
  have hn := h.le
  unfold f_Filling_isForced
  simp only [opt_in h hr hc, cap_some, isIn_opt h hs, aloneR h hr hc hs, aloneC h hr hc hs, jn_eq]
  cases e : opt n B r c s
  · rw [if_pos (by rfl), dB_f (fun h => by rw [h.1] at e; cases e)]; rfl
  · rw [if_neg (by decide)]
    by_cases e1 : ∀ t, opt n B r c t = true → t = s
    · rw [if_pos (by rw [one_opt hn.2 hs e]; exact e1), dB_t (p := fP n B r c s) ⟨e, Or.inl e1⟩]; rfl
    · rw [if_neg (by rw [one_opt hn.2 hs e]; exact e1)]
      by_cases e2 : ∀ i, i < n → i ≠ c → opt n B r i s = false
      · rw [dB_t e2, if_neg (by decide), dB_t (p := fP n B r c s) ⟨e, Or.inr (Or.inl e2)⟩]; rfl
      · rw [dB_f e2, if_pos (by rfl)]
        by_cases e3 : ∀ i, i < n → i ≠ r → opt n B i c s = false
        · rw [dB_t e3, if_neg (by decide), dB_t (p := fP n B r c s) ⟨e, Or.inr (Or.inr e3)⟩]; rfl
        · rw [dB_f e3, if_pos (by rfl), dB_f (p := fP n B r c s)]
          · rfl
          · rintro ⟨_, h1 | h1 | h1⟩
            · exact e1 h1
            · exact e2 h1
            · exact e3 h1
def fI (n : Nat) (B : Nat → Nat → Nat) (i : Nat) : Prop := fP n B (i / n / n) (i / n % n) (i % n)
def pk (n i : Nat) : Nat := 10 * (5 * (i / n / n) + i / n % n) + i % n
theorem idx3 {n r c s : Nat} (hc : c < n) (hs : s < n) : (n * n * r + (n * c + s)) / n / n = r ∧ (n * n * r + (n * c + s)) / n % n = c ∧ (n * n * r + (n * c + s)) % n = s := by
  have h0 : n > 0 := by omega
  rw [show n * n * r + (n * c + s) = n * (n * r + c) + s by rw [Nat.mul_add, Nat.mul_assoc, Nat.add_assoc]]
  rw [Nat.mul_add_div h0, Nat.div_eq_of_lt hs, Nat.add_zero]
  refine ⟨?_, ?_, ?_⟩
  · rw [Nat.mul_add_div h0, Nat.div_eq_of_lt hc, Nat.add_zero]
  · rw [Nat.mul_add_mod, Nat.mod_eq_of_lt hc]
  · rw [Nat.mul_add_mod, Nat.mod_eq_of_lt hs]
theorem first_ok (h : GOK σ k n B) : Fst (n * n * n) (fI n B) (f_Filling_firstForced σ k) (fun i => some (nI (pk n i))) (some (-1)) := by
  have hn := h.le; have ho := h.ord
  unfold f_Filling_firstForced
  refine fst_nest (fun m i => f_Filling_firstForced_L2 k σ (fun a b c => cap (f_Move_packed σ a b c) fun r => some r) m (nI i)) n (n * n) (fI n B) (fun i => some (nI (pk n i))) (some (-1)) (by omega) ?_ ?_
  · intro m r hr
    show Fst (n * n) _ (f_Filling_firstForced_L2 k σ _ (m + 1) (nI r)) _ _
    rw [f_Filling_firstForced_L2.eq_2]
    rw [ho, if_pos (nI_lt hr (by omega)), nI_1]
    refine fst_nest (fun m i => f_Filling_firstForced_L12 k (nI r) σ _ _ m (nI i)) n n (fun j => fI n B (n * n * r + j)) (fun j => some (nI (pk n (n * n * r + j)))) _ (by omega) ?_ ?_
    · intro m c hc
      show Fst n _ (f_Filling_firstForced_L12 k (nI r) σ _ _ (m + 1) (nI c)) _ _
      rw [f_Filling_firstForced_L12.eq_2]
      rw [ho, if_pos (nI_lt hc (by omega)), nI_1]
      refine fst_loop (fun m i => f_Filling_firstForced_L22 k (nI r) (nI c) σ _ _ m (nI i)) n (fun j => fI n B (n * n * r + (n * c + j))) (fun j => some (nI (pk n (n * n * r + (n * c + j))))) _ (by omega) ?_ ?_ ?_
      · intro m s hs hp
        show f_Filling_firstForced_L22 k (nI r) (nI c) σ _ _ (m + 1) (nI s) = _
        rw [f_Filling_firstForced_L22.eq_2]
        unfold fI at hp
        obtain ⟨a1, a2, a3⟩ := idx3 (r := r) hc hs
        rw [a1, a2, a3] at hp
        rw [ho, if_pos (nI_lt hs (by omega)), forced_ok h hr hc hs, dB_f hp, cap_some, if_pos (by rfl), nI_1]
      · intro m s hs hp
        show f_Filling_firstForced_L22 k (nI r) (nI c) σ _ _ (m + 1) (nI s) = _
        rw [f_Filling_firstForced_L22.eq_2]
        unfold fI at hp
        obtain ⟨a1, a2, a3⟩ := idx3 (r := r) hc hs
        unfold pk
        rw [a1, a2, a3] at hp ⊢
        rw [ho, if_pos (nI_lt hs (by omega)), forced_ok h hr hc hs, dB_t hp, cap_some, if_neg (by decide)]
        unfold f_Move_packed
        rw [cap_some, show (5 : Int32) = nI 5 from rfl, show (10 : Int32) = nI 10 from rfl, nI_mul, nI_add, nI_mul, nI_add]
      · intro m
        show f_Filling_firstForced_L22 k (nI r) (nI c) σ _ _ (m + 1) (nI n) = _
        rw [f_Filling_firstForced_L22.eq_2]
        rw [ho, if_neg (nI_nlt (Nat.le_refl _) (by omega))]
    · intro m
      show f_Filling_firstForced_L12 k (nI r) σ _ _ (m + 1) (nI n) = _
      rw [f_Filling_firstForced_L12.eq_2]
      rw [ho, if_neg (nI_nlt (Nat.le_refl _) (by omega))]
  · intro m
    show f_Filling_firstForced_L2 k σ _ (m + 1) (nI n) = _
    rw [f_Filling_firstForced_L2.eq_2]
    rw [ho, if_neg (nI_nlt (Nat.le_refl _) (by omega))]
end FO
section FR
variable {σ : St} {n : Nat} {B : Nat → Nat → Nat}
theorem last_ok (h : WK σ n B) (hw : Wf n B) {r c s : Nat} (hr : r < n) (hc : c < n) (hs : s < n) : f_R_isLast σ (nI (n * r + c)) (nI s) = some (bI (dB (∀ k, k < n → k ≠ c → opt n B r k s = false) || dB (∀ k, k < n → k ≠ r → opt n B k c s = false))) := by
  have hn := h.n2; have ho := h.side
  have b0 := ix25 hn.2 hr hc
  have A : ∀ K : Int32 → Int32 → Option Int32, ∃ x : Bool × Bool, (x.1 = dB (∀ k, k < n → k ≠ c → opt n B r k s = false) ∧ x.2 = dB (∀ k, k < n → k ≠ r → opt n B k c s = false)) ∧ f_R_isLast_L8 (nI (n * r + c)) (nI s) σ K FU 1 1 0 = K (bI x.1) (bI x.2) := by
    intro K
    refine loop_acc (fun m i (x : Bool × Bool) => f_R_isLast_L8 (nI (n * r + c)) (nI s) σ K m (bI x.1) (bI x.2) (nI i)) n (fun i x => (x.1 && dB (i ≠ c → opt n B r i s = false), x.2 && dB (i ≠ r → opt n B i c s = false))) (fun x => K (bI x.1) (bI x.2)) (fun i x => x.1 = dB (∀ k, k < i → k ≠ c → opt n B r k s = false) ∧ x.2 = dB (∀ k, k < i → k ≠ r → opt n B k c s = false)) (by omega) (true, true) ⟨(dB_t (fun k hk => by omega)).symm, (dB_t (fun k hk => by omega)).symm⟩ ?_ ?_ ?_
    · rintro m i ⟨x, y⟩ hi -
      show f_R_isLast_L8 (nI (n * r + c)) (nI s) σ K (m + 1) (bI x) (bI y) (nI i) = _
      rw [f_R_isLast_L8.eq_2]
      have b1 := ix25 hn.2 hr hi
      have b2 := ix25 hn.2 hi hc
      have d1 : (n * r + c) / n = r := by rw [Nat.mul_add_div (by omega), Nat.div_eq_of_lt hc, Nat.add_zero]
      have d2 : (n * r + c) % n = c := by rw [Nat.mul_add_mod, Nat.mod_eq_of_lt hc]
      rw [ho, if_pos (nI_lt hi (by omega)), dvi_nI (by omega) (by omega) (by omega), d1, lt1_eq, rmi_nI (by omega) (by omega) (by omega), d2, lt1_eq, nI_mul, nI_add, nI_mul, nI_add, Nat.mul_comm r n, setAt_ok h hw hr hi, setAt_ok h hw hi hc]
      have E1 : (nI (n * r + i) = nI (n * r + c)) = (i = c) := by
        rw [eq_nI (by omega) (by omega)]
        exact propext ⟨fun h => by omega, fun h => by rw [h]⟩
      have E2 : (nI (n * i + c) = nI (n * r + c)) = (i = r) := by
        rw [eq_nI (by omega) (by omega)]
        exact propext ⟨fun h => (idx_inj hc hc h).1, fun h => by rw [h]⟩
      simp only [jn_eq, nI_1, E1, E2, cap_some, sI_bv _ (show s < 5 by omega)]
      have X : ∀ (b : Bool) (q : Prop) [Decidable q] (o : Bool) (Z : Int32 → Option Int32), (if bI b = 0 then Z 0 else if q then Z 1 else if bI o = 0 then Z 1 else Z 0) = Z (bI (b && dB (¬ q → o = false))) := by
        intro b q _ o Z
        cases b
        · rfl
        · rw [if_neg (by decide)]
          by_cases hq : q
          · rw [if_pos hq, dB_t (fun h => absurd hq h)]; rfl
          · rw [if_neg hq]
            cases o
            · rw [dB_t (fun _ => rfl)]; rfl
            · rw [dB_f (fun h => by cases h hq)]; rfl
      rw [X x (i = c) (opt n B r i s) (fun a => if bI y = 0 then f_R_isLast_L8 (nI (n * r + c)) (nI s) σ K m a 0 (nI (i + 1)) else if i = r then f_R_isLast_L8 (nI (n * r + c)) (nI s) σ K m a 1 (nI (i + 1)) else if bI (opt n B i c s) = 0 then f_R_isLast_L8 (nI (n * r + c)) (nI s) σ K m a 1 (nI (i + 1)) else f_R_isLast_L8 (nI (n * r + c)) (nI s) σ K m a 0 (nI (i + 1)))]
      exact X y (i = r) (opt n B i c s) (fun a => f_R_isLast_L8 (nI (n * r + c)) (nI s) σ K m (bI (x && dB (¬ i = c → opt n B r i s = false))) a (nI (i + 1)))
    · rintro i ⟨x, y⟩ hi ⟨hx, hy⟩
      have Y : ∀ (p : Nat → Prop), (dB (∀ k, k < i → p k) && dB (p i)) = dB (∀ k, k < i + 1 → p k) := by
        intro p
        rw [← dB_and]
        apply dB_cong
        constructor
        · rintro ⟨h1, h2⟩ k hk
          by_cases e : k = i
          · rw [e]; exact h2
          · exact h1 k (by omega)
        · intro h; exact ⟨fun k hk => h k (by omega), h i (by omega)⟩
      constructor
      · show (x && _) = _
        rw [show x = _ from hx]; exact Y (fun k => k ≠ c → opt n B r k s = false)
      · show (y && _) = _
        rw [show y = _ from hy]; exact Y (fun k => k ≠ r → opt n B k c s = false)
    · rintro m ⟨x, y⟩ -
      show f_R_isLast_L8 (nI (n * r + c)) (nI s) σ K (m + 1) (bI x) (bI y) (nI n) = _
      rw [f_R_isLast_L8.eq_2]
      rw [ho, if_neg (nI_nlt (Nat.le_refl _) (by omega))]
  unfold f_R_isLast
  obtain ⟨x, ⟨h1, h2⟩, e⟩ := A (fun (v3_17 : Int32) (v4_18 : Int32) => jn (some 1) fun j124_19 => if v3_17 = 0 then if v4_18 = 0 then some 0 else j124_19 else j124_19)
  rw [e, ← h1, ← h2]
  cases x.1 <;> cases x.2 <;> rfl
theorem rforced_ok (h : WK σ n B) (hw : Wf n B) : Fst (n * (n * n)) (fI n B) (f_R_forcedAtWork σ) (fun i => some (nI (10 * (i / n) + i % n))) (some (-1)) := by
  have hn := h.n2; have ho := h.side
  have h25 : n * n ≤ 25 := Nat.mul_le_mul hn.2 hn.2
  unfold f_R_forcedAtWork
  refine fst_nest (fun m i => f_R_forcedAtWork_L2 σ (fun a b => some (10 * a + b)) m (nI i)) (n * n) n (fI n B) (fun i => some (nI (10 * (i / n) + i % n))) (some (-1)) (by omega) ?_ ?_
  · intro m i hi
    show Fst n _ (f_R_forcedAtWork_L2 σ _ (m + 1) (nI i)) _ _
    rw [f_R_forcedAtWork_L2.eq_2]
    have hr : i / n < n := Nat.div_lt_of_lt_mul hi
    have hc : i % n < n := Nat.mod_lt _ (by omega)
    have e2 := setAt_ok h hw hr hc
    rw [Nat.div_add_mod] at e2
    rw [ho, nI_mul, if_pos (nI_lt hi (by omega)), e2, cap_some, nI_1]
    have key : ∀ (K : Int32 → Option Int32) (K2 : Option Int32) m s, s < n → f_R_forcedAtWork_L23 (nI i) (sI (opt n B (i / n) (i % n))) σ K K2 (m + 1) (nI s) = if dB (fP n B (i / n) (i % n) s) = true then K (nI s) else f_R_forcedAtWork_L23 (nI i) (sI (opt n B (i / n) (i % n))) σ K K2 m (nI (s + 1)) := by
      intro K K2 m s hs
      rw [f_R_forcedAtWork_L23.eq_2]
      have e3 := last_ok h hw hr hc hs
      rw [Nat.div_add_mod] at e3
      rw [ho, if_pos (nI_lt hs (by omega)), e3, nI_1]
      simp only [jn_eq, cap_some, sI_bit _ (show s < 5 by omega)]
      cases e : opt n B (i / n) (i % n) s
      · rw [if_neg (by decide), dB_f (fun h => by rw [h.1] at e; cases e)]; rfl
      · rw [if_pos rfl]
        by_cases e1 : ∀ t, opt n B (i / n) (i % n) t = true → t = s
        · rw [if_pos (by rw [one_opt hn.2 hs e]; exact e1), dB_t (p := fP n B (i / n) (i % n) s) ⟨e, Or.inl e1⟩]; rfl
        · rw [if_neg (by rw [one_opt hn.2 hs e]; exact e1)]
          by_cases e2 : ∀ k, k < n → k ≠ i % n → opt n B (i / n) k s = false
          · rw [dB_t e2, dB_t (p := fP n B (i / n) (i % n) s) ⟨e, Or.inr (Or.inl e2)⟩]; rfl
          · rw [dB_f e2]
            by_cases e3 : ∀ k, k < n → k ≠ i / n → opt n B k (i % n) s = false
            · rw [dB_t e3, dB_t (p := fP n B (i / n) (i % n) s) ⟨e, Or.inr (Or.inr e3)⟩]; rfl
            · rw [dB_f e3, dB_f (p := fP n B (i / n) (i % n) s)]
              · rfl
              · rintro ⟨_, h1 | h1 | h1⟩
                · exact e1 h1
                · exact e2 h1
                · exact e3 h1
    have hi3 : ∀ s, s < n → (n * i + s) / n = i ∧ (n * i + s) % n = s := fun s hs => ⟨by rw [Nat.mul_add_div (by omega), Nat.div_eq_of_lt hs, Nat.add_zero], by rw [Nat.mul_add_mod, Nat.mod_eq_of_lt hs]⟩
    refine fst_loop (fun m s => f_R_forcedAtWork_L23 (nI i) (sI (opt n B (i / n) (i % n))) σ _ _ m (nI s)) n (fun j => fI n B (n * i + j)) (fun j => some (nI (10 * ((n * i + j) / n) + (n * i + j) % n))) _ (by omega) ?_ ?_ ?_
    · intro m s hs hp
      show f_R_forcedAtWork_L23 (nI i) _ σ _ _ (m + 1) (nI s) = _
      unfold fI at hp
      rw [(hi3 s hs).1, (hi3 s hs).2] at hp
      rw [key _ _ m s hs, dB_f hp]
      rfl
    · intro m s hs hp
      show f_R_forcedAtWork_L23 (nI i) _ σ _ _ (m + 1) (nI s) = _
      unfold fI at hp
      rw [(hi3 s hs).1, (hi3 s hs).2] at hp ⊢
      rw [key _ _ m s hs, dB_t hp, if_pos rfl, show (10 : Int32) = nI 10 from rfl, nI_mul, nI_add]
    · intro m
      show f_R_forcedAtWork_L23 (nI i) _ σ _ _ (m + 1) (nI n) = _
      rw [f_R_forcedAtWork_L23.eq_2]
      rw [ho, if_neg (nI_nlt (Nat.le_refl _) (by omega))]
  · intro m
    show f_R_forcedAtWork_L2 σ _ (m + 1) (nI (n * n)) = _
    rw [f_R_forcedAtWork_L2.eq_2]
    rw [ho, nI_mul, if_neg (nI_nlt (Nat.le_refl _) (by omega))]
end FR
