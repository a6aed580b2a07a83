/-! nucleus, the reference's side -/
section RN
variable {σ : St} {M : Nat} {N : Nat → Nat} {B : Nat → Nat → Nat → Nat}
theorem rassoc_ok (h : MW σ M N B) {j : Nat} (hj : j < M) (hs : SQ (N j) (B j)) {a b c : Nat} (ha : a < N j) (hb : b < N j) (hc : c < N j) : f_R_associates σ (nI j) (nI a) (nI b) (nI c) = some (bI (dB (asc (sg (B j)) a b c))) := by
  have hn := h.n hj
  unfold f_R_associates
  have l1 := hs.lt (hs.lt ha hb) hc
  have l2 := hs.lt ha (hs.lt hb hc)
  rw [sq_at h hj hs ha hb, cap_some, sq_at h hj hs (hs.lt ha hb) hc, cap_some, sq_at h hj hs hb hc, cap_some, sq_at h hj hs ha (hs.lt hb hc), cap_some]
  simp (disch := omega) only [and_self, and_true, true_and, and_false, false_and, cap_some, cal_some, cax_ok, cax_er, jn_eq, lt1_eq, sto_eq, ald_nI, ast_nI, gld_nI, fac_nI, lt_nI, le_nI, eq_nI, nI_1, nI_add, nI_mul, cell5, cell25, ce_m1, if_pos, if_neg, ↓reduceIte, if_true, if_false, lt_l0, le_l0, eq_l0, ll_t0, add_l0, lt_l1, le_l1, eq_l1, ll_t1, add_l1, lt_l2, le_l2, eq_l2, ll_t2, add_l2, lt_l3, le_l3, eq_l3, ll_t3, add_l3, lt_l4, le_l4, eq_l4, ll_t4, add_l4, lt_l5, le_l5, eq_l5, ll_t5, add_l5, lt_l6, le_l6, eq_l6, ll_t6, add_l6, lt_l10, le_l10, eq_l10, ll_t10, add_l10, lt_l12, le_l12, eq_l12, ll_t12, add_l12, lt_l25, le_l25, eq_l25, ll_t25, add_l25, lt_l40, le_l40, eq_l40, ll_t40, add_l40, lt_l41, le_l41, eq_l41, ll_t41, add_l41, lt_l42, le_l42, eq_l42, ll_t42, add_l42, lt_l61, le_l61, eq_l61, ll_t61, add_l61, lt_l120, le_l120, eq_l120, ll_t120, add_l120, lt_l121, le_l121, eq_l121, ll_t121, add_l121, lt_l122, le_l122, eq_l122, ll_t122, add_l122, lt_l576, le_l576, eq_l576, ll_t576, add_l576, lt_l600, le_l600, eq_l600, ll_t600, add_l600, lt_l1000, le_l1000, eq_l1000, ll_t1000, add_l1000]
  unfold asc
  by_cases e : sg (B j) (sg (B j) a b) c = sg (B j) a (sg (B j) b c)
  · rw [if_pos e, dB_t e]; rfl
  · rw [if_neg e, dB_f e]; rfl
def nu3 (S : Nat → Nat → Nat) (w e y z : Nat) : Prop := (w = 0 ∨ w = 3 → asc S e y z) ∧ (w = 1 ∨ w = 3 → asc S y e z) ∧ (w = 2 ∨ w = 3 → asc S y z e)
theorem rin20 (h : MW σ M N B) {j : Nat} (hj : j < M) (hs : SQ (N j) (B j)) {w e y : Nat} (hw : w ≤ 3) (he : e < N j) (hy : y < N j) (K : Int32 → Option Int32) (b : Bool) :
    f_R_isInNucleus_L20 (nI j) (nI e) (nI w) (nI y) σ K FU (bI b) 0 = K (bI (b && dB (∀ z, z < N j → nu3 (sg (B j)) w e y z))) := by
  have hM := h.le; have hn := h.n hj; have ho := h.od hj
  refine loop_flag (fun m i b => f_R_isInNucleus_L20 (nI j) (nI e) (nI w) (nI y) σ K m (bI b) (nI i)) (N j) (fun z => nu3 (sg (B j)) w e y z) (fun b => K (bI b)) (by omega) b ?_ ?_
  · intro m i b hi
    show f_R_isInNucleus_L20 (nI j) (nI e) (nI w) (nI y) σ K (m + 1) (bI b) (nI i) = _
    rw [f_R_isInNucleus_L20.eq_2]
    rw [ald_nI (by omega) (by decide), ho, if_pos (nI_lt hi (by omega))]
    simp only [rassoc_ok h hj hs he hy hi, rassoc_ok h hj hs hy he hi, rassoc_ok h hj hs hy hi he, cap_some, nI_1]
    unfold nu3
    rw [dB_and, dB_and]
    have e1 : ∀ (p q : Prop) , dB (p → q) = (!dB p || dB q) := by
      intro p q
      by_cases hp : p
      · rw [dB_t hp, Bool.not_true, Bool.false_or]; exact dB_cong ⟨fun h => h hp, fun h _ => h⟩
      · rw [dB_f hp, dB_t (fun h => absurd h hp)]; rfl
    rw [e1, e1, e1]
    generalize dB (asc _ _ _ _) = b0
    generalize dB (asc _ _ _ _) = b1
    generalize dB (asc _ _ _ _) = b2
    match w, hw with
    | 0, _ => rw [dB_t (Or.inl rfl : (0 : Nat) = 0 ∨ (0 : Nat) = 3), dB_f (by omega : ¬ ((0 : Nat) = 1 ∨ (0 : Nat) = 3)), dB_f (by omega : ¬ ((0 : Nat) = 2 ∨ (0 : Nat) = 3))]; cases b <;> cases b0 <;> cases b1 <;> cases b2 <;> rfl
    | 1, _ => rw [dB_f (by omega : ¬ ((1 : Nat) = 0 ∨ (1 : Nat) = 3)), dB_t (Or.inl rfl : (1 : Nat) = 1 ∨ (1 : Nat) = 3), dB_f (by omega : ¬ ((1 : Nat) = 2 ∨ (1 : Nat) = 3))]; cases b <;> cases b0 <;> cases b1 <;> cases b2 <;> rfl
    | 2, _ => rw [dB_f (by omega : ¬ ((2 : Nat) = 0 ∨ (2 : Nat) = 3)), dB_f (by omega : ¬ ((2 : Nat) = 1 ∨ (2 : Nat) = 3)), dB_t (Or.inl rfl : (2 : Nat) = 2 ∨ (2 : Nat) = 3)]; cases b <;> cases b0 <;> cases b1 <;> cases b2 <;> rfl
    | 3, _ => rw [dB_t (Or.inr rfl : (3 : Nat) = 0 ∨ (3 : Nat) = 3), dB_t (Or.inr rfl : (3 : Nat) = 1 ∨ (3 : Nat) = 3), dB_t (Or.inr rfl : (3 : Nat) = 2 ∨ (3 : Nat) = 3)]; cases b <;> cases b0 <;> cases b1 <;> cases b2 <;> rfl
  · intro m b
    show f_R_isInNucleus_L20 (nI j) (nI e) (nI w) (nI y) σ K (m + 1) (bI b) (nI (N j)) = _
    rw [f_R_isInNucleus_L20.eq_2]
    rw [ald_nI (by omega) (by decide), ho, if_neg (nI_nlt (Nat.le_refl _) (by omega))]
theorem rin_ok (h : MW σ M N B) {j : Nat} (hj : j < M) (hs : SQ (N j) (B j)) {w e : Nat} (hw : w ≤ 3) (he : e < N j) : f_R_isInNucleus σ (nI j) (nI e) (nI w) = some (bI (dB (nuc (N j) (sg (B j)) w e))) := by
  have hM := h.le; have hn := h.n hj; have ho := h.od hj
  unfold f_R_isInNucleus
  refine (loop_flag (fun m i b => f_R_isInNucleus_L6 (nI j) (nI e) (nI w) σ (fun v => some (zb v)) m (bI b) (nI i)) (N j) (fun y => (∀ z, z < N j → nu3 (sg (B j)) w e y z) ∧ (w = 3 → sg (B j) e y = sg (B j) y e)) (fun b => some (zb (bI b))) (by omega) true ?_ ?_).trans ?_
  · intro m i b hi
    show f_R_isInNucleus_L6 (nI j) (nI e) (nI w) σ _ (m + 1) (bI b) (nI i) = _
    rw [f_R_isInNucleus_L6.eq_2]
    have l1 := hs.lt he hi
    have l2 := hs.lt hi he
    rw [ald_nI (by omega) (by decide), ho, if_pos (nI_lt hi (by omega)), rin20 h hj hs hw he hi]
    rw [dB_and, ← Bool.and_assoc]
    generalize (b && dB _) = b0
    simp only [jn_eq, nI_1]
    cases b0
    · rw [if_pos (by rfl)]; rfl
    · rw [if_neg (by decide)]
      simp only [show (nI w = 3) = (w = 3) from eq_l3 (by omega)]
      by_cases hw3 : w = 3
      · rw [if_pos hw3, sq_at h hj hs he hi, cap_some, sq_at h hj hs hi he, cap_some]
        simp only [eq_nI (show sg (B j) e i < 2 ^ 31 by omega) (show sg (B j) i e < 2 ^ 31 by omega)]
        by_cases e1 : sg (B j) e i = sg (B j) i e
        · rw [if_pos e1, dB_t (fun _ => e1)]; rfl
        · rw [if_neg e1, dB_f (fun h => e1 (h hw3))]; rfl
      · rw [if_neg hw3, dB_t (fun h => absurd h hw3)]; rfl
  · intro m b
    show f_R_isInNucleus_L6 (nI j) (nI e) (nI w) σ _ (m + 1) (bI b) (nI (N j)) = _
    rw [f_R_isInNucleus_L6.eq_2]
    simp (disch := omega) only [ho, and_self, and_true, true_and, and_false, false_and, cap_some, cal_some, cax_ok, cax_er, jn_eq, lt1_eq, sto_eq, ald_nI, ast_nI, gld_nI, fac_nI, lt_nI, le_nI, eq_nI, nI_1, nI_add, nI_mul, cell5, cell25, ce_m1, if_pos, if_neg, ↓reduceIte, if_true, if_false, lt_l0, le_l0, eq_l0, ll_t0, add_l0, lt_l1, le_l1, eq_l1, ll_t1, add_l1, lt_l2, le_l2, eq_l2, ll_t2, add_l2, lt_l3, le_l3, eq_l3, ll_t3, add_l3, lt_l4, le_l4, eq_l4, ll_t4, add_l4, lt_l5, le_l5, eq_l5, ll_t5, add_l5, lt_l6, le_l6, eq_l6, ll_t6, add_l6, lt_l10, le_l10, eq_l10, ll_t10, add_l10, lt_l12, le_l12, eq_l12, ll_t12, add_l12, lt_l25, le_l25, eq_l25, ll_t25, add_l25, lt_l40, le_l40, eq_l40, ll_t40, add_l40, lt_l41, le_l41, eq_l41, ll_t41, add_l41, lt_l42, le_l42, eq_l42, ll_t42, add_l42, lt_l61, le_l61, eq_l61, ll_t61, add_l61, lt_l120, le_l120, eq_l120, ll_t120, add_l120, lt_l121, le_l121, eq_l121, ll_t121, add_l121, lt_l122, le_l122, eq_l122, ll_t122, add_l122, lt_l576, le_l576, eq_l576, ll_t576, add_l576, lt_l600, le_l600, eq_l600, ll_t600, add_l600, lt_l1000, le_l1000, eq_l1000, ll_t1000, add_l1000]
  · rw [Bool.true_and, zb_bI]
    congr 2
    apply dB_cong
    constructor
    · intro h
      exact ⟨fun hw y z hy hz => ((h y hy).1 z hz).1 hw, fun hw y z hy hz => ((h y hy).1 z hz).2.1 hw, fun hw y z hy hz => ((h y hy).1 z hz).2.2 hw, fun hw y hy => (h y hy).2 hw⟩
    · rintro ⟨h1, h2, h3, h4⟩ y hy
      exact ⟨fun z hz => ⟨fun hw => h1 hw y z hy hz, fun hw => h2 hw y z hy hz, fun hw => h3 hw y z hy hz⟩, fun hw => h4 hw y hy⟩
end RN
theorem or_one {n i : Nat} (hi : i < 5) (b : Bool) (p : Nat → Bool) : (if bI b = 0 then sI p else sI p ||| (1 <<< (nI i &&& 31))) = sI (fun s => p s || dB (b = true ∧ s = i)) := by
  cases b
  · rw [if_pos (by rfl)]; apply sI_cong; intro s hs; rw [dB_f (fun h => by cases h.1), Bool.or_false]
  · rw [if_neg (by decide), sI_one hi, sI_or]; apply sI_cong; intro s hs; congr 1; apply b_dB; simp
theorem or_oneP {i : Nat} (hi : i < 5) (P : Prop) (p : Nat → Bool) : (if bI (dB P) = 0 then sI p else sI p ||| (1 <<< (nI i &&& 31))) = sI (fun s => p s || dB (P ∧ s = i)) := by
  rw [or_one (n := 0) hi]
  apply sI_cong; intro s hs; congr 1; apply dB_cong; rw [dB_iff]
theorem nucOf_ok {σ : St} {k n : Nat} {B : Nat → Nat → Nat} (h : GOK σ k n B) (hs : SQ n B) {w : Nat} (hw : w ≤ 3) : f_Laws_nucleusOf σ k (nI w) = some (sI (fun s => dB (s < n ∧ nuc n (sg B) w s))) := by
  have hn := h.le; have ho := h.ord
  unfold f_Laws_nucleusOf
  refine (loop_or (fun m i p => f_Laws_nucleusOf_L4 k (nI w) σ (fun v => some v) m (sI p) (nI i)) n (fun i s => nuc n (sg B) w i ∧ s = i) (fun p => some (sI p)) (by omega) (fun _ => false) ?_ ?_).trans ?_
  · intro m i p hi
    show f_Laws_nucleusOf_L4 k (nI w) σ _ (m + 1) (sI p) (nI i) = _
    rw [f_Laws_nucleusOf_L4.eq_2]
    simp (disch := omega) only [ho, inNuc_ok h hs hw hi, and_self, and_true, true_and, and_false, false_and, cap_some, cal_some, cax_ok, cax_er, jn_eq, lt1_eq, sto_eq, ald_nI, ast_nI, gld_nI, fac_nI, lt_nI, le_nI, eq_nI, nI_1, nI_add, nI_mul, cell5, cell25, ce_m1, if_pos, if_neg, ↓reduceIte, if_true, if_false, lt_l0, le_l0, eq_l0, ll_t0, add_l0, lt_l1, le_l1, eq_l1, ll_t1, add_l1, lt_l2, le_l2, eq_l2, ll_t2, add_l2, lt_l3, le_l3, eq_l3, ll_t3, add_l3, lt_l4, le_l4, eq_l4, ll_t4, add_l4, lt_l5, le_l5, eq_l5, ll_t5, add_l5, lt_l6, le_l6, eq_l6, ll_t6, add_l6, lt_l10, le_l10, eq_l10, ll_t10, add_l10, lt_l12, le_l12, eq_l12, ll_t12, add_l12, lt_l25, le_l25, eq_l25, ll_t25, add_l25, lt_l40, le_l40, eq_l40, ll_t40, add_l40, lt_l41, le_l41, eq_l41, ll_t41, add_l41, lt_l42, le_l42, eq_l42, ll_t42, add_l42, lt_l61, le_l61, eq_l61, ll_t61, add_l61, lt_l120, le_l120, eq_l120, ll_t120, add_l120, lt_l121, le_l121, eq_l121, ll_t121, add_l121, lt_l122, le_l122, eq_l122, ll_t122, add_l122, lt_l576, le_l576, eq_l576, ll_t576, add_l576, lt_l600, le_l600, eq_l600, ll_t600, add_l600, lt_l1000, le_l1000, eq_l1000, ll_t1000, add_l1000]
    rw [← or_oneP (by omega) (nuc n (sg B) w i) p]
    split <;> rfl
  · intro m p
    show f_Laws_nucleusOf_L4 k (nI w) σ _ (m + 1) (sI p) (nI n) = _
    rw [f_Laws_nucleusOf_L4.eq_2]
    simp (disch := omega) only [ho, and_self, and_true, true_and, and_false, false_and, cap_some, cal_some, cax_ok, cax_er, jn_eq, lt1_eq, sto_eq, ald_nI, ast_nI, gld_nI, fac_nI, lt_nI, le_nI, eq_nI, nI_1, nI_add, nI_mul, cell5, cell25, ce_m1, if_pos, if_neg, ↓reduceIte, if_true, if_false, lt_l0, le_l0, eq_l0, ll_t0, add_l0, lt_l1, le_l1, eq_l1, ll_t1, add_l1, lt_l2, le_l2, eq_l2, ll_t2, add_l2, lt_l3, le_l3, eq_l3, ll_t3, add_l3, lt_l4, le_l4, eq_l4, ll_t4, add_l4, lt_l5, le_l5, eq_l5, ll_t5, add_l5, lt_l6, le_l6, eq_l6, ll_t6, add_l6, lt_l10, le_l10, eq_l10, ll_t10, add_l10, lt_l12, le_l12, eq_l12, ll_t12, add_l12, lt_l25, le_l25, eq_l25, ll_t25, add_l25, lt_l40, le_l40, eq_l40, ll_t40, add_l40, lt_l41, le_l41, eq_l41, ll_t41, add_l41, lt_l42, le_l42, eq_l42, ll_t42, add_l42, lt_l61, le_l61, eq_l61, ll_t61, add_l61, lt_l120, le_l120, eq_l120, ll_t120, add_l120, lt_l121, le_l121, eq_l121, ll_t121, add_l121, lt_l122, le_l122, eq_l122, ll_t122, add_l122, lt_l576, le_l576, eq_l576, ll_t576, add_l576, lt_l600, le_l600, eq_l600, ll_t600, add_l600, lt_l1000, le_l1000, eq_l1000, ll_t1000, add_l1000]
  · congr 1
    apply sI_cong
    intro s _
    rw [Bool.false_or]
    apply dB_cong
    constructor
    · rintro ⟨i, h1, h2, rfl⟩; exact ⟨h1, h2⟩
    · rintro ⟨h1, h2⟩; exact ⟨s, h1, h2, rfl⟩
theorem rnuc_ok {σ : St} {M : Nat} {N : Nat → Nat} {B : Nat → Nat → Nat → Nat} (h : MW σ M N B) {j : Nat} (hj : j < M) (hs : SQ (N j) (B j)) {w : Nat} (hw : w ≤ 3) (K : Int32 → Option (Int32 × St)) : f_R_nucleus_L22 (nI j) (nI w) σ K FU 0 0 = K (sI (fun s => dB (s < N j ∧ nuc (N j) (sg (B j)) w s))) := by
  have hM := h.le; have hn := h.n hj; have ho := h.od hj
  refine (loop_or (fun m i p => f_R_nucleus_L22 (nI j) (nI w) σ K m (sI p) (nI i)) (N j) (fun i s => nuc (N j) (sg (B j)) w i ∧ s = i) (fun p => K (sI p)) (by omega) (fun _ => false) ?_ ?_).trans ?_
  · intro m i p hi
    show f_R_nucleus_L22 (nI j) (nI w) σ K (m + 1) (sI p) (nI i) = _
    rw [f_R_nucleus_L22.eq_2]
    simp (disch := omega) only [ho, rin_ok h hj hs hw hi, and_self, and_true, true_and, and_false, false_and, cap_some, cal_some, cax_ok, cax_er, jn_eq, lt1_eq, sto_eq, ald_nI, ast_nI, gld_nI, fac_nI, lt_nI, le_nI, eq_nI, nI_1, nI_add, nI_mul, cell5, cell25, ce_m1, if_pos, if_neg, ↓reduceIte, if_true, if_false, lt_l0, le_l0, eq_l0, ll_t0, add_l0, lt_l1, le_l1, eq_l1, ll_t1, add_l1, lt_l2, le_l2, eq_l2, ll_t2, add_l2, lt_l3, le_l3, eq_l3, ll_t3, add_l3, lt_l4, le_l4, eq_l4, ll_t4, add_l4, lt_l5, le_l5, eq_l5, ll_t5, add_l5, lt_l6, le_l6, eq_l6, ll_t6, add_l6, lt_l10, le_l10, eq_l10, ll_t10, add_l10, lt_l12, le_l12, eq_l12, ll_t12, add_l12, lt_l25, le_l25, eq_l25, ll_t25, add_l25, lt_l40, le_l40, eq_l40, ll_t40, add_l40, lt_l41, le_l41, eq_l41, ll_t41, add_l41, lt_l42, le_l42, eq_l42, ll_t42, add_l42, lt_l61, le_l61, eq_l61, ll_t61, add_l61, lt_l120, le_l120, eq_l120, ll_t120, add_l120, lt_l121, le_l121, eq_l121, ll_t121, add_l121, lt_l122, le_l122, eq_l122, ll_t122, add_l122, lt_l576, le_l576, eq_l576, ll_t576, add_l576, lt_l600, le_l600, eq_l600, ll_t600, add_l600, lt_l1000, le_l1000, eq_l1000, ll_t1000, add_l1000]
    rw [← or_oneP (by omega) (nuc (N j) (sg (B j)) w i) p]
    split
    · rw [Int32.or_zero]
    · rfl
  · intro m p
    show f_R_nucleus_L22 (nI j) (nI w) σ K (m + 1) (sI p) (nI (N j)) = _
    rw [f_R_nucleus_L22.eq_2]
    simp (disch := omega) only [ho, and_self, and_true, true_and, and_false, false_and, cap_some, cal_some, cax_ok, cax_er, jn_eq, lt1_eq, sto_eq, ald_nI, ast_nI, gld_nI, fac_nI, lt_nI, le_nI, eq_nI, nI_1, nI_add, nI_mul, cell5, cell25, ce_m1, if_pos, if_neg, ↓reduceIte, if_true, if_false, lt_l0, le_l0, eq_l0, ll_t0, add_l0, lt_l1, le_l1, eq_l1, ll_t1, add_l1, lt_l2, le_l2, eq_l2, ll_t2, add_l2, lt_l3, le_l3, eq_l3, ll_t3, add_l3, lt_l4, le_l4, eq_l4, ll_t4, add_l4, lt_l5, le_l5, eq_l5, ll_t5, add_l5, lt_l6, le_l6, eq_l6, ll_t6, add_l6, lt_l10, le_l10, eq_l10, ll_t10, add_l10, lt_l12, le_l12, eq_l12, ll_t12, add_l12, lt_l25, le_l25, eq_l25, ll_t25, add_l25, lt_l40, le_l40, eq_l40, ll_t40, add_l40, lt_l41, le_l41, eq_l41, ll_t41, add_l41, lt_l42, le_l42, eq_l42, ll_t42, add_l42, lt_l61, le_l61, eq_l61, ll_t61, add_l61, lt_l120, le_l120, eq_l120, ll_t120, add_l120, lt_l121, le_l121, eq_l121, ll_t121, add_l121, lt_l122, le_l122, eq_l122, ll_t122, add_l122, lt_l576, le_l576, eq_l576, ll_t576, add_l576, lt_l600, le_l600, eq_l600, ll_t600, add_l600, lt_l1000, le_l1000, eq_l1000, ll_t1000, add_l1000]
  · congr 1
    apply sI_cong
    intro s _
    rw [Bool.false_or]
    apply dB_cong
    constructor
    · rintro ⟨i, h1, h2, rfl⟩; exact ⟨h1, h2⟩
    · rintro ⟨h1, h2⟩; exact ⟨s, h1, h2, rfl⟩
theorem ok_nucleus : Ok_nucleus Inv := by
  intro σ hI p0 p1
  refine op_rd hI (Q := fun σ => f_Q_nucleus σ p0 p1) (R := fun σ => f_R_nucleus σ p0 p1) (fun M N B cw mt ct => ?_)
  refine sqA (y := p1) (b := 3) cw ⟨rfl, rfl, rfl⟩ (by omega) (QB := fun g σ8 => cap (f_Laws_nucleusOf σ8 g p1) fun r_15 => some (.ok r_15, σ8)) (RB := fun σ_5 => f_R_nucleus_L22 p0 p1 σ_5 (fun (v3_11 : Int32) => some (v3_11, σ_5)) FU 0 0) (fun _ => rfl) (fun _ => rfl) ?_
  rintro j a hj rfl ha rfl hs hG
  refine ⟨sI (fun s => dB (s < N j ∧ nuc (N j) (sg (B j)) a s)), σ, ?_, FrC.refl σ, fun σ1 mw ca h0 => ⟨σ1, ?_, FrM.refl σ1, ca, h0⟩⟩
  · show cap (f_Laws_nucleusOf σ (gid j) (nI a)) _ = _
    rw [nucOf_ok hG hs ha, cap_some]
  · exact rnuc_ok mw hj hs ha _
