/-! groups: a list that grows until it is closed -/
def addL (L : List Nat) (x : Nat) : List Nat := if x ∈ L then L else L ++ [x]
theorem addL_mem {L : List Nat} {x y : Nat} : y ∈ addL L x ↔ y ∈ L ∨ y = x := by
  unfold addL
  by_cases h : x ∈ L
  · rw [if_pos h]
    constructor
    · exact Or.inl
    · rintro (h2 | rfl)
      · exact h2
      · exact h
  · rw [if_neg h, List.mem_append, List.mem_singleton]
theorem addL_nodup {L : List Nat} {x : Nat} (h : L.Nodup) : (addL L x).Nodup := by
  unfold addL
  by_cases hx : x ∈ L
  · rw [if_pos hx]; exact h
  · rw [if_neg hx]
    refine List.nodup_append.mpr ⟨h, by simp, ?_⟩
    rintro a ha b hb rfl
    rw [List.mem_singleton] at hb
    subst hb
    exact hx ha
theorem addL_get {L : List Nat} {x k y : Nat} (h : L[k]? = some y) : (addL L x)[k]? = some y := by
  unfold addL
  by_cases hx : x ∈ L
  · rw [if_pos hx]; exact h
  · rw [if_neg hx, List.getElem?_append, if_pos (by
      apply Classical.byContradiction
      intro hh
      rw [List.getElem?_eq_none (by omega)] at h
      cases h)]
    exact h
def Rch (mks : List Nat) (mul : Nat → Nat → Nat) (x : Nat) : Prop := ∀ S : Nat → Prop, S 0 → (∀ y mk, S y → mk ∈ mks → S (mul mk y)) → S x
theorem Rch.zero {mks : List Nat} {mul : Nat → Nat → Nat} : Rch mks mul 0 := fun _ h _ => h
theorem Rch.step {mks : List Nat} {mul : Nat → Nat → Nat} {y mk : Nat} (h : Rch mks mul y) (hm : mk ∈ mks) : Rch mks mul (mul mk y) := fun S h0 hs => hs y mk (h S h0 hs) hm
def GI (N : Nat) (mks : List Nat) (mul : Nat → Nat → Nat) (i : Nat) (L : List Nat) : Prop := L.Nodup ∧ (∀ x, x ∈ L → x < N ∧ Rch mks mul x) ∧ 0 ∈ L ∧ ∀ k y, k < i → L[k]? = some y → ∀ mk, mk ∈ mks → mul mk y ∈ L
theorem GI.len {N : Nat} {mks : List Nat} {mul : Nat → Nat → Nat} {i : Nat} {L : List Nat} (h : GI N mks mul i L) : L.length ≤ N := by
  have := len_sub L (List.range N) h.1 (fun x hx => List.mem_range.mpr (h.2.1 x hx).1)
  simpa using this
theorem GI.add {N : Nat} {mks : List Nat} {mul : Nat → Nat → Nat} {i : Nat} {L : List Nat} (h : GI N mks mul i L) {x : Nat} (hx : x < N) (hr : Rch mks mul x) (hi : i ≤ L.length) : GI N mks mul i (addL L x) := by
  refine ⟨addL_nodup h.1, fun y hy => ?_, addL_mem.mpr (Or.inl h.2.2.1), fun k y hk hy mk hmk => ?_⟩
  · rcases addL_mem.mp hy with h1 | rfl
    · exact h.2.1 y h1
    · exact ⟨hx, hr⟩
  · obtain ⟨z, hz⟩ : ∃ z, L[k]? = some z := ⟨L[k]'(by omega), List.getElem?_eq_getElem (by omega)⟩
    have h2 := addL_get (x := x) hz
    rw [h2] at hy
    have : z = y := Option.some.inj hy
    subst this
    exact addL_mem.mpr (Or.inl (h.2.2.2 k z hk hz mk hmk))
theorem addL_len {L : List Nat} {x : Nat} : L.length ≤ (addL L x).length := by
  unfold addL; split
  · exact Nat.le_refl _
  · simp
/-- what a growing loop does with its list -/
theorem GI.full {N : Nat} {mks : List Nat} {mul : Nat → Nat → Nat} {L : List Nat} (h : GI N mks mul L.length L) : ∀ x, x ∈ L ↔ Rch mks mul x := by
  intro x
  constructor
  · intro hx; exact (h.2.1 x hx).2
  · intro hr
    refine hr (fun y => y ∈ L) h.2.2.1 (fun y mk hy hmk => ?_)
    obtain ⟨k, hk, e⟩ := List.getElem_of_mem hy
    exact h.2.2.2 k y hk (by rw [List.getElem?_eq_getElem hk, e]) mk hmk
/-! the class -/
def CM (τ : St) (L : List Nat) : Prop := τ 18 6 = nI L.length ∧ Lst 20 τ L ∧ ∀ x, x < 120 → τ 21 x = bI (decide (x ∈ L))
def FrQ (σ τ : St) : Prop := ∀ m s, ¬ (m = 18 ∧ s = 6) → m ≠ 9 → m ≠ 20 → m ≠ 21 → τ m s = σ m s
theorem FrQ.refl (σ : St) : FrQ σ σ := fun _ _ _ _ _ _ => rfl
theorem FrQ.trans {a b c : St} (h : FrQ a b) (h2 : FrQ b c) : FrQ a c := fun m s x y z w => (h2 m s x y z w).trans (h m s x y z w)
theorem addMember_ok {τ : St} {L : List Nat} (h : CM τ L) (hd : L.Nodup) (hL : ∀ x, x ∈ L → x < 120) {x : Nat} (hx : x < 120) : ∃ τ', f_Symmetry_addMember τ (nI x) = some ((), τ') ∧ CM τ' (addL L x) ∧ FrQ τ τ' := by
  obtain ⟨h1, h2, h3⟩ := h
  unfold f_Symmetry_addMember
  rw [if_neg (nI_pos (by omega)), if_pos (show nI x < 120 from nI_lt hx (by decide)), ald_nI (by omega) (by decide), h3 x hx]
  by_cases hm : x ∈ L
  · refine ⟨τ, by rw [decide_eq_true hm, if_neg (by decide)], ?_, FrQ.refl τ⟩
    unfold addL
    rw [if_pos hm]
    exact ⟨h1, h2, h3⟩
  · have hlen : L.length < 120 := by
      have := len_sub (x :: L) (List.range 120) (List.nodup_cons.mpr ⟨hm, hd⟩) (fun y hy => by
        rcases List.mem_cons.mp hy with rfl | hy
        · exact List.mem_range.mpr hx
        · exact List.mem_range.mpr (hL y hy))
      simp at this
      omega
    refine ⟨wr (wr (wr τ 21 x 1) 20 L.length (nI x)) 18 6 (nI (L.length + 1)), ?_, ?_, fun m s a b c d => by rw [wr_get, if_neg a, wr_fn c, wr_fn d]⟩
    · rw [decide_eq_false hm, if_pos (by rfl), h1, if_neg (nI_pos (by omega)), if_pos (show nI L.length < 120 from nI_lt hlen (by decide)), asz_nI (by omega) (by decide), zb_1, wr_fn (by omega), h1, ast_nI (by omega) (by decide), sto_eq, wr_fn (by omega), wr_fn (by omega), h1, nI_1]
    · unfold addL
      rw [if_neg hm]
      refine ⟨by rw [wr_at, List.length_append]; rfl, ?_, fun y hy => ?_⟩
      · exact ((h2.fr (τ' := wr τ 21 x 1) (fun i => by rw [wr_fn (by omega)])).add x).fr (fun i => by rw [wr_fn (by omega)])
      · rw [wr_fn (by omega), wr_fn (by omega), wr_get]
        by_cases e : y = x
        · rw [if_pos ⟨rfl, e⟩, e, decide_eq_true (by simp)]; rfl
        · rw [if_neg (by omega), h3 y hy]
          congr 1
          rw [decide_eq_decide, List.mem_append, List.mem_singleton]
          constructor
          · exact Or.inl
          · rintro (h | h)
            · exact h
            · exact absurd h e
def cmul (n mk y : Nat) : Nat := nmN n (fun i => cp mk (cp y i))
theorem cmul_pm {n mk y : Nat} (h1 : 2 ≤ n) (h2 : n ≤ 5) (hm : mk < facN n) (hy : y < facN n) : PM n (fun i => cp mk (cp y i)) := by
  have a := (cp_pm h1 h2 hm).1
  have b := (cp_pm h1 h2 hy).1
  exact ⟨fun i hi => a.1 _ (b.1 i hi), fun i j hi hj e => b.2 i j hi hj (a.2 _ _ (b.1 i hi) (b.1 j hj) e)⟩
section GC2
variable {σ : St} {k n : Nat} {B : Bd}
theorem draftL {τ : St} (d : Nat → Nat) {F : Nat → Nat → St → Option (Int32 × St)} {K : St → Option (Int32 × St)} (h5 : n ≤ 5) (hs : ∀ f i υ, i < n → Frx 9 τ υ → F (f + 1) i υ = F f (i + 1) (wr υ 9 i (nI (d i)))) (hx : ∀ f υ, Frx 9 τ υ → F (f + 1) n υ = K υ) : ∃ υ, F FU 0 τ = K υ ∧ (∀ i, i < n → υ 9 i = nI (d i)) ∧ Frx 9 τ υ := by
  refine loopE F n (fun i υ => (∀ k, k < i → υ 9 k = nI (d k)) ∧ Frx 9 τ υ) (fun R => ∃ υ, R = K υ ∧ (∀ i, i < n → υ 9 i = nI (d i)) ∧ Frx 9 τ υ) ?_ ?_ FU 0 τ (by omega) (FU_gt (by omega)) ⟨fun k hk => by omega, fun m _ => rfl⟩
  · rintro f i υ hi ⟨p1, p2⟩
    refine Or.inr ⟨_, hs f i υ hi p2, fun k hk => ?_, fun m hm => by rw [wr_fn hm]; exact p2 m hm⟩
    rw [wr_get]
    by_cases e : k = i
    · rw [if_pos ⟨rfl, e⟩, e]
    · rw [if_neg (by omega)]; exact p1 k (by omega)
  · rintro f υ ⟨p1, p2⟩
    exact ⟨υ, hx f υ p2, p1, p2⟩
theorem one_ok {τ : St} (mt : MT τ) (h1 : 2 ≤ n) (h2 : n ≤ 5) {mk y : Nat} (hm : mk < facN n) (hy : y < facN n) : ∃ υ, f_Maps_oneBehindOther τ (nI y) (nI mk) (nI n) = some (nI (cmul n mk y), υ) ∧ Frx 9 τ υ := by
  have hf := fac_le h1 h2
  have a := (cp_pm h1 h2 hm).1
  have b := (cp_pm h1 h2 hy).1
  unfold f_Maps_oneBehindOther
  obtain ⟨υ, e, hd, f⟩ := draftL (n := n) (τ := τ) (fun i => cp mk (cp y i)) (F := fun f i υ => f_Maps_oneBehindOther_L3 (nI y) (nI mk) (nI n) (fun (σ_8 : St) => cap (f_Maps_numberOfDraft σ_8 (nI n)) fun r_10 => some (r_10, σ_8)) f (nI i) υ) (K := fun (σ_8 : St) => cap (f_Maps_numberOfDraft σ_8 (nI n)) fun r_10 => some (r_10, σ_8)) h2 (by
    intro f i υ hi fr
    have mtυ : MT υ := fun m hm => by rw [fr 7 (by omega), fr 8 (by omega)]; exact mt m hm
    have b1 := b.1 i hi
    show f_Maps_oneBehindOther_L3 (nI y) (nI mk) (nI n) _ (f + 1) (nI i) υ = _
    rw [f_Maps_oneBehindOther_L3.eq_2]
    rw [if_pos (nI_lt hi (by omega)), image_ok mtυ (by omega) (by omega), cap_some, image_ok mtυ (by omega) (by omega), cap_some, write_ok (by omega), cal_some, nI_1]) (by
    intro f υ fr
    show f_Maps_oneBehindOther_L3 (nI y) (nI mk) (nI n) _ (f + 1) (nI n) υ = _
    rw [f_Maps_oneBehindOther_L3.eq_2]
    rw [if_neg (nI_nlt (Nat.le_refl _) (by omega))])
  have hpm := cmul_pm h1 h2 hm hy
  refine ⟨υ, e.trans ?_, f⟩
  show cap (f_Maps_numberOfDraft υ (nI n)) _ = _
  rw [draft_ok h1 h2 (fun i => cp mk (cp y i)) (fun i hi => ⟨hd i hi, hpm.1 i hi⟩), dB_t hpm, if_pos rfl, cap_some]
  rfl
theorem row_pm (hs : SQ n B) {a : Nat} (ha : a < n) : PM n (sg B a) := ⟨fun b hb => hs.lt ha hb, fun b b' hb hb' e => hs.inj_r ha hb hb' e⟩
theorem col_pm (hs : SQ n B) {a : Nat} (ha : a < n) : PM n (fun b => sg B b a) := ⟨fun b hb => hs.lt hb ha, fun b b' hb hb' e => hs.inj_c hb hb' ha e⟩
theorem rowMap_ok {τ : St} (h : GOK τ k n B) (hs : SQ n B) (hk : 33 < k) {a : Nat} (ha : a < n) : ∃ υ, f_Symmetry_rowMap τ k (nI a) = some (nI (nmN n (sg B a)), υ) ∧ Frx 9 τ υ := by
  have hn := h.le
  unfold f_Symmetry_rowMap
  obtain ⟨υ, e, hd, f⟩ := draftL (n := n) (τ := τ) (sg B a) (F := fun f i υ => f_Symmetry_rowMap_L2 k (nI a) (fun (σ_6 : St) => cap (f_Maps_numberOfDraft σ_6 (σ_6 k 3)) fun r_8 => some (r_8, σ_6)) f (nI i) υ) (K := fun (σ_6 : St) => cap (f_Maps_numberOfDraft σ_6 (σ_6 k 3)) fun r_8 => some (r_8, σ_6)) hn.2 (by
    intro f i υ hi fr
    have hG : GOK υ k n B := h.frame (fun m a b => fr m (by omega))
    show f_Symmetry_rowMap_L2 k (nI a) _ (f + 1) (nI i) υ = _
    rw [f_Symmetry_rowMap_L2.eq_2]
    rw [hG.ord, if_pos (nI_lt hi (by omega)), sq_sign hG hs ha hi, cap_some, write_ok (by omega), cal_some, nI_1]) (by
    intro f υ fr
    have hG : GOK υ k n B := h.frame (fun m a b => fr m (by omega))
    show f_Symmetry_rowMap_L2 k (nI a) _ (f + 1) (nI n) υ = _
    rw [f_Symmetry_rowMap_L2.eq_2]
    rw [hG.ord, if_neg (nI_nlt (Nat.le_refl _) (by omega))])
  have hG : GOK υ k n B := h.frame (fun m a b => f m (by omega))
  have hpm := row_pm hs ha
  refine ⟨υ, e.trans ?_, f⟩
  show cap (f_Maps_numberOfDraft υ (υ k 3)) _ = _
  rw [hG.ord, draft_ok hn.1 hn.2 (sg B a) (fun i hi => ⟨hd i hi, hpm.1 i hi⟩), dB_t hpm, if_pos rfl, cap_some]
theorem colMap_ok {τ : St} (h : GOK τ k n B) (hs : SQ n B) (hk : 33 < k) {a : Nat} (ha : a < n) : ∃ υ, f_Symmetry_columnMap τ k (nI a) = some (nI (nmN n (fun b => sg B b a)), υ) ∧ Frx 9 τ υ := by
  have hn := h.le
  unfold f_Symmetry_columnMap
  obtain ⟨υ, e, hd, f⟩ := draftL (n := n) (τ := τ) (fun b => sg B b a) (F := fun f i υ => f_Symmetry_columnMap_L2 k (nI a) (fun (σ_6 : St) => cap (f_Maps_numberOfDraft σ_6 (σ_6 k 3)) fun r_8 => some (r_8, σ_6)) f (nI i) υ) (K := fun (σ_6 : St) => cap (f_Maps_numberOfDraft σ_6 (σ_6 k 3)) fun r_8 => some (r_8, σ_6)) hn.2 (by
    intro f i υ hi fr
    have hG : GOK υ k n B := h.frame (fun m a b => fr m (by omega))
    show f_Symmetry_columnMap_L2 k (nI a) _ (f + 1) (nI i) υ = _
    rw [f_Symmetry_columnMap_L2.eq_2]
    rw [hG.ord, if_pos (nI_lt hi (by omega)), sq_sign hG hs hi ha, cap_some, write_ok (by omega), cal_some, nI_1]) (by
    intro f υ fr
    have hG : GOK υ k n B := h.frame (fun m a b => fr m (by omega))
    show f_Symmetry_columnMap_L2 k (nI a) _ (f + 1) (nI n) υ = _
    rw [f_Symmetry_columnMap_L2.eq_2]
    rw [hG.ord, if_neg (nI_nlt (Nat.le_refl _) (by omega))])
  have hG : GOK υ k n B := h.frame (fun m a b => f m (by omega))
  have hpm := col_pm hs ha
  refine ⟨υ, e.trans ?_, f⟩
  show cap (f_Maps_numberOfDraft υ (υ k 3)) _ = _
  rw [hG.ord, draft_ok hn.1 hn.2 (fun b => sg B b a) (fun i hi => ⟨hd i hi, hpm.1 i hi⟩), dB_t hpm, if_pos rfl, cap_some]
def mkC (n : Nat) (B : Bd) (R C : Bool) : Nat → List Nat
  | 0 => []
  | a + 1 => mkC n B R C a ++ ((if R = true then [nmN n (sg B a)] else []) ++ (if C = true then [nmN n (fun b => sg B b a)] else []))
theorem mkC_len (R C : Bool) : ∀ a, (mkC n B R C a).length ≤ 2 * a
  | 0 => Nat.le_refl _
  | a + 1 => by
    have := mkC_len R C a
    rw [mkC, List.length_append, List.length_append]
    cases R <;> cases C <;> simp <;> omega
theorem mkC_mem (R C : Bool) {x : Nat} : ∀ a, x ∈ mkC n B R C a ↔ (R = true ∧ ∃ b, b < a ∧ x = nmN n (sg B b)) ∨ (C = true ∧ ∃ b, b < a ∧ x = nmN n (fun c => sg B c b)) := by
  intro a
  induction a with
  | zero =>
    constructor
    · intro h; cases h
    · rintro (⟨_, b, hb, _⟩ | ⟨_, b, hb, _⟩) <;> omega
  | succ a ih =>
    rw [mkC, List.mem_append, List.mem_append, ih]
    have e1 : (∃ b, b < a + 1 ∧ x = nmN n (sg B b)) ↔ (∃ b, b < a ∧ x = nmN n (sg B b)) ∨ x = nmN n (sg B a) := ex_next (p := fun b => x = nmN n (sg B b))
    have e2 : (∃ b, b < a + 1 ∧ x = nmN n (fun c => sg B c b)) ↔ (∃ b, b < a ∧ x = nmN n (fun c => sg B c b)) ∨ x = nmN n (fun c => sg B c a) := ex_next (p := fun b => x = nmN n (fun c => sg B c b))
    rw [e1, e2]
    cases R <;> cases C <;> simp <;> constructor
    all_goals (intro h; rcases h with (h | h) | h | h <;> simp [h])
theorem addMaker_ok {τ : St} {l : List Nat} (h5 : τ 18 5 = nI l.length) (hl : Lst 19 τ l) (hlen : l.length < 10) (x : Nat) : ∃ υ, f_Symmetry_addMaker τ (nI x) = some ((), υ) ∧ υ 18 5 = nI (l ++ [x]).length ∧ Lst 19 υ (l ++ [x]) ∧ ∀ m s, ¬ (m = 18 ∧ s = 5) → m ≠ 19 → υ m s = τ m s := by
  refine ⟨wr (wr τ 19 l.length (nI x)) 18 5 (nI (l.length + 1)), ?_, by rw [wr_at, List.length_append]; rfl, (hl.add x).fr (fun i => by rw [wr_fn (by omega)]), fun m s a b => by rw [wr_get, if_neg a, wr_fn b]⟩
  unfold f_Symmetry_addMaker
  rw [h5, if_neg (nI_pos (by omega)), if_pos (show nI l.length < 10 from nI_lt hlen (by decide)), ast_nI (by omega) (by decide), sto_eq, wr_fn (by omega), h5, nI_1]
end GC2
