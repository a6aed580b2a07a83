/-! transversals, automorphisms -/
def FL (p : Nat → Bool) (k : Nat) : List Nat := (List.range k).filter p
theorem FL_next {p : Nat → Bool} {k : Nat} : FL p (k + 1) = FL p k ++ if p k = true then [k] else [] := by
  unfold FL
  rw [List.range_succ, List.filter_append]
  congr 1
  cases h : p k <;> simp [h]
theorem FL_le {p : Nat → Bool} {k : Nat} : (FL p k).length ≤ k := by
  unfold FL
  exact Nat.le_trans (List.length_filter_le _ _) (by simp)
theorem FL_sum {p : Nat → Bool} (k : Nat) : (FL p k).length = sumN k (fun m => (p m).toNat) := by
  induction k with
  | zero => rfl
  | succ k ih => rw [FL_next, List.length_append, ih, sumN]; cases p k <;> rfl
theorem FL_mem {p : Nat → Bool} {k x : Nat} : x ∈ FL p k ↔ x < k ∧ p x = true := by
  unfold FL
  rw [List.mem_filter, List.mem_range]
/-- a list of numbers that lies in an object -/
def Lst (o : Nat) (τ : St) (l : List Nat) : Prop := ∀ i x, l[i]? = some x → τ o i = nI x
theorem Lst.add {o : Nat} {τ : St} {l : List Nat} (h : Lst o τ l) (x : Nat) : Lst o (wr τ o l.length (nI x)) (l ++ [x]) := by
  intro i y hy
  rw [List.getElem?_append] at hy
  rw [wr_get]
  by_cases hi : i < l.length
  · rw [if_pos hi] at hy
    rw [if_neg (by omega)]; exact h i y hy
  · rw [if_neg hi] at hy
    by_cases hi2 : i = l.length
    · subst hi2
      rw [Nat.sub_self] at hy
      rw [if_pos ⟨rfl, rfl⟩, show x = y from Option.some.inj hy]
    · rw [List.getElem?_eq_none (by simp; omega)] at hy; cases hy
theorem Lst.fr {o : Nat} {τ τ' : St} {l : List Nat} (h : Lst o τ l) (e : ∀ i, τ' o i = τ o i) : Lst o τ' l := fun i x hx => by rw [e]; exact h i x hx
noncomputable def TRV (n : Nat) (B : Bd) (f : Nat → Nat) : Bool := dB (∀ s, s < n → ∃ r, r < n ∧ sg B r (f r) = s)
theorem TRV_congr {n : Nat} {B : Bd} {f g : Nat → Nat} (h : ∀ i, i < n → f i = g i) : TRV n B f = TRV n B g := by
  unfold TRV
  apply dB_cong
  constructor
  · intro hh s hs
    obtain ⟨r, hr, e⟩ := hh s hs
    exact ⟨r, hr, by rw [← h r hr]; exact e⟩
  · intro hh s hs
    obtain ⟨r, hr, e⟩ := hh s hs
    exact ⟨r, hr, by rw [h r hr]; exact e⟩
theorem set_all {n : Nat} (hn : n ≤ 5) {q : Nat → Nat → Prop} (hq : ∀ r s, r < n → q r s → s < n) : (sI (fun s => false || dB (∃ r, r < n ∧ q r s)) = sI (fun t => decide (t < n))) ↔ ∀ s, s < n → ∃ r, r < n ∧ q r s := by
  rw [sI_eq hn]
  · constructor
    · intro h s hs
      have h1 := congrFun h s
      rw [Bool.false_or, decide_eq_true hs] at h1
      exact dB_iff.mp h1
    · intro h
      funext s
      rw [Bool.false_or]
      by_cases hs : s < n
      · rw [dB_t (h s hs), decide_eq_true hs]
      · rw [decide_eq_false hs, dB_f]
        rintro ⟨r, hr, e⟩
        exact hs (hq r s hr e)
  · intro s hs
    have hs : (false || dB (∃ r, r < n ∧ q r s)) = true := hs
    rw [Bool.false_or] at hs
    obtain ⟨r, hr, e⟩ := dB_iff.mp hs
    exact hq r s hr e
  · intro s hs; exact of_decide_eq_true hs
section TRC
variable {σ : St} {k n : Nat} {B : Bd}
theorem hasAll_ok (mt : MT σ) (h : GOK σ k n B) (hs : SQ n B) {m : Nat} (hm : m < facN n) : f_Mating_hasAllSigns σ k (nI m) = some (bI (TRV n B (cp m))) := by
  have hn := h.le
  have ho := h.ord
  have hf := fac_le hn.1 hn.2
  have hp := (cp_pm hn.1 hn.2 hm).1
  unfold f_Mating_hasAllSigns
  refine (loop_or (fun f i q => f_Mating_hasAllSigns_L5 k (nI m) σ (fun (v3_6 : Int32) => cap (f_Grid_allSigns σ k) fun r_8 => if v3_6 = r_8 then some 1 else some 0) f (sI q) (nI i)) n (fun r s => sg B r (cp m r) = s) (fun q => cap (f_Grid_allSigns σ k) fun r_8 => if sI q = r_8 then some 1 else some 0) (by omega) (fun _ => false) ?_ ?_).trans ?_
  · intro f i q hi
    show f_Mating_hasAllSigns_L5 k (nI m) σ _ (f + 1) (sI q) (nI i) = _
    have hl := hs.lt hi (hp.1 i hi)
    rw [f_Mating_hasAllSigns_L5.eq_2]
    rw [ho, if_pos (nI_lt hi (by omega)), image_ok mt (by omega) (by omega), cap_some, sq_sign h hs hi (hp.1 i hi), cap_some, lt1_eq, or_oneB (by omega), nI_1]
    congr 1
    apply sI_cong
    intro s _
    congr 1
    exact dB_cong ⟨fun h => h.symm, fun h => h.symm⟩
  · intro f q
    show f_Mating_hasAllSigns_L5 k (nI m) σ _ (f + 1) (sI q) (nI n) = _
    rw [f_Mating_hasAllSigns_L5.eq_2]
    rw [ho, if_neg (nI_nlt (Nat.le_refl _) (by omega))]
  · rw [all_ok h, cap_some]
    have e := set_all hn.2 (q := fun r s => sg B r (cp m r) = s) (fun r s hr e => by rw [← e]; exact hs.lt hr (hp.1 r hr))
    unfold TRV
    by_cases hh : ∀ s, s < n → ∃ r, r < n ∧ sg B r (cp m r) = s
    · rw [if_pos (e.mpr hh), dB_t hh]; rfl
    · rw [if_neg (fun h => hh (e.mp h)), dB_f hh]; rfl
theorem findT_ok (mt : MT σ) (h : GOK σ k n B) (hs : SQ n B) (hk : 33 < k) : ∃ τ, f_Mating_findTransversals σ k = some (nI (FL (fun m => TRV n B (cp m)) (facN n)).length, τ) ∧ Lst 24 τ (FL (fun m => TRV n B (cp m)) (facN n)) ∧ τ 23 5 = nI (FL (fun m => TRV n B (cp m)) (facN n)).length ∧ ∀ m s, ¬ (m = 23 ∧ s = 5) → m ≠ 24 → τ m s = σ m s := by
  have hn := h.le
  have hf := fac_le hn.1 hn.2
  unfold f_Mating_findTransversals
  rw [sto_eq]
  refine loopE (fun f i (τ : St) => f_Mating_findTransversals_L7 k (fun (σ_10 : St) => some ((σ_10 23 5), σ_10)) f (nI i) τ) (facN n)
    (fun i τ => Lst 24 τ (FL (fun m => TRV n B (cp m)) i) ∧ τ 23 5 = nI (FL (fun m => TRV n B (cp m)) i).length ∧ ∀ m s, ¬ (m = 23 ∧ s = 5) → m ≠ 24 → τ m s = σ m s)
    (fun R => ∃ τ, R = some (nI (FL (fun m => TRV n B (cp m)) (facN n)).length, τ) ∧ Lst 24 τ (FL (fun m => TRV n B (cp m)) (facN n)) ∧ τ 23 5 = nI (FL (fun m => TRV n B (cp m)) (facN n)).length ∧ ∀ m s, ¬ (m = 23 ∧ s = 5) → m ≠ 24 → τ m s = σ m s) ?_ ?_ FU 0 _ (by omega) (FU_gt (by omega)) ⟨fun i x hx => (by cases hx), wr_at, fun m s h1 _ => (by rw [wr_get, if_neg h1])⟩
  · rintro f i τ hi ⟨p1, p2, p3⟩
    have hle := FL_le (p := fun m => TRV n B (cp m)) (k := i)
    have mtτ : MT τ := fun m hm => ⟨fun i hi => by rw [p3 7 _ (by omega) (by omega)]; exact (mt m hm).1 i hi, by rw [p3 8 _ (by omega) (by omega)]; exact (mt m hm).2⟩
    have hG : GOK τ k n B := h.frame (fun m a b => funext (fun s => p3 m s (by omega) (by omega)))
    have hnext := FL_next (p := fun m => TRV n B (cp m)) (k := i)
    have hstep : f_Mating_findTransversals_L7 k (fun (σ_10 : St) => some ((σ_10 23 5), σ_10)) (f + 1) (nI i) τ = if bI (TRV n B (cp i)) = 0 then f_Mating_findTransversals_L7 k (fun (σ_10 : St) => some ((σ_10 23 5), σ_10)) f (nI (i + 1)) τ else f_Mating_findTransversals_L7 k (fun (σ_10 : St) => some ((σ_10 23 5), σ_10)) f (nI (i + 1)) (wr (wr τ 24 (FL (fun m => TRV n B (cp m)) i).length (nI i)) 23 5 (nI ((FL (fun m => TRV n B (cp m)) i).length + 1))) := by
      rw [f_Mating_findTransversals_L7.eq_2]
      rw [hG.ord, amount_ok hn.1 hn.2, cap_some, if_pos (nI_lt hi (by omega)), hasAll_ok mtτ hG hs hi, cap_some, p2, nI_1]
      simp only [jn_eq]
      rw [if_neg (nI_pos (by omega)), if_pos (show nI (FL (fun m => TRV n B (cp m)) i).length < 120 from nI_lt (show (FL (fun m => TRV n B (cp m)) i).length < 120 by omega) (by decide)), ast_nI (by omega) (by decide), sto_eq, wr_fn (by omega), p2, nI_1]
    cases hT : TRV n B (cp i)
    · rw [hT, if_neg (by decide), List.append_nil] at hnext
      refine Or.inr ⟨τ, ?_, by rw [hnext]; exact p1, by rw [hnext]; exact p2, p3⟩
      show f_Mating_findTransversals_L7 k _ (f + 1) (nI i) τ = _
      rw [hstep, hT, if_pos (by rfl)]
    · rw [hT, if_pos rfl] at hnext
      refine Or.inr ⟨wr (wr τ 24 (FL (fun m => TRV n B (cp m)) i).length (nI i)) 23 5 (nI ((FL (fun m => TRV n B (cp m)) i).length + 1)), ?_, ?_, ?_, fun m s h1 h2 => ?_⟩
      · show f_Mating_findTransversals_L7 k _ (f + 1) (nI i) τ = _
        rw [hstep, hT, if_neg (by decide)]
      · rw [hnext]
        exact (p1.add i).fr (fun j => by rw [wr_fn (by omega)])
      · rw [hnext, List.length_append]; exact wr_at
      · rw [wr_get, if_neg h1, wr_fn h2]; exact p3 m s h1 h2
  · rintro f τ ⟨p1, p2, p3⟩
    have ho : τ k 3 = nI n := by rw [p3 k 3 (by omega) (by omega)]; exact h.ord
    refine ⟨τ, ?_, p1, p2, p3⟩
    show f_Mating_findTransversals_L7 k _ (f + 1) (nI (facN n)) τ = _
    rw [f_Mating_findTransversals_L7.eq_2]
    rw [ho, amount_ok hn.1 hn.2, cap_some, if_neg (nI_nlt (Nat.le_refl _) (by omega)), p2]
end TRC
section TRR
variable {σ : St} {M : Nat} {N : Nat → Nat} {B : Nat → Bd}
theorem cross33 (h : MW σ M N B) {j : Nat} (hj : j < M) (hs : SQ (N j) (B j)) (la : LA σ (N j)) {m : Nat} (hm : m < facN (N j)) (K : Int32 → Option (Unit × St)) : f_R_layCrosses_L33 (nI j) (nI (N j)) (nI m) σ K FU 0 0 = K (sI (fun s => false || dB (∃ r, r < N j ∧ sg (B j) r (lp (N j) m r) = s))) := by
  have hn := h.n hj
  have hf := fac_le hn.1 hn.2
  have hp := lp_pm hn.1 hn.2 hm
  refine loop_or (fun f i q => f_R_layCrosses_L33 (nI j) (nI (N j)) (nI m) σ K f (sI q) (nI i)) (N j) (fun r s => sg (B j) r (lp (N j) m r) = s) (fun q => K (sI q)) (by omega) (fun _ => false) ?_ ?_
  · intro f i q hi
    show f_R_layCrosses_L33 (nI j) (nI (N j)) (nI m) σ K (f + 1) (sI q) (nI i) = _
    have hl := hs.lt hi (hp.1 i hi)
    rw [f_R_layCrosses_L33.eq_2]
    rw [if_pos (nI_lt hi (by omega)), show (5 : Int32) = nI 5 from rfl, nI_mul, nI_add, ald_nI (by omega) (by decide), la.2.2 m i hm hi, sq_at h hj hs hi (hp.1 i hi), cap_some, lt1_eq, or_oneB (by omega), nI_1]
    congr 1
    apply sI_cong
    intro s _
    congr 1
    exact dB_cong ⟨fun h => h.symm, fun h => h.symm⟩
  · intro f q
    show f_R_layCrosses_L33 (nI j) (nI (N j)) (nI m) σ K (f + 1) (sI q) (nI (N j)) = _
    rw [f_R_layCrosses_L33.eq_2]
    rw [if_neg (nI_nlt (Nat.le_refl _) (by omega))]
theorem crosses_ok (h : MW σ M N B) (ca : CA σ) {j : Nat} (hj : j < M) (hs : SQ (N j) (B j)) : ∃ τ, f_R_layCrosses σ (nI j) = some ((), τ) ∧ LA τ (N j) ∧ Lst 97 τ (FL (fun m => TRV (N j) (B j) (lp (N j) m)) (facN (N j))) ∧ τ 82 22 = nI (FL (fun m => TRV (N j) (B j) (lp (N j) m)) (facN (N j))).length ∧ ∀ m s, ¬ (m = 82 ∧ (s = 9 ∨ s = 10 ∨ s = 22)) → m ≠ 89 → m ≠ 97 → τ m s = σ m s := by
  have hM := h.le
  have hn := h.n hj
  have hf := fac_le hn.1 hn.2
  obtain ⟨υ, e1, la, f1⟩ := layAll_ok ca hn.1 hn.2
  unfold f_R_layCrosses
  rw [ald_nI (by omega) (by decide), h.od hj, e1, cal_some, sto_eq]
  have A := loopE (fun f i (τ : St) => f_R_layCrosses_L19 (nI j) (nI (N j)) f (nI i) τ) (facN (N j))
    (fun i τ => Lst 97 τ (FL (fun m => TRV (N j) (B j) (lp (N j) m)) i) ∧ τ 82 22 = nI (FL (fun m => TRV (N j) (B j) (lp (N j) m)) i).length ∧ ∀ m s, ¬ (m = 82 ∧ s = 22) → m ≠ 97 → τ m s = υ m s)
    (fun R => ∃ τ, R = some ((), τ) ∧ Lst 97 τ (FL (fun m => TRV (N j) (B j) (lp (N j) m)) (facN (N j))) ∧ τ 82 22 = nI (FL (fun m => TRV (N j) (B j) (lp (N j) m)) (facN (N j))).length ∧ ∀ m s, ¬ (m = 82 ∧ s = 22) → m ≠ 97 → τ m s = υ m s) ?_ ?_ FU 0 (wr υ 82 22 0) (by omega) (FU_gt (by omega)) ⟨fun i x hx => (by cases hx), wr_at, fun m s h1 _ => (by rw [wr_get, if_neg h1])⟩
  · obtain ⟨τ, e, a1, a2, a3⟩ := A
    refine ⟨τ, e, la.fr (a3 82 9 (by omega) (by omega)) (a3 82 10 (by omega) (by omega)) (funext (fun s => a3 89 s (by omega) (by omega))), a1, a2, fun m s b1 b2 b3 => ?_⟩
    rw [a3 m s (by omega) b3, f1 m s (by omega) b2]
  · rintro f i τ hi ⟨p1, p2, p3⟩
    have hle := FL_le (p := fun m => TRV (N j) (B j) (lp (N j) m)) (k := i)
    have mwτ : MW τ M N B := by
      have mwυ : MW υ M N B := h.fr ⟨fun m hm => funext (fun s => f1 m s (by omega) (by omega)), f1 82 1 (by omega) (by omega), f1 82 4 (by omega) (by omega)⟩
      exact mwυ.fr ⟨fun m hm => funext (fun s => p3 m s (by omega) (by omega)), p3 82 1 (by omega) (by omega), p3 82 4 (by omega) (by omega)⟩
    have laτ : LA τ (N j) := la.fr (p3 82 9 (by omega) (by omega)) (p3 82 10 (by omega) (by omega)) (funext (fun s => p3 89 s (by omega) (by omega)))
    have hp := lp_pm hn.1 hn.2 hi
    have hnext := FL_next (p := fun m => TRV (N j) (B j) (lp (N j) m)) (k := i)
    have e := set_all hn.2 (q := fun r s => sg (B j) r (lp (N j) i r) = s) (fun r s hr e => by rw [← e]; exact hs.lt hr (hp.1 r hr))
    have hstep : f_R_layCrosses_L19 (nI j) (nI (N j)) (f + 1) (nI i) τ = if bI (TRV (N j) (B j) (lp (N j) i)) = 0 then f_R_layCrosses_L19 (nI j) (nI (N j)) f (nI (i + 1)) τ else f_R_layCrosses_L19 (nI j) (nI (N j)) f (nI (i + 1)) (wr (wr τ 97 (FL (fun m => TRV (N j) (B j) (lp (N j) m)) i).length (nI i)) 82 22 (nI ((FL (fun m => TRV (N j) (B j) (lp (N j) m)) i).length + 1))) := by
      rw [f_R_layCrosses_L19.eq_2]
      rw [laτ.2.1, if_pos (nI_lt hi (by omega)), cross33 mwτ hj hs laτ hi, jn_eq, sI_all hn.2, nI_1]
      unfold TRV
      by_cases hh : ∀ s, s < N j → ∃ r, r < N j ∧ sg (B j) r (lp (N j) i r) = s
      · rw [if_pos (e.mpr hh), dB_t hh, if_neg (show ¬ bI true = 0 by decide)]
        have p2' : τ 82 22 = nI (FL (fun m => dB (∀ s, s < N j → ∃ r, r < N j ∧ sg (B j) r (lp (N j) m r) = s)) i).length := p2
        have hle' : (FL (fun m => dB (∀ s, s < N j → ∃ r, r < N j ∧ sg (B j) r (lp (N j) m r) = s)) i).length ≤ i := hle
        rw [p2', ast_nI (by omega) (by decide), sto_eq, wr_fn (by omega), p2', nI_1]
      · rw [if_neg (fun h => hh (e.mp h)), dB_f hh, if_pos (show bI false = 0 from rfl)]
    cases hT : TRV (N j) (B j) (lp (N j) i)
    · rw [hT, if_neg (by decide), List.append_nil] at hnext
      refine Or.inr ⟨τ, ?_, by rw [hnext]; exact p1, by rw [hnext]; exact p2, p3⟩
      show f_R_layCrosses_L19 (nI j) (nI (N j)) (f + 1) (nI i) τ = _
      rw [hstep, hT, if_pos (by rfl)]
    · rw [hT, if_pos rfl] at hnext
      refine Or.inr ⟨wr (wr τ 97 (FL (fun m => TRV (N j) (B j) (lp (N j) m)) i).length (nI i)) 82 22 (nI ((FL (fun m => TRV (N j) (B j) (lp (N j) m)) i).length + 1)), ?_, ?_, ?_, fun m s h1 h2 => ?_⟩
      · show f_R_layCrosses_L19 (nI j) (nI (N j)) (f + 1) (nI i) τ = _
        rw [hstep, hT, if_neg (by decide)]
      · rw [hnext]
        exact (p1.add i).fr (fun j => by rw [wr_fn (by omega)])
      · rw [hnext, List.length_append]; exact wr_at
      · rw [wr_get, if_neg h1, wr_fn h2]; exact p3 m s h1 h2
  · rintro f τ ⟨p1, p2, p3⟩
    have e10 : τ 82 10 = nI (facN (N j)) := by rw [p3 82 10 (by omega) (by omega)]; exact la.2.1
    refine ⟨τ, ?_, p1, p2, p3⟩
    show f_R_layCrosses_L19 (nI j) (nI (N j)) (f + 1) (nI (facN (N j))) τ = _
    rw [f_R_layCrosses_L19.eq_2]
    rw [e10, if_neg (nI_nlt (Nat.le_refl _) (by omega))]
end TRR
theorem TL_len {n : Nat} (h1 : 2 ≤ n) (h2 : n ≤ 5) (B : Bd) : (FL (fun m => TRV n B (cp m)) (facN n)).length = (FL (fun m => TRV n B (lp n m)) (facN n)).length := by
  rw [FL_sum, FL_sum]
  exact sum_maps h1 h2 _ _ (fun m m' _ _ h => by rw [TRV_congr h])
theorem ok_transversals : Ok_transversals Inv := by
  intro σ hI p0
  refine op_rd hI (Q := fun σ => f_Q_transversals σ p0) (R := fun σ => f_R_transversals σ p0) (fun M N B cw mt ct => ?_)
  refine sq1 cw (by decide) (QB := fun g σ => cal (f_Mating_findTransversals σ g) fun r_10 σ_11 => some (.ok r_10, σ_11)) (RB := fun σ_3 => cal (f_R_layCrosses σ_3 p0) fun r_5 σ_6 => some ((σ_6 82 22), σ_6)) (fun _ => rfl) (fun _ => rfl) ?_
  rintro j hj rfl hs hG
  have hn := hG.le
  obtain ⟨τ, e, _, _, f⟩ := findT_ok mt hG hs (by unfold gid; omega)
  refine ⟨nI (FL (fun m => TRV (N j) (B j) (cp m)) (facN (N j))).length, τ, ?_, fun m hm => funext (fun s => f m s (by unfold scr at hm; omega) (by unfold scr at hm; omega)), fun σ1 mw ca h0 => ?_⟩
  · show cal (f_Mating_findTransversals σ (gid j)) _ = _
    rw [e, cal_some]
  · obtain ⟨υ, e2, la, _, h22, f2⟩ := crosses_ok mw ca hj hs
    refine ⟨υ, ?_, ⟨fun m hm => funext (fun s => f2 m s (by omega) (by omega) (by omega)), f2 82 1 (by omega) (by omega) (by omega), f2 82 4 (by omega) (by omega) (by omega)⟩, la.ca hn.1 hn.2, by rw [f2 82 0 (by omega) (by omega) (by omega)]; exact h0⟩
    show cal (f_R_layCrosses σ1 (nI j)) _ = _
    rw [e2, cal_some, h22, TL_len hn.1 hn.2]
