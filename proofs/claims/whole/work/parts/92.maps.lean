/-! the maps: tables -/
def nmN (n : Nat) (d : Nat → Nat) : Nat := sumN n (fun i => sumN n (fun j => if i < j ∧ d j < d i then facN (d i) else 0))
def rkN (n : Nat) (f : Nat → Nat) : Nat → Nat
  | 0 => 0
  | k + 1 => rkN n f k * (n - k) + (List.range (f k)).countP (fun x => (List.range k).all (fun i => f i != x))
def f5 (a b c d e : Nat) : Nat → Nat
  | 0 => a
  | 1 => b
  | 2 => c
  | 3 => d
  | _ => e
def dist5 (f : Nat → Nat) : Bool := (List.range 5).all fun i => (List.range 5).all fun j => decide (f i = f j → i = j)
theorem tab1 : ((List.range 120).all fun m => (List.range 5).all (fun i => decide (cp m i < 5)) && dist5 (cp m) && decide (nmN 5 (cp m) = m) && decide (m < 24 → cp m 4 = 4 ∧ nmN 4 (cp m) = m) && decide (m < 6 → cp m 3 = 3 ∧ nmN 3 (cp m) = m) && decide (m < 2 → cp m 2 = 2 ∧ nmN 2 (cp m) = m)) = true := by decide +kernel
theorem tab2 : ((List.range 5).all fun a => (List.range 5).all fun b => (List.range 5).all fun c => (List.range 5).all fun d => (List.range 5).all fun e => !dist5 (f5 a b c d e) || ((List.range 5).all (fun i => decide (cp (nmN 5 (f5 a b c d e)) i = f5 a b c d e i)) && decide (nmN 5 (f5 a b c d e) < 120) && (!decide (e = 4) || (decide (nmN 5 (f5 a b c d e) < 24) && decide (nmN 4 (f5 a b c d e) = nmN 5 (f5 a b c d e)))) && (!(decide (e = 4) && decide (d = 3)) || (decide (nmN 5 (f5 a b c d e) < 6) && decide (nmN 3 (f5 a b c d e) = nmN 5 (f5 a b c d e)))) && (!(decide (e = 4) && decide (d = 3) && decide (c = 2)) || (decide (nmN 5 (f5 a b c d e) < 2) && decide (nmN 2 (f5 a b c d e) = nmN 5 (f5 a b c d e)))))) = true := by decide +kernel
theorem tab3 : ((List.range 6).all fun n => decide (n < 2) || ((List.range (facN n)).all fun m => decide (rkN n (cp m) n < facN n) && (List.range n).all (fun i => decide (lp n (rkN n (cp m) n) i = cp m i)) && decide (nmN n (lp n m) < facN n) && (List.range n).all (fun i => decide (cp (nmN n (lp n m)) i = lp n m i)) && decide (rkN n (lp n m) n = m))) = true := by decide +kernel
theorem tab4 : ((List.range 120).all fun m => (List.range 25).all fun k => decide ((cpm m).testBit k = decide (cp m (k / 5) = k % 5))) = true := by decide +kernel
theorem tab5 : ((List.range 120).all fun m => decide (cpm m < 2 ^ 25)) = true := by decide +kernel
def PM (n : Nat) (f : Nat → Nat) : Prop := (∀ i, i < n → f i < n) ∧ ∀ i j, i < n → j < n → f i = f j → i = j
theorem fac_v : facN 2 = 2 ∧ facN 3 = 6 ∧ facN 4 = 24 ∧ facN 5 = 120 := by decide
theorem fac_le {n : Nat} (h1 : 2 ≤ n) (h2 : n ≤ 5) : 2 ≤ facN n ∧ facN n ≤ 120 := by
  obtain ⟨a, b, c, d⟩ := fac_v
  rcases (by omega : n = 2 ∨ n = 3 ∨ n = 4 ∨ n = 5) with rfl | rfl | rfl | rfl <;> omega
theorem dist5_iff {f : Nat → Nat} : dist5 f = true ↔ ∀ i j, i < 5 → j < 5 → f i = f j → i = j := by
  unfold dist5
  rw [List.all_eq_true]
  constructor
  · intro h i j hi hj
    have := List.all_eq_true.mp (h i (List.mem_range.mpr hi)) j (List.mem_range.mpr hj)
    exact of_decide_eq_true this
  · intro h i hi
    rw [List.all_eq_true]
    intro j hj
    exact decide_eq_true (h i j (List.mem_range.mp hi) (List.mem_range.mp hj))
/-- what the table says of a map of the class -/
theorem cp_all {m : Nat} (hm : m < 120) : (∀ i, i < 5 → cp m i < 5) ∧ (∀ i j, i < 5 → j < 5 → cp m i = cp m j → i = j) ∧ nmN 5 (cp m) = m ∧ (m < 24 → cp m 4 = 4 ∧ nmN 4 (cp m) = m) ∧ (m < 6 → cp m 3 = 3 ∧ nmN 3 (cp m) = m) ∧ (m < 2 → cp m 2 = 2 ∧ nmN 2 (cp m) = m) := by
  have h := List.all_eq_true.mp tab1 m (List.mem_range.mpr hm)
  simp only [Bool.and_eq_true] at h
  obtain ⟨⟨⟨⟨⟨h1, h2⟩, h3⟩, h4⟩, h5⟩, h6⟩ := h
  refine ⟨fun i hi => ?_, dist5_iff.mp h2, of_decide_eq_true h3, of_decide_eq_true h4, of_decide_eq_true h5, of_decide_eq_true h6⟩
  exact of_decide_eq_true (List.all_eq_true.mp h1 i (List.mem_range.mpr hi))
theorem cp_pm {n m : Nat} (h1 : 2 ≤ n) (h2 : n ≤ 5) (hm : m < facN n) : PM n (cp m) ∧ nmN n (cp m) = m ∧ (∀ i, n ≤ i → i < 5 → cp m i = i) := by
  obtain ⟨v2, v3, v4, v5⟩ := fac_v
  have hf := fac_le h1 h2
  obtain ⟨a1, a2, a3, a4, a5, a6⟩ := cp_all (m := m) (by omega)
  have key : (∀ i, n ≤ i → i < 5 → cp m i = i) → PM n (cp m) := by
    intro hfix
    refine ⟨fun i hi => ?_, fun i j hi hj => a2 i j (by omega) (by omega)⟩
    have h3 := a1 i (by omega)
    apply Classical.byContradiction
    intro h4
    have h5 := hfix (cp m i) (by omega) h3
    have := a2 _ _ h3 (by omega : i < 5) h5
    omega
  rcases (by omega : n = 2 ∨ n = 3 ∨ n = 4 ∨ n = 5) with rfl | rfl | rfl | rfl
  · have hfix : ∀ i, 2 ≤ i → i < 5 → cp m i = i := by
      intro i hi hi2
      rcases (by omega : i = 2 ∨ i = 3 ∨ i = 4) with rfl | rfl | rfl
      · exact (a6 (by omega)).1
      · exact (a5 (by omega)).1
      · exact (a4 (by omega)).1
    exact ⟨key hfix, (a6 (by omega)).2, hfix⟩
  · have hfix : ∀ i, 3 ≤ i → i < 5 → cp m i = i := by
      intro i hi hi2
      rcases (by omega : i = 3 ∨ i = 4) with rfl | rfl
      · exact (a5 (by omega)).1
      · exact (a4 (by omega)).1
    exact ⟨key hfix, (a5 (by omega)).2, hfix⟩
  · have hfix : ∀ i, 4 ≤ i → i < 5 → cp m i = i := by
      intro i hi hi2
      rcases (by omega : i = 4) with rfl
      exact (a4 (by omega)).1
    exact ⟨key hfix, (a4 (by omega)).2, hfix⟩
  · exact ⟨key (fun i hi hi2 => by omega), a3, fun i hi hi2 => by omega⟩
theorem cp_sur {n : Nat} {f : Nat → Nat} (h1 : 2 ≤ n) (h2 : n ≤ 5) (hf : PM n f) : nmN n f < facN n ∧ ∀ i, i < n → cp (nmN n f) i = f i := by
  obtain ⟨v2, v3, v4, v5⟩ := fac_v
  have hF5 : ∀ i, i < 5 → (if i < n then f i else i) < 5 := by
    intro i hi
    split
    · have := hf.1 i (by assumption); omega
    · exact hi
  have hfe : ∀ i, i < 5 → f5 (if 0 < n then f 0 else 0) (if 1 < n then f 1 else 1) (if 2 < n then f 2 else 2) (if 3 < n then f 3 else 3) (if 4 < n then f 4 else 4) i = if i < n then f i else i := by
    intro i hi
    rcases (by omega : i = 0 ∨ i = 1 ∨ i = 2 ∨ i = 3 ∨ i = 4) with rfl | rfl | rfl | rfl | rfl <;> rfl
  have hF : dist5 (f5 (if 0 < n then f 0 else 0) (if 1 < n then f 1 else 1) (if 2 < n then f 2 else 2) (if 3 < n then f 3 else 3) (if 4 < n then f 4 else 4)) = true := by
    rw [dist5_iff]
    intro i j hi hj
    rw [hfe i hi, hfe j hj]
    by_cases hin : i < n
    · rw [if_pos hin]
      by_cases hjn : j < n
      · rw [if_pos hjn]; exact hf.2 i j hin hjn
      · rw [if_neg hjn]; intro e; have := hf.1 i hin; omega
    · rw [if_neg hin]
      by_cases hjn : j < n
      · rw [if_pos hjn]; intro e; have := hf.1 j hjn; omega
      · rw [if_neg hjn]; exact id
  have h := List.all_eq_true.mp tab2 (if 0 < n then f 0 else 0) (List.mem_range.mpr (hF5 0 (by omega)))
  have h := List.all_eq_true.mp h (if 1 < n then f 1 else 1) (List.mem_range.mpr (hF5 1 (by omega)))
  have h := List.all_eq_true.mp h (if 2 < n then f 2 else 2) (List.mem_range.mpr (hF5 2 (by omega)))
  have h := List.all_eq_true.mp h (if 3 < n then f 3 else 3) (List.mem_range.mpr (hF5 3 (by omega)))
  have h := List.all_eq_true.mp h (if 4 < n then f 4 else 4) (List.mem_range.mpr (hF5 4 (by omega)))
  have hnm : ∀ k, k ≤ n → n ≤ 5 → nmN k (f5 (if 0 < n then f 0 else 0) (if 1 < n then f 1 else 1) (if 2 < n then f 2 else 2) (if 3 < n then f 3 else 3) (if 4 < n then f 4 else 4)) = nmN k f := by
    intro k hk hn5
    unfold nmN
    apply sumN_congr
    intro i hi
    apply sumN_congr
    intro j hj
    rw [hfe i (by omega), hfe j (by omega), if_pos (show i < n by omega), if_pos (show j < n by omega)]
  have hnn := hnm n (Nat.le_refl n) h2
  have e4 : n ≤ 4 → (if 4 < n then f 4 else 4) = 4 := fun h => if_neg (by omega)
  have e3 : n ≤ 3 → (if 3 < n then f 3 else 3) = 3 := fun h => if_neg (by omega)
  have e2 : n ≤ 2 → (if 2 < n then f 2 else 2) = 2 := fun h => if_neg (by omega)
  generalize hF0 : f5 (if 0 < n then f 0 else 0) (if 1 < n then f 1 else 1) (if 2 < n then f 2 else 2) (if 3 < n then f 3 else 3) (if 4 < n then f 4 else 4) = F at *
  rw [hF, Bool.not_true, Bool.false_or] at h
  simp only [Bool.and_eq_true, Bool.or_eq_true, Bool.not_eq_true', decide_eq_true_iff, decide_eq_false_iff_not, Bool.and_eq_false_iff] at h
  obtain ⟨⟨⟨⟨q1, q2⟩, q3⟩, q4⟩, q5⟩ := h
  have hcp : ∀ i, i < n → cp (nmN 5 F) i = f i := by
    intro i hi
    have := of_decide_eq_true (List.all_eq_true.mp q1 i (List.mem_range.mpr (by omega)))
    rw [this, hfe i (by omega), if_pos hi]
  rw [← hnn]
  rcases (by omega : n = 2 ∨ n = 3 ∨ n = 4 ∨ n = 5) with rfl | rfl | rfl | rfl
  · have h5 : nmN 5 F < 2 ∧ nmN 2 F = nmN 5 F := by
      rcases q5 with h | h
      · have a := e4 (by omega); have b := e3 (by omega); have c := e2 (by omega); exfalso; simp [a, b, c] at h
      · exact h
    rw [h5.2]; exact ⟨by omega, hcp⟩
  · have h5 : nmN 5 F < 6 ∧ nmN 3 F = nmN 5 F := by
      rcases q4 with h | h
      · have a := e4 (by omega); have b := e3 (by omega); exfalso; simp [a, b] at h
      · exact h
    rw [h5.2]; exact ⟨by omega, hcp⟩
  · have h5 : nmN 5 F < 24 ∧ nmN 4 F = nmN 5 F := by
      rcases q3 with h | h
      · have a := e4 (by omega); exfalso; exact h a
      · exact h
    rw [h5.2]; exact ⟨by omega, hcp⟩
  · exact ⟨by omega, hcp⟩
theorem cp_inj {n m m' : Nat} (h1 : 2 ≤ n) (h2 : n ≤ 5) (hm : m < facN n) (hm' : m' < facN n) (h : ∀ i, i < n → cp m i = cp m' i) : m = m' := by
  rw [← (cp_pm h1 h2 hm).2.1, ← (cp_pm h1 h2 hm').2.1]
  unfold nmN
  apply sumN_congr
  intro i hi
  apply sumN_congr
  intro j hj
  rw [h i hi, h j hj]
theorem lp_all {n m : Nat} (h1 : 2 ≤ n) (h2 : n ≤ 5) (hm : m < facN n) : rkN n (cp m) n < facN n ∧ (∀ i, i < n → lp n (rkN n (cp m) n) i = cp m i) ∧ nmN n (lp n m) < facN n ∧ (∀ i, i < n → cp (nmN n (lp n m)) i = lp n m i) ∧ rkN n (lp n m) n = m := by
  have h := List.all_eq_true.mp tab3 n (List.mem_range.mpr (by omega))
  rw [decide_eq_false (by omega : ¬ n < 2), Bool.false_or] at h
  have h := List.all_eq_true.mp h m (List.mem_range.mpr hm)
  simp only [Bool.and_eq_true] at h
  obtain ⟨⟨⟨⟨q1, q2⟩, q3⟩, q4⟩, q5⟩ := h
  exact ⟨of_decide_eq_true q1, fun i hi => of_decide_eq_true (List.all_eq_true.mp q2 i (List.mem_range.mpr hi)), of_decide_eq_true q3, fun i hi => of_decide_eq_true (List.all_eq_true.mp q4 i (List.mem_range.mpr hi)), of_decide_eq_true q5⟩
theorem lp_pm {n m : Nat} (h1 : 2 ≤ n) (h2 : n ≤ 5) (hm : m < facN n) : PM n (lp n m) := by
  obtain ⟨_, _, q3, q4, _⟩ := lp_all h1 h2 hm
  have := (cp_pm h1 h2 q3).1
  exact ⟨fun i hi => by rw [← q4 i hi]; exact this.1 i hi, fun i j hi hj e => this.2 i j hi hj (by rw [q4 i hi, q4 j hj]; exact e)⟩
theorem rk_congr {n : Nat} {f g : Nat → Nat} : ∀ k, k ≤ n → (∀ i, i < n → f i = g i) → rkN n f k = rkN n g k := by
  intro k
  induction k with
  | zero => intro _ _; rfl
  | succ k ih =>
    intro hk h
    rw [rkN, rkN, ih (by omega) h, h k (by omega)]
    congr 1
    apply List.countP_congr
    intro x _
    rw [List.all_eq_true, List.all_eq_true]
    constructor
    · intro hh i hi
      have := hh i hi
      rwa [h i (by have := List.mem_range.mp hi; omega)] at this
    · intro hh i hi
      have := hh i hi
      rwa [h i (by have := List.mem_range.mp hi; omega)]
theorem lp_sur {n : Nat} {f : Nat → Nat} (h1 : 2 ≤ n) (h2 : n ≤ 5) (hf : PM n f) : rkN n f n < facN n ∧ ∀ i, i < n → lp n (rkN n f n) i = f i := by
  obtain ⟨a, b⟩ := cp_sur h1 h2 hf
  obtain ⟨q1, q2, _⟩ := lp_all h1 h2 a
  have e := rk_congr (n := n) n (Nat.le_refl n) b
  rw [e] at q1 q2
  exact ⟨q1, fun i hi => by rw [q2 i hi, b i hi]⟩
theorem cpm_bit {m k : Nat} (hm : m < 120) (hk : k < 25) : (cpm m).testBit k = decide (cp m (k / 5) = k % 5) := of_decide_eq_true (List.all_eq_true.mp (List.all_eq_true.mp tab4 m (List.mem_range.mpr hm)) k (List.mem_range.mpr hk))
theorem cpm_lt {m : Nat} (hm : m < 120) : cpm m < 2 ^ 25 := of_decide_eq_true (List.all_eq_true.mp tab5 m (List.mem_range.mpr hm))
/-! sums over equal lists -/
theorem sum_list (e : Nat) (w : Nat → Nat) : sumN e w = ((List.range e).map w).sum := by
  induction e with
  | zero => rfl
  | succ e ih => rw [sumN, ih, List.range_succ, List.map_append, List.sum_append]; simp
theorem sum_same {α : Type} (w : α → Nat) : ∀ (l l' : List α), l.Nodup → l'.Nodup → (∀ x, x ∈ l ↔ x ∈ l') → (l.map w).sum = (l'.map w).sum := by
  intro l
  induction l with
  | nil =>
    intro l' _ _ h
    have : l' = [] := List.eq_nil_iff_forall_not_mem.mpr (fun x hx => by have := (h x).mpr hx; cases this)
    rw [this]
  | cons a t ih =>
    intro l' hd hd' h
    obtain ⟨u, v, rfl⟩ := List.append_of_mem ((h a).mp (List.mem_cons_self ..))
    have hd := List.nodup_cons.mp hd
    have hd2 := List.nodup_append.mp hd'
    have hd3 := List.nodup_cons.mp hd2.2.1
    have := ih (u ++ v) hd.2 (List.nodup_append.mpr ⟨hd2.1, hd3.2, fun x hx y hy => hd2.2.2 x hx y (List.mem_cons_of_mem _ hy)⟩) (fun x => by
      rw [List.mem_append]
      constructor
      · intro hx
        have h1 := (h x).mp (List.mem_cons_of_mem _ hx)
        rw [List.mem_append, List.mem_cons] at h1
        rcases h1 with h1 | h1 | h1
        · exact Or.inl h1
        · subst h1; exact absurd hx hd.1
        · exact Or.inr h1
      · intro hx
        have h1 := (h x).mpr (by
          rw [List.mem_append, List.mem_cons]
          rcases hx with hx | hx
          · exact Or.inl hx
          · exact Or.inr (Or.inr hx))
        rcases List.mem_cons.mp h1 with h1 | h1
        · subst h1
          rcases hx with hx | hx
          · exact absurd rfl (hd2.2.2 _ hx _ (List.mem_cons_self ..))
          · exact absurd hx hd3.1
        · exact h1)
    simp only [List.map_append, List.map_cons, List.sum_append, List.sum_cons] at this ⊢
    omega
/-- a sum over the class's maps is one over the reference's -/
theorem sum_maps {n : Nat} (h1 : 2 ≤ n) (h2 : n ≤ 5) (w w' : Nat → Nat) (h : ∀ m m', m < facN n → m' < facN n → (∀ i, i < n → cp m i = lp n m' i) → w m = w' m') : sumN (facN n) w = sumN (facN n) w' := by
  have e1 : sumN (facN n) w = sumN (facN n) (fun m => w' (rkN n (cp m) n)) := by
    apply sumN_congr
    intro m hm
    obtain ⟨q1, q2, _⟩ := lp_all h1 h2 hm
    exact h m _ hm q1 (fun i hi => (q2 i hi).symm)
  rw [e1, sum_list, sum_list]
  have e2 : (List.range (facN n)).map (fun m => w' (rkN n (cp m) n)) = ((List.range (facN n)).map (fun m => rkN n (cp m) n)).map w' := by rw [List.map_map]; rfl
  rw [e2]
  refine sum_same w' _ _ ?_ List.nodup_range (fun x => ?_)
  · rw [List.Nodup, List.pairwise_map]
    refine List.Pairwise.imp_of_mem ?_ (List.nodup_range (n := facN n))
    intro a b ha hb hab e
    have ha := List.mem_range.mp ha
    have hb := List.mem_range.mp hb
    refine hab (cp_inj h1 h2 ha hb (fun i hi => ?_))
    rw [← (lp_all h1 h2 ha).2.1 i hi, e, (lp_all h1 h2 hb).2.1 i hi]
  · rw [List.mem_map, List.mem_range]
    constructor
    · rintro ⟨m, hm, rfl⟩; exact (lp_all h1 h2 (List.mem_range.mp hm)).1
    · intro hx
      obtain ⟨_, _, q3, q4, q5⟩ := lp_all h1 h2 hx
      exact ⟨nmN n (lp n x), List.mem_range.mpr q3, by rw [rk_congr n (Nat.le_refl n) q4, q5]⟩
