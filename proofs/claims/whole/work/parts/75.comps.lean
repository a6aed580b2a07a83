/-! the squares that fill a board -/
abbrev Bd := Nat → Nat → Nat
def enS (n : Nat) (B : Bd) (r c : Nat) (f : Bd → List Bd) : Nat → List Bd
  | 0 => []
  | j + 1 => (if opt n B r c (n - 1 - j) = true then f (upB B r c (n - 1 - j + 1)) else []) ++ enS n B r c f j
def enu (n : Nat) : List (Nat × Nat) → Bd → List Bd
  | [], B => [B]
  | p :: l, B => enS n B p.1 p.2 (enu n l) n
theorem mem_enS {n : Nat} {B : Bd} {r c : Nat} {f : Bd → List Bd} {X : Bd} : ∀ j, j ≤ n → (X ∈ enS n B r c f j ↔ ∃ s, n - j ≤ s ∧ s < n ∧ opt n B r c s = true ∧ X ∈ f (upB B r c (s + 1))) := by
  intro j
  induction j with
  | zero => intro hj; simp only [enS, List.not_mem_nil, false_iff]; rintro ⟨s, h1, h2, _⟩; omega
  | succ j ih =>
    intro hj
    rw [enS, List.mem_append, ih (by omega)]
    constructor
    · rintro (h | ⟨s, h1, h2, h3⟩)
      · by_cases ho : opt n B r c (n - 1 - j) = true
        · rw [if_pos ho] at h; exact ⟨n - 1 - j, by omega, by omega, ho, h⟩
        · rw [if_neg ho] at h; cases h
      · exact ⟨s, by omega, h2, h3⟩
    · rintro ⟨s, h1, h2, h3, h4⟩
      by_cases e : s = n - 1 - j
      · subst e; rw [if_pos h3]; exact Or.inl h4
      · exact Or.inr ⟨s, by omega, h2, h3, h4⟩
theorem nodup_enS {n : Nat} {B : Bd} {r c : Nat} {f : Bd → List Bd} (h1 : ∀ s, s < n → opt n B r c s = true → (f (upB B r c (s + 1))).Nodup) (h2 : ∀ s X, s < n → opt n B r c s = true → X ∈ f (upB B r c (s + 1)) → X r c = s + 1) : ∀ j, j ≤ n → (enS n B r c f j).Nodup := by
  intro j
  induction j with
  | zero => intro _; exact List.nodup_nil
  | succ j ih =>
    intro hj
    rw [enS]
    by_cases ho : opt n B r c (n - 1 - j) = true
    · rw [if_pos ho]
      refine List.nodup_append.mpr ⟨h1 _ (by omega) ho, ih (by omega), ?_⟩
      rintro X hX Y hY rfl
      obtain ⟨s, a, b, d, e⟩ := (mem_enS j (by omega)).mp hY
      have q1 := h2 _ X (by omega) ho hX
      have q2 := h2 s X b d e
      omega
    · rw [if_neg ho]; exact ih (by omega)
def lenW (n : Nat) (B : Bd) (r c : Nat) (f : Bd → List Bd) (s : Nat) : Nat := if opt n B r c s = true then (f (upB B r c (s + 1))).length else 0
theorem len_enS {n : Nat} {B : Bd} {r c : Nat} {f : Bd → List Bd} : ∀ j, j ≤ n → (enS n B r c f j).length + sumN (n - j) (lenW n B r c f) = sumN n (lenW n B r c f) := by
  intro j
  induction j with
  | zero => intro _; simp [enS]
  | succ j ih =>
    intro hj
    have h := ih (by omega)
    rw [show n - j = (n - 1 - j) + 1 by omega, sumN] at h
    rw [show n - (j + 1) = n - 1 - j by omega, enS, List.length_append]
    have e : (if opt n B r c (n - 1 - j) = true then f (upB B r c (n - 1 - j + 1)) else []).length = lenW n B r c f (n - 1 - j) := by
      unfold lenW; split <;> rfl
    omega
theorem opt_of {n : Nat} {B X : Bd} (hX : Wf n X) {r c : Nat} (h0 : B r c = 0) (hr : r < n) (hc : c < n) (hx : X r c ≠ 0) (hext : ∀ r' c', B r' c' ≠ 0 → X r' c' = B r' c') : opt n B r c (X r c - 1) = true := by
  have hb := hX.bn r c
  refine opt_iff.mpr ⟨h0, by omega, fun c' _ e => ?_, fun r' _ e => ?_⟩
  · have h1 := hext r c' (by omega)
    have := hX.2.2.2.1 r c c' hx (by omega)
    rw [← this] at e; omega
  · have h1 := hext r' c (by omega)
    have := hX.2.2.2.2 r r' c hx (by omega)
    rw [← this] at e; omega
theorem mem_enu {n : Nat} : ∀ (l : List (Nat × Nat)) (B X : Bd), Wf n B → (∀ p, p ∈ l → p.1 < n ∧ p.2 < n ∧ B p.1 p.2 = 0) → l.Nodup →
    (X ∈ enu n l B ↔ Wf n X ∧ (∀ r c, (r, c) ∉ l → X r c = B r c) ∧ ∀ p, p ∈ l → X p.1 p.2 ≠ 0) := by
  intro l
  induction l with
  | nil =>
    intro B X hw _ _
    simp only [enu, List.mem_singleton, List.not_mem_nil]
    constructor
    · rintro rfl; exact ⟨hw, fun _ _ _ => rfl, fun _ h => h.elim⟩
    · rintro ⟨_, h, _⟩; funext r c; exact h r c id
  | cons p l ih =>
    intro B X hw hl hd
    obtain ⟨r, c⟩ := p
    obtain ⟨hr, hc, h0⟩ := hl (r, c) (List.mem_cons_self ..)
    have hr : r < n := hr
    have hc : c < n := hc
    have h0 : B r c = 0 := h0
    have hd1 := (List.nodup_cons.mp hd)
    have hl' : ∀ s, ∀ p, p ∈ l → p.1 < n ∧ p.2 < n ∧ upB B r c (s + 1) p.1 p.2 = 0 := by
      intro s p hp
      have h1 := hl p (List.mem_cons_of_mem _ hp)
      refine ⟨h1.1, h1.2.1, ?_⟩
      rw [upB_ne, h1.2.2]
      rintro ⟨e1, e2⟩
      exact hd1.1 (by rw [← e1, ← e2]; exact hp)
    show X ∈ enS n B r c (enu n l) n ↔ _
    rw [mem_enS n (Nat.le_refl _)]
    constructor
    · rintro ⟨s, _, hs, ho, hX⟩
      obtain ⟨a1, a2, a3⟩ := (ih _ X (hw.opt hr hc ho) (hl' s) hd1.2).mp hX
      refine ⟨a1, fun r' c' hn => ?_, fun p hp => ?_⟩
      · have hn2 : (r', c') ∉ l := fun h => hn (List.mem_cons_of_mem _ h)
        rw [a2 r' c' hn2, upB_ne]
        rintro ⟨e1, e2⟩
        exact hn (by rw [e1, e2]; exact List.mem_cons_self ..)
      · rcases List.mem_cons.mp hp with e | h
        · subst e
          rw [a2 r c hd1.1, upB_at]; omega
        · exact a3 p h
    · rintro ⟨a1, a2, a3⟩
      have hx : X r c ≠ 0 := a3 (r, c) (List.mem_cons_self ..)
      have hb := a1.bn r c
      have hext : ∀ r' c', B r' c' ≠ 0 → X r' c' = B r' c' := by
        intro r' c' h
        refine a2 r' c' (fun hm => h (hl (r', c') hm).2.2)
      have ho := opt_of a1 h0 hr hc hx hext
      have hx' : X r c ≠ 0 := hx
      refine ⟨X r c - 1, by omega, by omega, ho, ?_⟩
      refine (ih _ X (hw.opt hr hc ho) (hl' _) hd1.2).mpr ⟨a1, fun r' c' hn => ?_, fun p hp => a3 p (List.mem_cons_of_mem _ hp)⟩
      by_cases e : r' = r ∧ c' = c
      · rw [e.1, e.2, upB_at]; omega
      · rw [upB_ne e]
        refine a2 r' c' (fun h => ?_)
        rcases List.mem_cons.mp h with e2 | h2
        · exact e ⟨congrArg Prod.fst e2, congrArg Prod.snd e2⟩
        · exact hn h2
theorem nodup_enu {n : Nat} : ∀ (l : List (Nat × Nat)) (B : Bd), Wf n B → (∀ p, p ∈ l → p.1 < n ∧ p.2 < n ∧ B p.1 p.2 = 0) → l.Nodup → (enu n l B).Nodup := by
  intro l
  induction l with
  | nil => intro B _ _ _; simp [enu]
  | cons p l ih =>
    intro B hw hl hd
    obtain ⟨r, c⟩ := p
    obtain ⟨hr, hc, h0⟩ := hl (r, c) (List.mem_cons_self ..)
    have hr : r < n := hr
    have hc : c < n := hc
    have h0 : B r c = 0 := h0
    have hd1 := (List.nodup_cons.mp hd)
    have hl' : ∀ s, ∀ p, p ∈ l → p.1 < n ∧ p.2 < n ∧ upB B r c (s + 1) p.1 p.2 = 0 := by
      intro s p hp
      have h1 := hl p (List.mem_cons_of_mem _ hp)
      refine ⟨h1.1, h1.2.1, ?_⟩
      rw [upB_ne, h1.2.2]
      rintro ⟨e1, e2⟩
      exact hd1.1 (by rw [← e1, ← e2]; exact hp)
    show (enS n B r c (enu n l) n).Nodup
    refine nodup_enS (fun s hs ho => ih _ (hw.opt hr hc ho) (hl' s) hd1.2) (fun s X hs ho hX => ?_) n (Nat.le_refl _)
    rw [((mem_enu l _ X (hw.opt hr hc ho) (hl' s) hd1.2).mp hX).2.1 r c hd1.1, upB_at]
def cells (n : Nat) : List (Nat × Nat) := (List.range (n * n)).map (fun i => (i / n, i % n))
def empties (n : Nat) (B : Bd) : List (Nat × Nat) := (cells n).filter (fun p => decide (B p.1 p.2 = 0))
theorem mem_cells {n r c : Nat} : (r, c) ∈ cells n ↔ r < n ∧ c < n := by
  unfold cells
  rw [List.mem_map]
  constructor
  · rintro ⟨i, hi, e⟩
    have hi := List.mem_range.mp hi
    have h0 : n > 0 := Nat.pos_of_ne_zero (fun h => by subst h; omega)
    have e1 : i / n = r := congrArg Prod.fst e
    have e2 : i % n = c := congrArg Prod.snd e
    exact ⟨by rw [← e1]; exact Nat.div_lt_of_lt_mul hi, by rw [← e2]; exact Nat.mod_lt _ h0⟩
  · rintro ⟨hr, hc⟩
    refine ⟨n * r + c, List.mem_range.mpr ?_, ?_⟩
    · have h1 : n * (r + 1) ≤ n * n := Nat.mul_le_mul_left _ hr
      rw [Nat.mul_succ] at h1; omega
    · rw [Nat.mul_add_div (by omega), Nat.mul_add_mod, Nat.div_eq_of_lt hc, Nat.mod_eq_of_lt hc, Nat.add_zero]
theorem nodup_cells (n : Nat) : (cells n).Nodup := by
  unfold cells
  rw [List.Nodup, List.pairwise_map]
  refine List.Pairwise.imp ?_ (List.nodup_range (n := n * n))
  intro a b hab e
  apply hab
  have e1 : a / n = b / n := congrArg Prod.fst e
  have e2 : a % n = b % n := congrArg Prod.snd e
  rw [← Nat.div_add_mod a n, ← Nat.div_add_mod b n, e1, e2]
theorem mem_empties {n r c : Nat} {B : Bd} : (r, c) ∈ empties n B ↔ r < n ∧ c < n ∧ B r c = 0 := by
  unfold empties
  rw [List.mem_filter, mem_cells, decide_eq_true_iff, and_assoc]
theorem nodup_empties (n : Nat) (B : Bd) : (empties n B).Nodup := List.Pairwise.filter _ (nodup_cells n)
def comps (n : Nat) (B : Bd) : List Bd := enu n (empties n B) B
theorem emp_ok {n : Nat} {B : Bd} : ∀ p, p ∈ empties n B → p.1 < n ∧ p.2 < n ∧ B p.1 p.2 = 0 := fun p hp => mem_empties.mp (show (p.1, p.2) ∈ _ from hp)
def extB (B X : Bd) : Prop := ∀ r c, B r c ≠ 0 → X r c = B r c
theorem mem_comps {n : Nat} {B X : Bd} (hw : Wf n B) : X ∈ comps n B ↔ SQ n X ∧ extB B X := by
  unfold comps
  rw [mem_enu _ B X hw emp_ok (nodup_empties n B)]
  constructor
  · rintro ⟨a1, a2, a3⟩
    have hext : extB B X := fun r c h => a2 r c (fun hm => h (mem_empties.mp hm).2.2)
    refine ⟨⟨a1, fun r c hr hc => ?_⟩, hext⟩
    by_cases h0 : B r c = 0
    · exact a3 (r, c) (mem_empties.mpr ⟨hr, hc, h0⟩)
    · rw [hext r c h0]; exact h0
  · rintro ⟨⟨a1, a2⟩, a3⟩
    refine ⟨a1, fun r c hn => ?_, fun p hp => a2 _ _ (emp_ok p hp).1 (emp_ok p hp).2.1⟩
    by_cases h0 : B r c = 0
    · by_cases h1 : r < n ∧ c < n
      · exact absurd (mem_empties.mpr ⟨h1.1, h1.2, h0⟩) hn
      · rw [h0, a1.out (by omega)]
    · exact a3 r c h0
theorem nodup_comps {n : Nat} {B : Bd} (hw : Wf n B) : (comps n B).Nodup := nodup_enu _ B hw emp_ok (nodup_empties n B)
def nC (n : Nat) (B : Bd) : Nat := (comps n B).length
theorem len_sub {α : Type} : ∀ (l l' : List α), l.Nodup → (∀ x, x ∈ l → x ∈ l') → l.length ≤ l'.length := by
  intro l
  induction l with
  | nil => intro l' _ _; simp
  | cons a t ih =>
    intro l' hd hs
    obtain ⟨u, v, rfl⟩ := List.append_of_mem (hs a (List.mem_cons_self ..))
    have hd := List.nodup_cons.mp hd
    have := ih (u ++ v) hd.2 (fun x hx => by
      have h1 := hs x (List.mem_cons_of_mem _ hx)
      rw [List.mem_append, List.mem_cons] at h1
      rw [List.mem_append]
      rcases h1 with h | h | h
      · exact Or.inl h
      · subst h; exact absurd hx hd.1
      · exact Or.inr h)
    simp only [List.length_append, List.length_cons] at this ⊢
    omega
theorem len_same {α : Type} {l l' : List α} (h1 : l.Nodup) (h2 : l'.Nodup) (h : ∀ x, x ∈ l ↔ x ∈ l') : l.length = l'.length :=
  Nat.le_antisymm (len_sub l l' h1 (fun x => (h x).mp)) (len_sub l' l h2 (fun x => (h x).mpr))
noncomputable def nW (n : Nat) (B : Bd) (r c s : Nat) : Nat := if opt n B r c s = true then nC n (upB B r c (s + 1)) else 0
theorem nC_split {n : Nat} {B : Bd} (hw : Wf n B) {r c : Nat} (hr : r < n) (hc : c < n) (h0 : B r c = 0) : nC n B = sumN n (nW n B r c) := by
  have h1 := len_enS (B := B) (r := r) (c := c) (f := comps n) n (Nat.le_refl n)
  rw [Nat.sub_self, sumN, Nat.add_zero] at h1
  show nC n B = sumN n (lenW n B r c (comps n))
  rw [← h1]
  unfold nC
  refine len_same (nodup_comps hw) (nodup_enS (fun s hs ho => nodup_comps (hw.opt hr hc ho)) (fun s X hs ho hX => ?_) n (Nat.le_refl n)) (fun X => ?_)
  · rw [((mem_comps (hw.opt hr hc ho)).mp hX).2 r c (by rw [upB_at]; omega), upB_at]
  · rw [mem_comps hw, mem_enS n (Nat.le_refl n)]
    constructor
    · rintro ⟨a1, a2⟩
      have hx := a1.2 r c hr hc
      have ho := opt_of a1.1 h0 hr hc hx a2
      have hb := a1.1.bn r c
      refine ⟨X r c - 1, by omega, by omega, ho, (mem_comps (hw.opt hr hc ho)).mpr ⟨a1, fun r' c' h => ?_⟩⟩
      by_cases e : r' = r ∧ c' = c
      · rw [e.1, e.2, upB_at]; omega
      · rw [upB_ne e] at h ⊢; exact a2 r' c' h
    · rintro ⟨s, _, hs, ho, hX⟩
      obtain ⟨a1, a2⟩ := (mem_comps (hw.opt hr hc ho)).mp hX
      refine ⟨a1, fun r' c' h => ?_⟩
      have e : ¬ (r' = r ∧ c' = c) := by rintro ⟨rfl, rfl⟩; exact h h0
      rw [a2 r' c' (by rw [upB_ne e]; exact h), upB_ne e]
theorem nC_full {n : Nat} {B : Bd} (h : ∀ r c, r < n → c < n → B r c ≠ 0) : nC n B = 1 := by
  have e : empties n B = [] := by
    apply List.eq_nil_iff_forall_not_mem.mpr
    intro p hp
    have := emp_ok p hp
    exact h _ _ this.1 this.2.1 this.2.2
  unfold nC comps
  rw [e]
  rfl
/-! the class's search -/
theorem bitc (a b c d e : Bool) {σ : St} : f_Int_bitCount σ (s5 a b c d e) = some (nI (a.toNat + b.toNat + c.toNat + d.toNat + e.toNat)) := by
  unfold f_Int_bitCount
  revert a b c d e
  decide +kernel
theorem bitc_le {σ : St} (p : Nat → Bool) : ∃ f, f ≤ 5 ∧ f_Int_bitCount σ (sI p) = some (nI f) := by
  refine ⟨_, ?_, bitc _ _ _ _ _⟩
  have := tn_le (p 0); have := tn_le (p 1); have := tn_le (p 2); have := tn_le (p 3); have := tn_le (p 4)
  omega
def TI (n : Nat) (B : Bd) (S : Nat → Nat → Prop) (v1 v2 : Int32) : Prop := (v1 = -1 ∧ v2 = 6 ∧ ∀ r' c', S r' c' → B r' c' ≠ 0) ∨ (∃ r' c', r' < n ∧ c' < n ∧ B r' c' = 0 ∧ v1 = nI (5 * r' + c') ∧ ∃ f, f ≤ 5 ∧ v2 = nI f)
section CSQ
variable {σ : St} {k n : Nat} {B : Bd}
theorem tight18 (h : GOK σ k n B) {r : Nat} (hr : r < n) (K : Int32 → Int32 → Option Int32) (S : Nat → Nat → Prop) (v1 v2 : Int32) (hT : TI n B S v1 v2) : ∃ w1 w2, f_Filling_tightestCell_L18 k (nI r) σ K FU v1 v2 0 = K w1 w2 ∧ TI n B (fun r' c' => S r' c' ∨ (r' = r ∧ c' < n)) w1 w2 := by
  have hn := h.le; have ho := h.ord
  refine loopE (fun m i (x : Int32 × Int32) => f_Filling_tightestCell_L18 k (nI r) σ K m x.1 x.2 (nI i)) n (fun i x => TI n B (fun r' c' => S r' c' ∨ (r' = r ∧ c' < i)) x.1 x.2) (fun R => ∃ w1 w2, R = K w1 w2 ∧ TI n B (fun r' c' => S r' c' ∨ (r' = r ∧ c' < n)) w1 w2) ?_ ?_ FU 0 (v1, v2) (by omega) (FU_gt (by omega)) ?_
  · rintro m i ⟨x1, x2⟩ hi hx
    refine Or.inr ?_
    show ∃ a' : Int32 × Int32, f_Filling_tightestCell_L18 k (nI r) σ K (m + 1) x1 x2 (nI i) = _ ∧ _
    obtain ⟨f, hf, ef⟩ := bitc_le (σ := σ) (opt n B r i)
    have hb := h.1.bd r i
    have key : f_Filling_tightestCell_L18 k (nI r) σ K (m + 1) x1 x2 (nI i) = if nI f < x2 then if B r i = 0 then f_Filling_tightestCell_L18 k (nI r) σ K m (nI (5 * r + i)) (nI f) (nI (i + 1)) else f_Filling_tightestCell_L18 k (nI r) σ K m x1 x2 (nI (i + 1)) else f_Filling_tightestCell_L18 k (nI r) σ K m x1 x2 (nI (i + 1)) := by
      rw [f_Filling_tightestCell_L18.eq_2]
      rw [ho, if_pos (nI_lt hi (by omega)), opt_in h hr hi, cap_some, ef, cap_some, sign_in h hr hi]
      simp only [cap_some, jn_eq, lt1_eq, nI_1]
      simp (disch := omega) only [ce_m1]
      rw [show (5 : Int32) = nI 5 from rfl, nI_mul, nI_add]
    rw [key]
    by_cases h0 : B r i = 0
    · rcases hx with ⟨e1, e2, e3⟩ | ⟨r', c', a1, a2, a3, a4, g, a5, a6⟩
      · refine ⟨(nI (5 * r + i), nI f), ?_, Or.inr ⟨r, i, hr, hi, h0, rfl, f, hf, rfl⟩⟩
        have e2 : x2 = 6 := e2
        rw [e2, if_pos (show nI f < 6 from nI_lt (show f < 6 by omega) (by decide)), if_pos h0]
      · by_cases hlt : nI f < x2
        · exact ⟨(nI (5 * r + i), nI f), by rw [if_pos hlt, if_pos h0], Or.inr ⟨r, i, hr, hi, h0, rfl, f, hf, rfl⟩⟩
        · exact ⟨(x1, x2), by rw [if_neg hlt], Or.inr ⟨r', c', a1, a2, a3, a4, g, a5, a6⟩⟩
    · refine ⟨(x1, x2), by rw [if_neg h0, ite_self], ?_⟩
      rcases hx with ⟨e1, e2, e3⟩ | hx
      · refine Or.inl ⟨e1, e2, fun r' c' hS => ?_⟩
        rcases hS with hS | ⟨hS1, hS2⟩
        · exact e3 r' c' (Or.inl hS)
        · by_cases e : c' = i
          · rw [hS1, e]; exact h0
          · exact e3 r' c' (Or.inr ⟨hS1, by omega⟩)
      · exact Or.inr hx
  · rintro m ⟨x1, x2⟩ hx
    refine ⟨x1, x2, ?_, hx⟩
    show f_Filling_tightestCell_L18 k (nI r) σ K (m + 1) x1 x2 (nI n) = _
    rw [f_Filling_tightestCell_L18.eq_2]
    rw [ho, if_neg (nI_nlt (Nat.le_refl _) (by omega))]
  · rcases hT with ⟨e1, e2, e3⟩ | hx
    · exact Or.inl ⟨e1, e2, fun r' c' hS => by
        rcases hS with hS | ⟨_, hS⟩
        · exact e3 r' c' hS
        · omega⟩
    · exact Or.inr hx
theorem tight_ok (h : GOK σ k n B) : (f_Filling_tightestCell σ k = some (-1) ∧ ∀ r c, r < n → c < n → B r c ≠ 0) ∨ ∃ r c, r < n ∧ c < n ∧ B r c = 0 ∧ f_Filling_tightestCell σ k = some (nI (5 * r + c)) := by
  have hn := h.le; have ho := h.ord
  unfold f_Filling_tightestCell
  have A : ∃ w1 w2, f_Filling_tightestCell_L7 k σ (fun v => some v) FU (-1) 6 0 = some w1 ∧ TI n B (fun r' c' => r' < n ∧ c' < n) w1 w2 := by
    refine loopE (fun m i (x : Int32 × Int32) => f_Filling_tightestCell_L7 k σ (fun v => some v) m x.1 x.2 (nI i)) n (fun i x => TI n B (fun r' c' => r' < i ∧ c' < n) x.1 x.2) (fun R => ∃ w1 w2, R = some w1 ∧ TI n B (fun r' c' => r' < n ∧ c' < n) w1 w2) ?_ ?_ FU 0 (-1, 6) (by omega) (FU_gt (by omega)) (Or.inl ⟨rfl, rfl, fun r' c' h => by omega⟩)
    · rintro m i ⟨x1, x2⟩ hi hx
      obtain ⟨w1, w2, e, hw⟩ := tight18 h hi (fun (v1_11 : Int32) (v2_12 : Int32) => f_Filling_tightestCell_L7 k σ (fun v => some v) m v1_11 v2_12 (nI i + 1)) _ _ _ hx
      refine Or.inr ⟨(w1, w2), ?_, ?_⟩
      · show f_Filling_tightestCell_L7 k σ (fun v => some v) (m + 1) x1 x2 (nI i) = _
        rw [f_Filling_tightestCell_L7.eq_2]
        rw [ho, if_pos (nI_lt hi (by omega)), e, nI_1]
      · rcases hw with ⟨e1, e2, e3⟩ | hw
        · refine Or.inl ⟨e1, e2, fun r' c' hS => e3 r' c' ?_⟩
          by_cases e : r' = i
          · exact Or.inr ⟨e, hS.2⟩
          · exact Or.inl ⟨by omega, hS.2⟩
        · exact Or.inr hw
    · rintro m ⟨x1, x2⟩ hx
      refine ⟨x1, x2, ?_, hx⟩
      show f_Filling_tightestCell_L7 k σ (fun v => some v) (m + 1) x1 x2 (nI n) = _
      rw [f_Filling_tightestCell_L7.eq_2]
      rw [ho, if_neg (nI_nlt (Nat.le_refl _) (by omega))]
  obtain ⟨w1, w2, e, hT⟩ := A
  rw [e]
  rcases hT with ⟨e1, _, e3⟩ | ⟨r', c', a1, a2, a3, a4, _⟩
  · exact Or.inl ⟨by rw [e1], fun r c hr hc => e3 r c ⟨hr, hc⟩⟩
  · exact Or.inr ⟨r', c', a1, a2, a3, by rw [a4]⟩
end CSQ
theorem sqFrom_ok {n : Nat} {k : Nat} : ∀ (d : Nat) (B : Bd) (σ : St) (most depth : Nat), n * n - cnt B < d → GOK σ k n B → 1 ≤ most → most ≤ 1000 → depth + (n * n - cnt B) ≤ 25 →
    ∃ σ', f_Filling_squaresFrom d σ k (nI most) (nI depth) = some (nI (min most (nC n B)), σ') ∧ GOK σ' k n B ∧ ∀ m, m < k ∨ k + 3 < m → σ' m = σ m := by
  intro d
  induction d with
  | zero => intro B σ most depth h1; omega
  | succ d ih =>
    intro B σ most depth h1 hG hm1 hm2 hdep
    have hn := hG.le
    have ho := hG.ord
    show ∃ σ', fb_Filling_squaresFrom (f_Filling_squaresFrom d) σ k (nI most) (nI depth) = _ ∧ _
    unfold fb_Filling_squaresFrom
    rcases tight_ok hG with ⟨e, hfull⟩ | ⟨r, c, hr, hc, h0, e⟩
    · refine ⟨σ, ?_, hG, fun m _ => rfl⟩
      rw [e, cap_some, if_pos rfl, nC_full hfull, Nat.min_eq_right hm1]
      rfl
    · have hlt := cnt_opt hG.1 hr hc h0
      rw [e, cap_some, if_neg (nm1 (by omega)), if_pos (show nI depth < 25 from nI_lt (show depth < 25 by omega) (by decide)), show (5 : Int32) = nI 5 from rfl, dvi_nI (by omega) (by omega) (by omega), rmi_nI (by omega) (by omega) (by omega), show (5 * r + c) / 5 = r by omega, show (5 * r + c) % 5 = c by omega, opt_in hG hr hc, cap_some]
      rw [nC_split hG.1 hr hc h0]
      refine loopE (fun m i (x : Nat × St) => f_Filling_squaresFrom_L46 (f_Filling_squaresFrom d) k (nI most) (nI depth) (nI r) (nI c) (sI (opt n B r c)) (fun (v7_21 : Int32) (σ_22 : St) => some (v7_21, σ_22)) m (nI x.1) (nI i) x.2) n
        (fun i x => x.1 = min most (sumN i (nW n B r c)) ∧ GOK x.2 k n B ∧ ∀ m, m < k ∨ k + 3 < m → x.2 m = σ m)
        (fun R => ∃ σ', R = some (nI (min most (sumN n (nW n B r c))), σ') ∧ GOK σ' k n B ∧ ∀ m, m < k ∨ k + 3 < m → σ' m = σ m) ?_ ?_ FU 0 (0, σ) (by omega) (FU_gt (by omega)) ⟨by simp [sumN], hG, fun m _ => rfl⟩
      · rintro m i ⟨x, τ⟩ hi ⟨p1, p2, p3⟩
        have p1 : x = min most (sumN i (nW n B r c)) := p1
        have p2 : GOK τ k n B := p2
        have p3 : ∀ m, m < k ∨ k + 3 < m → τ m = σ m := p3
        have hmono : sumN i (nW n B r c) + sumN (n - i) (fun t => nW n B r c (i + t)) = sumN n (nW n B r c) := by
          rw [← sumN_add]; congr 1; omega
        by_cases hx : x < most
        · have hsum : x = sumN i (nW n B r c) := by omega
          refine Or.inr ?_
          show ∃ a' : Nat × St, f_Filling_squaresFrom_L46 (f_Filling_squaresFrom d) k (nI most) (nI depth) (nI r) (nI c) (sI (opt n B r c)) _ (m + 1) (nI x) (nI i) τ = _ ∧ _
          cases hopt : opt n B r c i
          · refine ⟨(x, τ), ?_, ?_, p2, p3⟩
            · rw [f_Filling_squaresFrom_L46.eq_2]
              rw [p2.ord, if_pos (nI_lt hi (by omega)), if_pos (nI_lt hx (by omega)), isIn_opt p2 hi, cap_some, jn_eq, hopt, if_pos (by rfl), nI_1]
            · show x = min most (sumN i (nW n B r c) + nW n B r c i)
              unfold nW
              rw [hopt, if_neg (by decide)]
              exact p1
          · have hw := hG.1.opt hr hc hopt
            have hse := set_eq p2 hr hc (v := i + 1) (by omega)
            have hG2 := set_GOK p2 hr hc (v := i + 1) (by omega) hw
            rw [ce_s] at hse
            have hup := cnt_up (B := B) (r := r) (c := c) (v := i + 1) (by omega) (by omega)
            rw [if_pos h0, if_neg (by omega)] at hup
            obtain ⟨υ, e1, g1, f1⟩ := ih (upB B r c (i + 1)) _ (most - x) (depth + 1) (by omega) hG2 (by omega) (by omega) (by omega)
            have hse2 := set_eq g1 hr hc (v := 0) (by omega)
            rw [ce_0] at hse2
            have hG3 := set_GOK g1 hr hc (v := 0) (by omega) (hw.put0 r c)
            rw [upB_upB, show upB B r c 0 = B by rw [← h0]; exact upB_self] at hG3
            refine ⟨(x + min (most - x) (nC n (upB B r c (i + 1))), _), ?_, ?_, hG3, fun m' hm' => ?_⟩
            · rw [f_Filling_squaresFrom_L46.eq_2]
              rw [p2.ord, if_pos (nI_lt hi (by omega)), if_pos (nI_lt hx (by omega)), isIn_opt p2 hi, cap_some, jn_eq, hopt, if_neg (by decide), hse, cal_some, nI_sub (by omega), nI_1, e1, cal_some, hse2, cal_some, nI_add, nI_1]
              rfl
            · show x + min (most - x) (nC n (upB B r c (i + 1))) = min most (sumN i (nW n B r c) + nW n B r c i)
              unfold nW
              rw [hopt, if_pos rfl]
              have hsum' : x = sumN i (nW n B r c) := hsum
              unfold nW at hsum'
              omega
            · show setSt υ k r c _ 0 m' = _
              rw [setSt_fr hm', f1 m' hm', setSt_fr hm', p3 m' hm']
        · refine Or.inl ⟨τ, ?_, p2, p3⟩
          show f_Filling_squaresFrom_L46 (f_Filling_squaresFrom d) k (nI most) (nI depth) (nI r) (nI c) (sI (opt n B r c)) _ (m + 1) (nI x) (nI i) τ = _
          rw [f_Filling_squaresFrom_L46.eq_2]
          rw [p2.ord, if_pos (nI_lt hi (by omega)), if_neg (nI_nlt (by omega) (by omega)), show min most (sumN n (nW n B r c)) = x by omega]
      · rintro m ⟨x, τ⟩ ⟨p1, p2, p3⟩
        have p1 : x = min most (sumN n (nW n B r c)) := p1
        have p2 : GOK τ k n B := p2
        refine ⟨τ, ?_, p2, p3⟩
        show f_Filling_squaresFrom_L46 (f_Filling_squaresFrom d) k (nI most) (nI depth) (nI r) (nI c) (sI (opt n B r c)) _ (m + 1) (nI x) (nI n) τ = _
        rw [f_Filling_squaresFrom_L46.eq_2]
        rw [p2.ord, if_neg (nI_nlt (Nat.le_refl _) (by omega)), p1]
