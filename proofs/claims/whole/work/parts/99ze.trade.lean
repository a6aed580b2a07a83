/-! critical: the trades that are kept -/
def LsT (σ : St) (K : List Int32) : Prop := (∀ (i : Nat) (x : Int32), K[i]? = some x → σ 17 i = x) ∧ σ 16 2 = nI K.length
def sbs (x y : Int32) : Prop := x &&& y = x
theorem sbs_iff {x y : Int32} : sbs x y ↔ ∀ k, k < 32 → bt x k = true → bt y k = true := by
  unfold sbs
  rw [bt_eq]
  constructor
  · intro h k hk hx
    have := h k hk
    rw [bt_and, hx, Bool.true_and] at this
    exact this
  · intro h k hk
    rw [bt_and]
    cases hx : bt x k
    · rfl
    · rw [h k hk hx]; rfl
theorem sbs_tr {x y z : Int32} (h1 : sbs x y) (h2 : sbs y z) : sbs x z := sbs_iff.mpr (fun k hk h => sbs_iff.mp h2 k hk (sbs_iff.mp h1 k hk h))
theorem sbs_rfl {x : Int32} : sbs x x := sbs_iff.mpr (fun _ _ h => h)
theorem sbs_cm {x y : Int32} : (y &&& x = x) ↔ sbs x y := by
  unfold sbs
  rw [bt_eq, bt_eq]
  constructor
  · intro h k hk; have := h k hk; rw [bt_and] at this ⊢; rw [Bool.and_comm]; exact this
  · intro h k hk; have := h k hk; rw [bt_and] at this ⊢; rw [Bool.and_comm]; exact this
def KVt (K T : List Int32) : Prop := K.Pairwise (fun x y => ¬ sbs x y ∧ ¬ sbs y x) ∧ (∀ x, x ∈ K → x ≠ 0 ∧ x ∈ T) ∧ (∀ t, t ∈ T → t ≠ 0 → ∃ x, x ∈ K ∧ sbs x t) ∧ K.length ≤ T.length
noncomputable def fltT (t : Int32) (K : List Int32) : List Int32 := K.filter (fun x => dB (¬ sbs t x))
theorem fltT_le {t : Int32} {K : List Int32} : (fltT t K).length ≤ K.length := List.length_filter_le _ _
theorem fltT_mem {t x : Int32} {K : List Int32} : x ∈ fltT t K ↔ x ∈ K ∧ ¬ sbs t x := by
  unfold fltT
  rw [List.mem_filter, dB_iff]
theorem fltT_id {t : Int32} {K : List Int32} (h : ∀ x, x ∈ K → ¬ sbs t x) : fltT t K = K := by
  unfold fltT
  exact List.filter_eq_self.mpr (fun x hx => dB_t (h x hx))
theorem fltT_next {t y : Int32} {K : List Int32} : fltT t (K ++ [y]) = fltT t K ++ if dB (sbs t y) = true then [] else [y] := by
  unfold fltT
  rw [List.filter_append]
  congr 1
  by_cases h : sbs t y
  · rw [if_pos (dB_t h), List.filter_cons_of_neg (p := fun x => dB (¬ sbs t x)) (by rw [dB_f (fun h2 => h2 h)]; decide)]; rfl
  · rw [if_neg (by rw [dB_f h]; decide), List.filter_cons_of_pos (p := fun x => dB (¬ sbs t x)) (dB_t h)]; rfl
theorem take_nx {K : List Int32} {i : Nat} {y : Int32} (h : K[i]? = some y) : K.take (i + 1) = K.take i ++ [y] := by
  rw [List.take_add_one, h]; rfl
theorem KV_0 {K T : List Int32} (h : KVt K T) : KVt K (T ++ [0]) := by
  obtain ⟨h1, h2, h3, h4⟩ := h
  refine ⟨h1, fun x hx => ⟨(h2 x hx).1, List.mem_append_left _ (h2 x hx).2⟩, fun t ht h0 => ?_, by rw [List.length_append]; omega⟩
  rcases List.mem_append.mp ht with h | h
  · exact h3 t h h0
  · exact absurd (List.mem_singleton.mp h) h0
theorem KV_old {K T : List Int32} {t y : Int32} (h : KVt K T) (hy : y ∈ K) (hs : sbs y t) : KVt K (T ++ [t]) := by
  obtain ⟨h1, h2, h3, h4⟩ := h
  refine ⟨h1, fun x hx => ⟨(h2 x hx).1, List.mem_append_left _ (h2 x hx).2⟩, fun t' ht h0 => ?_, by rw [List.length_append]; omega⟩
  rcases List.mem_append.mp ht with h | h
  · exact h3 t' h h0
  · rw [List.mem_singleton.mp h]; exact ⟨y, hy, hs⟩
theorem KV_new {K T : List Int32} {t : Int32} (h : KVt K T) (h0 : t ≠ 0) (hno : ∀ x, x ∈ K → ¬ sbs x t) : KVt (fltT t K ++ [t]) (T ++ [t]) := by
  obtain ⟨h1, h2, h3, h4⟩ := h
  refine ⟨List.pairwise_append.mpr ⟨List.Pairwise.filter _ h1, List.pairwise_singleton _ _, fun x hx y hy => ?_⟩, fun x hx => ?_, fun t' ht h0' => ?_, ?_⟩
  · rw [List.mem_singleton.mp hy]
    have := fltT_mem.mp hx
    exact ⟨hno x this.1, this.2⟩
  · rcases List.mem_append.mp hx with h | h
    · have := fltT_mem.mp h
      exact ⟨(h2 x this.1).1, List.mem_append_left _ (h2 x this.1).2⟩
    · rw [List.mem_singleton.mp h]
      exact ⟨h0, List.mem_append_right _ (List.mem_singleton.mpr rfl)⟩
  · rcases List.mem_append.mp ht with h | h
    · obtain ⟨x, hx, hs⟩ := h3 t' h h0'
      by_cases hf : sbs t x
      · exact ⟨t, List.mem_append_right _ (List.mem_singleton.mpr rfl), sbs_tr hf hs⟩
      · exact ⟨x, List.mem_append_left _ (fltT_mem.mpr ⟨hx, hf⟩), hs⟩
    · rw [List.mem_singleton.mp h]
      exact ⟨t, List.mem_append_right _ (List.mem_singleton.mpr rfl), sbs_rfl⟩
  · have := fltT_le (t := t) (K := K)
    rw [List.length_append, List.length_append]
    show (fltT t K).length + 1 ≤ T.length + 1
    omega
def FrT (σ τ : St) : Prop := ∀ m s, ¬ (m = 16 ∧ s = 2) → m ≠ 17 → τ m s = σ m s
theorem FrT.trans {a b c : St} (h : FrT a b) (h2 : FrT b c) : FrT a c := fun m s x y => (h2 m s x y).trans (h m s x y)
theorem keepT_ok {σ : St} {K T : List Int32} {t : Int32} (l : LsT σ K) (kv : KVt K T) (hT : T.length < 576) : ∃ τ K', f_Telling_keep σ t = some ((), τ) ∧ LsT τ K' ∧ KVt K' (T ++ [t]) ∧ FrT σ τ := by
  unfold f_Telling_keep
  by_cases h0 : t = 0
  · rw [if_pos h0]
    refine ⟨σ, K, rfl, l, ?_, fun _ _ _ _ => rfl⟩
    rw [h0]; exact KV_0 kv
  rw [if_neg h0]
  have hKT := kv.2.2.2
  obtain ⟨l1, l2⟩ := l
  refine loopE (fun f i (a : Nat × St) => f_Telling_keep_L9 t (fun (v2_6 : Int32) (σ_7 : St) => if v2_6 < 576 then ast σ_7 17 576 v2_6 t fun σ_8 => sto σ_8 16 2 (v2_6 + 1) fun σ_9 => some ((), σ_9) else some ((), σ_7)) f (nI a.1) (nI i) a.2) K.length
    (fun i a => a.1 = (fltT t (K.take i)).length ∧ (∀ (x : Nat) (y : Int32), (fltT t (K.take i))[x]? = some y → a.2 17 x = y) ∧ (∀ x, a.1 ≤ x → a.2 17 x = σ 17 x) ∧ (∀ m, m ≠ 17 → a.2 m = σ m) ∧ ∀ x, x ∈ K.take i → ¬ sbs x t)
    (fun R => ∃ τ K', R = some ((), τ) ∧ LsT τ K' ∧ KVt K' (T ++ [t]) ∧ FrT σ τ) ?_ ?_ FU 0 (0, σ) (by omega) (FU_gt (by omega)) ⟨rfl, fun x y h => (by cases h), fun _ _ => rfl, fun _ _ => rfl, fun x hx => (by cases hx)⟩
  · rintro f i ⟨o, τ⟩ hi ⟨p1, p2, p3, p4, p5⟩
    have p1 : o = (fltT t (K.take i)).length := p1
    have p3 : ∀ x, o ≤ x → τ 17 x = σ 17 x := p3
    have p4 : ∀ m, m ≠ 17 → τ m = σ m := p4
    obtain ⟨y, hy⟩ : ∃ y, K[i]? = some y := ⟨_, List.getElem?_eq_getElem hi⟩
    have hyK : y ∈ K := List.mem_iff_getElem?.mpr ⟨i, hy⟩
    have hlt : (K.take i).length = i := by rw [List.length_take]; omega
    have hoi : o ≤ i := by
      have := fltT_le (t := t) (K := K.take i)
      omega
    have e17 : τ 17 i = y := by rw [p3 i hoi]; exact l1 i y hy
    have hnx := take_nx hy
    have key : ∀ (KK : Int32 → St → Option (Unit × St)), f_Telling_keep_L9 t KK (f + 1) (nI o) (nI i) τ = if y &&& t = y then some ((), τ) else if y &&& t = t then f_Telling_keep_L9 t KK f (nI o) (nI (i + 1)) τ else f_Telling_keep_L9 t KK f (nI (o + 1)) (nI (i + 1)) (wr τ 17 o y) := by
      intro KK
      rw [f_Telling_keep_L9.eq_2]
      rw [p4 16 (by omega), l2, if_pos (nI_lt hi (by omega)), if_pos (show nI i < 576 from nI_lt (show i < 576 by omega) (by decide)), ald_nI (by omega) (by decide), e17]
      simp only [jn_eq, nI_1]
      rw [if_pos (show nI o < 576 from nI_lt (show o < 576 by omega) (by decide)), ast_nI (by omega) (by decide)]
    by_cases hs : sbs y t
    · left
      refine ⟨τ, K, ?_, ⟨fun x z hz => ?_, by rw [p4 16 (by omega)]; exact l2⟩, KV_old kv hyK hs, fun m s _ hm => by rw [p4 m hm]⟩
      · show f_Telling_keep_L9 t _ (f + 1) (nI o) (nI i) τ = _
        rw [key, if_pos (show y &&& t = y from hs)]
      · have hid : fltT t (K.take i) = K.take i := by
          apply fltT_id
          intro x hx htx
          have hsub : y ∈ K.drop i := by
            rw [List.mem_iff_getElem?]
            exact ⟨0, by rw [List.getElem?_drop]; exact hy⟩
          have hp := kv.1
          rw [← List.take_append_drop i K] at hp
          exact ((List.pairwise_append.mp hp).2.2 x hx y hsub).2 (sbs_tr hs htx)
        rw [hid] at p1 p2
        by_cases hxi : x < i
        · exact p2 x z (by rw [List.getElem?_take, if_pos hxi]; exact hz)
        · rw [p3 x (by omega)]; exact l1 x z hz
    · right
      have p5' : ∀ x, x ∈ K.take (i + 1) → ¬ sbs x t := by
        intro x hx
        rw [hnx] at hx
        rcases List.mem_append.mp hx with h | h
        · exact p5 x h
        · rw [List.mem_singleton.mp h]; exact hs
      have hfn := fltT_next (t := t) (y := y) (K := K.take i)
      rw [← hnx] at hfn
      by_cases ht : sbs t y
      · rw [if_pos (dB_t ht), List.append_nil] at hfn
        refine ⟨(o, τ), ?_, by rw [hfn]; exact p1, by rw [hfn]; exact p2, p3, p4, p5'⟩
        show f_Telling_keep_L9 t _ (f + 1) (nI o) (nI i) τ = _
        rw [key, if_neg (show ¬ (y &&& t = y) from hs), if_pos (sbs_cm.mpr ht)]
      · rw [if_neg (by rw [dB_f ht]; decide)] at hfn
        refine ⟨(o + 1, wr τ 17 o y), ?_, by rw [hfn, List.length_append, ← p1]; rfl, fun x z hz => ?_, fun x hx => ?_, fun m hm => ?_, p5'⟩
        · show f_Telling_keep_L9 t _ (f + 1) (nI o) (nI i) τ = _
          rw [key, if_neg (show ¬ (y &&& t = y) from hs), if_neg (fun h => ht (sbs_cm.mp h))]
        · rw [hfn, List.getElem?_append] at hz
          show wr τ 17 o y 17 x = z
          rw [wr_get]
          by_cases hx : x < (fltT t (K.take i)).length
          · rw [if_pos hx] at hz
            rw [if_neg (by omega)]; exact p2 x z hz
          · rw [if_neg hx] at hz
            by_cases hx2 : x = o
            · rw [hx2, ← p1, Nat.sub_self] at hz
              rw [if_pos ⟨rfl, hx2⟩, show y = z from Option.some.inj hz]
            · rw [List.getElem?_eq_none (by simp; omega)] at hz; cases hz
        · show wr τ 17 o y 17 x = _
          have hx : o + 1 ≤ x := hx
          rw [wr_get, if_neg (by omega)]; exact p3 x (by omega)
        · show wr τ 17 o y m = _
          rw [wr_fn hm]; exact p4 m hm
  · rintro f ⟨o, τ⟩ ⟨p1, p2, p3, p4, p5⟩
    rw [List.take_length] at p1 p2 p5
    have p1 : o = (fltT t K).length := p1
    have p2 : ∀ (x : Nat) (y : Int32), (fltT t K)[x]? = some y → τ 17 x = y := p2
    have p4 : ∀ m, m ≠ 17 → τ m = σ m := p4
    have hoi : o ≤ K.length := by
      have := fltT_le (t := t) (K := K)
      omega
    refine ⟨wr (wr τ 17 o t) 16 2 (nI (o + 1)), fltT t K ++ [t], ?_, ⟨fun x z hz => ?_, ?_⟩, KV_new kv h0 p5, fun m s h1 h2 => ?_⟩
    · show f_Telling_keep_L9 t _ (f + 1) (nI o) (nI K.length) τ = _
      rw [f_Telling_keep_L9.eq_2]
      rw [p4 16 (by omega), l2, if_neg (nI_nlt (Nat.le_refl _) (by omega)), if_pos (show nI o < 576 from nI_lt (show o < 576 by omega) (by decide)), ast_nI (by omega) (by decide), sto_eq, nI_1]
    · rw [List.getElem?_append] at hz
      rw [wr_fn (by omega), wr_get]
      by_cases hx : x < (fltT t K).length
      · rw [if_pos hx] at hz
        rw [if_neg (by omega)]; exact p2 x z hz
      · rw [if_neg hx] at hz
        by_cases hx2 : x = o
        · rw [hx2, ← p1, Nat.sub_self] at hz
          rw [if_pos ⟨rfl, hx2⟩, show t = z from Option.some.inj hz]
        · rw [List.getElem?_eq_none (by simp; omega)] at hz; cases hz
    · rw [wr_at, List.length_append, ← p1]; rfl
    · rw [wr_get, if_neg h1, wr_fn h2, p4 m h2]
