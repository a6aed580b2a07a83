/-! the size of a group: the reference -/
section RNO
variable {σ : St}
theorem bI_x (b : Bool) : (bI b ^^^ 1 : Int32) = nI (!b).toNat := by cases b <;> decide
theorem rk_le {n : Nat} (hn : n ≤ 5) {f : Nat → Nat} (hf : ∀ i, i < n → f i < n) : ∀ k, k ≤ n → rkN n f k ≤ 10 ^ k := by
  intro k
  induction k with
  | zero => intro _; simp [rkN]
  | succ k ih =>
    intro hk
    have h1 := ih (by omega)
    have h2 : (List.range (f k)).countP (fun x => (List.range k).all (fun i => f i != x)) ≤ f k := Nat.le_trans List.countP_le_length (by simp)
    have h3 := hf k (by omega)
    have h4 : rkN n f k * (n - k) ≤ 10 ^ k * 5 := Nat.mul_le_mul h1 (by omega)
    have h5 : 1 ≤ 10 ^ k := Nat.one_le_pow _ _ (by omega)
    rw [rkN, Nat.pow_succ]
    omega
theorem rno19 {n k : Nat} (hk : k < 5) (f : Nat → Nat) (hf : σ 90 k = nI (f k)) (hfk : f k < 5) (v1 v2 : Int32) (K : Int32 → Option Int32) : f_R_numberOf_L19 v1 v2 (sI (fun s => dB (∃ i, i < k ∧ f i = s))) (nI k) σ K FU 0 0 = K (nI ((List.range (f k)).countP (fun x => (List.range k).all (fun i => f i != x)))) := by
  have hx : ∀ x, ((List.range k).all (fun i => f i != x)) = !dB (∃ i, i < k ∧ f i = x) := by
    intro x
    rw [← dB_not]
    apply b_dB
    rw [List.all_eq_true]
    constructor
    · rintro h ⟨i, hi, e⟩
      have := h i (List.mem_range.mpr hi)
      simp [e] at this
    · intro h i hi
      have : f i ≠ x := fun e => h ⟨i, List.mem_range.mp hi, e⟩
      simpa using this
  have e : ∀ t, (List.range t).countP (fun x => (List.range k).all (fun i => f i != x)) = sumN t (fun x => (!dB (∃ i, i < k ∧ f i = x)).toNat) := by
    intro t
    induction t with
    | zero => rfl
    | succ t ih =>
      rw [List.range_succ, List.countP_append, ih, sumN]
      simp only [List.countP_cons, List.countP_nil, hx]
      cases dB (∃ i, i < k ∧ f i = t) <;> rfl
  rw [e]
  have A := loop_sum (fun m i a => f_R_numberOf_L19 v1 v2 (sI (fun s => dB (∃ i, i < k ∧ f i = s))) (nI k) σ K m (nI a) (nI i)) (f k) 1 (fun x => (!dB (∃ i, i < k ∧ f i = x)).toNat) (fun a => K (nI a)) (by omega) (fun i _ => tn_le _) 0 ?_ ?_
  · rw [Nat.zero_add] at A
    exact A
  · intro m i x hi hx
    show f_R_numberOf_L19 v1 v2 _ (nI k) σ K (m + 1) (nI x) (nI i) = _
    rw [f_R_numberOf_L19.eq_2]
    rw [ald_nI hk (by decide), hf, if_pos (nI_lt hi (by omega)), lt1_eq, sI_bv _ (show i < 5 by omega), bI_x, nI_add, nI_1]
  · intro m x hx
    show f_R_numberOf_L19 v1 v2 _ (nI k) σ K (m + 1) (nI x) (nI (f k)) = _
    rw [f_R_numberOf_L19.eq_2]
    rw [ald_nI hk (by decide), hf, if_neg (nI_nlt (Nat.le_refl _) (by omega))]
theorem rno_ok {n : Nat} (h2 : n ≤ 5) {f : Nat → Nat} (hf : ∀ i, i < n → f i < n) (h90 : ∀ i, i < n → σ 90 i = nI (f i)) : f_R_numberOf σ (nI n) = some (nI (rkN n f n)) := by
  unfold f_R_numberOf
  have e0 : sI (fun s => dB (∃ i, i < 0 ∧ f i = s)) = 0 := by
    rw [← sI_none]
    exact sI_cong (fun s _ => dB_f (fun ⟨i, hi, _⟩ => by omega))
  refine loopE (fun m k (_ : Unit) => f_R_numberOf_L7 (nI n) σ (fun (v2_7 : Int32) => some v2_7) m (nI (rkN n f k)) (sI (fun s => dB (∃ i, i < k ∧ f i = s))) (nI k)) n (fun _ _ => True) (fun R => R = some (nI (rkN n f n))) ?_ ?_ FU 0 () (by omega) (FU_gt (by omega)) trivial |> fun A => by
    rw [e0] at A
    exact A
  · intro m k _ hk _
    refine Or.inr ⟨(), ?_, trivial⟩
    have hfk := hf k hk
    show f_R_numberOf_L7 (nI n) σ _ (m + 1) (nI (rkN n f k)) _ (nI k) = _
    rw [f_R_numberOf_L7.eq_2]
    rw [if_pos (nI_lt hk (by omega)), rno19 (n := n) (by omega) f (h90 k hk) (by omega), lt1_eq, ald_nI (by omega) (by decide), h90 k hk, lt1_eq, nI_sub (by omega), nI_mul, nI_add, or_oneB (by omega), nI_1]
    have e : sI (fun s => dB (∃ i, i < k ∧ f i = s) || dB (s = f k)) = sI (fun s => dB (∃ i, i < k + 1 ∧ f i = s)) := by
      apply sI_cong
      intro s _
      rw [dB_cong (ex_next (p := fun i => f i = s)), dB_or]
      congr 1
      exact dB_cong ⟨fun h => h.symm, fun h => h.symm⟩
    rw [e]
    rfl
  · intro m _ _
    show f_R_numberOf_L7 (nI n) σ _ (m + 1) (nI (rkN n f n)) _ (nI n) = _
    rw [f_R_numberOf_L7.eq_2]
    rw [if_neg (nI_nlt (Nat.le_refl _) (by omega))]
end RNO
def RM (τ : St) (L : List Nat) : Prop := τ 82 18 = nI L.length ∧ Lst 94 τ L ∧ ∀ x, x < 120 → τ 95 x = bI (decide (x ∈ L))
def FrJ (σ τ : St) : Prop := ∀ m s, ¬ (m = 82 ∧ s = 18) → m ≠ 90 → m ≠ 94 → m ≠ 95 → τ m s = σ m s
theorem FrJ.refl (σ : St) : FrJ σ σ := fun _ _ _ _ _ _ => rfl
theorem RM.fr {τ τ' : St} {L : List Nat} (h : RM τ L) (e1 : τ' 82 18 = τ 82 18) (e2 : ∀ i, τ' 94 i = τ 94 i) (e3 : ∀ i, τ' 95 i = τ 95 i) : RM τ' L := ⟨by rw [e1]; exact h.1, h.2.1.fr e2, fun x hx => by rw [e3]; exact h.2.2 x hx⟩
theorem join_ok {τ : St} {L : List Nat} (h : RM τ L) (hd : L.Nodup) (hL : ∀ x, x ∈ L → x < 120) {x : Nat} (hx : x < 120) : ∃ τ', f_R_join τ (nI x) = some ((), τ') ∧ RM τ' (addL L x) ∧ FrJ τ τ' := by
  obtain ⟨h1, h2, h3⟩ := h
  unfold f_R_join
  rw [ald_nI (by omega) (by decide), h3 x hx]
  by_cases hm : x ∈ L
  · refine ⟨τ, by rw [decide_eq_true hm, if_neg (by decide)], ?_, FrJ.refl τ⟩
    unfold addL
    rw [if_pos hm]
    exact ⟨h1, h2, h3⟩
  · have hlen : L.length < 120 := by
      have := len_sub (x :: L) (List.range 120) (List.nodup_cons.mpr ⟨hm, hd⟩) (fun y hy => by
        rcases List.mem_cons.mp hy with rfl | hy
        · exact List.mem_range.mpr hx
        · exact List.mem_range.mpr (hL y hy))
      simp at this
      omega
    refine ⟨wr (wr (wr τ 95 x 1) 94 L.length (nI x)) 82 18 (nI (L.length + 1)), ?_, ?_, fun m s a b c d => by rw [wr_get, if_neg a, wr_fn c, wr_fn d]⟩
    · rw [decide_eq_false hm, if_pos (by rfl), asz_nI (by omega) (by decide), zb_1, wr_fn (by omega), h1, ast_nI (by omega) (by decide), sto_eq, wr_fn (by omega), wr_fn (by omega), h1, nI_1]
    · unfold addL
      rw [if_neg hm]
      refine ⟨by rw [wr_at, List.length_append]; rfl, ?_, fun y hy => ?_⟩
      · exact ((h2.fr (τ' := wr τ 95 x 1) (fun i => by rw [wr_fn (by omega)])).add x).fr (fun i => by rw [wr_fn (by omega)])
      · rw [wr_fn (by omega), wr_fn (by omega), wr_get]
        by_cases e : y = x
        · rw [if_pos ⟨rfl, e⟩, e, decide_eq_true (by simp)]; rfl
        · rw [if_neg (by omega), h3 y hy]
          congr 1
          rw [decide_eq_decide, List.mem_append, List.mem_singleton]
          constructor
          · exact Or.inl
          · rintro (h | h)
            · exact h
            · exact absurd h e
def rmul (n mk y : Nat) : Nat := rkN n (fun i => lp n mk (lp n y i)) n
theorem rmul_pm {n mk y : Nat} (h1 : 2 ≤ n) (h2 : n ≤ 5) (hm : mk < facN n) (hy : y < facN n) : PM n (fun i => lp n mk (lp n y i)) := by
  have a := lp_pm h1 h2 hm
  have b := lp_pm h1 h2 hy
  exact ⟨fun i hi => a.1 _ (b.1 i hi), fun i j hi hj e => b.2 i j hi hj (a.2 _ _ (b.1 i hi) (b.1 j hj) e)⟩
def mkR (n : Nat) (B : Bd) (R C : Bool) : Nat → List Nat
  | 0 => []
  | a + 1 => mkR n B R C a ++ (if a < n then (if R = true then [rkN n (sg B a) n] else []) else (if C = true then [rkN n (fun b => sg B b (a - n)) n] else []))
theorem mkR_len {n : Nat} {B : Bd} (R C : Bool) : ∀ a, (mkR n B R C a).length ≤ a
  | 0 => Nat.le_refl _
  | a + 1 => by
    have := mkR_len (n := n) (B := B) R C a
    rw [mkR, List.length_append]
    by_cases h : a < n
    · rw [if_pos h]; cases R <;> simp <;> omega
    · rw [if_neg h]; cases C <;> simp <;> omega
theorem mkR_mem {n : Nat} {B : Bd} (R C : Bool) {x : Nat} : ∀ a, x ∈ mkR n B R C a ↔ (R = true ∧ ∃ b, b < a ∧ b < n ∧ x = rkN n (sg B b) n) ∨ (C = true ∧ ∃ b, n + b < a ∧ x = rkN n (fun c => sg B c b) n) := by
  intro a
  induction a with
  | zero =>
    constructor
    · intro h; cases h
    · rintro (⟨_, b, hb, _⟩ | ⟨_, b, hb, _⟩) <;> omega
  | succ a ih =>
    rw [mkR, List.mem_append, ih]
    constructor
    · rintro ((⟨h1, b, h2, h3⟩ | ⟨h1, b, h2, h3⟩) | h)
      · exact Or.inl ⟨h1, b, by omega, h3⟩
      · exact Or.inr ⟨h1, b, by omega, h3⟩
      · by_cases ha : a < n
        · rw [if_pos ha] at h
          cases R
          · rw [if_neg (by decide)] at h; cases h
          · rw [if_pos rfl, List.mem_singleton] at h
            exact Or.inl ⟨rfl, a, by omega, ha, h⟩
        · rw [if_neg ha] at h
          cases C
          · rw [if_neg (by decide)] at h; cases h
          · rw [if_pos rfl, List.mem_singleton] at h
            exact Or.inr ⟨rfl, a - n, by omega, h⟩
    · rintro (⟨h1, b, h2, h3, h4⟩ | ⟨h1, b, h2, h3⟩)
      · by_cases e : b = a
        · right
          rw [if_pos (by omega), h1, if_pos rfl, List.mem_singleton, ← e]; exact h4
        · exact Or.inl (Or.inl ⟨h1, b, by omega, h3, h4⟩)
      · by_cases e : n + b = a
        · right
          rw [if_neg (by omega), h1, if_pos rfl, List.mem_singleton, show a - n = b by omega]; exact h3
        · exact Or.inl (Or.inr ⟨h1, b, by omega, h3⟩)
/-- both groups have one size -/
theorem group_same {n : Nat} (h1 : 2 ≤ n) (h2 : n ≤ 5) {B : Bd} (hs : SQ n B) (R C : Bool) {L L' : List Nat} (hL : GI (facN n) (mkC n B R C n) (cmul n) L.length L) (hL' : GI (facN n) (mkR n B R C (2 * n)) (rmul n) L'.length L') : L.length = L'.length := by
  have hf := fac_le h1 h2
  have hphi : ∀ {f : Nat → Nat}, PM n f → rkN n (cp (nmN n f)) n = rkN n f n := fun {f} hp => rk_congr n (Nat.le_refl n) (cp_sur h1 h2 hp).2
  have hmulphi : ∀ {mk y : Nat}, mk < facN n → y < facN n → rkN n (cp (cmul n mk y)) n = rmul n (rkN n (cp mk) n) (rkN n (cp y) n) := by
    intro mk y hm hy
    have hy2 := (lp_all h1 h2 hy).2.1
    have hm2 := (lp_all h1 h2 hm).2.1
    have hyp := (cp_pm h1 h2 hy).1
    unfold cmul rmul
    rw [hphi (cmul_pm h1 h2 hm hy)]
    exact rk_congr n (Nat.le_refl n) (fun i hi => by rw [hy2 i hi, hm2 _ (hyp.1 i hi)])
  have hmkC : ∀ mk, mk ∈ mkC n B R C n → mk < facN n := by
    intro x hx
    rcases (mkC_mem R C n).mp hx with ⟨_, b, hb, rfl⟩ | ⟨_, b, hb, rfl⟩
    · exact (cp_sur h1 h2 (row_pm hs hb)).1
    · exact (cp_sur h1 h2 (col_pm hs hb)).1
  have hmk1 : ∀ mk, mk ∈ mkC n B R C n → rkN n (cp mk) n ∈ mkR n B R C (2 * n) := by
    intro x hx
    rw [mkR_mem]
    rcases (mkC_mem R C n).mp hx with ⟨hR, b, hb, rfl⟩ | ⟨hC, b, hb, rfl⟩
    · exact Or.inl ⟨hR, b, by omega, hb, hphi (row_pm hs hb)⟩
    · exact Or.inr ⟨hC, b, by omega, hphi (col_pm hs hb)⟩
  have hmk2 : ∀ z, z ∈ mkR n B R C (2 * n) → ∃ mk, mk ∈ mkC n B R C n ∧ rkN n (cp mk) n = z := by
    intro z hz
    rcases (mkR_mem R C (2 * n)).mp hz with ⟨hR, b, _, hb, rfl⟩ | ⟨hC, b, hb, rfl⟩
    · exact ⟨_, (mkC_mem R C n).mpr (Or.inl ⟨hR, b, hb, rfl⟩), hphi (row_pm hs hb)⟩
    · exact ⟨_, (mkC_mem R C n).mpr (Or.inr ⟨hC, b, by omega, rfl⟩), hphi (col_pm hs (show b < n by omega))⟩
  have hid : rkN n (cp 0) n = 0 := by
    have h := List.all_eq_true.mp id_tab n (List.mem_range.mpr (by omega))
    rw [decide_eq_false (by omega : ¬ n < 2), Bool.false_or, Bool.and_eq_true] at h
    exact of_decide_eq_true h.2
  have hinj : ∀ x y, x < facN n → y < facN n → rkN n (cp x) n = rkN n (cp y) n → x = y := by
    intro x y hx hy e
    refine cp_inj h1 h2 hx hy (fun i hi => ?_)
    rw [← (lp_all h1 h2 hx).2.1 i hi, e, (lp_all h1 h2 hy).2.1 i hi]
  have hnd : (L.map (fun m => rkN n (cp m) n)).Nodup := by
    rw [List.Nodup, List.pairwise_map]
    refine List.Pairwise.imp_of_mem ?_ hL.1
    intro a b ha hb hab e
    exact hab (hinj a b (hL.2.1 a ha).1 (hL.2.1 b hb).1 e)
  have := len_same hnd hL'.1 (fun z => by
    rw [List.mem_map]
    constructor
    · rintro ⟨x, hx, rfl⟩
      have hr := (hL.full x).mp hx
      refine (hr (fun x => x < facN n ∧ rkN n (cp x) n ∈ L') ⟨by omega, by rw [hid]; exact hL'.2.2.1⟩ (fun y mk hy hmk => ?_)).2
      refine ⟨(cp_sur h1 h2 (cmul_pm h1 h2 (hmkC mk hmk) hy.1)).1, ?_⟩
      rw [hmulphi (hmkC mk hmk) hy.1, hL'.full]
      exact ((hL'.full _).mp hy.2).step (hmk1 mk hmk)
    · intro hz
      have hr := (hL'.full z).mp hz
      refine hr (fun z => ∃ x, x ∈ L ∧ rkN n (cp x) n = z) ⟨0, hL.2.2.1, hid⟩ (fun y mk hy hmk => ?_)
      obtain ⟨x, hx, rfl⟩ := hy
      obtain ⟨mk', hmk', rfl⟩ := hmk2 mk hmk
      exact ⟨cmul n mk' x, (hL.full _).mpr (((hL.full x).mp hx).step hmk'), hmulphi (hmkC mk' hmk') (hL.2.1 x hx).1⟩)
  rw [List.length_map] at this
  exact this
