/-! bits of a number; nested loops; parity -/
def bt (x : Int32) (i : Nat) : Bool := x.toBitVec.getLsbD i
theorem bt_or (x y : Int32) (i : Nat) : bt (x ||| y) i = (bt x i || bt y i) := by
  unfold bt; rw [Int32.toBitVec_or, BitVec.getLsbD_or]
theorem bt_and (x y : Int32) (i : Nat) : bt (x &&& y) i = (bt x i && bt y i) := by
  unfold bt; rw [Int32.toBitVec_and, BitVec.getLsbD_and]
theorem bt_0 (i : Nat) : bt 0 i = false := by
  unfold bt
  show (0#32).getLsbD i = false
  simp
theorem bt_m1 {i : Nat} (hi : i < 32) : bt (-1) i = true := by
  have h : ∀ k, k < 32 → bt (-1) k = true := by decide +kernel
  exact h i hi
theorem bt_not (x : Int32) {i : Nat} (hi : i < 32) : bt (x ^^^ (-1)) i = !bt x i := by
  have h := bt_m1 hi
  unfold bt at h ⊢
  rw [Int32.toBitVec_xor, BitVec.getLsbD_xor, h, Bool.xor_true]
theorem one_bv : ∀ k, k < 32 → ((1 : Int32) <<< (nI k &&& 31)).toBitVec = 1#32 <<< k := by decide +kernel
theorem bt_one {k : Nat} (hk : k < 32) (i : Nat) : bt ((1 : Int32) <<< (nI k &&& 31)) i = decide (i = k) := by
  unfold bt
  rw [one_bv k hk, BitVec.getLsbD_shiftLeft]
  by_cases h : i = k
  · subst h; simp [hk]
  · by_cases h2 : i < k
    · simp [h2, h]
    · have : ¬ (i - k = 0) := by omega
      simp [this, h]
theorem sh_bv : ∀ k, k < 32 → ((nI k &&& 31).toBitVec.smod 32).toNat = k := by decide +kernel
theorem bt_isIn {σ : St} (x : Int32) {k : Nat} (hk : k < 31) : f_Q_isIn σ x (nI k) = some (bI (bt x k)) := by
  have e1 : (nI k < 0) = False := lt0_nI (by omega)
  have e2 : (nI k < 31) = True := by rw [show (31 : Int32) = nI 31 from rfl, lt_nI (by omega) (by decide)]; exact eq_true (by omega)
  have e3 : ((x >>> (nI k &&& 31)) &&& 1 = 1) = (bt x k = true) := by
    apply propext
    rw [← Int32.toBitVec_inj, Int32.toBitVec_and, Int32.toBitVec_shiftRight]
    show (x.toBitVec.sshiftRight' _ &&& 1#32 = 1#32) ↔ _
    unfold BitVec.sshiftRight'
    rw [sh_bv k (by omega)]
    unfold bt
    constructor
    · intro h
      have h1 := congrArg (fun v => BitVec.getLsbD v 0) h
      simp only [BitVec.getLsbD_and, BitVec.getLsbD_sshiftRight] at h1
      simpa [show k < 32 by omega] using h1
    · intro h
      apply BitVec.eq_of_getLsbD_eq
      intro i hi
      rw [BitVec.getLsbD_and]
      by_cases h0 : i = 0
      · subst h0
        rw [BitVec.getLsbD_sshiftRight]
        simp [h, show k < 32 by omega]
      · simp [h0]
  simp only [f_Q_isIn, jn, e1, e2, if_false, if_true, e3]
  cases bt x k <;> rfl
theorem bt_ext {x y : Int32} (h : ∀ i, i < 32 → bt x i = bt y i) : x = y := by
  apply Int32.toBitVec_inj.mp
  apply BitVec.eq_of_getLsbD_eq
  intro i hi
  exact h i hi
theorem bt_eq {x y : Int32} : x = y ↔ ∀ i, i < 32 → bt x i = bt y i := ⟨fun h i _ => by rw [h], bt_ext⟩
/-- a loop in a loop -/
theorem nest2 {α : Type} (n : Nat) (P : Nat → St → Prop) (F : Nat → Nat → St → α) (G : Nat → (St → α) → Nat → Nat → St → α) (K : St → α) (hn : n < 1000)
    (hG : ∀ r κ m c τ, r < n → c < n → P (n * r + c) τ → ∃ τ', G r κ (m + 1) c τ = G r κ m (c + 1) τ' ∧ P (n * r + c + 1) τ')
    (hGx : ∀ r κ m τ, r < n → P (n * r + n) τ → G r κ (m + 1) n τ = κ τ)
    (hF : ∀ m r τ, r < n → P (n * r) τ → F (m + 1) r τ = G r (fun τ => F m (r + 1) τ) FU 0 τ)
    (hFx : ∀ m τ, P (n * n) τ → F (m + 1) n τ = K τ) : ∀ τ, P 0 τ → ∃ τ', F FU 0 τ = K τ' ∧ P (n * n) τ' := by
  intro τ0 h0
  refine loopE F n (fun r τ => P (n * r) τ) (fun R => ∃ τ', R = K τ' ∧ P (n * n) τ') ?_ ?_ FU 0 τ0 (by omega) (FU_gt (by omega)) h0
  · intro m r τ hr hP
    have A : ∃ τ', G r (fun τ => F m (r + 1) τ) FU 0 τ = F m (r + 1) τ' ∧ P (n * r + n) τ' := by
      refine loopE (G r (fun τ => F m (r + 1) τ)) n (fun c τ => P (n * r + c) τ) (fun R => ∃ τ', R = F m (r + 1) τ' ∧ P (n * r + n) τ') ?_ ?_ FU 0 τ (by omega) (FU_gt (by omega)) hP
      · intro m' c τ hc hP
        obtain ⟨τ', e, h⟩ := hG r _ m' c τ hr hc hP
        exact Or.inr ⟨τ', e, h⟩
      · intro m' τ hP
        exact ⟨τ, hGx r _ m' τ hr hP, hP⟩
    obtain ⟨τ', e, h⟩ := A
    refine Or.inr ⟨τ', ?_, by rw [Nat.mul_succ]; exact h⟩
    rw [hF m r τ hr hP, e]
  · intro m τ hP
    exact ⟨τ, hFx m τ hP, hP⟩
/-- where a row has a sign -/
theorem row_sur {n : Nat} {B : Bd} (hs : SQ n B) {r s : Nat} (hr : r < n) (hs' : s < n) : ∃ c, c < n ∧ sg B r c = s := by
  apply Classical.byContradiction
  intro hno
  have h1 : ((List.range n).map (sg B r)).Nodup := by
    rw [List.Nodup, List.pairwise_map]
    refine List.Pairwise.imp_of_mem ?_ (List.nodup_range (n := n))
    intro a b ha hb hab e
    exact hab (hs.inj_r hr (List.mem_range.mp ha) (List.mem_range.mp hb) e)
  have h2 : (s :: (List.range n).map (sg B r)).Nodup := by
    refine List.nodup_cons.mpr ⟨fun hm => ?_, h1⟩
    obtain ⟨c, hc, e⟩ := List.mem_map.mp hm
    exact hno ⟨c, List.mem_range.mp hc, e⟩
  have h3 := len_sub _ (List.range n) h2 (fun x hx => by
    rcases List.mem_cons.mp hx with e | hm
    · rw [e]; exact List.mem_range.mpr hs'
    · obtain ⟨c, hc, e⟩ := List.mem_map.mp hm
      rw [← e]; exact List.mem_range.mpr (hs.lt hr (List.mem_range.mp hc)))
  simp at h3
  omega
noncomputable def cS (n : Nat) (B : Bd) (r s : Nat) : Nat := if h : ∃ c, c < n ∧ sg B r c = s then Classical.choose h else 0
theorem cS_ok {n : Nat} {B : Bd} (hs : SQ n B) {r s : Nat} (hr : r < n) (hs' : s < n) : cS n B r s < n ∧ sg B r (cS n B r s) = s := by
  unfold cS
  rw [dif_pos (row_sur hs hr hs')]
  exact Classical.choose_spec (row_sur hs hr hs')
theorem cS_of {n : Nat} {B : Bd} (hs : SQ n B) {r c : Nat} (hr : r < n) (hc : c < n) : cS n B r (sg B r c) = c := by
  obtain ⟨h1, h2⟩ := cS_ok hs hr (hs.lt hr hc)
  exact hs.inj_r hr h1 hc h2
theorem colOf_sq {σ : St} {k n : Nat} {B : Bd} (h : GOK σ k n B) (hs : SQ n B) {r s : Nat} (hr : r < n) (hs' : s < n) : f_Grid_columnOf σ k (nI r) (nI s) = some (nI (cS n B r s)) := by
  obtain ⟨h1, h2⟩ := cS_ok hs hr hs'
  have h3 := hs.2 r _ hr h1
  exact col_has h hr h1 (by unfold sg at h2; omega)
/-! parity -/
noncomputable def EN (n : Nat) (B : Bd) (w l k : Nat) : Nat := if w = 0 then sg B l k else if w = 1 then sg B k l else cS n B k l
theorem EN_lt {n : Nat} {B : Bd} (hs : SQ n B) {w l k : Nat} (hl : l < n) (hk : k < n) : EN n B w l k < n := by
  unfold EN
  split
  · exact hs.lt hl hk
  · split
    · exact hs.lt hk hl
    · exact (cS_ok hs hk hl).1
theorem entry_ok {σ : St} {k n : Nat} {B : Bd} (h : GOK σ k n B) (hs : SQ n B) {w l p : Nat} (hw : w ≤ 2) (hl : l < n) (hp : p < n) : f_Laws_entry σ k (nI w) (nI l) (nI p) = some (nI (EN n B w l p)) := by
  unfold f_Laws_entry EN
  rw [sq_sign h hs hl hp, sq_sign h hs hp hl, colOf_sq h hs hp hl, cap_some, cap_some, cap_some]
  rcases (by omega : w = 0 ∨ w = 1 ∨ w = 2) with rfl | rfl | rfl
  · rfl
  · rfl
  · rfl
noncomputable def inv1 (n : Nat) (B : Bd) (w l k j : Nat) : Nat := (dB (EN n B w l k < EN n B w l j)).toNat
section PA
variable {n : Nat} {B : Bd} {w : Nat}
theorem s27 {l k : Nat} : sumN k (inv1 n B w l k) ≤ k := by
  have := sumN_le (e := k) (b := 1) (w := inv1 n B w l k) (fun i _ => tn_le _)
  omega
theorem sum_lin {a : Nat} {f : Nat → Nat} {b : Nat} (h : ∀ i, i < a → f i ≤ b) : sumN a f ≤ a * b := sumN_le h
theorem par27 {σ : St} {k : Nat} (h : GOK σ k n B) (hs : SQ n B) (hw : w ≤ 2) {l p : Nat} (hl : l < n) (hp : p < n) (a : Nat) (ha : a ≤ 1000) (K : Int32 → Option Int32) : f_Laws_parityOf_L27 k (nI w) (nI l) (nI p) σ K FU (nI a) 0 = K (nI (a + sumN p (inv1 n B w l p))) := by
  have hn := h.le
  refine loop_sum (fun m i a => f_Laws_parityOf_L27 k (nI w) (nI l) (nI p) σ K m (nI a) (nI i)) p 1 (inv1 n B w l p) (fun a => K (nI a)) (by omega) (fun i _ => tn_le _) a ?_ ?_
  · intro m i x hi hx
    show f_Laws_parityOf_L27 k (nI w) (nI l) (nI p) σ K (m + 1) (nI x) (nI i) = _
    rw [f_Laws_parityOf_L27.eq_2]
    have b1 := EN_lt hs (w := w) hl hp
    have b2 := EN_lt hs (w := w) hl (show i < n by omega)
    rw [if_pos (nI_lt hi (by omega)), entry_ok h hs hw hl hp, entry_ok h hs hw hl (by omega), cap_some, cap_some]
    simp only [jn_eq, nI_1]
    unfold inv1
    by_cases e : EN n B w l p < EN n B w l i
    · rw [if_pos (nI_lt e (by omega)), dB_t e]; rfl
    · rw [if_neg (nI_nlt (by omega) (by omega)), dB_f e]; rfl
  · intro m x hx
    show f_Laws_parityOf_L27 k (nI w) (nI l) (nI p) σ K (m + 1) (nI x) (nI p) = _
    rw [f_Laws_parityOf_L27.eq_2]
    rw [if_neg (nI_nlt (Nat.le_refl _) (by omega))]
noncomputable def invL (n : Nat) (B : Bd) (w l : Nat) : Nat := sumN n (fun k => sumN k (inv1 n B w l k))
theorem invL_le (hn : n ≤ 5) {l : Nat} : invL n B w l ≤ 25 := by
  have h1 : invL n B w l ≤ n * 5 := sumN_le (fun i hi => Nat.le_trans s27 (by omega))
  omega
theorem par15 {σ : St} {k : Nat} (h : GOK σ k n B) (hs : SQ n B) (hw : w ≤ 2) {l : Nat} (hl : l < n) (a : Nat) (ha : a ≤ 500) (K : Int32 → Option Int32) : f_Laws_parityOf_L15 k (nI w) (nI l) σ K FU (nI a) 1 = K (nI (a + invL n B w l)) := by
  have hn := h.le
  have ho := h.ord
  have e : invL n B w l = sumN (n - 1) (fun i => sumN (i + 1) (inv1 n B w l (i + 1))) := by
    unfold invL
    have := sumN_add 1 (n - 1) (fun k => sumN k (inv1 n B w l k))
    rw [show 1 + (n - 1) = n by omega] at this
    rw [this]
    simp only [sumN, Nat.zero_add]
    exact sumN_congr (fun i _ => by rw [Nat.add_comm 1 i]; rfl)
  rw [e]
  refine loop_sum (fun m i a => f_Laws_parityOf_L15 k (nI w) (nI l) σ K m (nI a) (nI (i + 1))) (n - 1) 5 (fun i => sumN (i + 1) (inv1 n B w l (i + 1))) (fun a => K (nI a)) (by omega) (fun i hi => Nat.le_trans s27 (by omega)) a ?_ ?_
  · intro m i x hi hx
    show f_Laws_parityOf_L15 k (nI w) (nI l) σ K (m + 1) (nI x) (nI (i + 1)) = _
    rw [f_Laws_parityOf_L15.eq_2]
    rw [ho, if_pos (nI_lt (by omega) (by omega)), par27 h hs hw hl (by omega) x (by omega), nI_1]
  · intro m x hx
    show f_Laws_parityOf_L15 k (nI w) (nI l) σ K (m + 1) (nI x) (nI (n - 1 + 1)) = _
    rw [f_Laws_parityOf_L15.eq_2]
    rw [ho, if_neg (nI_nlt (by omega) (by omega))]
theorem and1 : ∀ v, v < 200 → nI v &&& 1 = nI (v % 2) := by decide +kernel
theorem par_ok {σ : St} {k : Nat} (h : GOK σ k n B) (hs : SQ n B) (hw : w ≤ 2) : f_Laws_parityOf σ k (nI w) = some (nI (sumN n (invL n B w) % 2)) := by
  have hn := h.le
  have ho := h.ord
  have hb : sumN n (invL n B w) ≤ n * 25 := sumN_le (fun i _ => invL_le hn.2)
  unfold f_Laws_parityOf
  refine (loop_sum (fun m i a => f_Laws_parityOf_L4 k (nI w) σ (fun v => some (v &&& 1)) m (nI a) (nI i)) n 25 (invL n B w) (fun a => some (nI a &&& 1)) (by omega) (fun i _ => invL_le hn.2) 0 ?_ ?_).trans ?_
  · intro m i x hi hx
    show f_Laws_parityOf_L4 k (nI w) σ _ (m + 1) (nI x) (nI i) = _
    rw [f_Laws_parityOf_L4.eq_2]
    rw [ho, if_pos (nI_lt hi (by omega)), par15 h hs hw hi x (by omega), nI_1]
  · intro m x hx
    show f_Laws_parityOf_L4 k (nI w) σ _ (m + 1) (nI x) (nI n) = _
    rw [f_Laws_parityOf_L4.eq_2]
    rw [ho, if_neg (nI_nlt (Nat.le_refl _) (by omega))]
  · rw [Nat.zero_add, and1 _ (by omega)]
end PA
section RPA
variable {σ : St} {M : Nat} {N : Nat → Nat} {B : Nat → Bd}
/-- what the reference lays down -/
def Lay (n : Nat) (B : Bd) (w i : Nat) (τ : St) : Prop := ∀ r c, r < n → c < n → n * r + c < i → (w = 0 → τ 91 (n * r + c) = nI (sg B r c)) ∧ (w = 1 → τ 91 (n * c + r) = nI (sg B r c)) ∧ (w = 2 → τ 91 (n * sg B r c + r) = nI c)
theorem rlay_ok (h : MW σ M N B) {j w : Nat} (hj : j < M) (hs : SQ (N j) (B j)) (hw : w ≤ 2) (n : Nat) (hN : N j = n) (K : St → Option (Int32 × St)) : ∃ τ, f_R_parity_L27 (nI j) (nI w) (nI n) K FU 0 σ = K τ ∧ Lay n (B j) w (n * n) τ ∧ Frx 91 σ τ := by
  have hM := h.le
  have hn := h.n hj
  subst hN
  refine nest2 (N j) (fun i τ => Lay (N j) (B j) w i τ ∧ Frx 91 σ τ) (fun m r τ => f_R_parity_L27 (nI j) (nI w) (nI (N j)) K m (nI r) τ) (fun r κ m c τ => f_R_parity_L36 (nI j) (nI w) (nI (N j)) (nI r) κ m (nI c) τ) K (by omega) ?_ ?_ ?_ ?_ σ ⟨fun r c _ _ h => absurd h (Nat.not_lt_zero _), fun m _ => rfl⟩
  · rintro r κ m c τ hr hc ⟨p1, p2⟩
    have mwτ : MW τ M N B := h.fr ⟨fun m hm => p2 m (by omega), by rw [p2 82 (by omega)], by rw [p2 82 (by omega)]⟩
    have hsg := hs.lt hr hc
    have b0 := ix25 hn.2 hr hc
    have b1 := ix25 hn.2 hc hr
    have b2 := ix25 hn.2 hsg hr
    have e0 : f_R_parity_L36 (nI j) (nI w) (nI (N j)) (nI r) κ (m + 1) (nI c) τ = f_R_parity_L36 (nI j) (nI w) (nI (N j)) (nI r) κ m (nI (c + 1)) (wr τ 91 (if w = 0 then N j * r + c else if w = 1 then N j * c + r else N j * sg (B j) r c + r) (nI (if w = 2 then c else sg (B j) r c))) := by
      rw [f_R_parity_L36.eq_2]
      rw [if_pos (nI_lt hc (by omega)), sq_at mwτ hj hs hr hc, cap_some]
      simp only [jn_eq, nI_1, nI_mul, nI_add]
      rcases (by omega : w = 0 ∨ w = 1 ∨ w = 2) with rfl | rfl | rfl
      · rw [if_pos (by rfl), if_neg (by decide), ast_nI (by omega) (by decide)]; rfl
      · rw [if_neg (by decide), if_pos (by rfl), if_neg (by decide), ast_nI (by omega) (by decide)]; rfl
      · rw [if_neg (by decide), if_neg (by decide), if_pos (by rfl), ast_nI (by omega) (by decide)]; rfl
    refine ⟨_, e0, fun r' c' hr' hc' hlt => ?_, fun m' hm' => by rw [wr_fn hm']; exact p2 m' hm'⟩
    have hsg' := hs.lt hr' hc'
    by_cases e : r' = r ∧ c' = c
    · obtain ⟨rfl, rfl⟩ := e
      refine ⟨fun hw => ?_, fun hw => ?_, fun hw => ?_⟩
      · subst hw; exact wr_at
      · subst hw; exact wr_at
      · subst hw; exact wr_at
    · have hlt2 : N j * r' + c' < N j * r + c := by
        rcases Nat.lt_or_ge (N j * r' + c') (N j * r + c) with h | h
        · exact h
        · exact absurd (idx_inj hc' hc (show N j * r' + c' = N j * r + c by omega)) e
      obtain ⟨q1, q2, q3⟩ := p1 r' c' hr' hc' hlt2
      refine ⟨fun hw => ?_, fun hw => ?_, fun hw => ?_⟩
      · subst hw
        rw [wr_get, if_neg]
        · exact q1 rfl
        · rintro ⟨_, h⟩
          have h : N j * r' + c' = N j * r + c := h
          exact e (idx_inj hc' hc h)
      · subst hw
        rw [wr_get, if_neg]
        · exact q2 rfl
        · rintro ⟨_, h⟩
          have h : N j * c' + r' = N j * c + r := h
          have := idx_inj hr' hr h
          exact e ⟨this.2, this.1⟩
      · subst hw
        rw [wr_get, if_neg]
        · exact q3 rfl
        · rintro ⟨_, h⟩
          have h : N j * sg (B j) r' c' + r' = N j * sg (B j) r c + r := h
          have h2 := idx_inj hr' hr h
          rw [h2.2] at h2
          exact e ⟨(idx_inj hr' hr h).2, hs.inj_r hr hc' hc h2.1⟩
  · rintro r κ m τ hr ⟨p1, p2⟩
    rw [f_R_parity_L36.eq_2]
    rw [if_neg (nI_nlt (Nat.le_refl _) (by omega))]
  · rintro m r τ hr ⟨p1, p2⟩
    rw [f_R_parity_L27.eq_2]
    rw [if_pos (nI_lt hr (by omega)), nI_1]
    rfl
  · rintro m τ ⟨p1, p2⟩
    rw [f_R_parity_L27.eq_2]
    rw [if_neg (nI_nlt (Nat.le_refl _) (by omega))]
theorem lay_en {n : Nat} {B : Bd} (hs : SQ n B) {w : Nat} (hw : w ≤ 2) {τ : St} (h : Lay n B w (n * n) τ) {l k : Nat} (hl : l < n) (hk : k < n) : τ 91 (n * l + k) = nI (EN n B w l k) := by
  have hlt : ∀ r c, r < n → c < n → n * r + c < n * n := by
    intro r c hr hc
    have h1 : n * (r + 1) ≤ n * n := Nat.mul_le_mul_left _ hr
    rw [Nat.mul_succ] at h1; omega
  unfold EN
  rcases (by omega : w = 0 ∨ w = 1 ∨ w = 2) with rfl | rfl | rfl
  · exact (h l k hl hk (hlt l k hl hk)).1 rfl
  · exact (h k l hk hl (hlt k l hk hl)).2.1 rfl
  · obtain ⟨h1, h2⟩ := cS_ok hs hk hl
    have := (h k (cS n B k l) hk h1 (hlt _ _ hk h1)).2.2 rfl
    rw [h2] at this
    exact this
theorem rpar_ok {n w : Nat} {B : Bd} {τ : St} (hn : 2 ≤ n ∧ n ≤ 5) (hs : SQ n B) (hw : w ≤ 2) (hL : Lay n B w (n * n) τ) : f_R_parity_L128 (nI n) τ (fun (v4_22 : Int32) => rmi v4_22 2 fun q_23 => some (q_23, τ)) FU 0 0 = some (nI (sumN n (invL n B w) % 2), τ) := by
  have hb : sumN n (invL n B w) ≤ n * 25 := sumN_le (fun i _ => invL_le hn.2)
  have L146 : ∀ (l p : Nat) (hl : l < n) (hp : p < n) (a : Nat) (ha : a ≤ 1000) (K : Int32 → Option (Int32 × St)), f_R_parity_L146 (nI n) (nI l) (nI p) τ K FU (nI a) 0 = K (nI (a + sumN p (inv1 n B w l p))) := by
    intro l p hl hp a ha K
    refine loop_sum (fun m i a => f_R_parity_L146 (nI n) (nI l) (nI p) τ K m (nI a) (nI i)) p 1 (inv1 n B w l p) (fun a => K (nI a)) (by omega) (fun i _ => tn_le _) a ?_ ?_
    · intro m i x hi hx
      show f_R_parity_L146 (nI n) (nI l) (nI p) τ K (m + 1) (nI x) (nI i) = _
      rw [f_R_parity_L146.eq_2]
      have b1 := EN_lt hs (w := w) hl hp
      have b2 := EN_lt hs (w := w) hl (show i < n by omega)
      have c1 := ix25 hn.2 hl hp
      have c2 := ix25 hn.2 hl (show i < n by omega)
      rw [if_pos (nI_lt hi (by omega)), nI_mul, nI_add, nI_add, ald_nI (by omega) (by decide), ald_nI (by omega) (by decide), lay_en hs hw hL hl hp, lay_en hs hw hL hl (by omega)]
      simp only [jn_eq, nI_1]
      unfold inv1
      by_cases e : EN n B w l p < EN n B w l i
      · rw [if_pos (nI_lt e (by omega)), dB_t e]; rfl
      · rw [if_neg (nI_nlt (by omega) (by omega)), dB_f e, Int32.add_zero]; rfl
    · intro m x hx
      show f_R_parity_L146 (nI n) (nI l) (nI p) τ K (m + 1) (nI x) (nI p) = _
      rw [f_R_parity_L146.eq_2]
      rw [if_neg (nI_nlt (Nat.le_refl _) (by omega))]
  have L137 : ∀ (l : Nat) (hl : l < n) (a : Nat) (ha : a ≤ 500) (K : Int32 → Option (Int32 × St)), f_R_parity_L137 (nI n) (nI l) τ K FU (nI a) 0 = K (nI (a + invL n B w l)) := by
    intro l hl a ha K
    refine loop_sum (fun m i a => f_R_parity_L137 (nI n) (nI l) τ K m (nI a) (nI i)) n 5 (fun k => sumN k (inv1 n B w l k)) (fun a => K (nI a)) (by omega) (fun i hi => Nat.le_trans s27 (by omega)) a ?_ ?_
    · intro m i x hi hx
      show f_R_parity_L137 (nI n) (nI l) τ K (m + 1) (nI x) (nI i) = _
      rw [f_R_parity_L137.eq_2]
      rw [if_pos (nI_lt hi (by omega)), L146 l i hl hi x (by omega), nI_1]
    · intro m x hx
      show f_R_parity_L137 (nI n) (nI l) τ K (m + 1) (nI x) (nI n) = _
      rw [f_R_parity_L137.eq_2]
      rw [if_neg (nI_nlt (Nat.le_refl _) (by omega))]
  refine (loop_sum (fun m i a => f_R_parity_L128 (nI n) τ (fun (v4_22 : Int32) => rmi v4_22 2 fun q_23 => some (q_23, τ)) m (nI a) (nI i)) n 25 (invL n B w) (fun a => rmi (nI a) 2 fun q_23 => some (q_23, τ)) (by omega) (fun i _ => invL_le hn.2) 0 ?_ ?_).trans ?_
  · intro m i x hi hx
    show f_R_parity_L128 (nI n) τ _ (m + 1) (nI x) (nI i) = _
    rw [f_R_parity_L128.eq_2]
    rw [if_pos (nI_lt hi (by omega)), L137 i hi x (by omega), nI_1]
  · intro m x hx
    show f_R_parity_L128 (nI n) τ _ (m + 1) (nI x) (nI n) = _
    rw [f_R_parity_L128.eq_2]
    rw [if_neg (nI_nlt (Nat.le_refl _) (by omega))]
  · rw [Nat.zero_add, show (2 : Int32) = nI 2 from rfl, rmi_nI (by omega) (by omega) (by omega)]
end RPA
theorem ok_parity : Ok_parity Inv := by
  intro σ hI p0 p1
  refine op_rd hI (Q := fun σ => f_Q_parity σ p0 p1) (R := fun σ => f_R_parity σ p0 p1) (fun M N B cw mt ct => ?_)
  refine sqA (b := 2) cw (by decide) (by omega) (QB := fun g σ => cap (f_Laws_parityOf σ g p1) fun r_15 => some (.ok r_15, σ)) (RB := fun σ_5 => ald σ_5 83 12 p0 fun r_6 => f_R_parity_L27 p0 p1 r_6 (fun (σ_15 : St) => f_R_parity_L128 r_6 σ_15 (fun (v4_22 : Int32) => rmi v4_22 2 fun q_23 => some (q_23, σ_15)) FU 0 0) FU 0 σ_5) (fun _ => rfl) (fun _ => rfl) ?_
  rintro j a hj rfl ha rfl hs hG
  have hn := hG.le
  refine ⟨nI (sumN (N j) (invL (N j) (B j) a) % 2), σ, ?_, FrC.refl σ, fun σ1 mw ca h0 => ?_⟩
  · show cap (f_Laws_parityOf σ (gid j) (nI a)) _ = _
    rw [par_ok hG hs ha, cap_some]
  · have hM := mw.le
    obtain ⟨τ, e, hL, f⟩ := rlay_ok mw hj hs ha (N j) rfl (fun (σ_15 : St) => f_R_parity_L128 (nI (N j)) σ_15 (fun (v4_22 : Int32) => rmi v4_22 2 fun q_23 => some (q_23, σ_15)) FU 0 0)
    have hk : FrK σ1 τ := ⟨fun m hm => f m (by omega), fun s _ => by rw [f 82 (by omega)]⟩
    refine ⟨τ, ?_, hk.m, hk.ca ca, by rw [f 82 (by omega)]; exact h0⟩
    show ald σ1 83 12 (nI j) _ = _
    rw [ald_nI (by omega) (by decide), mw.od hj, e, rpar_ok hn hs ha hL]
