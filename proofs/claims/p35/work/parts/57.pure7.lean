/-! turned from whole: 99p.init -/
def arr (m : Nat) : Nat → Nat → Nat
  | 0 => fun _ => 0
  | k + 1 => insA (arr m k) (k - m / facN k % (k + 1)) k
theorem arr5 (m : Nat) : arr m 5 = cp m := by
  have e1 : arr m 1 = fun _ => 0 := by
    funext i
    show insA (fun _ => 0) (0 - m / facN 0 % (0 + 1)) 0 i = 0
    unfold insA
    split
    · rfl
    · split <;> rfl
  show insA (insA (insA (insA (arr m 1) (1 - m / facN 1 % (1 + 1)) 1) (2 - m / facN 2 % (2 + 1)) 2) (3 - m / facN 3 % (3 + 1)) 3) (4 - m / facN 4 % (4 + 1)) 4 = cp m
  rw [e1, show facN 1 = 1 from rfl, Nat.div_one]
  rfl
def ptN (m : Nat) : Nat → Nat
  | 0 => 0
  | k + 1 => ptN m k + 2 ^ (5 * k + cp m k)
theorem tab7 : ((List.range 120).all fun m => decide (cpm m = ptN m 5) && (List.range 5).all fun k => decide (nI (ptN m k) ||| (1 <<< (nI (5 * k + cp m k) &&& 31)) = nI (ptN m (k + 1)))) = true := by decide +kernel
theorem pt_step {m k : Nat} (hm : m < 120) (hk : k < 5) : nI (ptN m k) ||| (1 <<< (nI (5 * k + cp m k) &&& 31)) = nI (ptN m (k + 1)) := by
  have h := List.all_eq_true.mp tab7 m (List.mem_range.mpr hm)
  rw [Bool.and_eq_true] at h
  exact of_decide_eq_true (List.all_eq_true.mp h.2 k (List.mem_range.mpr hk))
theorem pt_5 {m : Nat} (hm : m < 120) : cpm m = ptN m 5 := by
  have h := List.all_eq_true.mp tab7 m (List.mem_range.mpr hm)
  rw [Bool.and_eq_true] at h
  exact of_decide_eq_true h.1
theorem shift_ok {σ : St} {m k b : Nat} (hm : m < 120) (hk : k < 5) (hb : b ≤ k) (f : Nat → Nat) (h : ∀ i, i < k → σ 7 (5 * m + i) = nI (f i)) (v2 v3 v4 : Int32) (K : Int32 → St → Option (Unit × St)) :
    ∃ τ, f_Maps_arrange_L39 v2 v3 v4 (nI b) K FU (nI (5 * m + k)) 0 σ = K (nI (5 * m + (k - b))) τ ∧ (∀ i, i < k - b → τ 7 (5 * m + i) = nI (f i)) ∧ (∀ i, k - b < i → i ≤ k → τ 7 (5 * m + i) = nI (f (i - 1))) ∧ (∀ x, (x < 5 * m ∨ 5 * m + 5 ≤ x) → τ 7 x = σ 7 x) ∧ ∀ o, o ≠ 7 → τ o = σ o := by
  refine loopE (fun q t (τ : St) => f_Maps_arrange_L39 v2 v3 v4 (nI b) K q (nI (5 * m + (k - t))) (nI t) τ) b
    (fun t τ => (∀ i, i < k - t → τ 7 (5 * m + i) = nI (f i)) ∧ (∀ i, k - t < i → i ≤ k → τ 7 (5 * m + i) = nI (f (i - 1))) ∧ (∀ x, (x < 5 * m ∨ 5 * m + 5 ≤ x) → τ 7 x = σ 7 x) ∧ ∀ o, o ≠ 7 → τ o = σ o)
    (fun R => ∃ τ, R = K (nI (5 * m + (k - b))) τ ∧ (∀ i, i < k - b → τ 7 (5 * m + i) = nI (f i)) ∧ (∀ i, k - b < i → i ≤ k → τ 7 (5 * m + i) = nI (f (i - 1))) ∧ (∀ x, (x < 5 * m ∨ 5 * m + 5 ≤ x) → τ 7 x = σ 7 x) ∧ ∀ o, o ≠ 7 → τ o = σ o) ?_ ?_ FU 0 σ (by omega) (FU_gt (by omega)) ⟨h, fun i h1 h2 => by omega, fun _ _ => rfl, fun _ _ => rfl⟩
  · rintro q t τ ht ⟨p1, p2, p3, p4⟩
    obtain ⟨u, hu⟩ : ∃ u, k - t = u + 1 := ⟨k - t - 1, by omega⟩
    have hu2 : k - (t + 1) = u := by omega
    have e1 := p1 u (by omega)
    refine Or.inr ⟨wr τ 7 (5 * m + (u + 1)) (nI (f u)), ?_, fun i hi => ?_, fun i hi1 hi2 => ?_, fun x hx => ?_, fun o ho => by rw [wr_fn ho]; exact p4 o ho⟩
    · show f_Maps_arrange_L39 v2 v3 v4 (nI b) K (q + 1) (nI (5 * m + (k - t))) (nI t) τ = f_Maps_arrange_L39 v2 v3 v4 (nI b) K q (nI (5 * m + (k - (t + 1)))) (nI (t + 1)) (wr τ 7 (5 * m + (u + 1)) (nI (f u)))
      rw [hu, hu2]
      rw [f_Maps_arrange_L39.eq_2]
      have h0 : ¬ nI (5 * m + (u + 1)) ≤ 0 := by
        rw [show (0 : Int32) = nI 0 from rfl, le_nI (by omega) (by omega)]; omega
      rw [if_pos (nI_lt ht (by omega)), if_neg h0, if_pos (show nI (5 * m + (u + 1)) < 600 from nI_lt (show 5 * m + (u + 1) < 600 by omega) (by decide)), show 5 * m + (u + 1) = (5 * m + u) + 1 by omega, nI_pred, ald_nI (by omega) (by decide), e1, ast_nI (by omega) (by decide), show nI (5 * m + u + 1) + -1 = nI (5 * m + u + 1) - 1 from (Int32.sub_eq_add_neg ..).symm, nI_pred, nI_1]
    · rw [hu2] at hi
      rw [wr_get, if_neg (by omega)]
      exact p1 i (by omega)
    · rw [hu2] at hi1
      rw [wr_get]
      by_cases e : i = u + 1
      · rw [if_pos ⟨rfl, by rw [e]⟩, e]; rfl
      · rw [if_neg (by omega)]
        exact p2 i (by omega) hi2
    · rw [wr_get, if_neg (by omega)]
      exact p3 x hx
  · rintro q τ ⟨p1, p2, p3, p4⟩
    refine ⟨τ, ?_, p1, p2, p3, p4⟩
    show f_Maps_arrange_L39 v2 v3 v4 (nI b) K (q + 1) (nI (5 * m + (k - b))) (nI b) τ = _
    rw [f_Maps_arrange_L39.eq_2]
    rw [if_neg (nI_nlt (Nat.le_refl _) (by omega))]
theorem arrange_ok {σ : St} {m : Nat} (hm : m < 120) : ∃ τ, f_Maps_arrange σ (nI m) = some ((), τ) ∧ (∀ i, i < 5 → τ 7 (5 * m + i) = nI (cp m i)) ∧ (∀ x, (x < 5 * m ∨ 5 * m + 5 ≤ x) → τ 7 x = σ 7 x) ∧ ∀ o, o ≠ 7 → τ o = σ o := by
  have hfac : ∀ k, k < 5 → 0 < facN k ∧ facN k ≤ 24 := by decide
  unfold f_Maps_arrange
  rw [show (5 : Int32) = nI 5 from rfl, nI_mul]
  have A := loopE (fun q k (τ : St) => f_Maps_arrange_L9 (nI (5 * m)) q (nI (m / facN k)) (nI k) τ) 5
    (fun k τ => (∀ i, i < k → τ 7 (5 * m + i) = nI (arr m k i)) ∧ (∀ x, (x < 5 * m ∨ 5 * m + 5 ≤ x) → τ 7 x = σ 7 x) ∧ ∀ o, o ≠ 7 → τ o = σ o)
    (fun R => ∃ τ, R = some ((), τ) ∧ (∀ i, i < 5 → τ 7 (5 * m + i) = nI (cp m i)) ∧ (∀ x, (x < 5 * m ∨ 5 * m + 5 ≤ x) → τ 7 x = σ 7 x) ∧ ∀ o, o ≠ 7 → τ o = σ o) ?_ ?_ FU 0 σ (by omega) (FU_gt (by omega)) ⟨fun i hi => by omega, fun _ _ => rfl, fun _ _ => rfl⟩
  · have A : ∃ τ, f_Maps_arrange_L9 (nI (5 * m)) FU (nI (m / facN 0)) (nI 0) σ = some ((), τ) ∧ _ := A
    rw [show facN 0 = 1 from rfl, Nat.div_one] at A
    exact A
  · rintro q k τ hk ⟨p1, p2, p3⟩
    have hf := hfac k hk
    have hd : m / facN k ≤ m := Nat.div_le_self _ _
    have hb : m / facN k % (k + 1) ≤ k := by
      have := Nat.mod_lt (m / facN k) (show k + 1 > 0 by omega)
      omega
    have hq : m / facN k / (k + 1) = m / facN (k + 1) := by
      rw [Nat.div_div_eq_div_mul, Nat.mul_comm]; rfl
    have hstep : f_Maps_arrange_L9 (nI (5 * m)) (q + 1) (nI (m / facN k)) (nI k) τ = f_Maps_arrange_L39 (nI (5 * m)) (nI (m / facN (k + 1))) (nI k) (nI (m / facN k % (k + 1))) (fun (v5_5 : Int32) (σ_6 : St) => jn (fun (σ_8 : St) => f_Maps_arrange_L9 (nI (5 * m)) q (nI (m / facN (k + 1))) (nI k + 1) σ_8) fun j110_7 => if v5_5 < 0 then j110_7 σ_6 else if v5_5 < 600 then ast σ_6 7 600 v5_5 (nI k) fun σ_9 => j110_7 σ_9 else j110_7 σ_6) FU (nI (5 * m + k)) 0 τ := by
      rw [f_Maps_arrange_L9.eq_2]
      rw [if_pos (show nI k < 5 from nI_lt hk (by decide)), show nI k + 1 = nI (k + 1) from nI_1 k, rmi_nI (by omega) (by omega) (by omega), dvi_nI (by omega) (by omega) (by omega), hq, nI_add]
    obtain ⟨υ, e, s1, s2, s3, s4⟩ := shift_ok (σ := τ) hm hk hb (arr m k) p1 (nI (5 * m)) (nI (m / facN (k + 1))) (nI k) (fun (v5_5 : Int32) (σ_6 : St) => jn (fun (σ_8 : St) => f_Maps_arrange_L9 (nI (5 * m)) q (nI (m / facN (k + 1))) (nI k + 1) σ_8) fun j110_7 => if v5_5 < 0 then j110_7 σ_6 else if v5_5 < 600 then ast σ_6 7 600 v5_5 (nI k) fun σ_9 => j110_7 σ_9 else j110_7 σ_6)
    generalize hbv : m / facN k % (k + 1) = b at *
    refine Or.inr ⟨wr υ 7 (5 * m + (k - b)) (nI k), ?_, fun i hi => ?_, fun x hx => ?_, fun o ho => ?_⟩
    · show f_Maps_arrange_L9 (nI (5 * m)) (q + 1) (nI (m / facN k)) (nI k) τ = f_Maps_arrange_L9 (nI (5 * m)) q (nI (m / facN (k + 1))) (nI (k + 1)) (wr υ 7 (5 * m + (k - b)) (nI k))
      rw [hstep]
      refine e.trans ?_
      simp only [jn_eq]
      rw [if_neg (nI_pos (by omega)), if_pos (show nI (5 * m + (k - b)) < 600 from nI_lt (show 5 * m + (k - b) < 600 by omega) (by decide)), ast_nI (by omega) (by decide), nI_1]
    · show _ = nI (insA (arr m k) (k - m / facN k % (k + 1)) k i)
      rw [hbv, wr_get]
      unfold insA
      by_cases c1 : i < k - b
      · rw [if_neg (by omega), if_pos c1]; exact s1 i c1
      · rw [if_neg c1]
        by_cases c2 : i = k - b
        · rw [if_pos ⟨rfl, by rw [c2]⟩, if_pos c2]
        · rw [if_neg (by omega), if_neg c2]; exact s2 i (by omega) (by omega)
    · rw [wr_get, if_neg (by omega), s3 x hx]; exact p2 x hx
    · rw [wr_fn ho, s4 o ho]; exact p3 o ho
  · rintro q τ ⟨p1, p2, p3⟩
    refine ⟨τ, ?_, fun i hi => by rw [p1 i hi, arr5], p2, p3⟩
    show f_Maps_arrange_L9 (nI (5 * m)) (q + 1) (nI (m / facN 5)) (nI 5) τ = _
    rw [f_Maps_arrange_L9.eq_2]
    rw [if_neg (show ¬ nI 5 < 5 by decide)]
theorem pairs43 {σ : St} {m : Nat} (hm : m < 120) (h7 : ∀ i, i < 5 → σ 7 (5 * m + i) = nI (cp m i)) (h8 : σ 8 m = 0) (K : St → Option (Unit × St)) : ∃ τ, f_Maps_init_L43 (nI m) K FU 0 σ = K τ ∧ τ 8 m = nI (cpm m) ∧ (∀ x, x ≠ m → τ 8 x = σ 8 x) ∧ ∀ o, o ≠ 8 → τ o = σ o := by
  refine loopE (fun q k (τ : St) => f_Maps_init_L43 (nI m) K q (nI k) τ) 5
    (fun k τ => τ 8 m = nI (ptN m k) ∧ (∀ x, x ≠ m → τ 8 x = σ 8 x) ∧ ∀ o, o ≠ 8 → τ o = σ o)
    (fun R => ∃ τ, R = K τ ∧ τ 8 m = nI (cpm m) ∧ (∀ x, x ≠ m → τ 8 x = σ 8 x) ∧ ∀ o, o ≠ 8 → τ o = σ o) ?_ ?_ FU 0 σ (by omega) (FU_gt (by omega)) ⟨by rw [h8]; rfl, fun _ _ => rfl, fun _ _ => rfl⟩
  · rintro q k τ hk ⟨p1, p2, p3⟩
    have hc := (cp_all hm).1 k hk
    have e7 : τ 7 (5 * m + k) = nI (cp m k) := by rw [p3 7 (by omega)]; exact h7 k hk
    refine Or.inr ⟨wr τ 8 m (nI (ptN m (k + 1))), ?_, wr_at, fun x hx => ?_, fun o ho => by rw [wr_fn ho]; exact p3 o ho⟩
    · show f_Maps_init_L43 (nI m) K (q + 1) (nI k) τ = _
      rw [f_Maps_init_L43.eq_2]
      rw [if_pos (show nI k < 5 from nI_lt hk (by decide)), ald_nI (by omega) (by decide), p1, show (5 : Int32) = nI 5 from rfl, nI_mul, nI_add, ald_nI (by omega) (by decide), e7, nI_mul, nI_add, pt_step hm hk, ast_nI (by omega) (by decide), nI_1]
    · rw [wr_get, if_neg (by omega)]; exact p2 x hx
  · rintro q τ ⟨p1, p2, p3⟩
    refine ⟨τ, ?_, by rw [p1, pt_5 hm], p2, p3⟩
    show f_Maps_init_L43 (nI m) K (q + 1) (nI 5) τ = _
    rw [f_Maps_init_L43.eq_2]
    rw [if_neg (show ¬ nI 5 < 5 by decide)]
theorem maps_ok {σ : St} (h8 : ∀ x, σ 8 x = 0) : ∃ τ, f_Maps_init σ = some ((), τ) ∧ MT τ ∧ ∀ o, o ≠ 7 → o ≠ 8 → τ o = σ o := by
  unfold f_Maps_init
  refine loopE (fun q m (τ : St) => f_Maps_init_L30 (fun (σ_8 : St) => some ((), σ_8)) q (nI m) τ) 120
    (fun m τ => (∀ m', m' < m → (∀ i, i < 5 → τ 7 (5 * m' + i) = nI (cp m' i)) ∧ τ 8 m' = nI (cpm m')) ∧ (∀ x, m ≤ x → τ 8 x = 0) ∧ ∀ o, o ≠ 7 → o ≠ 8 → τ o = σ o)
    (fun R => ∃ τ, R = some ((), τ) ∧ MT τ ∧ ∀ o, o ≠ 7 → o ≠ 8 → τ o = σ o) ?_ ?_ FU 0 σ (by omega) (FU_gt (by omega)) ⟨fun m' hm' => by omega, fun x _ => h8 x, fun _ _ _ => rfl⟩
  · rintro q m τ hm ⟨p1, p2, p3⟩
    obtain ⟨υ, e, a1, a2, a3⟩ := arrange_ok (σ := τ) hm
    obtain ⟨φ, e2, b1, b2, b3⟩ := pairs43 hm a1 (by rw [a3 8 (by omega)]; exact p2 m (Nat.le_refl _)) (fun (σ_7 : St) => f_Maps_init_L30 (fun (σ_8 : St) => some ((), σ_8)) q (nI m + 1) σ_7)
    refine Or.inr ⟨φ, ?_, fun m' hm' => ?_, fun x hx => ?_, fun o h1 h2 => by rw [b3 o h2, a3 o h1, p3 o h1 h2]⟩
    · show f_Maps_init_L30 _ (q + 1) (nI m) τ = f_Maps_init_L30 (fun (σ_8 : St) => some ((), σ_8)) q (nI (m + 1)) φ
      rw [f_Maps_init_L30.eq_2]
      rw [if_pos (show nI m < 120 from nI_lt hm (by decide)), e, cal_some]
      refine e2.trans ?_
      show f_Maps_init_L30 _ q (nI m + 1) φ = _
      rw [nI_1]
    · by_cases em : m' = m
      · subst em
        exact ⟨fun i hi => by rw [b3 7 (by omega)]; exact a1 i hi, b1⟩
      · have h := p1 m' (by omega)
        refine ⟨fun i hi => ?_, ?_⟩
        · rw [b3 7 (by omega), a2 _ (by omega)]; exact h.1 i hi
        · rw [b2 m' em, a3 8 (by omega)]; exact h.2
    · rw [b2 x (by omega), a3 8 (by omega)]; exact p2 x (by omega)
  · rintro q τ ⟨p1, p2, p3⟩
    refine ⟨τ, ?_, p1, p3⟩
    show f_Maps_init_L30 _ (q + 1) (nI 120) τ = _
    rw [f_Maps_init_L30.eq_2]
    rw [if_neg (show ¬ nI 120 < 120 by decide)]
/-! turned from whole: 99v.mater -/
/-- the reference's choices at the first c columns: 98 holds the places in the list 97 -/
def RC (σ : St) (L : List Nat) (c : Nat) (ch : Nat → Nat) : Prop := ∀ i, i < c → ∃ x, σ 98 i = nI x ∧ L[x]? = some (ch i)
/-! turned from whole: 99x.matex -/
def clR (n : Nat) (X : Bd) (x : Nat) : Nat := X (x / n) (x % n)
def ltR (n : Nat) (X Y : Bd) : Prop := ∃ x, x < n * n ∧ (∀ y, y < x → clR n X y = clR n Y y) ∧ clR n X x < clR n Y x
/-! turned from whole: 99y.matey -/
def LOWR (n : Nat) (P : List Bd) (m : Bd) : Prop := m ∈ P ∧ ∀ X, X ∈ P → ¬ ltR n X m
/-! turned from whole: 99za.matea -/
section RA
variable {n : Nat}
def ARm (σ : St) (n : Nat) (P : List Bd) : Prop := P ≠ [] → ∃ m, LOWR n P m ∧ (∀ r k, m r k ≤ 5) ∧ ∀ x, x < n * n → σ 93 x = ce (clR n m x)
theorem ARm.fr {σ τ : St} {P : List Bd} (h : ARm σ n P) (e : ∀ s, τ 93 s = σ 93 s) : ARm τ n P := fun hne => by
  obtain ⟨m, a, b, c⟩ := h hne
  exact ⟨m, a, b, fun x hx => by rw [e]; exact c x hx⟩
def SMr (σ : St) (n : Nat) (L : List Nat) (c : Nat) (ch : Nat → Nat) : Prop := LA σ n ∧ Lst 97 σ L ∧ σ 82 22 = nI L.length ∧ RC σ L c ch
theorem SMr.fr {σ τ : St} {L : List Nat} {c : Nat} {ch : Nat → Nat} (h : SMr σ n L c ch) (e : ∀ o, o ≠ 91 → o ≠ 93 → o ≠ 98 → τ o = σ o) (e2 : ∀ i, i < c → τ 98 i = σ 98 i) : SMr τ n L c ch := by
  obtain ⟨h1, h2, h3, h4⟩ := h
  refine ⟨h1.fr (by rw [e 82 (by omega) (by omega) (by omega)]) (by rw [e 82 (by omega) (by omega) (by omega)]) (e 89 (by omega) (by omega) (by omega)), h2.fr (fun i => by rw [e 97 (by omega) (by omega) (by omega)]), by rw [e 82 (by omega) (by omega) (by omega)]; exact h3, fun i hi => ?_⟩
  obtain ⟨x, a, b⟩ := h4 i hi
  exact ⟨x, by rw [e2 i hi]; exact a, b⟩
theorem SMr.le {σ : St} {L : List Nat} {c d : Nat} {ch : Nat → Nat} (h : SMr σ n L d ch) (hc : c ≤ d) : SMr σ n L c ch := ⟨h.1, h.2.1, h.2.2.1, fun i hi => h.2.2.2 i (by omega)⟩
end RA
/-! turned from whole: 99ze.trade -/
def FrT (σ τ : St) : Prop := ∀ m s, ¬ (m = 16 ∧ s = 2) → m ≠ 17 → τ m s = σ m s
theorem FrT.trans {a b c : St} (h : FrT a b) (h2 : FrT b c) : FrT a c := fun m s x y => (h2 m s x y).trans (h m s x y)
/-! turned from whole: 99zh.critr -/
section CRR
variable {σ : St} {n : Nat} {S : Bd}
def FRC (σ τ : St) : Prop := ∀ m s, m ≠ 91 → m ≠ 92 → m ≠ 93 → ¬ (m = 82 ∧ (s = 13 ∨ s = 15)) → τ m s = σ m s
theorem FRC.trans {a b c : St} (h : FRC a b) (h2 : FRC b c) : FRC a c := fun m s p q r t => (h2 m s p q r t).trans (h m s p q r t)
end CRR
