/-! mates, the reference keeps the lower -/
def clR (n : Nat) (X : Bd) (x : Nat) : Nat := X (x / n) (x % n)
def ltR (n : Nat) (X Y : Bd) : Prop := ∃ x, x < n * n ∧ (∀ y, y < x → clR n X y = clR n Y y) ∧ clR n X x < clR n Y x
section RX
variable {σ : St} {n : Nat}
theorem cell_clR {o : Nat} {X : Bd} (h : ∀ r k, r < n → k < n → σ o (n * r + k) = ce (X r k)) {x : Nat} (hx : x < n * n) : σ o x = ce (clR n X x) := by
  have h0 : 0 < n := Nat.pos_of_ne_zero (fun e => by subst e; omega)
  have := h (x / n) (x % n) (Nat.div_lt_of_lt_mul hx) (Nat.mod_lt _ h0)
  rw [Nat.div_add_mod] at this
  exact this
theorem keep62 (h1 : 2 ≤ n) (h2 : n ≤ 5) (v2 : Int32) (K : Int32 → Option (Unit × St)) : ∃ x, x < n * n ∧ f_R_keepLower_L62 (nI n) v2 σ K FU 0 = K (nI x) ∧ (∀ y, y < x → σ 91 y = σ 93 y) ∧ (x < n * n - 1 → σ 91 x ≠ σ 93 x) := by
  have h25 : n * n ≤ 25 := Nat.mul_le_mul h2 h2
  have h4 : 2 * 2 ≤ n * n := Nat.mul_le_mul h1 h1
  have key : ∀ f i, i < n * n - 1 → f_R_keepLower_L62 (nI n) v2 σ K (f + 1) (nI i) = if σ 91 i = σ 93 i then f_R_keepLower_L62 (nI n) v2 σ K f (nI (i + 1)) else K (nI i) := by
    intro f i hi
    rw [f_R_keepLower_L62.eq_2]
    rw [nI_mul, show (1 : Int32) = nI 1 from rfl, nI_sub (by omega), if_pos (nI_lt hi (by omega)), ald_nI (by omega) (by decide), ald_nI (by omega) (by decide), nI_add]
  have A := fst_loop (fun f i => f_R_keepLower_L62 (nI n) v2 σ K f (nI i)) (n * n - 1) (fun i => σ 91 i ≠ σ 93 i) (fun i => K (nI i)) (K (nI (n * n - 1))) (by omega)
    (fun f i hi hp => by
      show f_R_keepLower_L62 (nI n) v2 σ K (f + 1) (nI i) = _
      rw [key f i hi, if_pos (Classical.byContradiction hp)])
    (fun f i hi hp => by
      show f_R_keepLower_L62 (nI n) v2 σ K (f + 1) (nI i) = _
      rw [key f i hi, if_neg hp])
    (fun f => by
      show f_R_keepLower_L62 (nI n) v2 σ K (f + 1) (nI (n * n - 1)) = _
      rw [f_R_keepLower_L62.eq_2]
      rw [nI_mul, show (1 : Int32) = nI 1 from rfl, nI_sub (by omega), if_neg (nI_nlt (Nat.le_refl _) (by omega))])
  rcases A with ⟨a, b⟩ | ⟨i, hi, hp, hmin, a⟩
  · exact ⟨n * n - 1, by omega, a, fun y hy => Classical.byContradiction (b y hy), fun h => by omega⟩
  · exact ⟨i, by omega, a, fun y hy => Classical.byContradiction (hmin y hy), fun _ => hp⟩
theorem keep121 (h1 : 2 ≤ n) (h2 : n ≤ 5) (b : Bool) : ∃ τ, f_R_keepLower_L121 (nI n) (bI b) FU 0 σ = some ((), τ) ∧ (b = true → ∀ x, x < n * n → τ 93 x = σ 91 x) ∧ (b = false → τ = σ) ∧ ∀ o, o ≠ 93 → τ o = σ o := by
  have h25 : n * n ≤ 25 := Nat.mul_le_mul h2 h2
  have h4 : 2 * 2 ≤ n * n := Nat.mul_le_mul h1 h1
  refine loopE (fun f i (τ : St) => f_R_keepLower_L121 (nI n) (bI b) f (nI i) τ) (n * n)
    (fun i τ => (b = true → ∀ x, x < i → τ 93 x = σ 91 x) ∧ (b = false → τ = σ) ∧ ∀ o, o ≠ 93 → τ o = σ o)
    (fun R => ∃ τ, R = some ((), τ) ∧ (b = true → ∀ x, x < n * n → τ 93 x = σ 91 x) ∧ (b = false → τ = σ) ∧ ∀ o, o ≠ 93 → τ o = σ o) ?_ ?_ FU 0 σ (by omega) (FU_gt (by omega)) ⟨fun _ x hx => by omega, fun _ => rfl, fun _ _ => rfl⟩
  · rintro f i τ hi ⟨p1, p2, p3⟩
    cases b
    · left
      refine ⟨τ, ?_, (fun h => by cases h), p2, p3⟩
      show f_R_keepLower_L121 (nI n) (bI false) (f + 1) (nI i) τ = _
      rw [f_R_keepLower_L121.eq_2]
      rw [nI_mul, if_pos (nI_lt hi (by omega)), if_pos (by rfl)]
    · right
      refine ⟨wr τ 93 i (σ 91 i), ?_, fun _ x hx => ?_, (fun h => by cases h), fun o ho => by rw [wr_fn ho]; exact p3 o ho⟩
      · show f_R_keepLower_L121 (nI n) (bI true) (f + 1) (nI i) τ = _
        rw [f_R_keepLower_L121.eq_2]
        rw [nI_mul, if_pos (nI_lt hi (by omega)), if_neg (by decide), ald_nI (by omega) (by decide), p3 91 (by omega), ast_nI (by omega) (by decide), nI_1]
      · rw [wr_get]
        by_cases e : x = i
        · rw [if_pos ⟨rfl, e⟩, e]
        · rw [if_neg (by omega)]; exact p1 rfl x (by omega)
  · rintro f τ ⟨p1, p2, p3⟩
    refine ⟨τ, ?_, p1, p2, p3⟩
    show f_R_keepLower_L121 (nI n) (bI b) (f + 1) (nI (n * n)) τ = _
    rw [f_R_keepLower_L121.eq_2]
    rw [nI_mul, if_neg (nI_nlt (Nat.le_refl _) (by omega))]
theorem keepR_ok {L : List Nat} {ch : Nat → Nat} (h2 : n ≤ 5) (la : LA σ n) (l97 : Lst 97 σ L) (hL : ∀ i, i ∈ L → i < facN n) (hLl : L.length ≤ 120) (hn : 2 ≤ n) (rc : RC σ L n ch) (hT : HT (lp n) n ch n) (b : Bool) : ∃ τ, f_R_keepLower σ (nI n) (bI b) = some ((), τ) ∧ (∀ o, o ≠ 91 → o ≠ 93 → τ o = σ o) ∧
    (b = true → ∀ x, x < n * n → τ 93 x = ce (clR n (bdT (lp n) n ch n) x)) ∧
    (b = false → ∀ Y : Bd, (∀ r k, Y r k ≤ 5) → (∀ x, x < n * n → σ 93 x = ce (clR n Y x)) → (ltR n (bdT (lp n) n ch n) Y → ∀ x, x < n * n → τ 93 x = ce (clR n (bdT (lp n) n ch n) x)) ∧ (¬ ltR n (bdT (lp n) n ch n) Y → ∀ x, x < n * n → τ 93 x = ce (clR n Y x))) := by
  have h25 : n * n ≤ 25 := Nat.mul_le_mul h2 h2
  have hp : ∀ s, s < n → PM n (lp n (ch s)) := fun s hs => by
    obtain ⟨x, _, hx⟩ := rc s hs
    exact lp_pm hn h2 (hL _ (List.mem_iff_getElem?.mpr ⟨x, hx⟩))
  have hwX := bdT_wf hn h2 hp
  unfold f_R_keepLower
  obtain ⟨σ6, e1, a1, a2⟩ := keepR2 (σ := σ) h2 la l97 hL hLl hn rc hT (bI b) (fun (σ_6 : St) => f_R_keepLower_L62 (nI n) (bI b) σ_6 (fun (v3_9 : Int32) => jn (fun (s_11 : Int32) => f_R_keepLower_L121 (nI n) s_11 FU 0 σ_6) fun j116_10 => jn (j116_10 1) fun j111_14 => if (bI b) = 0 then ald σ_6 91 25 v3_9 fun r_15 => ald σ_6 93 25 v3_9 fun r_16 => if r_15 < r_16 then j111_14 else j116_10 0 else j111_14) FU 0)
  rw [e1]
  obtain ⟨x, hx, e2, b1, b2⟩ := keep62 (σ := σ6) hn h2 (bI b) (fun (v3_9 : Int32) => jn (fun (s_11 : Int32) => f_R_keepLower_L121 (nI n) s_11 FU 0 σ6) fun j116_10 => jn (j116_10 1) fun j111_14 => if (bI b) = 0 then ald σ6 91 25 v3_9 fun r_15 => ald σ6 93 25 v3_9 fun r_16 => if r_15 < r_16 then j111_14 else j116_10 0 else j111_14)
  rw [e2]
  simp only [jn_eq]
  have c91 : ∀ y, y < n * n → σ6 91 y = ce (clR n (bdT (lp n) n ch n) y) := fun y hy => cell_clR a1 hy
  cases b
  · rw [if_pos (by rfl), ald_nI (by omega) (by decide), ald_nI (by omega) (by decide)]
    by_cases hlt : σ6 91 x < σ6 93 x
    · obtain ⟨τ, e3, t1, _, t3⟩ := keep121 (σ := σ6) hn h2 true
      refine ⟨τ, by rw [if_pos hlt]; exact e3, fun o h3 h4 => by rw [t3 o h4, a2 o h3], (fun h => by cases h), fun _ Y hY hs => ⟨fun _ y hy => by rw [t1 rfl y hy, c91 y hy], fun hno => ?_⟩⟩
      exfalso
      apply hno
      have c93 : ∀ y, y < n * n → σ6 93 y = ce (clR n Y y) := fun y hy => by rw [a2 93 (by omega)]; exact hs y hy
      refine ⟨x, hx, fun y hy => ?_, ?_⟩
      · have := b1 y hy
        rw [c91 y (by omega), c93 y (by omega)] at this
        have q1 := hwX.bd (y / n) (y % n)
        have q2 := hY (y / n) (y % n)
        rw [ce_inj (show clR n (bdT (lp n) n ch n) y < 2 ^ 30 by unfold clR; omega) (show clR n Y y < 2 ^ 30 by unfold clR; omega)] at this
        exact this
      · rw [c91 x hx, c93 x hx] at hlt
        have q1 := hwX.bd (x / n) (x % n)
        have q2 := hY (x / n) (x % n)
        exact (ce_ltb _ (show clR n (bdT (lp n) n ch n) x < 6 by unfold clR; omega) _ (show clR n Y x < 6 by unfold clR; omega)).mp hlt
    · obtain ⟨τ, e3, _, t2, t3⟩ := keep121 (σ := σ6) hn h2 false
      have t2 := t2 rfl
      refine ⟨τ, by rw [if_neg hlt]; exact e3, fun o h3 h4 => by rw [t3 o h4, a2 o h3], (fun h => by cases h), fun _ Y hY hs => ?_⟩
      have c93 : ∀ y, y < n * n → σ6 93 y = ce (clR n Y y) := fun y hy => by rw [a2 93 (by omega)]; exact hs y hy
      refine ⟨fun hl => ?_, fun _ y hy => by rw [t2]; exact c93 y hy⟩
      exfalso
      obtain ⟨z, hz, z1, z2⟩ := hl
      have q1 := hwX.bd (z / n) (z % n)
      have q2 := hY (z / n) (z % n)
      have zlt : σ6 91 z < σ6 93 z := by
        rw [c91 z hz, c93 z hz]
        exact (ce_ltb _ (show clR n (bdT (lp n) n ch n) z < 6 by unfold clR; omega) _ (show clR n Y z < 6 by unfold clR; omega)).mpr z2
      rcases Nat.lt_trichotomy z x with h | h | h
      · have := b1 z h
        rw [this] at zlt
        exact absurd zlt (Int32.not_lt.mpr (Int32.le_refl _))
      · rw [h] at zlt
        exact hlt zlt
      · have := b2 (by omega)
        apply this
        rw [c91 x hx, c93 x hx, z1 x h]
  · rw [if_neg (by decide)]
    obtain ⟨τ, e3, t1, _, t3⟩ := keep121 (σ := σ6) hn h2 true
    exact ⟨τ, e3, fun o h3 h4 => by rw [t3 o h4, a2 o h3], fun _ y hy => by rw [t1 rfl y hy, c91 y hy], (fun h => by cases h)⟩
end RX
