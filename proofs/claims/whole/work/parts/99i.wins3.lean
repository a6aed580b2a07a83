/-! wins -/
theorem Fst.conv {α : Type} {e : Nat} {p p' : Nat → Prop} {R Y Y' : α} {X X' : Nat → α} (h : Fst e p R X Y) (hp : ∀ i, i < e → (p i ↔ p' i)) (hX : ∀ i, i < e → X i = X' i) (hY : Y = Y') : Fst e p' R X' Y' := by
  rcases h with ⟨a, b⟩ | ⟨i, a, b, c, d⟩
  · exact Or.inl ⟨by rw [a, hY], fun i hi h => b i hi ((hp i hi).mpr h)⟩
  · exact Or.inr ⟨i, a, (hp i a).mp b, fun i' hi' h => c i' hi' ((hp i' (by omega)).mpr h), by rw [d, hX i a]⟩
def eAt (n : Nat) (B : Bd) (i : Nat) : Nat × Nat := ((empties n B)[i]?).getD (0, 0)
section WIN3
variable {σ : St} {n code : Nat} {B : Bd}
theorem eAt_at {i : Nat} {p : Nat × Nat} (h : (empties n B)[i]? = some p) : eAt n B i = p := by unfold eAt; rw [h]; rfl
theorem eAt_lt {i : Nat} (h : i < (empties n B).length) : (empties n B)[i]? = some (eAt n B i) := by
  unfold eAt
  rw [List.getElem?_eq_getElem h]; rfl
theorem es_sorted {i j : Nat} {p q : Nat × Nat} (hij : i < j) (hi : (empties n B)[i]? = some p) (hj : (empties n B)[j]? = some q) : n * p.1 + p.2 < n * q.1 + q.2 := by
  have hs : (empties n B).Pairwise (fun p q => n * p.1 + p.2 < n * q.1 + q.2) := by
    refine List.Pairwise.filter _ ?_
    unfold cells
    rw [List.pairwise_map]
    refine List.Pairwise.imp ?_ (List.pairwise_lt_range (n := n * n))
    intro a b hab
    show n * (a / n) + a % n < n * (b / n) + b % n
    rw [Nat.div_add_mod, Nat.div_add_mod]; exact hab
  obtain ⟨hi1, hi2⟩ := List.getElem?_eq_some_iff.mp hi
  obtain ⟨hj1, hj2⟩ := List.getElem?_eq_some_iff.mp hj
  have := List.pairwise_iff_getElem.mp hs i j hi1 hj1 hij
  rw [hi2, hj2] at this
  exact this
theorem es_len (hw : Wf n B) : (empties n B).length + cnt B = n * n := by
  rw [cnt_nn hw]
  unfold empties cells
  rw [← List.countP_eq_length_filter, List.countP_map]
  have h := List.length_eq_countP_add_countP (fun i => decide (B (i / n) (i % n) = 0)) (l := List.range (n * n))
  rw [List.length_range] at h
  have e1 : List.countP (fun i => decide (B (i / n) (i % n) ≠ 0)) (List.range (n * n)) = List.countP (fun i => decide (¬ (decide (B (i / n) (i % n) = 0)) = true)) (List.range (n * n)) := by
    apply List.countP_congr
    intro i _
    simp
  have e2 : List.countP ((fun p : Nat × Nat => decide (B p.1 p.2 = 0)) ∘ fun i => (i / n, i % n)) (List.range (n * n)) = List.countP (fun i => decide (B (i / n) (i % n) = 0)) (List.range (n * n)) := rfl
  rw [e1, e2]
  exact h.symm
theorem fst_sort {α : Type} {W : Nat → Nat → Nat → Prop} {R Y : α} {X : Nat → Nat → α} (hn0 : 0 < n) (hW : ∀ r c s, r < n → c < n → W r c s → (r, c) ∈ empties n B)
    (h : Fst (n * (empties n B).length) (fun q => W (eAt n B (q / n)).1 (eAt n B (q / n)).2 (q % n)) R (fun q => X (n * (eAt n B (q / n)).1 + (eAt n B (q / n)).2) (q % n)) Y) : Fst (n * n * n) (fun i => W (i / n / n) (i / n % n) (i % n)) R (fun i => X (i / n) (i % n)) Y := by
  rcases h with ⟨a, b⟩ | ⟨q, hq, hp, hmin, a⟩
  · refine Or.inl ⟨a, fun i hi hWi => ?_⟩
    obtain ⟨h1, h2, h3⟩ := idx_lt hi
    obtain ⟨j, hj, e⟩ := es_at (hW _ _ _ h1 h2 hWi)
    refine b (n * j + i % n) ?_ ?_
    · have := Nat.mul_le_mul_left n (show j + 1 ≤ (empties n B).length from hj)
      rw [Nat.mul_succ] at this; omega
    · show W (eAt n B ((n * j + i % n) / n)).1 (eAt n B ((n * j + i % n) / n)).2 ((n * j + i % n) % n)
      rw [(idx2 h3).1, (idx2 h3).2, eAt_at e]
      exact hWi
  · have hjL : q / n < (empties n B).length := Nat.div_lt_of_lt_mul hq
    have eq := eAt_lt hjL
    have hs : q % n < n := Nat.mod_lt _ hn0
    have hqq := Nat.div_add_mod q n
    have a : R = X (n * (eAt n B (q / n)).1 + (eAt n B (q / n)).2) (q % n) := a
    generalize heq : eAt n B (q / n) = p at *
    obtain ⟨r, c⟩ := p
    have hm : (r, c) ∈ empties n B := List.mem_iff_getElem?.mpr ⟨_, eq⟩
    obtain ⟨hr, hc, _⟩ := mem_empties.mp hm
    have hp : W r c (q % n) := hp
    have a : R = X (n * r + c) (q % n) := a
    have hnn : n * r + c < n * n := by
      have h3 : n * (r + 1) ≤ n * n := Nat.mul_le_mul_left _ hr
      rw [Nat.mul_succ] at h3; omega
    have hbound : n * (n * r + c) + q % n < n * n * n := by
      have h3 : n * (n * r + c + 1) ≤ n * (n * n) := Nat.mul_le_mul_left _ hnn
      rw [Nat.mul_succ, ← Nat.mul_assoc n n n] at h3; omega
    refine Or.inr ⟨n * (n * r + c) + q % n, hbound, ?_, fun i' hi' hWi' => ?_, ?_⟩
    · show W ((n * (n * r + c) + q % n) / n / n) ((n * (n * r + c) + q % n) / n % n) ((n * (n * r + c) + q % n) % n)
      rw [(idx2 hs).1, (idx2 hs).2, (idx2 hc).1, (idx2 hc).2]
      exact hp
    · obtain ⟨h1, h2, h3⟩ := idx_lt (Nat.lt_trans hi' hbound)
      obtain ⟨j, hj, e⟩ := es_at (hW _ _ _ h1 h2 hWi')
      refine hmin (n * j + i' % n) ?_ ?_
      · have hx := Nat.div_add_mod i' n
        have hy := Nat.div_add_mod (i' / n) n
        rcases Nat.lt_trichotomy j (q / n) with h | h | h
        · have := Nat.mul_le_mul_left n (show j + 1 ≤ q / n from h)
          rw [Nat.mul_succ] at this; omega
        · rw [h, eq] at e
          have e := Option.some.inj e
          have e1 : r = i' / n / n := congrArg Prod.fst e
          have e2 : c = i' / n % n := congrArg Prod.snd e
          rw [← e1, ← e2] at hy
          rw [hy] at hi'
          rw [h]; omega
        · have h4 := es_sorted h eq e
          have h4 : n * r + c < n * (i' / n / n) + i' / n % n := h4
          rw [hy] at h4
          have := Nat.mul_le_mul_left n (show n * r + c + 1 ≤ i' / n from h4)
          rw [Nat.mul_succ] at this; omega
      · show W (eAt n B ((n * j + i' % n) / n)).1 (eAt n B ((n * j + i' % n) / n)).2 ((n * j + i' % n) % n)
        rw [(idx2 h3).1, (idx2 h3).2, eAt_at e]
        exact hWi'
    · show R = X ((n * (n * r + c) + q % n) / n) ((n * (n * r + c) + q % n) % n)
      rw [(idx2 hs).1, (idx2 hs).2]
      exact a
def TBL (σ : St) (n : Nat) (B : Bd) (c0 : Nat) : Prop := ∀ c', c0 ≤ c' → c' < (n + 1) ^ (empties n B).length → σ 101 c' = bI (dB (GW n (zc n (BC n B c')) (BC n B c')))
theorem pow_b (h2 : n ≤ 5) {L : Nat} (hL : L ≤ 6) : (n + 1) ^ L ≤ 46656 := by
  have h1 := Nat.pow_le_pow_left (show n + 1 ≤ 6 by omega) L
  have h3 : 6 ^ L ≤ 6 ^ 6 := Nat.pow_le_pow_right (by omega) hL
  have h4 : 6 ^ 6 = 46656 := by decide
  omega
theorem win40 (hw : Wf n B) (hL : (empties n B).length ≤ 6) (hcode : code < (n + 1) ^ (empties n B).length) {τ : St} (hs : τ 82 13 = nI n) (hT : TBL τ n B (code + 1)) {i r c : Nat} (hi : (empties n B)[i]? = some (r, c)) (kA : Int32 → Option (Int32 × St)) (kB : Option (Int32 × St)) :
    Fst n (fun s => wP n (zc n (BC n B code)) (BC n B code) r c s) (f_R_winner_L40 (nI code) (nI ((n + 1) ^ i)) (nI i) (sI (opt n (BC n B code) r c)) τ kA kB FU 0) (fun s => kA (nI s)) kB := by
  have h1 := hw.1
  have h2 := hw.2.1
  have hm : (r, c) ∈ empties n B := List.mem_iff_getElem?.mpr ⟨i, hi⟩
  obtain ⟨hr, hc, _⟩ := mem_empties.mp hm
  obtain ⟨hiL, _⟩ := List.getElem?_eq_some_iff.mp hi
  have hpb := pow_b h2 hL
  have key : ∀ m s, s < n → f_R_winner_L40 (nI code) (nI ((n + 1) ^ i)) (nI i) (sI (opt n (BC n B code) r c)) τ kA kB (m + 1) (nI s) = if dB (wP n (zc n (BC n B code)) (BC n B code) r c s) = true then kA (nI s) else f_R_winner_L40 (nI code) (nI ((n + 1) ^ i)) (nI i) (sI (opt n (BC n B code) r c)) τ kA kB m (nI (s + 1)) := by
    intro m s hsn
    rw [f_R_winner_L40.eq_2]
    rw [hs, if_pos (nI_lt hsn (by omega))]
    simp only [jn_eq, nI_1]
    by_cases ho : opt n (BC n B code) r c s = true
    · have h0 : BC n B code r c = 0 := (opt_iff.mp ho).1
      have hd : gdg n code i = 0 := by rw [← BC_at hi]; exact h0
      have hlt := gdg_lt hd (show s + 1 ≤ n by omega) hiL hcode
      have hpos : 0 < (s + 1) * (n + 1) ^ i := Nat.mul_pos (by omega) (Nat.pow_pos (by omega))
      have hval := hT (code + (s + 1) * (n + 1) ^ i) (by omega) hlt
      have hup := BC_up (d := s + 1) hi hd (by omega)
      have hcu := cnt_up (B := BC n B code) (r := r) (c := c) (v := s + 1) (by omega) (by omega)
      rw [if_pos h0, if_neg (by omega)] at hcu
      have hz : zc n (upB (BC n B code) r c (s + 1)) = zc n (BC n B code) - 1 := by unfold zc; omega
      rw [hup, hz] at hval
      rw [if_pos (by rw [sI_bit _ (by omega)]; exact ho), nI_mul, nI_add, ald_nI (by omega) (by decide), hval]
      by_cases hg : GW n (zc n (BC n B code) - 1) (upB (BC n B code) r c (s + 1))
      · rw [dB_t hg, if_neg (by decide), if_neg (fun h => (dB_iff.mp h).2 hg)]
      · rw [dB_f hg, if_pos (show bI false = 0 from rfl), if_pos (dB_t ⟨ho, hg⟩)]
    · rw [if_neg (by rw [sI_bit _ (by omega)]; exact ho), if_neg (fun h => ho (dB_iff.mp h).1)]
  refine fst_loop (fun m s => f_R_winner_L40 (nI code) (nI ((n + 1) ^ i)) (nI i) (sI (opt n (BC n B code) r c)) τ kA kB m (nI s)) n (fun s => wP n (zc n (BC n B code)) (BC n B code) r c s) (fun s => kA (nI s)) kB (by omega) ?_ ?_ ?_
  · intro m s hsn hp
    show f_R_winner_L40 (nI code) (nI ((n + 1) ^ i)) (nI i) (sI (opt n (BC n B code) r c)) τ kA kB (m + 1) (nI s) = _
    rw [key m s hsn, if_neg (fun h => hp (dB_iff.mp h))]
  · intro m s hsn hp
    show f_R_winner_L40 (nI code) (nI ((n + 1) ^ i)) (nI i) (sI (opt n (BC n B code) r c)) τ kA kB (m + 1) (nI s) = _
    rw [key m s hsn, if_pos (dB_t hp)]
  · intro m
    show f_R_winner_L40 (nI code) (nI ((n + 1) ^ i)) (nI i) (sI (opt n (BC n B code) r c)) τ kA kB (m + 1) (nI n) = _
    rw [f_R_winner_L40.eq_2]
    rw [hs, if_neg (nI_nlt (Nat.le_refl _) (by omega))]
theorem winner_ok (hw : Wf n B) (hL : (empties n B).length ≤ 6) (hcode : code < (n + 1) ^ (empties n B).length) (he : EM σ n (empties n B)) {c' : Nat} (hW : WK σ n (BC n B c')) (hT : TBL σ n B (code + 1)) : ∃ τ, WK τ n (BC n B code) ∧ (∀ m s, m ≠ 91 → m ≠ 102 → τ m s = σ m s) ∧ Fst (n * n * n) (fun i => wP n (zc n (BC n B code)) (BC n B code) (i / n / n) (i / n % n) (i % n)) (f_R_winner σ (nI code)) (fun i => some (nI (10 * (i / n) + i % n), τ)) (some (-1, τ)) := by
  have h1 := hw.1
  have h2 := hw.2.1
  have hpb := pow_b h2 hL
  obtain ⟨τ, e, t1, t2, t3, t4⟩ := layState_ok h1 h2 hW.side he hL (show code < 46656 by omega)
  have hWτ := laid_WK hw hW (t4 82 13 (by omega) (by omega)) t2 t3
  have heτ : EM τ n (empties n B) := he.fr (t4 82 15 (by omega) (by omega)) (fun s => t4 92 s (by omega) (by omega))
  have hTτ : TBL τ n B (code + 1) := fun c' a b => by rw [t4 101 c' (by omega) (by omega)]; exact hT c' a b
  have hs := hWτ.side
  have ho : ∀ r c, n ≤ r ∨ n ≤ c → BC n B code r c = 0 := fun r c => BC_out hw
  refine ⟨τ, hWτ, t4, ?_⟩
  unfold f_R_winner
  rw [e, cal_some]
  refine fst_sort (X := fun x s => some (nI (10 * x + s), τ)) (W := fun r c s => wP n (zc n (BC n B code)) (BC n B code) r c s) (B := B) (by omega) (fun r c s hr hc hp => ?_) ?_
  · obtain ⟨i, _, hi, _⟩ := BC_zero hr hc (opt_iff.mp hp.1).1
    exact List.mem_iff_getElem?.mpr ⟨i, hi⟩
  · have A := fst_nest (fun m i => f_R_winner_L9 (nI code) τ (fun (v3_13 : Int32) (v5_14 : Int32) => ald τ 92 25 v3_13 fun r_15 => some (((10 * r_15) + v5_14), τ)) m (nI ((n + 1) ^ i)) (nI i)) (empties n B).length n (fun q => wP n (zc n (BC n B code)) (BC n B code) (eAt n B (q / n)).1 (eAt n B (q / n)).2 (q % n)) (fun q => some (nI (10 * (n * (eAt n B (q / n)).1 + (eAt n B (q / n)).2) + q % n), τ)) (some (-1, τ)) (by omega) ?_ ?_
    · have A : Fst (n * (empties n B).length) _ (f_R_winner_L9 (nI code) τ _ FU (nI ((n + 1) ^ 0)) (nI 0)) _ _ := A
      rw [Nat.pow_zero] at A
      exact A
    · intro m i hi
      have hat := eAt_lt hi
      have hd : gdg n code i ≤ n := gdg_le
      generalize hpe : eAt n B i = p at hat
      obtain ⟨r, c⟩ := p
      have hm : (r, c) ∈ empties n B := List.mem_iff_getElem?.mpr ⟨i, hat⟩
      obtain ⟨hr, hc, _⟩ := mem_empties.mp hm
      have e0 : ∀ kA : Int32 → Int32 → Option (Int32 × St), f_R_winner_L9 (nI code) τ kA (m + 1) (nI ((n + 1) ^ i)) (nI i) = f_R_winner_L40 (nI code) (nI ((n + 1) ^ i)) (nI i) (sI (opt n (BC n B code) r c)) τ (fun v5 => kA (nI i) v5) (f_R_winner_L9 (nI code) τ kA m (nI ((n + 1) ^ (i + 1))) (nI (i + 1))) FU 0 := by
        intro kA
        rw [f_R_winner_L9.eq_2]
        rw [heτ.1, if_pos (nI_lt hi (by omega)), ald_nI (by omega) (by decide), t1 i hi]
        simp only [jn_eq, lt1_eq, nI_1, hs, nI_mul]
        rw [← Nat.pow_succ]
        by_cases h0 : gdg n code i = 0
        · rw [h0, if_pos (by rfl), freeAt_ok hWτ ho heτ (by omega) hat (by rw [BC_at hat]; exact h0), cap_some]
        · rw [if_neg (nI_ne0 (Nat.pos_of_ne_zero h0) (by omega))]
          have : sI (opt n (BC n B code) r c) = 0 := by
            rw [← sI_none]
            apply sI_cong
            intro s _
            apply Bool.eq_false_iff.mpr
            intro h
            have h3 := (opt_iff.mp h).1
            rw [BC_at hat] at h3
            exact h0 h3
          rw [this]
      show Fst n _ (f_R_winner_L9 (nI code) τ _ (m + 1) (nI ((n + 1) ^ i)) (nI i)) _ _
      rw [e0]
      refine (win40 hw hL hcode hs hTτ hat _ _).conv (fun s hsn => ?_) (fun s hsn => ?_) rfl
      · rw [(idx2 hsn).1, (idx2 hsn).2, hpe]
      · show (ald τ 92 25 (nI i) fun r_15 => some (((10 * r_15) + nI s), τ)) = some (nI (10 * (n * (eAt n B ((n * i + s) / n)).1 + (eAt n B ((n * i + s) / n)).2) + (n * i + s) % n), τ)
        rw [(idx2 hsn).1, (idx2 hsn).2, hpe, ald_nI (by omega) (by decide), heτ.2 i _ hat, show (10 : Int32) = nI 10 from rfl, nI_mul, nI_add]
    · intro m
      show f_R_winner_L9 (nI code) τ _ (m + 1) (nI ((n + 1) ^ (empties n B).length)) (nI (empties n B).length) = _
      rw [f_R_winner_L9.eq_2]
      rw [heτ.1, if_neg (nI_nlt (Nat.le_refl _) (by omega))]
end WIN3
