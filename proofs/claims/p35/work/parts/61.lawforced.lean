/-! what the law finds FORCED -/
theorem pl_one : ∀ {n : Nat} {p : Nat → Bool} {c : Nat}, c < n → p c = true → ((sumN n (fun k => (p k).toNat) = 1) ↔ ∀ k, k < n → k ≠ c → p k = false) := by
  intro n
  induction n with
  | zero => intro p c hc; omega
  | succ n ih =>
    intro p c hc hp
    have Zr : ∀ m, (∀ k, k < m → p k = false) → sumN m (fun k => (p k).toNat) = 0 := by
      intro m
      induction m with
      | zero => intro _; rfl
      | succ m ihm =>
        intro h
        rw [sumN, ihm (fun k hk => h k (by omega)), h m (by omega)]
        rfl
    have Zq : ∀ m, sumN m (fun k => (p k).toNat) = 0 → ∀ k, k < m → p k = false := by
      intro m
      induction m with
      | zero => intro _ k hk; omega
      | succ m ihm =>
        intro h k hk
        rw [sumN] at h
        by_cases e : k = m
        · subst e
          cases hk2 : p k
          · rfl
          · rw [hk2] at h; simp at h
        · exact ihm (by omega) k (by omega)
    rw [sumN]
    by_cases e : c = n
    · subst e
      rw [hp]
      constructor
      · intro h k hk hkc
        exact Zq c (by have : (true).toNat = 1 := rfl; omega) k (by omega)
      · intro h
        rw [Zr c (fun k hk => h k (by omega) (by omega))]
        rfl
    · have ih2 := ih (p := p) (c := c) (by omega) hp
      cases hn : p n
      · rw [show (false).toNat = 0 from rfl, Nat.add_zero, ih2]
        constructor
        · intro h k hk hkc
          by_cases e2 : k = n
          · rw [e2]; exact hn
          · exact h k (by omega) hkc
        · intro h k hk hkc
          exact h k (by omega) hkc
      · constructor
        · intro h
          have h0 : sumN n (fun k => (p k).toNat) = 0 := by have : (true).toNat = 1 := rfl; omega
          have := Zq n h0 c (by omega)
          rw [hp] at this; cases this
        · intro h
          have := h n (by omega) (by omega)
          rw [hn] at this; cases this
section LF
variable {σ : St} {o n : Nat} {B : Bd}
theorem pl_b2n (b : Bool) (a : Nat) : nI a + bI b = nI (a + b.toNat) := by
  cases b
  · exact Int32.add_zero _
  · exact nI_1 a
theorem pl_L34 (hw : Wf n B) (h : Arr σ o n B) {r c s : Nat} (hr : r < n) (hc : c < n) (hs : s < n) (v3 : Int32) (K : Int32 → Int32 → Option Int32) :
    f_L_forced_L34 o (nI n) (nI (n * r + c)) v3 (nI s) σ K FU 0 0 0 = K (nI (sumN n (fun k => (opt n B r k s).toNat))) (nI (sumN n (fun k => (opt n B k c s).toNat))) := by
  have hn1 := hw.1
  have hn2 := hw.2.1
  have hd := pl_i (r := r) hc
  have h25 := ix25 hn2 hr hc
  have Z : ∃ x : Nat × Nat, (x.1 = sumN n (fun k => (opt n B r k s).toNat) ∧ x.2 = sumN n (fun k => (opt n B k c s).toNat)) ∧ f_L_forced_L34 o (nI n) (nI (n * r + c)) v3 (nI s) σ K FU 0 0 0 = K (nI x.1) (nI x.2) := by
    refine loop_acc (fun m i (x : Nat × Nat) => f_L_forced_L34 o (nI n) (nI (n * r + c)) v3 (nI s) σ K m (nI x.1) (nI x.2) (nI i)) n (fun i x => (x.1 + (opt n B r i s).toNat, x.2 + (opt n B i c s).toNat)) (fun x => K (nI x.1) (nI x.2)) (fun i x => x.1 = sumN i (fun k => (opt n B r k s).toNat) ∧ x.2 = sumN i (fun k => (opt n B k c s).toNat)) (by omega) (0, 0) ⟨rfl, rfl⟩ ?_ ?_ ?_
    · rintro m i ⟨a, b⟩ hi -
      show f_L_forced_L34 o (nI n) (nI (n * r + c)) v3 (nI s) σ K (m + 1) (nI a) (nI b) (nI i) = f_L_forced_L34 o (nI n) (nI (n * r + c)) v3 (nI s) σ K m (nI (a + (opt n B r i s).toNat)) (nI (b + (opt n B i c s).toNat)) (nI (i + 1))
      rw [f_L_forced_L34.eq_2]
      rw [if_pos (nI_lt hi (by omega)), dvi_nI (by omega) (by omega) (by omega), hd.1, nI_mul, nI_add, Nat.mul_comm r n, pl_set hw h hr hi, cap_some, lt1_eq, rmi_nI (by omega) (by omega) (by omega), hd.2, nI_mul, nI_add, pl_set hw h hi hc, cap_some, lt1_eq, sI_bv _ (by omega), sI_bv _ (by omega), pl_b2n, pl_b2n, nI_1]
    · rintro i ⟨a, b⟩ hi ⟨h1, h2⟩
      exact ⟨congrArg (· + _) h1, congrArg (· + _) h2⟩
    · rintro m ⟨a, b⟩ -
      show f_L_forced_L34 o (nI n) (nI (n * r + c)) v3 (nI s) σ K (m + 1) (nI a) (nI b) (nI n) = _
      rw [f_L_forced_L34.eq_2]
      rw [if_neg (nI_nlt (Nat.le_refl _) (by omega))]
  obtain ⟨x, ⟨h1, h2⟩, e⟩ := Z
  rw [e, h1, h2]
theorem pl_sum5 {n : Nat} (hn : n ≤ 5) (p : Nat → Bool) : sumN n (fun k => (p k).toNat) ≤ 5 := Nat.le_trans (sumN_le (b := 1) (fun i _ => tn_le _)) (by omega)
theorem pl_forced (hw : Wf n B) (h : Arr σ o n B) : Fst (n * (n * n)) (fI n B) (f_L_forced σ o (nI n)) (fun i => some (nI (10 * (i / n) + i % n))) (some (-1)) := by
  have hn1 := hw.1
  have hn2 := hw.2.1
  have h25 : n * n ≤ 25 := Nat.mul_le_mul hn2 hn2
  unfold f_L_forced
  refine fst_nest (fun m i => f_L_forced_L2 o (nI n) σ (fun a b => some (10 * a + b)) m (nI i)) (n * n) n (fI n B) (fun i => some (nI (10 * (i / n) + i % n))) (some (-1)) (by omega) ?_ ?_
  · intro m i hi
    show Fst n _ (f_L_forced_L2 o (nI n) σ _ (m + 1) (nI i)) _ _
    rw [f_L_forced_L2.eq_2]
    have hr : i / n < n := Nat.div_lt_of_lt_mul hi
    have hc : i % n < n := Nat.mod_lt _ (by omega)
    have e2 := pl_set hw h hr hc
    rw [Nat.div_add_mod] at e2
    rw [nI_mul, if_pos (nI_lt hi (by omega)), e2, cap_some, nI_1]
    have key : ∀ (K : Int32 → Option Int32) (K2 : Option Int32) m s, s < n → f_L_forced_L19 o (nI n) (nI i) (sI (opt n B (i / n) (i % n))) σ K K2 (m + 1) (nI s) = if dB (fP n B (i / n) (i % n) s) = true then K (nI s) else f_L_forced_L19 o (nI n) (nI i) (sI (opt n B (i / n) (i % n))) σ K K2 m (nI (s + 1)) := by
      intro K K2 m s hs
      rw [f_L_forced_L19.eq_2]
      rw [if_pos (nI_lt hs (by omega))]
      have e3 := pl_L34 (σ := σ) (o := o) hw h hr hc hs (sI (opt n B (i / n) (i % n)))
      rw [Nat.div_add_mod] at e3
      rw [e3, nI_1]
      have b1 := pl_sum5 hn2 (fun k => opt n B (i / n) k s)
      have b2 := pl_sum5 hn2 (fun k => opt n B k (i % n) s)
      simp only [jn_eq, sI_bit _ (show s < 5 by omega)]
      cases e : opt n B (i / n) (i % n) s
      · rw [if_neg (by decide), dB_f (fun h => by rw [h.1] at e; cases e)]; rfl
      · rw [if_pos rfl]
        have o1 := pl_one (p := fun k => opt n B (i / n) k s) hc e
        have o2 := pl_one (p := fun k => opt n B k (i % n) s) hr e
        by_cases e1 : ∀ t, opt n B (i / n) (i % n) t = true → t = s
        · rw [if_pos (by rw [one_opt hn2 hs e]; exact e1), dB_t (p := fP n B (i / n) (i % n) s) ⟨e, Or.inl e1⟩]; rfl
        · rw [if_neg (by rw [one_opt hn2 hs e]; exact e1)]
          have c1 : (nI (sumN n fun k => (opt n B (i / n) k s).toNat) = 1) = (∀ k, k < n → k ≠ i % n → opt n B (i / n) k s = false) := by
            rw [show (1 : Int32) = nI 1 from rfl, eq_nI (by omega) (by omega)]
            exact propext o1
          have c2 : (nI (sumN n fun k => (opt n B k (i % n) s).toNat) = 1) = (∀ k, k < n → k ≠ i / n → opt n B k (i % n) s = false) := by
            rw [show (1 : Int32) = nI 1 from rfl, eq_nI (by omega) (by omega)]
            exact propext o2
          by_cases e2 : ∀ k, k < n → k ≠ i % n → opt n B (i / n) k s = false
          · rw [if_pos (by rw [c1]; exact e2), dB_t (p := fP n B (i / n) (i % n) s) ⟨e, Or.inr (Or.inl e2)⟩]; rfl
          · rw [if_neg (by rw [c1]; exact e2)]
            by_cases e3 : ∀ k, k < n → k ≠ i / n → opt n B k (i % n) s = false
            · rw [if_pos (by rw [c2]; exact e3), dB_t (p := fP n B (i / n) (i % n) s) ⟨e, Or.inr (Or.inr e3)⟩]; rfl
            · rw [if_neg (by rw [c2]; exact e3), dB_f (p := fP n B (i / n) (i % n) s)]
              · rfl
              · rintro ⟨_, h1 | h1 | h1⟩
                · exact e1 h1
                · exact e2 h1
                · exact e3 h1
    have hi3 : ∀ s, s < n → (n * i + s) / n = i ∧ (n * i + s) % n = s := fun s hs => pl_i hs
    refine fst_loop (fun m s => f_L_forced_L19 o (nI n) (nI i) (sI (opt n B (i / n) (i % n))) σ _ _ m (nI s)) n (fun j => fI n B (n * i + j)) (fun j => some (nI (10 * ((n * i + j) / n) + (n * i + j) % n))) _ (by omega) ?_ ?_ ?_
    · intro m s hs hp
      show f_L_forced_L19 o (nI n) (nI i) _ σ _ _ (m + 1) (nI s) = _
      unfold fI at hp
      rw [(hi3 s hs).1, (hi3 s hs).2] at hp
      rw [key _ _ m s hs, dB_f hp]
      rfl
    · intro m s hs hp
      show f_L_forced_L19 o (nI n) (nI i) _ σ _ _ (m + 1) (nI s) = _
      unfold fI at hp
      rw [(hi3 s hs).1, (hi3 s hs).2] at hp ⊢
      rw [key _ _ m s hs, dB_t hp, if_pos rfl, show (10 : Int32) = nI 10 from rfl, nI_mul, nI_add]
    · intro m
      show f_L_forced_L19 o (nI n) (nI i) _ σ _ _ (m + 1) (nI n) = _
      rw [f_L_forced_L19.eq_2]
      rw [if_neg (nI_nlt (Nat.le_refl _) (by omega))]
  · intro m
    show f_L_forced_L2 o (nI n) σ _ (m + 1) (nI (n * n)) = _
    rw [f_L_forced_L2.eq_2]
    rw [nI_mul, if_neg (nI_nlt (Nat.le_refl _) (by omega))]
end LF
