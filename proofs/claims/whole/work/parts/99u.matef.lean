/-! mates, the class finds all -/
theorem tab8 : ((List.range 6).all fun n => decide (n < 2) || (List.range 5).all fun c => decide (((List.range (facN n)).countP (fun m => decide (cp m 0 = c))) ≤ 24)) = true := by decide +kernel
theorem fit_le {n : Nat} {S C : Bd} {c : Nat} (h1 : 2 ≤ n) (h2 : n ≤ 5) (hc : c < 5) : ((FL (fun m => TRV n S (cp m)) (facN n)).filter (fun i => dB (fitM n C (cp i) c))).length ≤ 24 := by
  have ht := List.all_eq_true.mp tab8 n (List.mem_range.mpr (by omega))
  rw [decide_eq_false (show ¬ n < 2 by omega), Bool.false_or] at ht
  have ht := of_decide_eq_true (List.all_eq_true.mp ht c (List.mem_range.mpr hc))
  unfold FL
  rw [List.filter_filter, ← List.countP_eq_length_filter]
  refine Nat.le_trans (List.countP_mono_left (fun m _ h => ?_)) ht
  have h := (Bool.and_eq_true_iff.mp h).1
  exact decide_eq_true (dB_iff.mp h).1
theorem flat_le {α β : Type} {g : α → List β} {b : Nat} : ∀ (l : List α), (∀ x, x ∈ l → (g x).length ≤ b) → (l.flatMap g).length ≤ l.length * b := by
  intro l
  induction l with
  | nil => intro _; simp
  | cons a l ih =>
    intro h
    rw [List.flatMap_cons, List.length_append, List.length_cons, Nat.succ_mul]
    have h1 := h a (List.mem_cons_self ..)
    have h2 := ih (fun x hx => h x (List.mem_cons_of_mem _ hx))
    omega
theorem EN2_le {n : Nat} {S : Bd} (h1 : 2 ≤ n) (h2 : n ≤ 5) : ∀ (d c : Nat) (C : Bd), c + d ≤ 5 → (EN2 n cp (FL (fun m => TRV n S (cp m)) (facN n)) d c C).length ≤ 24 ^ d := by
  intro d
  induction d with
  | zero => intro c C _; exact Nat.le_refl 1
  | succ d ih =>
    intro c C hc
    have a := flat_le (g := fun i => EN2 n cp (FL (fun m => TRV n S (cp m)) (facN n)) d (c + 1) (putM n C (cp i) c)) (b := 24 ^ d) ((FL (fun m => TRV n S (cp m)) (facN n)).filter (fun i => dB (fitM n C (cp i) c))) (fun i _ => ih (c + 1) _ (by omega))
    have b := fit_le (S := S) (C := C) h1 h2 (show c < 5 by omega)
    have e := Nat.mul_le_mul_right (24 ^ d) b
    rw [Nat.pow_succ, Nat.mul_comm (24 ^ d) 24]
    exact Nat.le_trans a e
theorem MA_le {n : Nat} {S : Bd} (h1 : 2 ≤ n) (h2 : n ≤ 5) : (MA n S).length < 1000000000 := by
  have a := EN2_le (S := S) h1 h2 n 0 B0 (by omega)
  have b : 24 ^ n ≤ 24 ^ 5 := Nat.pow_le_pow_right (by omega) h2
  have c : 24 ^ 5 < 1000000000 := by decide
  exact Nat.lt_of_le_of_lt a (Nat.lt_of_le_of_lt b c)
theorem findMates_ok {σ : St} {k n : Nat} {S : Bd} (mt : MT σ) (hG : GOK σ k n S) (hs : SQ n S) (hk : 33 < k) : ∃ τ, f_Mating_findMates σ k = some (nI (MA n S).length, τ) ∧ AC τ n (MA n S) ∧ ∀ m, m < 23 ∨ 33 < m → τ m = σ m := by
  have hn := hG.le
  have hf := fac_le hn.1 hn.2
  obtain ⟨σ3, e3, l3, h3, f3⟩ := findT_ok mt hG hs hk
  have hle := FL_le (p := fun m => TRV n S (cp m)) (k := facN n)
  unfold f_Mating_findMates
  rw [e3, cal_some, sto_eq]
  have mt4 : MT (wr σ3 23 6 0) := fun m hm => by
    have := mt m hm
    exact ⟨fun i hi => by rw [wr_fn (by omega), f3 7 _ (by omega) (by omega)]; exact this.1 i hi, by rw [wr_fn (by omega), f3 8 _ (by omega) (by omega)]; exact this.2⟩
  have ho : wr σ3 23 6 0 k 3 = nI n := by
    rw [wr_fn (by omega), f3 k _ (by omega) (by omega)]; exact hG.ord
  obtain ⟨τ, e, a, f⟩ := layFrom_ok hn.1 hn.2 (L := FL (fun m => TRV n S (cp m)) (facN n)) (fun i hi => (FL_mem.mp hi).1) (by omega) DP n 0 (wr σ3 23 6 0) (fun _ => 0) 0 [] (by omega) (show n < 40 by omega)
    ⟨mt4, l3.fr (fun i => by rw [wr_fn (by omega)]), by rw [wr_get, if_neg (by omega)]; exact h3⟩ (fun i hi => by omega) (fun s hs => by omega)
    (fun k hk => by
      rw [bt_0]
      show false = (decide (k < 5 * n) && decide ((0 : Nat) ≠ 0))
      simp)
    ⟨by rw [wr_at]; rfl, fun h => absurd rfl h⟩ (by have := MA_le (S := S) hn.1 hn.2; unfold MA at this; show [].length + (EN2 n cp (FL (fun m => TRV n S (cp m)) (facN n)) n 0 B0).length < _; simpa using this)
  have a : AC τ n (MA n S) := a
  refine ⟨τ, ?_, a, fun m hm => funext (fun s => ?_)⟩
  · rw [ho, show (0 : Int32) = nI 0 from rfl]
    rw [show f_Mating_layFrom DP (wr σ3 23 6 (nI 0)) (nI n) (nI 0) (nI 0) = some ((), τ) from e, cal_some, a.1]
  · rw [f.1 m s (by omega) (by omega), wr_fn (by omega), f3 m s (by omega) (by omega)]
