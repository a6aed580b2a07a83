/-! a new grid, cell by cell; linear -/
def subB (Y X : Bd) : Prop := ∀ a b, Y a b = X a b ∨ Y a b = 0
theorem subB.wf {n : Nat} {Y X : Bd} (h : subB Y X) (hX : Wf n X) : Wf n Y := by
  have e : ∀ a b, Y a b ≠ 0 → Y a b = X a b := fun a b h0 => (h a b).resolve_right h0
  refine ⟨hX.1, hX.2.1, fun r c h0 => ?_, fun r c c' h0 he => ?_, fun r r' c h0 he => ?_⟩
  · rw [e r c h0]; exact hX.2.2.1 r c (by rw [← e r c h0]; exact h0)
  · have h1 := e r c h0
    have h2 := e r c' (by rw [← he]; exact h0)
    exact hX.2.2.2.1 r c c' (by rw [← h1]; exact h0) (by rw [← h1, ← h2]; exact he)
  · have h1 := e r c h0
    have h2 := e r' c (by rw [← he]; exact h0)
    exact hX.2.2.2.2 r r' c (by rw [← h1]; exact h0) (by rw [← h1, ← h2]; exact he)
theorem subB.put {Y X : Bd} (h : subB Y X) (a b : Nat) : subB (upB Y a b (X a b)) X := by
  intro a' b'
  by_cases e : a' = a ∧ b' = b
  · rw [e.1, e.2, upB_at]; exact Or.inl rfl
  · rw [upB_ne e]; exact h a' b'
theorem gset {τ : St} {k n : Nat} {Y X : Bd} (h : GOK τ k n Y) (hs : subB Y X) (hX : Wf n X) {a b : Nat} (ha : a < n) (hb : b < n) : ∃ τ', f_Grid_set τ k (nI a) (nI b) (ce (X a b)) = some ((), τ') ∧ GOK τ' k n (upB Y a b (X a b)) ∧ ∀ m, m < k ∨ k + 3 < m → τ' m = τ m :=
  ⟨_, set_eq h ha hb (hX.bn a b), set_GOK h ha hb (hX.bn a b) ((hs.put a b).wf hX), fun m hm => setSt_fr hm⟩
def BI (n : Nat) (X : Bd) (g : Nat → Nat → Prop) (pr pc : Nat → Nat → Nat) (i : Nat) (Y : Bd) : Prop := subB Y X ∧ ∀ r c, r < n → c < n → n * r + c < i → g r c → Y (pr r c) (pc r c) = X (pr r c) (pc r c)
section BIS
variable {n : Nat} {X Y : Bd} {g : Nat → Nat → Prop} {pr pc : Nat → Nat → Nat}
theorem BI.zero : BI n X g pr pc 0 B0 := ⟨fun _ _ => Or.inr rfl, fun _ _ _ _ h => absurd h (Nat.not_lt_zero _)⟩
theorem BI.prev {r c r' c' : Nat} (hc : c < n) (hc' : c' < n) (h : n * r' + c' < n * r + c + 1) (e : ¬ (r' = r ∧ c' = c)) : n * r' + c' < n * r + c := by
  rcases Nat.lt_or_ge (n * r' + c') (n * r + c) with h1 | h1
  · exact h1
  · exact absurd (idx_inj hc' hc (show n * r' + c' = n * r + c by omega)) e
theorem BI.put {r c : Nat} (h : BI n X g pr pc (n * r + c) Y) (hc : c < n) : BI n X g pr pc (n * r + c + 1) (upB Y (pr r c) (pc r c) (X (pr r c) (pc r c))) := by
  refine ⟨h.1.put _ _, fun r' c' hr' hc' hlt hg => ?_⟩
  by_cases e2 : pr r' c' = pr r c ∧ pc r' c' = pc r c
  · rw [e2.1, e2.2, upB_at]
  · rw [upB_ne e2]
    refine h.2 r' c' hr' hc' (BI.prev hc hc' hlt ?_) hg
    rintro ⟨rfl, rfl⟩
    exact e2 ⟨rfl, rfl⟩
theorem BI.skip {r c : Nat} (h : BI n X g pr pc (n * r + c) Y) (hc : c < n) (hg : ¬ g r c) : BI n X g pr pc (n * r + c + 1) Y := by
  refine ⟨h.1, fun r' c' hr' hc' hlt hg' => ?_⟩
  refine h.2 r' c' hr' hc' (BI.prev hc hc' hlt ?_) hg'
  rintro ⟨rfl, rfl⟩
  exact hg hg'
theorem BI.done (h : BI n X g pr pc (n * n) Y) (hcov : ∀ a b, X a b ≠ 0 → ∃ r c, r < n ∧ c < n ∧ g r c ∧ pr r c = a ∧ pc r c = b) : Y = X := by
  funext a b
  by_cases h0 : X a b = 0
  · rcases h.1 a b with e | e
    · exact e
    · rw [e, h0]
  · obtain ⟨r, c, hr, hc, hg, rfl, rfl⟩ := hcov a b h0
    refine h.2 r c hr hc ?_ hg
    have h1 : n * (r + 1) ≤ n * n := Nat.mul_le_mul_left _ hr
    rw [Nat.mul_succ] at h1; omega
end BIS
theorem upN_at {N : Nat → Nat} {j n : Nat} : upN N j n j = n := by unfold upN; rw [if_pos rfl]
section NG
variable {σ : St} {M : Nat} {N : Nat → Nat} {B : Nat → Bd}
theorem MR.nset {τ : St} {n : Nat} {Y : Bd} (h : MR τ (M + 1) (upN N M n) (upG B M Y)) (hN : ∀ j, j < M → N j ≤ 5) (hn : n ≤ 5) {r c : Nat} (hr : r < n) (hc : c < n) (v : Nat) : MR (wr τ 84 (25 * M + n * r + c) (ce v)) (M + 1) (upN N M n) (upG B M (upB Y r c v)) := by
  have hN' : ∀ j, j < M + 1 → upN N M n j ≤ 5 := by
    intro j hj
    unfold upN
    split
    · exact hn
    · exact hN j (by omega)
  have h1 := h.set hN' (j := M) (r := r) (c := c) (by omega) (by rw [upN_at]; exact hr) (by rw [upN_at]; exact hc) v
  rw [upN_at, upG_at, upG_upG] at h1
  exact h1
theorem new_cw {σ' τ : St} {n : Nat} {X : Bd} (hc : CW σ' (M + 1) (upN N M n) (upG B M B0)) (hG : GOK τ (gid M) n X) (hf : ∀ m, m < gid M ∨ gid M + 3 < m → τ m = σ' m) : CW τ (M + 1) (upN N M n) (upG B M X) := by
  have h := hc.up (σ' := τ) (j := M) (X := X) (by omega) (by rw [upN_at]; exact hG) (by rw [hf 0 (by unfold gid; omega)]) (fun m _ _ hm => hf m hm)
  rw [upG_upG] at h
  exact h
end NG
/-! linear -/
theorem rem_ok {σ : St} {v n : Nat} (hn : 2 ≤ n ∧ n ≤ 5) (hv : v < 1000) : f_Q_remainder σ (nI v) (nI n) = some (nI (v % n)) := by
  unfold f_Q_remainder
  rw [if_neg (show ¬ nI n ≤ 0 from nI_ge (a := 0) (b := n) (by omega) (by omega)), rmi_nI (by omega) (by omega) (by omega)]
def prm (a n : Nat) : Bool := decide (Nat.gcd a n = 1)
theorem reach_iff : ∀ a, a < 5 → ∀ n, n < 6 → 2 ≤ n → ((List.range n).all (fun s => (List.range n).any (fun i => decide (a * i % n = s)))) = prm a n := by decide +kernel
theorem reach_ok {σ : St} {a n : Nat} (ha : a < 5) (hn : 2 ≤ n ∧ n ≤ 5) : f_Q_reachesAll σ (nI a) (nI n) = some (bI (prm a n)) := by
  unfold f_Q_reachesAll
  have A := loop_or (fun m i q => f_Q_reachesAll_L4 (nI a) (nI n) σ (fun v2_4 => if v2_4 = ((1 <<< (nI n &&& 31)) - 1) then some 1 else some 0) m (sI q) (nI i)) n (fun i s => a * i % n = s) (fun q => if sI q = ((1 <<< (nI n &&& 31)) - 1) then some 1 else some 0) (by omega) (fun _ => false) ?_ ?_
  · refine A.trans ?_
    rw [sI_all hn.2]
    have e : (sI (fun s => false || dB (∃ i, i < n ∧ a * i % n = s)) = sI fun t => decide (t < n)) ↔ prm a n = true := by
      rw [← reach_iff a ha n (by omega) hn.1, sI_eq hn.2]
      · rw [List.all_eq_true]
        constructor
        · intro h s hs
          have hs := List.mem_range.mp hs
          have h1 := congrFun h s
          rw [Bool.false_or, decide_eq_true hs] at h1
          obtain ⟨i, hi, e⟩ := dB_iff.mp h1
          exact List.any_eq_true.mpr ⟨i, List.mem_range.mpr hi, decide_eq_true e⟩
        · intro h
          funext s
          rw [Bool.false_or]
          by_cases hs : s < n
          · obtain ⟨i, hi, e⟩ := List.any_eq_true.mp (h s (List.mem_range.mpr hs))
            rw [dB_t ⟨i, List.mem_range.mp hi, of_decide_eq_true e⟩, decide_eq_true hs]
          · rw [decide_eq_false hs, dB_f]
            rintro ⟨i, hi, e⟩
            have := Nat.mod_lt (a * i) (show n > 0 by omega)
            omega
      · intro s hs
        have hs : (false || dB (∃ i, i < n ∧ a * i % n = s)) = true := hs
        rw [Bool.false_or] at hs
        obtain ⟨i, hi, e⟩ := dB_iff.mp hs
        rw [← e]; exact Nat.mod_lt _ (by omega)
      · intro s hs; exact of_decide_eq_true hs
    cases hp : prm a n
    · rw [if_neg (fun h => by rw [e.mp h] at hp; cases hp)]; rfl
    · rw [if_pos (e.mpr hp)]; rfl
  · intro m i q hi
    show f_Q_reachesAll_L4 (nI a) (nI n) σ _ (m + 1) (sI q) (nI i) = _
    rw [f_Q_reachesAll_L4.eq_2]
    have h1 : a * i ≤ 5 * 5 := Nat.mul_le_mul (by omega) (by omega)
    have h2 := Nat.mod_lt (a * i) (show n > 0 by omega)
    rw [if_pos (nI_lt hi (by omega)), nI_mul, rem_ok hn (by omega), cap_some, lt1_eq, or_oneB (by omega), nI_1]
    congr 1
    apply sI_cong
    intro s _
    congr 1
    exact dB_cong ⟨fun h => h.symm, fun h => h.symm⟩
  · intro m q
    show f_Q_reachesAll_L4 (nI a) (nI n) σ _ (m + 1) (sI q) (nI n) = _
    rw [f_Q_reachesAll_L4.eq_2]
    rw [if_neg (nI_nlt (Nat.le_refl _) (by omega))]
theorem prime_ok {σ : St} {a n : Nat} (ha : a < 5) (hn : 2 ≤ n ∧ n ≤ 5) : f_R_isPrimeTo σ (nI a) (nI n) = some (bI (prm a n)) := by
  unfold f_R_isPrimeTo
  refine loopM (fun m (x : Nat × Nat) => f_R_isPrimeTo_L5 σ (fun v3_2 => if v3_2 = 1 then some 1 else some 0) m (nI x.1) (nI x.2)) (fun x => x.1 < 6 ∧ x.2 < 6 ∧ Nat.gcd x.1 x.2 = Nat.gcd a n) (fun x => x.2) (fun R => R = some (bI (prm a n))) ?_ FU (a, n) (FU_gt (by show n < _; omega)) ⟨by show a < 6; omega, by show n < 6; omega, rfl⟩
  rintro m ⟨x, y⟩ ⟨h1, h2, h3⟩
  have h1 : x < 6 := h1
  have h2 : y < 6 := h2
  have h3 : Nat.gcd x y = Nat.gcd a n := h3
  show f_R_isPrimeTo_L5 σ _ (m + 1) (nI x) (nI y) = _ ∨ ∃ a' : Nat × Nat, f_R_isPrimeTo_L5 σ _ (m + 1) (nI x) (nI y) = _ ∧ _
  rw [f_R_isPrimeTo_L5.eq_2]
  by_cases h0 : y = 0
  · left
    subst h0
    rw [Nat.gcd_zero_right] at h3
    rw [if_pos (by decide)]
    unfold prm
    by_cases e : x = 1
    · rw [if_pos (by rw [e]; rfl), decide_eq_true (show Nat.gcd a n = 1 by rw [← h3]; exact e)]; rfl
    · rw [if_neg (by rw [eq_l1 (by omega)]; exact e), decide_eq_false (show ¬ Nat.gcd a n = 1 by rw [← h3]; exact e)]; rfl
  · right
    rw [if_neg (show ¬ nI y ≤ 0 from nI_ge (a := 0) (b := y) (by omega) (by omega)), rmi_nI (by omega) (by omega) (by omega)]
    have hm := Nat.mod_lt x (show y > 0 by omega)
    refine ⟨(y, x % y), rfl, ⟨h2, by show x % y < 6; omega, ?_⟩, hm⟩
    show Nat.gcd y (x % y) = _
    rw [← h3, Nat.gcd_comm x y, Nat.gcd_rec y x, Nat.gcd_comm]
theorem lin_copb : ((List.range 5).all fun a => (List.range 6).all fun n => !(decide (2 ≤ n) && prm a n) || ((List.range n).all fun r => (List.range n).all fun r' => !decide (a * r % n = a * r' % n) || decide (r = r'))) = true := by decide +kernel
theorem lin_cop (a : Nat) (ha : a < 5) (n : Nat) (hn6 : n < 6) (hn2 : 2 ≤ n) (hp : prm a n = true) (r : Nat) (hr : r < n) (r' : Nat) (hr' : r' < n) (he : a * r % n = a * r' % n) : r = r' := by
  have h := List.all_eq_true.mp lin_copb a (List.mem_range.mpr ha)
  have h := List.all_eq_true.mp h n (List.mem_range.mpr hn6)
  rw [decide_eq_true hn2, hp] at h
  have h : ((List.range n).all fun r => (List.range n).all fun r' => !decide (a * r % n = a * r' % n) || decide (r = r')) = true := h
  have h := List.all_eq_true.mp h r (List.mem_range.mpr hr)
  have h := List.all_eq_true.mp h r' (List.mem_range.mpr hr')
  rw [decide_eq_true he] at h
  exact of_decide_eq_true h
theorem lin_inj {a n r r' e : Nat} (ha : a < 5) (hn : 2 ≤ n ∧ n ≤ 5) (hp : prm a n = true) (hr : r < n) (hr' : r' < n) (h : (a * r + e) % n = (a * r' + e) % n) : r = r' := by
  refine lin_cop a ha n (by omega) hn.1 hp r hr r' hr' ?_
  generalize a * r = x at *
  generalize a * r' = y at *
  rcases (by omega : n = 2 ∨ n = 3 ∨ n = 4 ∨ n = 5) with rfl | rfl | rfl | rfl <;> omega
def linB (n a b d : Nat) : Bd := fun r c => if r < n ∧ c < n then (a * r + b * c + d) % n + 1 else 0
theorem linB_in {n a b d r c : Nat} (hr : r < n) (hc : c < n) : linB n a b d r c = (a * r + b * c + d) % n + 1 := by unfold linB; rw [if_pos ⟨hr, hc⟩]
theorem linB_wf {n a b d : Nat} (hn : 2 ≤ n ∧ n ≤ 5) (ha : a < 5) (hb : b < 5) (pa : prm a n = true) (pb : prm b n = true) : Wf n (linB n a b d) := by
  have hin : ∀ r c, linB n a b d r c ≠ 0 → r < n ∧ c < n := by
    intro r c h
    unfold linB at h
    by_cases h1 : r < n ∧ c < n
    · exact h1
    · rw [if_neg h1] at h; exact absurd rfl h
  refine ⟨hn.1, hn.2, fun r c h => ?_, fun r c c' h he => ?_, fun r r' c h he => ?_⟩
  · obtain ⟨h1, h2⟩ := hin r c h
    refine ⟨h1, h2, ?_⟩
    rw [linB_in h1 h2]
    exact Nat.mod_lt _ (by omega)
  · obtain ⟨h1, h2⟩ := hin r c h
    obtain ⟨h3, h4⟩ := hin r c' (by rw [← he]; exact h)
    rw [linB_in h1 h2, linB_in h3 h4] at he
    refine lin_inj (e := a * r + d) hb hn pb h2 h4 ?_
    rw [show b * c + (a * r + d) = a * r + b * c + d by omega, show b * c' + (a * r + d) = a * r + b * c' + d by omega]
    omega
  · obtain ⟨h1, h2⟩ := hin r c h
    obtain ⟨h3, h4⟩ := hin r' c (by rw [← he]; exact h)
    rw [linB_in h1 h2, linB_in h3 h4] at he
    refine lin_inj (e := b * c + d) ha hn pa h1 h3 ?_
    rw [show a * r + (b * c + d) = a * r + b * c + d by omega, show a * r' + (b * c + d) = a * r' + b * c + d by omega]
    omega
theorem lin_val {n a b d r c : Nat} (hn : 2 ≤ n ∧ n ≤ 5) (ha : a < 5) (hb : b < 5) (hd : d < 5) (hr : r < n) (hc : c < n) : a * r + b * c + d < 1000 := by
  have h1 : a * r ≤ 4 * 4 := Nat.mul_le_mul (by omega) (by omega)
  have h2 : b * c ≤ 4 * 4 := Nat.mul_le_mul (by omega) (by omega)
  omega
theorem lin_cls {σ : St} {k n a b d : Nat} (hG : GOK σ k n B0) (ha : a < 5) (hb : b < 5) (hd : d < 5) (pa : prm a n = true) (pb : prm b n = true) (K : St → Option (Except Nat Int32 × St)) : ∃ τ, f_Q_linear_L79 (nI n) (nI a) (nI b) (nI d) k K FU 0 σ = K τ ∧ GOK τ k n (linB n a b d) ∧ ∀ m, m < k ∨ k + 3 < m → τ m = σ m := by
  have hn := hG.le
  have hX := linB_wf (d := d) hn ha hb pa pb
  have A := nest2 n (fun i τ => ∃ Y, GOK τ k n Y ∧ BI n (linB n a b d) (fun _ _ => True) (fun r _ => r) (fun _ c => c) i Y ∧ ∀ m, m < k ∨ k + 3 < m → τ m = σ m) (fun m r τ => f_Q_linear_L79 (nI n) (nI a) (nI b) (nI d) k K m (nI r) τ) (fun r κ m c τ => f_Q_linear_L88 (nI n) (nI a) (nI b) (nI d) k (nI r) κ m (nI c) τ) K (by omega) ?_ ?_ ?_ ?_ σ ⟨B0, hG, BI.zero, fun m _ => rfl⟩
  · obtain ⟨τ, e, Y, g, bi, f⟩ := A
    refine ⟨τ, e, ?_, f⟩
    rw [← bi.done (fun x y h => ⟨x, y, (hX.2.2.1 x y h).1, (hX.2.2.1 x y h).2.1, trivial, rfl, rfl⟩)]
    exact g
  · rintro r κ m c τ hr hc ⟨Y, g, bi, f⟩
    obtain ⟨τ', e, g', f'⟩ := gset g bi.1 hX hr hc
    refine ⟨τ', ?_, _, g', bi.put hc, fun m hm => (f' m hm).trans (f m hm)⟩
    show f_Q_linear_L88 (nI n) (nI a) (nI b) (nI d) k (nI r) κ (m + 1) (nI c) τ = _
    rw [f_Q_linear_L88.eq_2]
    rw [linB_in hr hc, ce_s] at e
    rw [if_pos (nI_lt hc (by omega)), nI_mul, nI_mul, nI_add, nI_add, rem_ok hn (lin_val hn ha hb hd hr hc), cap_some, e, cal_some, nI_1]
  · rintro r κ m τ hr _
    rw [f_Q_linear_L88.eq_2]
    rw [if_neg (nI_nlt (Nat.le_refl _) (by omega))]
  · rintro m r τ hr _
    rw [f_Q_linear_L79.eq_2]
    rw [if_pos (nI_lt hr (by omega)), nI_1]
    rfl
  · rintro m τ _
    rw [f_Q_linear_L79.eq_2]
    rw [if_neg (nI_nlt (Nat.le_refl _) (by omega))]
theorem lin_ref {σ : St} {M n a b d : Nat} {N : Nat → Nat} {B : Nat → Bd} (h : MR σ (M + 1) (upN N M n) (upG B M B0)) (hM : M < 12) (hN : ∀ j, j < M → N j ≤ 5) (hn : 2 ≤ n ∧ n ≤ 5) (ha : a < 5) (hb : b < 5) (hd : d < 5) (pa : prm a n = true) (pb : prm b n = true) (K : St → Option (Int32 × St)) : ∃ τ, f_R_linear_L112 (nI n) (nI a) (nI b) (nI d) (nI M) K FU 0 σ = K τ ∧ MR τ (M + 1) (upN N M n) (upG B M (linB n a b d)) ∧ Frx 84 σ τ := by
  have hX := linB_wf (d := d) hn ha hb pa pb
  have A := nest2 n (fun i τ => ∃ Y, MR τ (M + 1) (upN N M n) (upG B M Y) ∧ BI n (linB n a b d) (fun _ _ => True) (fun r _ => r) (fun _ c => c) i Y ∧ Frx 84 σ τ) (fun m r τ => f_R_linear_L112 (nI n) (nI a) (nI b) (nI d) (nI M) K m (nI r) τ) (fun r κ m c τ => f_R_linear_L121 (nI n) (nI a) (nI b) (nI d) (nI M) (nI r) κ m (nI c) τ) K (by omega) ?_ ?_ ?_ ?_ σ ⟨B0, h, BI.zero, fun m _ => rfl⟩
  · obtain ⟨τ, e, Y, g, bi, f⟩ := A
    refine ⟨τ, e, ?_, f⟩
    rw [← bi.done (fun x y h => ⟨x, y, (hX.2.2.1 x y h).1, (hX.2.2.1 x y h).2.1, trivial, rfl, rfl⟩)]
    exact g
  · rintro r κ m c τ hr hc ⟨Y, g, bi, f⟩
    have b0 := ix25 hn.2 hr hc
    have hv := lin_val hn ha hb hd hr hc
    refine ⟨_, ?_, _, g.nset hN hn.2 hr hc (linB n a b d r c), bi.put hc, fun m hm => (wr_fn hm).trans (f m hm)⟩
    show f_R_linear_L121 (nI n) (nI a) (nI b) (nI d) (nI M) (nI r) κ (m + 1) (nI c) τ = _
    rw [f_R_linear_L121.eq_2]
    rw [if_pos (nI_lt hc (by omega)), nI_mul, nI_mul, nI_add, nI_add, rmi_nI (by omega) (by omega) (by omega), c25, ast_nI (by omega) (by decide), nI_1, linB_in hr hc, ce_s]
  · rintro r κ m τ hr _
    rw [f_R_linear_L121.eq_2]
    rw [if_neg (nI_nlt (Nat.le_refl _) (by omega))]
  · rintro m r τ hr _
    rw [f_R_linear_L112.eq_2]
    rw [if_pos (nI_lt hr (by omega)), nI_1]
    rfl
  · rintro m τ _
    rw [f_R_linear_L112.eq_2]
    rw [if_neg (nI_nlt (Nat.le_refl _) (by omega))]
theorem ok_linear : Ok_linear Inv := by
  intro σ hI p0 p1 p2 p3
  refine op_wr hI (Q := fun σ => f_Q_linear σ p0 p1 p2 p3) (R := fun σ => f_R_linear σ p0 p1 p2 p3) (fun M N B cw mt => ?_)
  have hM := cw.le
  have er : f_Q_linear σ p0 p1 p2 p3 = some (.error 2, σ) → (∀ σ1 : St, MW σ1 M N B → f_R_linear σ1 p0 p1 p2 p3 = some (0, wr σ1 82 0 1)) → WrG cd_linear (fun σ => f_Q_linear σ p0 p1 p2 p3) (fun σ => f_R_linear σ p0 p1 p2 p3) σ M N B :=
    fun h1 h2 => wr_err cw 2 1 (σ' := σ) h1 (FrC.refl σ) (by decide) (fun σ1 mw => ⟨0, wr σ1 82 0 1, h2 σ1 mw, FrK.t, rfl⟩)
  have c5 : (5 : Int32) = nI 5 := rfl
  have c4 : (4 : Int32) = nI 4 := rfl
  cases h0 : btw p0 2 (nI 5)
  · refine er ?_ (fun σ1 mw => ?_)
    · unfold f_Q_linear
      rw [isFrom_ok, c5, h0]; rfl
    · unfold f_R_linear
      rw [rbtw, c5, h0]; rfl
  cases h1 : btw p1 0 (nI 4)
  · refine er ?_ (fun σ1 mw => ?_)
    · unfold f_Q_linear
      rw [isFrom_ok, c5, h0, cap_some, nar true, if_pos rfl, cax_ok, isFrom_ok, c4, h1]; rfl
    · unfold f_R_linear
      rw [rbtw, c5, h0, rbtw, c4, h1]; rfl
  cases h2 : btw p2 0 (nI 4)
  · refine er ?_ (fun σ1 mw => ?_)
    · unfold f_Q_linear
      rw [isFrom_ok, c5, h0, cap_some, nar true, if_pos rfl, cax_ok, isFrom_ok, c4, h1, isFrom_ok, h2]; rfl
    · unfold f_R_linear
      rw [rbtw, c5, h0, rbtw, c4, h1, rbtw, h2]; rfl
  cases h3 : btw p3 0 (nI 4)
  · refine er ?_ (fun σ1 mw => ?_)
    · unfold f_Q_linear
      rw [isFrom_ok, c5, h0, cap_some, nar true, if_pos rfl, cax_ok, isFrom_ok, c4, h1, isFrom_ok, h2, isFrom_ok, h3]; rfl
    · unfold f_R_linear
      rw [rbtw, c5, h0, rbtw, c4, h1, rbtw, h2, rbtw, h3]; rfl
  obtain ⟨n, n1, n2, rfl⟩ := (btw_iff (a := 2) (by omega) (by omega)).mp h0
  obtain ⟨a, _, a2, rfl⟩ := (btw_iff (a := 0) (by omega) (by omega)).mp h1
  obtain ⟨b, _, b2, rfl⟩ := (btw_iff (a := 0) (by omega) (by omega)).mp h2
  obtain ⟨d, _, d2, rfl⟩ := (btw_iff (a := 0) (by omega) (by omega)).mp h3
  have q0 : f_Q_linear σ (nI n) (nI a) (nI b) (nI d) = if (prm a n && prm b n) = true then cax (f_Q_newGrid σ (nI n)) fun r_21 σ_22 => f_Q_linear_L79 (nI n) (nI a) (nI b) (nI d) r_21 (fun (σ_29 : St) => some (.ok ((σ_29 0 8) - 1), σ_29)) FU 0 σ_22 else some (.error 2, σ) := by
    unfold f_Q_linear
    rw [isFrom_ok, c5, h0, cap_some, nar true, if_pos rfl, cax_ok, isFrom_ok, c4, h1, isFrom_ok, h2, isFrom_ok, h3, cap_some, jn_eq, jn_eq, if_neg (show ¬ bI true = 0 by decide), cap_some, if_neg (show ¬ bI true = 0 by decide), cap_some, if_neg (show ¬ bI true = 0 by decide)]
    show cax (f_Q_needArgument σ 1) _ = _
    rw [nar1, cax_ok, reach_ok (by omega) ⟨n1, n2⟩, reach_ok (by omega) ⟨n1, n2⟩, cap_some, jn_eq, jn_eq, cap_some]
    cases prm a n
    · rfl
    · rw [if_neg (show ¬ bI true = 0 by decide)]
      cases prm b n
      · rfl
      · rw [if_neg (show ¬ bI true = 0 by decide), if_pos (show (true && true) = true from rfl)]
        show cax (f_Q_needArgument σ 1) _ = _
        rw [nar1, cax_ok]
  have r0 : ∀ σ1 : St, MW σ1 M N B → f_R_linear σ1 (nI n) (nI a) (nI b) (nI d) = if (prm a n && prm b n) = true then (if M = 12 then some (0, wr σ1 82 0 2) else cal (f_R_make (wr σ1 82 0 0) (nI n)) fun r_9 σ_10 => f_R_linear_L112 (nI n) (nI a) (nI b) (nI d) r_9 (fun (σ_14 : St) => some (r_9, σ_14)) FU 0 σ_10) else some (0, wr σ1 82 0 1) := by
    intro σ1 mw
    unfold f_R_linear
    rw [rbtw, c5, h0, rbtw, c4, h1, rbtw, h2, rbtw, h3, prime_ok (by omega) ⟨n1, n2⟩, prime_ok (by omega) ⟨n1, n2⟩, cap_some, jn_eq, jn_eq, if_neg (show ¬ bI true = 0 by decide), cap_some, if_neg (show ¬ bI true = 0 by decide), cap_some, if_neg (show ¬ bI true = 0 by decide), cap_some, if_neg (show ¬ bI true = 0 by decide)]
    show jn _ _ = _
    rw [jn_eq, jn_eq, if_neg (show ¬ (1 : Int32) = 0 by decide), cap_some]
    cases prm a n
    · rfl
    · rw [if_neg (show ¬ bI true = 0 by decide), cap_some]
      cases prm b n
      · rfl
      · rw [if_neg (show ¬ bI true = 0 by decide), if_pos (show (true && true) = true from rfl)]
        by_cases e : M = 12
        · rw [if_pos (show σ1 82 1 = 12 by rw [mw12 mw]; exact e), if_pos e]
          rfl
        · rw [if_neg (show ¬ σ1 82 1 = 12 by rw [mw12 mw]; exact e), if_neg e]
          show sto σ1 82 0 0 _ = _
          rw [sto_eq, wr_at, if_pos (show (0 : Int32) ≤ 0 by decide)]
  cases hp : (prm a n && prm b n)
  · refine er ?_ (fun σ1 mw => ?_)
    · rw [q0, hp]; rfl
    · rw [r0 σ1 mw, hp]; rfl
  obtain ⟨pa, pb⟩ := Bool.and_eq_true_iff.mp hp
  by_cases e : M = 12
  · refine wr_err cw 3 2 (σ' := σ) ?_ (FrC.refl σ) (by decide) (fun σ1 mw => ⟨0, wr σ1 82 0 2, ?_, FrK.t, rfl⟩)
    · show f_Q_linear σ _ _ _ _ = _
      rw [q0, hp, if_pos rfl, newGrid_no cw e, cax_er]
    · show f_R_linear σ1 _ _ _ _ = _
      rw [r0 σ1 mw, hp, if_pos rfl, if_pos e]
  · obtain ⟨σ', e1, c1, f1⟩ := newGrid_ok cw (by omega) n1 n2
    have hG : GOK σ' (gid M) n B0 := by
      have := c1.g (j := M) (by omega)
      rwa [upN_at, upG_at] at this
    obtain ⟨τ, e2, g2, f2⟩ := lin_cls (a := a) (b := b) (d := d) hG (by omega) (by omega) (by omega) pa pb (fun (σ_29 : St) => some (.ok ((σ_29 0 8) - 1), σ_29))
    have c2 := new_cw c1 g2 f2
    refine wr_ok (nI M) (σ' := τ) (M' := M + 1) (N' := upN N M n) (B' := upG B M (linB n a b d)) ?_ c2 (fun m a b c => by rw [f2 m (by unfold gid; omega), f1 m b (by unfold gid; omega)]) (fun σ1 mw => ?_)
    · show f_Q_linear σ _ _ _ _ = _
      rw [q0, hp, if_pos rfl, e1, cax_ok, e2, c2.2.1, nI_pred]
    · obtain ⟨υ, e3, m1, m2, m3, _⟩ := (mw.k (FrK.t (v := 0))).mr.make (by omega) (fun j hj => (mw.n hj).2) n2
      obtain ⟨φ, e4, m4, f4⟩ := lin_ref m1 (by omega) (fun j hj => (mw.n hj).2) ⟨n1, n2⟩ (show a < 5 by omega) (show b < 5 by omega) (show d < 5 by omega) pa pb (fun (σ_14 : St) => some (nI M, σ_14))
      refine ⟨φ, ?_, m4.mw (by omega) (Wf_up (fun j hj => mw.wf hj) (linB_wf ⟨n1, n2⟩ (by omega) (by omega) pa pb)), (FrK.t.fw.trans m2).trans ⟨fun m hm => f4 m (by omega), fun s _ => by rw [f4 82 (by omega)]⟩, by rw [f4 82 (by omega), m3]; rfl⟩
      show f_R_linear σ1 _ _ _ _ = _
      rw [r0 σ1 mw, hp, if_pos rfl, if_neg e, e3, cal_some, e4]
