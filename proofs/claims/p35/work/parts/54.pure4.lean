/-! turned from whole: 85.linear -/
def subB (Y X : Bd) : Prop := ∀ a b, Y a b = X a b ∨ Y a b = 0
theorem subB.wf {n : Nat} {Y X : Bd} (h : subB Y X) (hX : Wf n X) : Wf n Y := by
  have e : ∀ a b, Y a b ≠ 0 → Y a b = X a b := fun a b h0 => (h a b).resolve_right h0
  refine ⟨hX.1, hX.2.1, fun r c h0 => ?_, fun r c c' h0 he => ?_, fun r r' c h0 he => ?_⟩
  · rw [e r c h0]; exact hX.2.2.1 r c (by rw [← e r c h0]; exact h0)
  · have h1 := e r c h0
    have h2 := e r c' (by rw [← he]; exact h0)
    exact hX.2.2.2.1 r c c' (by rw [← h1]; exact h0) (by rw [← h1, ← h2]; exact he)
  · have h1 := e r c h0
    have h2 := e r' c (by rw [← he]; exact h0)
    exact hX.2.2.2.2 r r' c (by rw [← h1]; exact h0) (by rw [← h1, ← h2]; exact he)
theorem subB.put {Y X : Bd} (h : subB Y X) (a b : Nat) : subB (upB Y a b (X a b)) X := by
  intro a' b'
  by_cases e : a' = a ∧ b' = b
  · rw [e.1, e.2, upB_at]; exact Or.inl rfl
  · rw [upB_ne e]; exact h a' b'
theorem gset {τ : St} {k n : Nat} {Y X : Bd} (h : GOK τ k n Y) (hs : subB Y X) (hX : Wf n X) {a b : Nat} (ha : a < n) (hb : b < n) : ∃ τ', f_Grid_set τ k (nI a) (nI b) (ce (X a b)) = some ((), τ') ∧ GOK τ' k n (upB Y a b (X a b)) ∧ ∀ m, m < k ∨ k + 3 < m → τ' m = τ m :=
  ⟨_, set_eq h ha hb (hX.bn a b), set_GOK h ha hb (hX.bn a b) ((hs.put a b).wf hX), fun m hm => setSt_fr hm⟩
def BI (n : Nat) (X : Bd) (g : Nat → Nat → Prop) (pr pc : Nat → Nat → Nat) (i : Nat) (Y : Bd) : Prop := subB Y X ∧ ∀ r c, r < n → c < n → n * r + c < i → g r c → Y (pr r c) (pc r c) = X (pr r c) (pc r c)
section BIS
variable {n : Nat} {X Y : Bd} {g : Nat → Nat → Prop} {pr pc : Nat → Nat → Nat}
theorem BI.zero : BI n X g pr pc 0 B0 := ⟨fun _ _ => Or.inr rfl, fun _ _ _ _ h => absurd h (Nat.not_lt_zero _)⟩
theorem BI.prev {r c r' c' : Nat} (hc : c < n) (hc' : c' < n) (h : n * r' + c' < n * r + c + 1) (e : ¬ (r' = r ∧ c' = c)) : n * r' + c' < n * r + c := by
  rcases Nat.lt_or_ge (n * r' + c') (n * r + c) with h1 | h1
  · exact h1
  · exact absurd (idx_inj hc' hc (show n * r' + c' = n * r + c by omega)) e
theorem BI.put {r c : Nat} (h : BI n X g pr pc (n * r + c) Y) (hc : c < n) : BI n X g pr pc (n * r + c + 1) (upB Y (pr r c) (pc r c) (X (pr r c) (pc r c))) := by
  refine ⟨h.1.put _ _, fun r' c' hr' hc' hlt hg => ?_⟩
  by_cases e2 : pr r' c' = pr r c ∧ pc r' c' = pc r c
  · rw [e2.1, e2.2, upB_at]
  · rw [upB_ne e2]
    refine h.2 r' c' hr' hc' (BI.prev hc hc' hlt ?_) hg
    rintro ⟨rfl, rfl⟩
    exact e2 ⟨rfl, rfl⟩
theorem BI.skip {r c : Nat} (h : BI n X g pr pc (n * r + c) Y) (hc : c < n) (hg : ¬ g r c) : BI n X g pr pc (n * r + c + 1) Y := by
  refine ⟨h.1, fun r' c' hr' hc' hlt hg' => ?_⟩
  refine h.2 r' c' hr' hc' (BI.prev hc hc' hlt ?_) hg'
  rintro ⟨rfl, rfl⟩
  exact hg hg'
theorem BI.done (h : BI n X g pr pc (n * n) Y) (hcov : ∀ a b, X a b ≠ 0 → ∃ r c, r < n ∧ c < n ∧ g r c ∧ pr r c = a ∧ pc r c = b) : Y = X := by
  funext a b
  by_cases h0 : X a b = 0
  · rcases h.1 a b with e | e
    · exact e
    · rw [e, h0]
  · obtain ⟨r, c, hr, hc, hg, rfl, rfl⟩ := hcov a b h0
    refine h.2 r c hr hc ?_ hg
    have h1 : n * (r + 1) ≤ n * n := Nat.mul_le_mul_left _ hr
    rw [Nat.mul_succ] at h1; omega
end BIS
theorem upN_at {N : Nat → Nat} {j n : Nat} : upN N j n j = n := by unfold upN; rw [if_pos rfl]
section NG
variable {σ : St} {M : Nat} {N : Nat → Nat} {B : Nat → Bd}
theorem new_cw {σ' τ : St} {n : Nat} {X : Bd} (hc : CW σ' (M + 1) (upN N M n) (upG B M B0)) (hG : GOK τ (gid M) n X) (hf : ∀ m, m < gid M ∨ gid M + 3 < m → τ m = σ' m) : CW τ (M + 1) (upN N M n) (upG B M X) := by
  have h := hc.up (σ' := τ) (j := M) (X := X) (by omega) (by rw [upN_at]; exact hG) (by rw [hf 0 (by unfold gid; omega)]) (fun m _ _ hm => hf m hm)
  rw [upG_upG] at h
  exact h
end NG
theorem rem_ok {σ : St} {v n : Nat} (hn : 2 ≤ n ∧ n ≤ 5) (hv : v < 1000) : f_Q_remainder σ (nI v) (nI n) = some (nI (v % n)) := by
  unfold f_Q_remainder
  rw [if_neg (show ¬ nI n ≤ 0 from nI_ge (a := 0) (b := n) (by omega) (by omega)), rmi_nI (by omega) (by omega) (by omega)]
def prm (a n : Nat) : Bool := decide (Nat.gcd a n = 1)
theorem reach_iff : ∀ a, a < 5 → ∀ n, n < 6 → 2 ≤ n → ((List.range n).all (fun s => (List.range n).any (fun i => decide (a * i % n = s)))) = prm a n := by decide +kernel
theorem reach_ok {σ : St} {a n : Nat} (ha : a < 5) (hn : 2 ≤ n ∧ n ≤ 5) : f_Q_reachesAll σ (nI a) (nI n) = some (bI (prm a n)) := by
  unfold f_Q_reachesAll
  have A := loop_or (fun m i q => f_Q_reachesAll_L4 (nI a) (nI n) σ (fun v2_4 => if v2_4 = ((1 <<< (nI n &&& 31)) - 1) then some 1 else some 0) m (sI q) (nI i)) n (fun i s => a * i % n = s) (fun q => if sI q = ((1 <<< (nI n &&& 31)) - 1) then some 1 else some 0) (by omega) (fun _ => false) ?_ ?_
  · refine A.trans ?_
    rw [sI_all hn.2]
    have e : (sI (fun s => false || dB (∃ i, i < n ∧ a * i % n = s)) = sI fun t => decide (t < n)) ↔ prm a n = true := by
      rw [← reach_iff a ha n (by omega) hn.1, sI_eq hn.2]
      · rw [List.all_eq_true]
        constructor
        · intro h s hs
          have hs := List.mem_range.mp hs
          have h1 := congrFun h s
          rw [Bool.false_or, decide_eq_true hs] at h1
          obtain ⟨i, hi, e⟩ := dB_iff.mp h1
          exact List.any_eq_true.mpr ⟨i, List.mem_range.mpr hi, decide_eq_true e⟩
        · intro h
          funext s
          rw [Bool.false_or]
          by_cases hs : s < n
          · obtain ⟨i, hi, e⟩ := List.any_eq_true.mp (h s (List.mem_range.mpr hs))
            rw [dB_t ⟨i, List.mem_range.mp hi, of_decide_eq_true e⟩, decide_eq_true hs]
          · rw [decide_eq_false hs, dB_f]
            rintro ⟨i, hi, e⟩
            have := Nat.mod_lt (a * i) (show n > 0 by omega)
            omega
      · intro s hs
        have hs : (false || dB (∃ i, i < n ∧ a * i % n = s)) = true := hs
        rw [Bool.false_or] at hs
        obtain ⟨i, hi, e⟩ := dB_iff.mp hs
        rw [← e]; exact Nat.mod_lt _ (by omega)
      · intro s hs; exact of_decide_eq_true hs
    cases hp : prm a n
    · rw [if_neg (fun h => by rw [e.mp h] at hp; cases hp)]; rfl
    · rw [if_pos (e.mpr hp)]; rfl
  · intro m i q hi
    show f_Q_reachesAll_L4 (nI a) (nI n) σ _ (m + 1) (sI q) (nI i) = _
    rw [f_Q_reachesAll_L4.eq_2]
    have h1 : a * i ≤ 5 * 5 := Nat.mul_le_mul (by omega) (by omega)
    have h2 := Nat.mod_lt (a * i) (show n > 0 by omega)
    rw [if_pos (nI_lt hi (by omega)), nI_mul, rem_ok hn (by omega), cap_some, lt1_eq, or_oneB (by omega), nI_1]
    congr 1
    apply sI_cong
    intro s _
    congr 1
    exact dB_cong ⟨fun h => h.symm, fun h => h.symm⟩
  · intro m q
    show f_Q_reachesAll_L4 (nI a) (nI n) σ _ (m + 1) (sI q) (nI n) = _
    rw [f_Q_reachesAll_L4.eq_2]
    rw [if_neg (nI_nlt (Nat.le_refl _) (by omega))]
theorem lin_copb : ((List.range 5).all fun a => (List.range 6).all fun n => !(decide (2 ≤ n) && prm a n) || ((List.range n).all fun r => (List.range n).all fun r' => !decide (a * r % n = a * r' % n) || decide (r = r'))) = true := by decide +kernel
theorem lin_cop (a : Nat) (ha : a < 5) (n : Nat) (hn6 : n < 6) (hn2 : 2 ≤ n) (hp : prm a n = true) (r : Nat) (hr : r < n) (r' : Nat) (hr' : r' < n) (he : a * r % n = a * r' % n) : r = r' := by
  have h := List.all_eq_true.mp lin_copb a (List.mem_range.mpr ha)
  have h := List.all_eq_true.mp h n (List.mem_range.mpr hn6)
  rw [decide_eq_true hn2, hp] at h
  have h : ((List.range n).all fun r => (List.range n).all fun r' => !decide (a * r % n = a * r' % n) || decide (r = r')) = true := h
  have h := List.all_eq_true.mp h r (List.mem_range.mpr hr)
  have h := List.all_eq_true.mp h r' (List.mem_range.mpr hr')
  rw [decide_eq_true he] at h
  exact of_decide_eq_true h
theorem lin_inj {a n r r' e : Nat} (ha : a < 5) (hn : 2 ≤ n ∧ n ≤ 5) (hp : prm a n = true) (hr : r < n) (hr' : r' < n) (h : (a * r + e) % n = (a * r' + e) % n) : r = r' := by
  refine lin_cop a ha n (by omega) hn.1 hp r hr r' hr' ?_
  generalize a * r = x at *
  generalize a * r' = y at *
  rcases (by omega : n = 2 ∨ n = 3 ∨ n = 4 ∨ n = 5) with rfl | rfl | rfl | rfl <;> omega
def linB (n a b d : Nat) : Bd := fun r c => if r < n ∧ c < n then (a * r + b * c + d) % n + 1 else 0
theorem linB_in {n a b d r c : Nat} (hr : r < n) (hc : c < n) : linB n a b d r c = (a * r + b * c + d) % n + 1 := by unfold linB; rw [if_pos ⟨hr, hc⟩]
theorem linB_wf {n a b d : Nat} (hn : 2 ≤ n ∧ n ≤ 5) (ha : a < 5) (hb : b < 5) (pa : prm a n = true) (pb : prm b n = true) : Wf n (linB n a b d) := by
  have hin : ∀ r c, linB n a b d r c ≠ 0 → r < n ∧ c < n := by
    intro r c h
    unfold linB at h
    by_cases h1 : r < n ∧ c < n
    · exact h1
    · rw [if_neg h1] at h; exact absurd rfl h
  refine ⟨hn.1, hn.2, fun r c h => ?_, fun r c c' h he => ?_, fun r r' c h he => ?_⟩
  · obtain ⟨h1, h2⟩ := hin r c h
    refine ⟨h1, h2, ?_⟩
    rw [linB_in h1 h2]
    exact Nat.mod_lt _ (by omega)
  · obtain ⟨h1, h2⟩ := hin r c h
    obtain ⟨h3, h4⟩ := hin r c' (by rw [← he]; exact h)
    rw [linB_in h1 h2, linB_in h3 h4] at he
    refine lin_inj (e := a * r + d) hb hn pb h2 h4 ?_
    rw [show b * c + (a * r + d) = a * r + b * c + d by omega, show b * c' + (a * r + d) = a * r + b * c' + d by omega]
    omega
  · obtain ⟨h1, h2⟩ := hin r c h
    obtain ⟨h3, h4⟩ := hin r' c (by rw [← he]; exact h)
    rw [linB_in h1 h2, linB_in h3 h4] at he
    refine lin_inj (e := b * c + d) ha hn pa h1 h3 ?_
    rw [show a * r + (b * c + d) = a * r + b * c + d by omega, show a * r' + (b * c + d) = a * r' + b * c + d by omega]
    omega
theorem lin_val {n a b d r c : Nat} (hn : 2 ≤ n ∧ n ≤ 5) (ha : a < 5) (hb : b < 5) (hd : d < 5) (hr : r < n) (hc : c < n) : a * r + b * c + d < 1000 := by
  have h1 : a * r ≤ 4 * 4 := Nat.mul_le_mul (by omega) (by omega)
  have h2 : b * c ≤ 4 * 4 := Nat.mul_le_mul (by omega) (by omega)
  omega
theorem lin_cls {σ : St} {k n a b d : Nat} (hG : GOK σ k n B0) (ha : a < 5) (hb : b < 5) (hd : d < 5) (pa : prm a n = true) (pb : prm b n = true) (K : St → Option (Except Nat Int32 × St)) : ∃ τ, f_Q_linear_L79 (nI n) (nI a) (nI b) (nI d) k K FU 0 σ = K τ ∧ GOK τ k n (linB n a b d) ∧ ∀ m, m < k ∨ k + 3 < m → τ m = σ m := by
  have hn := hG.le
  have hX := linB_wf (d := d) hn ha hb pa pb
  have A := nest2 n (fun i τ => ∃ Y, GOK τ k n Y ∧ BI n (linB n a b d) (fun _ _ => True) (fun r _ => r) (fun _ c => c) i Y ∧ ∀ m, m < k ∨ k + 3 < m → τ m = σ m) (fun m r τ => f_Q_linear_L79 (nI n) (nI a) (nI b) (nI d) k K m (nI r) τ) (fun r κ m c τ => f_Q_linear_L88 (nI n) (nI a) (nI b) (nI d) k (nI r) κ m (nI c) τ) K (by omega) ?_ ?_ ?_ ?_ σ ⟨B0, hG, BI.zero, fun m _ => rfl⟩
  · obtain ⟨τ, e, Y, g, bi, f⟩ := A
    refine ⟨τ, e, ?_, f⟩
    rw [← bi.done (fun x y h => ⟨x, y, (hX.2.2.1 x y h).1, (hX.2.2.1 x y h).2.1, trivial, rfl, rfl⟩)]
    exact g
  · rintro r κ m c τ hr hc ⟨Y, g, bi, f⟩
    obtain ⟨τ', e, g', f'⟩ := gset g bi.1 hX hr hc
    refine ⟨τ', ?_, _, g', bi.put hc, fun m hm => (f' m hm).trans (f m hm)⟩
    show f_Q_linear_L88 (nI n) (nI a) (nI b) (nI d) k (nI r) κ (m + 1) (nI c) τ = _
    rw [f_Q_linear_L88.eq_2]
    rw [linB_in hr hc, ce_s] at e
    rw [if_pos (nI_lt hc (by omega)), nI_mul, nI_mul, nI_add, nI_add, rem_ok hn (lin_val hn ha hb hd hr hc), cap_some, e, cal_some, nI_1]
  · rintro r κ m τ hr _
    rw [f_Q_linear_L88.eq_2]
    rw [if_neg (nI_nlt (Nat.le_refl _) (by omega))]
  · rintro m r τ hr _
    rw [f_Q_linear_L79.eq_2]
    rw [if_pos (nI_lt hr (by omega)), nI_1]
    rfl
  · rintro m τ _
    rw [f_Q_linear_L79.eq_2]
    rw [if_neg (nI_nlt (Nat.le_refl _) (by omega))]
/-! turned from whole: 86.conj -/
def cR (h r c s : Nat) : Nat := if h = 0 ∨ h = 2 then r else if h = 1 ∨ h = 4 then c else s
def cC (h r c s : Nat) : Nat := if h = 0 ∨ h = 3 then c else if h = 1 ∨ h = 5 then r else s
def cV (h r c s : Nat) : Nat := r + c + s - cR h r c s - cC h r c s
def cT (h : Nat) (B : Bd) (a b v : Nat) : Prop := ∃ r c s, B r c = s + 1 ∧ cR h r c s = a ∧ cC h r c s = b ∧ cV h r c s = v
theorem c_tab (h : Nat) (hh : h ≤ 5) (r c s : Nat) : (h = 0 ∧ cR h r c s = r ∧ cC h r c s = c ∧ cV h r c s = s) ∨ (h = 1 ∧ cR h r c s = c ∧ cC h r c s = r ∧ cV h r c s = s) ∨ (h = 2 ∧ cR h r c s = r ∧ cC h r c s = s ∧ cV h r c s = c) ∨ (h = 3 ∧ cR h r c s = s ∧ cC h r c s = c ∧ cV h r c s = r) ∨ (h = 4 ∧ cR h r c s = c ∧ cC h r c s = s ∧ cV h r c s = r) ∨ (h = 5 ∧ cR h r c s = s ∧ cC h r c s = r ∧ cV h r c s = c) := by
  unfold cV cR cC
  rcases (by omega : h = 0 ∨ h = 1 ∨ h = 2 ∨ h = 3 ∨ h = 4 ∨ h = 5) with rfl | rfl | rfl | rfl | rfl | rfl <;> simp <;> omega
section CT2
variable {n h : Nat} {B : Bd}
theorem trip (hw : Wf n B) {r c s r' c' s' : Nat} (e : B r c = s + 1) (e' : B r' c' = s' + 1) (hq : (r = r' ∧ c = c') ∨ (r = r' ∧ s = s') ∨ (c = c' ∧ s = s')) : r = r' ∧ c = c' ∧ s = s' := by
  rcases hq with ⟨rfl, rfl⟩ | ⟨rfl, rfl⟩ | ⟨rfl, rfl⟩
  · exact ⟨rfl, rfl, by omega⟩
  · exact ⟨rfl, hw.2.2.2.1 r c c' (by omega) (by omega), rfl⟩
  · exact ⟨hw.2.2.2.2 r r' c (by omega) (by omega), rfl, rfl⟩
theorem c_bd (hw : Wf n B) (hh : h ≤ 5) {r c s : Nat} (e : B r c = s + 1) : r < n ∧ c < n ∧ s < n ∧ cR h r c s < n ∧ cC h r c s < n ∧ cV h r c s < n := by
  have h1 := hw.2.2.1 r c (by omega)
  have hs : s < n := by omega
  rcases c_tab h hh r c s with ⟨_, a, b, d⟩ | ⟨_, a, b, d⟩ | ⟨_, a, b, d⟩ | ⟨_, a, b, d⟩ | ⟨_, a, b, d⟩ | ⟨_, a, b, d⟩ <;> rw [a, b, d] <;> omega
theorem c_two (hw : Wf n B) (hh : h ≤ 5) {r c s r' c' s' : Nat} (e : B r c = s + 1) (e' : B r' c' = s' + 1) (hq : (cR h r c s = cR h r' c' s' ∧ cC h r c s = cC h r' c' s') ∨ (cR h r c s = cR h r' c' s' ∧ cV h r c s = cV h r' c' s') ∨ (cC h r c s = cC h r' c' s' ∧ cV h r c s = cV h r' c' s')) : r = r' ∧ c = c' ∧ s = s' := by
  refine trip hw e e' ?_
  rcases c_tab h hh r c s with ⟨q, a, b, d⟩ | ⟨q, a, b, d⟩ | ⟨q, a, b, d⟩ | ⟨q, a, b, d⟩ | ⟨q, a, b, d⟩ | ⟨q, a, b, d⟩ <;>
  rcases c_tab h hh r' c' s' with ⟨q', a', b', d'⟩ | ⟨q', a', b', d'⟩ | ⟨q', a', b', d'⟩ | ⟨q', a', b', d'⟩ | ⟨q', a', b', d'⟩ | ⟨q', a', b', d'⟩ <;>
  first
    | (exfalso; omega)
    | (rw [a, b, d, a', b', d'] at hq; omega)
noncomputable def cj (h : Nat) (B : Bd) : Bd := fun a b => @dite _ (∃ v, cT h B a b v) (Classical.propDecidable _) (fun hx => Classical.choose hx + 1) (fun _ => 0)
theorem cj_iff (hw : Wf n B) (hh : h ≤ 5) {a b v : Nat} : cj h B a b = v + 1 ↔ cT h B a b v := by
  unfold cj
  constructor
  · intro e
    by_cases hx : ∃ v, cT h B a b v
    · rw [dif_pos hx] at e
      have := Classical.choose_spec hx
      rwa [show Classical.choose hx = v by omega] at this
    · rw [dif_neg hx] at e; omega
  · rintro ⟨r, c, s, e, rfl, rfl, rfl⟩
    have hx : ∃ v, cT h B (cR h r c s) (cC h r c s) v := ⟨_, r, c, s, e, rfl, rfl, rfl⟩
    rw [dif_pos hx]
    obtain ⟨r', c', s', e', q1, q2, q3⟩ := Classical.choose_spec hx
    obtain ⟨rfl, rfl, rfl⟩ := c_two hw hh e e' (Or.inl ⟨q1.symm, q2.symm⟩)
    rw [← q3]
theorem cj_wf (hw : Wf n B) (hh : h ≤ 5) : Wf n (cj h B) := by
  have hT : ∀ a b, cj h B a b ≠ 0 → cT h B a b (cj h B a b - 1) := fun a b h0 => (cj_iff hw hh).mp (by omega)
  refine ⟨hw.1, hw.2.1, fun a b h0 => ?_, fun a b b' h0 he => ?_, fun a a' b h0 he => ?_⟩
  · obtain ⟨r, c, s, e, q1, q2, q3⟩ := hT a b h0
    have := c_bd hw hh e
    rw [q1, q2, q3] at this
    omega
  · obtain ⟨r, c, s, e, q1, q2, q3⟩ := hT a b h0
    obtain ⟨r', c', s', e', q1', q2', q3'⟩ := hT a b' (by omega)
    obtain ⟨rfl, rfl, rfl⟩ := c_two hw hh e e' (Or.inr (Or.inl ⟨by omega, by omega⟩))
    omega
  · obtain ⟨r, c, s, e, q1, q2, q3⟩ := hT a b h0
    obtain ⟨r', c', s', e', q1', q2', q3'⟩ := hT a' b (by omega)
    obtain ⟨rfl, rfl, rfl⟩ := c_two hw hh e e' (Or.inr (Or.inr ⟨by omega, by omega⟩))
    omega
theorem cj_at (hw : Wf n B) (hh : h ≤ 5) {r c s : Nat} (e : B r c = s + 1) : cj h B (cR h r c s) (cC h r c s) = cV h r c s + 1 := (cj_iff hw hh).mpr ⟨r, c, s, e, rfl, rfl, rfl⟩
theorem cj_cov (hw : Wf n B) (hh : h ≤ 5) : ∀ a b, cj h B a b ≠ 0 → ∃ r c, r < n ∧ c < n ∧ B r c ≠ 0 ∧ cR h r c (B r c - 1) = a ∧ cC h r c (B r c - 1) = b := by
  intro a b h0
  obtain ⟨r, c, s, e, q1, q2, q3⟩ := (cj_iff (a := a) (b := b) (v := cj h B a b - 1) hw hh).mp (by omega)
  have := c_bd hw hh e
  exact ⟨r, c, this.1, this.2.1, by omega, by rw [e]; exact q1, by rw [e]; exact q2⟩
end CT2
theorem setConj_eq {σ : St} {k h r c s : Nat} (hh : h ≤ 5) : f_Q_setConjugate σ k (nI h) (nI r) (nI c) (nI s) = cal (f_Grid_set σ k (nI (cR h r c s)) (nI (cC h r c s)) (nI (cV h r c s))) fun _ σ => some ((), σ) := by
  unfold f_Q_setConjugate
  rcases c_tab h hh r c s with ⟨rfl, a, b, d⟩ | ⟨rfl, a, b, d⟩ | ⟨rfl, a, b, d⟩ | ⟨rfl, a, b, d⟩ | ⟨rfl, a, b, d⟩ | ⟨rfl, a, b, d⟩ <;> rw [a, b, d]
  · rw [if_pos (by rfl)]
  · rw [if_neg (by decide), if_pos (by rfl)]
  · rw [if_neg (by decide), if_neg (by decide), if_pos (by rfl)]
  · rw [if_neg (by decide), if_neg (by decide), if_neg (by decide), if_pos (by rfl)]
  · rw [if_neg (by decide), if_neg (by decide), if_neg (by decide), if_neg (by decide), if_pos (by rfl)]
  · rw [if_neg (by decide), if_neg (by decide), if_neg (by decide), if_neg (by decide), if_neg (by decide)]
theorem conj_cls {σ : St} {g k n h : Nat} {B : Bd} (hB : GOK σ g n B) (hG : GOK σ k n B0) (hgk : g + 3 < k ∨ k + 3 < g) (hh : h ≤ 5) (K : St → Option (Except Nat Int32 × St)) : ∃ τ, f_Q_conjugate_L28 (nI h) g k K FU 0 σ = K τ ∧ GOK τ k n (cj h B) ∧ ∀ m, m < k ∨ k + 3 < m → τ m = σ m := by
  have hn := hG.le
  have hw := hB.1
  have hX := cj_wf hw hh
  have fr : ∀ τ : St, (∀ m, m < k ∨ k + 3 < m → τ m = σ m) → GOK τ g n B := fun τ f => hB.frame (fun m a b => f m (by omega))
  have A := nest2 n (fun i τ => ∃ Y, GOK τ k n Y ∧ BI n (cj h B) (fun r c => B r c ≠ 0) (fun r c => cR h r c (B r c - 1)) (fun r c => cC h r c (B r c - 1)) i Y ∧ ∀ m, m < k ∨ k + 3 < m → τ m = σ m) (fun m r τ => f_Q_conjugate_L28 (nI h) g k K m (nI r) τ) (fun r κ m c τ => f_Q_conjugate_L40 (nI h) g k (nI r) κ m (nI c) τ) K (by omega) ?_ ?_ ?_ ?_ σ ⟨B0, hG, BI.zero, fun m _ => rfl⟩
  · obtain ⟨τ, e, Y, g', bi, f⟩ := A
    refine ⟨τ, e, ?_, f⟩
    rw [← bi.done (cj_cov hw hh)]
    exact g'
  · rintro r κ m c τ hr hc ⟨Y, g', bi, f⟩
    have gB := fr τ f
    show ∃ τ', f_Q_conjugate_L40 (nI h) g k (nI r) κ (m + 1) (nI c) τ = _ ∧ _
    have hb := hw.bd r c
    by_cases h0 : B r c = 0
    · refine ⟨τ, ?_, Y, g', bi.skip hc (fun h => h h0), f⟩
      rw [f_Q_conjugate_L40.eq_2]
      rw [gB.ord, if_pos (nI_lt hc (by omega)), sign_in gB hr hc, cap_some, jn_eq, h0, if_pos (by rfl), nI_1]
    · obtain ⟨s, hs⟩ : ∃ s, B r c = s + 1 := ⟨B r c - 1, by omega⟩
      have hbd := c_bd hw hh hs
      obtain ⟨τ', e, g2, f2⟩ := gset g' bi.1 hX hbd.2.2.2.1 hbd.2.2.2.2.1
      have hput := bi.put hc
      rw [show B r c - 1 = s by omega] at hput
      refine ⟨τ', ?_, _, g2, hput, fun m hm => (f2 m hm).trans (f m hm)⟩
      rw [f_Q_conjugate_L40.eq_2]
      rw [cj_at hw hh hs, ce_s] at e
      rw [gB.ord, if_pos (nI_lt hc (by omega)), sign_in gB hr hc, cap_some, jn_eq, hs, ce_s, if_neg (nm1 (by omega)), setConj_eq hh, e, cal_some, cal_some, nI_1]
  · rintro r κ m τ hr ⟨Y, g', bi, f⟩
    rw [f_Q_conjugate_L40.eq_2]
    rw [(fr τ f).ord, if_neg (nI_nlt (Nat.le_refl _) (by omega))]
  · rintro m r τ hr ⟨Y, g', bi, f⟩
    rw [f_Q_conjugate_L28.eq_2]
    rw [(fr τ f).ord, if_pos (nI_lt hr (by omega)), nI_1]
    rfl
  · rintro m τ ⟨Y, g', bi, f⟩
    rw [f_Q_conjugate_L28.eq_2]
    rw [(fr τ f).ord, if_neg (nI_nlt (Nat.le_refl _) (by omega))]
