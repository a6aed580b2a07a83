/-! isotope, the operation -/
noncomputable def ivN (n : Nat) (P : Nat → Nat) (a : Nat) : Nat := if h : ∃ r, r < n ∧ P r = a then Classical.choose h else 0
theorem iv_ok {n : Nat} {P : Nat → Nat} (hP : PM n P) {a : Nat} (ha : a < n) : ivN n P a < n ∧ P (ivN n P a) = a := by
  have h := inj_sur hP ha
  unfold ivN
  rw [dif_pos h]
  exact Classical.choose_spec h
theorem iv_of {n : Nat} {P : Nat → Nat} (hP : PM n P) {r : Nat} (hr : r < n) : ivN n P (P r) = r := by
  obtain ⟨h1, h2⟩ := iv_ok hP (hP.1 r hr)
  exact hP.2 _ _ h1 hr h2
def mv (S : Nat → Nat) (v : Nat) : Nat := if v = 0 then 0 else S (v - 1) + 1
noncomputable def isoB (n : Nat) (B : Bd) (P Q S : Nat → Nat) : Bd := fun a b => if a < n ∧ b < n then mv S (B (ivN n P a) (ivN n Q b)) else 0
theorem isoB_at {n : Nat} {B : Bd} {P Q S : Nat → Nat} (hP : PM n P) (hQ : PM n Q) {r c : Nat} (hr : r < n) (hc : c < n) : isoB n B P Q S (P r) (Q c) = mv S (B r c) := by
  unfold isoB
  rw [if_pos ⟨hP.1 r hr, hQ.1 c hc⟩, iv_of hP hr, iv_of hQ hc]
theorem isoB_wf {n : Nat} {B : Bd} {P Q S : Nat → Nat} (hw : Wf n B) (hP : PM n P) (hQ : PM n Q) (hS : PM n S) : Wf n (isoB n B P Q S) := by
  have hin : ∀ a b, isoB n B P Q S a b ≠ 0 → a < n ∧ b < n ∧ isoB n B P Q S a b = mv S (B (ivN n P a) (ivN n Q b)) := by
    intro a b h
    unfold isoB at h ⊢
    by_cases h1 : a < n ∧ b < n
    · rw [if_pos h1]; exact ⟨h1.1, h1.2, rfl⟩
    · rw [if_neg h1] at h; exact absurd rfl h
  have hmv : ∀ v, v ≤ n → mv S v ≤ n := by
    intro v hv
    unfold mv
    split
    · omega
    · have := hS.1 (v - 1) (by omega); omega
  have hmi : ∀ u v, u ≤ n → v ≤ n → mv S u ≠ 0 → mv S u = mv S v → u ≠ 0 ∧ u = v := by
    intro u v hu hv h0 he
    unfold mv at h0 he
    by_cases hu0 : u = 0
    · rw [if_pos hu0] at h0; exact absurd rfl h0
    · rw [if_neg hu0] at he
      by_cases hv0 : v = 0
      · rw [if_pos hv0] at he; omega
      · rw [if_neg hv0] at he
        have := hS.2 (u - 1) (v - 1) (by omega) (by omega) (by omega)
        exact ⟨hu0, by omega⟩
  refine ⟨hw.1, hw.2.1, fun a b h => ?_, fun a b b' h he => ?_, fun a a' b h he => ?_⟩
  · obtain ⟨h1, h2, h3⟩ := hin a b h
    exact ⟨h1, h2, by rw [h3]; exact hmv _ (hw.bn _ _)⟩
  · obtain ⟨h1, h2, h3⟩ := hin a b h
    obtain ⟨_, h2', h3'⟩ := hin a b' (by rw [← he]; exact h)
    rw [h3] at h
    rw [h3, h3'] at he
    obtain ⟨e1, e2⟩ := hmi _ _ (hw.bn _ _) (hw.bn _ _) h he
    have := hw.2.2.2.1 _ _ _ e1 e2
    rw [← (iv_ok hQ h2).2, this, (iv_ok hQ h2').2]
  · obtain ⟨h1, h2, h3⟩ := hin a b h
    obtain ⟨h1', _, h3'⟩ := hin a' b (by rw [← he]; exact h)
    rw [h3] at h
    rw [h3, h3'] at he
    obtain ⟨e1, e2⟩ := hmi _ _ (hw.bn _ _) (hw.bn _ _) h he
    have := hw.2.2.2.2 _ _ _ e1 e2
    rw [← (iv_ok hP h1).2, this, (iv_ok hP h1').2]
theorem iso_cls {σ : St} {g k n p q s : Nat} {B : Bd} {P Q S : Nat → Nat} (mt : MT σ) (hB : GOK σ g n B) (hG : GOK σ k n B0) (hgk : g + 3 < k ∨ k + 3 < g) (hk : 33 < k) (hP : PM n P) (hQ : PM n Q) (hS : PM n S) (hp : p < 120) (hq : q < 120) (hs : s < 120) (eP : ∀ i, i < n → cp p i = P i) (eQ : ∀ i, i < n → cp q i = Q i) (eS : ∀ i, i < n → cp s i = S i) (K : St → Option (Except Nat Int32 × St)) : ∃ τ, f_Q_isotope_L93 g (nI p) (nI q) (nI s) k K FU 0 σ = K τ ∧ GOK τ k n (isoB n B P Q S) ∧ ∀ m, m < k ∨ k + 3 < m → τ m = σ m := by
  have hn := hG.le
  have hw := hB.1
  have hX := isoB_wf hw hP hQ hS
  have fr : ∀ τ : St, (∀ m, m < k ∨ k + 3 < m → τ m = σ m) → GOK τ g n B ∧ MT τ := fun τ f => ⟨hB.frame (fun m a b => f m (by omega)), fun m hm => by rw [f 7 (by omega), f 8 (by omega)]; exact mt m hm⟩
  have A := nest2 n (fun i τ => ∃ Y, GOK τ k n Y ∧ BI n (isoB n B P Q S) (fun _ _ => True) (fun r _ => P r) (fun _ c => Q c) i Y ∧ ∀ m, m < k ∨ k + 3 < m → τ m = σ m) (fun m r τ => f_Q_isotope_L93 g (nI p) (nI q) (nI s) k K m (nI r) τ) (fun r κ m c τ => f_Q_isotope_L106 g (nI p) (nI q) (nI s) k (nI r) κ m (nI c) τ) K (by omega) ?_ ?_ ?_ ?_ σ ⟨B0, hG, BI.zero, fun m _ => rfl⟩
  · obtain ⟨τ, e, Y, g', bi, f⟩ := A
    refine ⟨τ, e, ?_, f⟩
    rw [← bi.done (fun a b h => ?_)]
    · exact g'
    · have h2 := hX.2.2.1 a b h
      exact ⟨ivN n P a, ivN n Q b, (iv_ok hP h2.1).1, (iv_ok hQ h2.2.1).1, trivial, (iv_ok hP h2.1).2, (iv_ok hQ h2.2.1).2⟩
  · rintro r κ m c τ hr hc ⟨Y, g', bi, f⟩
    obtain ⟨gB, mtτ⟩ := fr τ f
    have hb := hw.bn r c
    have hPr := hP.1 r hr
    have hQc := hQ.1 c hc
    obtain ⟨τ', e, g2, f2⟩ := gset g' bi.1 hX hPr hQc
    refine ⟨τ', ?_, _, g2, bi.put hc, fun m hm => (f2 m hm).trans (f m hm)⟩
    rw [isoB_at hP hQ hr hc] at e
    have eimg : f_Maps_imageOf τ (nI s) (ce (B r c)) = some (ce (mv S (B r c))) := by
      unfold mv
      by_cases h0 : B r c = 0
      · rw [h0, if_pos rfl, ce_0]; exact image_m mtτ hs
      · obtain ⟨t, ht⟩ : ∃ t, B r c = t + 1 := ⟨B r c - 1, by omega⟩
        rw [if_neg h0, ht, ce_s, ce_s, Nat.add_sub_cancel, image_ok mtτ hs (by omega), eS t (by omega)]
    show f_Q_isotope_L106 g (nI p) (nI q) (nI s) k (nI r) κ (m + 1) (nI c) τ = _
    rw [f_Q_isotope_L106.eq_2]
    rw [gB.ord, if_pos (nI_lt hc (by omega)), sign_in gB hr hc, cap_some, eimg, cap_some, image_ok mtτ hp (by omega), cap_some, image_ok mtτ hq (by omega), cap_some, eP r hr, eQ c hc, e, cal_some, nI_1]
  · rintro r κ m τ hr ⟨Y, g', bi, f⟩
    rw [f_Q_isotope_L106.eq_2]
    rw [(fr τ f).1.ord, if_neg (nI_nlt (Nat.le_refl _) (by omega))]
  · rintro m r τ hr ⟨Y, g', bi, f⟩
    rw [f_Q_isotope_L93.eq_2]
    rw [(fr τ f).1.ord, if_pos (nI_lt hr (by omega)), nI_1]
    rfl
  · rintro m τ ⟨Y, g', bi, f⟩
    rw [f_Q_isotope_L93.eq_2]
    rw [(fr τ f).1.ord, if_neg (nI_nlt (Nat.le_refl _) (by omega))]
theorem iso_ref {σ : St} {M n j : Nat} {N : Nat → Nat} {B : Nat → Bd} {P Q S : Nat → Nat} (hj : j < M) (hNj : N j = n) (hR : MR σ (M + 1) (upN N M n) (upG B M B0)) (hM : M < 12) (hW : ∀ j, j < M → Wf (N j) (B j)) (hP : PM n P) (hQ : PM n Q) (hS : PM n S) (eP : ∀ i, i < n → σ 88 i = nI (P i)) (eQ : ∀ i, i < n → σ 88 (5 + i) = nI (Q i)) (eS : ∀ i, i < n → σ 88 (10 + i) = nI (S i)) (K : St → Option (Int32 × St)) : ∃ τ, f_R_isotope_L144 (nI j) (nI n) (nI M) K FU 0 σ = K τ ∧ MR τ (M + 1) (upN N M n) (upG B M (isoB n (B j) P Q S)) ∧ Frx 84 σ τ := by
  have hw := hW j hj
  rw [hNj] at hw
  have hn : 2 ≤ n ∧ n ≤ 5 := ⟨hw.1, hw.2.1⟩
  have hN : ∀ j, j < M → N j ≤ 5 := fun j hj => (hW j hj).2.1
  have hX := isoB_wf hw hP hQ hS
  have hat : ∀ τ Y, MR τ (M + 1) (upN N M n) (upG B M Y) → Wf n Y → ∀ r c, r < n → c < n → f_R_at τ (nI j) (nI r) (nI c) = some (ce (B j r c)) := by
    intro τ Y m hY r c hr hc
    have mw := m.mw (by omega) (Wf_up hW hY)
    have e1 : upN N M n j = n := by unfold upN; rw [if_neg (by omega)]; exact hNj
    have := at_ok mw (j := j) (r := r) (c := c) (by omega) (by rw [e1]; exact hr) (by rw [e1]; exact hc)
    rw [this]
    unfold upG
    rw [if_neg (by omega)]
  have A := nest2 n (fun i τ => ∃ Y, MR τ (M + 1) (upN N M n) (upG B M Y) ∧ BI n (isoB n (B j) P Q S) (fun _ _ => True) (fun r _ => P r) (fun _ c => Q c) i Y ∧ Frx 84 σ τ) (fun m r τ => f_R_isotope_L144 (nI j) (nI n) (nI M) K m (nI r) τ) (fun r κ m c τ => f_R_isotope_L154 (nI j) (nI n) (nI M) (nI r) κ m (nI c) τ) K (by omega) ?_ ?_ ?_ ?_ σ ⟨B0, hR, BI.zero, fun m _ => rfl⟩
  · obtain ⟨τ, e, Y, g, bi, f⟩ := A
    refine ⟨τ, e, ?_, f⟩
    rw [← bi.done (fun a b h => ?_)]
    · exact g
    · have h2 := hX.2.2.1 a b h
      exact ⟨ivN n P a, ivN n Q b, (iv_ok hP h2.1).1, (iv_ok hQ h2.2.1).1, trivial, (iv_ok hP h2.1).2, (iv_ok hQ h2.2.1).2⟩
  · rintro r κ m c τ hr hc ⟨Y, g, bi, f⟩
    have ha := hat τ Y g (bi.1.wf hX) r c hr hc
    have hb := hw.bn r c
    have hPr := hP.1 r hr
    have hQc := hQ.1 c hc
    have b0 := ix25 hn.2 hPr hQc
    refine ⟨_, ?_, _, g.nset hN hn.2 hPr hQc (isoB n (B j) P Q S (P r) (Q c)), bi.put hc, fun m hm => (wr_fn hm).trans (f m hm)⟩
    show f_R_isotope_L154 (nI j) (nI n) (nI M) (nI r) κ (m + 1) (nI c) τ = _
    have x1 : τ 88 r = nI (P r) := by rw [f 88 (by omega)]; exact eP r hr
    have x2 : τ 88 (5 + c) = nI (Q c) := by rw [f 88 (by omega)]; exact eQ c hc
    rw [f_R_isotope_L154.eq_2]
    rw [if_pos (nI_lt hc (by omega)), ha, cap_some, ald_nI (by omega) (by decide), show (5 : Int32) = nI 5 from rfl, nI_add, ald_nI (by omega) (by decide), x1, x2]
    simp only [jn_eq, nI_1]
    rw [c25, ast_nI (by omega) (by decide), isoB_at hP hQ hr hc]
    unfold mv
    by_cases h0 : B j r c = 0
    · rw [if_pos (by rw [h0]; rfl), if_pos h0]; rfl
    · obtain ⟨t, ht⟩ : ∃ t, B j r c = t + 1 := ⟨B j r c - 1, by omega⟩
      have x3 : τ 88 (10 + t) = nI (S t) := by rw [f 88 (by omega)]; exact eS t (by omega)
      rw [if_neg (by rw [ht, ce_s]; exact nm1 (by omega)), if_neg h0, ht, ce_s, show (10 : Int32) = nI 10 from rfl, nI_add, ald_nI (by omega) (by decide), x3, ast_nI (by omega) (by decide), Nat.add_sub_cancel, ce_s]
  · rintro r κ m τ hr _
    rw [f_R_isotope_L154.eq_2]
    rw [if_neg (nI_nlt (Nat.le_refl _) (by omega))]
  · rintro m r τ hr _
    rw [f_R_isotope_L144.eq_2]
    rw [if_pos (nI_lt hr (by omega)), nI_1]
    rfl
  · rintro m τ _
    rw [f_R_isotope_L144.eq_2]
    rw [if_neg (nI_nlt (Nat.le_refl _) (by omega))]
/-- a code that is a map -/
def GC (n : Nat) (x : Int32) : Prop := ∃ c, c < 2 ^ 31 ∧ x = nI c ∧ VC n c
theorem code_cls {σ : St} {n : Nat} (h1 : 2 ≤ n) (h2 : n ≤ 5) (x : Int32) : ∃ v τ, f_Maps_numberOfCode σ x (nI n) = some (v, τ) ∧ Frx 9 σ τ ∧ ((¬ GC n x ∧ v = -1) ∨ ∃ c, c < 2 ^ 31 ∧ x = nI c ∧ VC n c ∧ v = nI (nmN n (dig c))) := by
  by_cases hx : x < 0
  · obtain ⟨τ, e, f⟩ := code_neg (σ := σ) h1 h2 hx
    refine ⟨-1, τ, e, f, Or.inl ⟨?_, rfl⟩⟩
    rintro ⟨c, hc, rfl, _⟩
    exact nI_pos hc hx
  · obtain ⟨c, hc, rfl⟩ := nI_of hx
    obtain ⟨τ, e, f⟩ := code_pos (σ := σ) h1 h2 hc
    by_cases hv : VC n c
    · rw [dB_t hv, if_pos rfl] at e
      exact ⟨_, τ, e, f, Or.inr ⟨c, hc, rfl, hv, rfl⟩⟩
    · rw [dB_f hv, if_neg (by decide)] at e
      refine ⟨_, τ, e, f, Or.inl ⟨?_, rfl⟩⟩
      rintro ⟨c', hc', ec, hv'⟩
      rw [eq_nI hc hc'] at ec
      subst ec
      exact hv hv'
theorem code_ref {σ : St} {n w : Nat} (h1 : 2 ≤ n) (h2 : n ≤ 5) (hw : w < 3) (x : Int32) : ∃ τ, f_R_isMap σ x (nI n) (nI w) = some (bI (dB (GC n x)), τ) ∧ Frx 88 σ τ ∧ ∀ c, c < 2 ^ 31 → x = nI c → (∀ i, i < n → τ 88 (5 * w + i) = nI (dig c i)) ∧ ∀ y, (y < 5 * w ∨ 5 * w + 5 ≤ y) → τ 88 y = σ 88 y := by
  by_cases hx : x < 0
  · obtain ⟨τ, e, f⟩ := rmap_any (σ := σ) h2 hw x hx
    refine ⟨τ, ?_, f, fun c hc ec => ?_⟩
    · rw [e, dB_f]
      · rfl
      · rintro ⟨c, hc, rfl, _⟩
        exact nI_pos hc hx
    · rw [ec] at hx; exact absurd hx (nI_pos hc)
  · obtain ⟨c, hc, rfl⟩ := nI_of hx
    obtain ⟨τ, e, a, b, f⟩ := rmap_pos (σ := σ) h1 h2 hw hc
    refine ⟨τ, ?_, f, fun c' hc' ec => ?_⟩
    · rw [e]
      congr 2
      congr 1
      apply dB_cong
      constructor
      · intro h; exact ⟨c, hc, rfl, h⟩
      · rintro ⟨c', hc', ec, hv'⟩
        rw [eq_nI hc hc'] at ec
        subst ec
        exact hv'
    · rw [eq_nI hc hc'] at ec
      subst ec
      exact ⟨a, b⟩
