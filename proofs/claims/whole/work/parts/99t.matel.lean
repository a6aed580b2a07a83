/-! mates, the class lays all -/
theorem bdM_val {n : Nat} {ch : Nat → Nat} : ∀ c r k, bdM n ch c r k ≠ 0 → ∃ s, s < c ∧ r < n ∧ k = cp (ch s) r ∧ bdM n ch c r k = s + 1 := by
  intro c
  induction c with
  | zero => intro r k h; exact absurd rfl h
  | succ c ih =>
    intro r k h
    have h : putM n (bdM n ch c) (cp (ch c)) c r k ≠ 0 := h
    show ∃ s, s < c + 1 ∧ r < n ∧ k = cp (ch s) r ∧ putM n (bdM n ch c) (cp (ch c)) c r k = s + 1
    by_cases hk : r < n ∧ k = cp (ch c) r
    · exact ⟨c, by omega, hk.1, hk.2, by unfold putM; rw [if_pos hk]⟩
    · rw [putM_ne hk] at h ⊢
      obtain ⟨s, a, b, d, e⟩ := ih r k h
      exact ⟨s, by omega, b, d, e⟩
theorem bdM_wf {n : Nat} {ch : Nat → Nat} (h1 : 2 ≤ n) (h2 : n ≤ 5) (hp : ∀ s, s < n → PM n (cp (ch s))) : Wf n (bdM n ch n) := by
  refine ⟨h1, h2, fun r c h => ?_, fun r c c' h e => ?_, fun r r' c h e => ?_⟩
  · obtain ⟨s, a, b, d, e⟩ := bdM_val n r c h
    refine ⟨b, ?_, by omega⟩
    rw [d]; exact (hp s a).1 r b
  · obtain ⟨s, a, b, d, e1⟩ := bdM_val n r c h
    obtain ⟨s', a', b', d', e2⟩ := bdM_val n r c' (by rw [← e]; exact h)
    have : s = s' := by omega
    subst this
    rw [d, d']
  · obtain ⟨s, a, b, d, e1⟩ := bdM_val n r c h
    obtain ⟨s', a', b', d', e2⟩ := bdM_val n r' c (by rw [← e]; exact h)
    have : s = s' := by omega
    subst this
    exact (hp s a).2 r r' b b' (by rw [← d, ← d'])
theorem bdM_le {n : Nat} {ch : Nat → Nat} (c : Nat) : ∀ r k, bdM n ch c r k ≤ c := by
  intro r k
  by_cases h : bdM n ch c r k = 0
  · omega
  · obtain ⟨s, a, _, _, e⟩ := bdM_val c r k h
    omega
def TK (n : Nat) (C : Bd) (t : Int32) : Prop := ∀ k, k < 32 → bt t k = (decide (k < 5 * n) && decide (C (k / 5) (k % 5) ≠ 0))
def FM (σ τ : St) (c : Nat) : Prop := (∀ m s, m < 25 ∨ 33 < m → ¬ (m = 23 ∧ s = 6) → τ m s = σ m s) ∧ ∀ i, i < c → τ 25 i = σ 25 i
def LSt (σ : St) (n : Nat) (L : List Nat) : Prop := MT σ ∧ Lst 24 σ L ∧ σ 23 5 = nI L.length
theorem FM.ls {σ τ : St} {c n : Nat} {L : List Nat} (h : FM σ τ c) (hl : LSt σ n L) : LSt τ n L := by
  refine ⟨fun m hm => ?_, hl.2.1.fr (fun i => h.1 24 i (by omega) (by omega)), by rw [h.1 23 5 (by omega) (by omega)]; exact hl.2.2⟩
  have := hl.1 m hm
  exact ⟨fun i hi => by rw [h.1 7 _ (by omega) (by omega)]; exact this.1 i hi, by rw [h.1 8 _ (by omega) (by omega)]; exact this.2⟩
section ML
variable {n : Nat}
theorem take_fit {C : Bd} {t x : Int32} {m : Nat} (h1 : 2 ≤ n) (h2 : n ≤ 5) (hm : m < facN n) (ht : TK n C t) (hx : ∀ k, k < 32 → bt x k = pB n m k) : (x &&& t = 0) ↔ ∀ r, r < n → C r (cp m r) = 0 := by
  have hp := (cp_pm h1 h2 hm).1
  rw [bt_eq]
  constructor
  · intro h r hr
    have hpr := hp.1 r hr
    have h3 := h (5 * r + cp m r) (by omega)
    rw [bt_and, bt_0, hx _ (by omega), ht _ (by omega), pB_at hr (by omega), decide_eq_true rfl, Bool.true_and, decide_eq_true (by omega : 5 * r + cp m r < 5 * n), Bool.true_and, show (5 * r + cp m r) / 5 = r by omega, show (5 * r + cp m r) % 5 = cp m r by omega] at h3
    have := of_decide_eq_false h3
    exact Classical.byContradiction this
  · intro h k hk
    rw [bt_and, bt_0, hx k hk, ht k hk]
    unfold pB
    by_cases hk5 : k < 5 * n
    · by_cases hc : cp m (k / 5) = k % 5
      · have := h (k / 5) (by omega)
        rw [hc] at this
        rw [decide_eq_false (show ¬ C (k / 5) (k % 5) ≠ 0 from fun h => h this), Bool.and_false, Bool.and_false]
      · rw [decide_eq_false hc, Bool.and_false, Bool.false_and]
    · rw [decide_eq_false hk5]; rfl
theorem TK.next {C : Bd} {t x : Int32} {m c : Nat} (ht : TK n C t) (hx : ∀ k, k < 32 → bt x k = pB n m k) : TK n (putM n C (cp m) c) (t ||| x) := by
  intro k hk
  rw [bt_or, ht k hk, hx k hk]
  unfold pB
  by_cases hk5 : k < 5 * n
  · rw [decide_eq_true hk5, Bool.true_and, Bool.true_and, Bool.true_and]
    unfold putM
    by_cases hc : k / 5 < n ∧ k % 5 = cp m (k / 5)
    · rw [if_pos hc, decide_eq_true hc.2.symm, Bool.or_true, decide_eq_true (by omega)]
    · rw [if_neg hc, decide_eq_false (show ¬ cp m (k / 5) = k % 5 from fun h => hc ⟨by omega, h.symm⟩), Bool.or_false]
  · rw [decide_eq_false hk5]; rfl
theorem layFrom_ok (h1 : 2 ≤ n) (h2 : n ≤ 5) {L : List Nat} (hL : ∀ i, i ∈ L → i < facN n) (hLl : L.length ≤ 120) : ∀ (d e c : Nat) (σ : St) (ch : Nat → Nat) (t : Int32) (P : List Bd), c + e = n → e < d → LSt σ n L → (∀ i, i < c → σ 25 i = nI (ch i) ∧ ch i < facN n) → HF n ch c → TK n (bdM n ch c) t → AC σ n P → P.length + (EN2 n cp L e c (bdM n ch c)).length < 1000000000 →
    ∃ τ, f_Mating_layFrom d σ (nI n) (nI c) t = some ((), τ) ∧ AC τ n (P ++ EN2 n cp L e c (bdM n ch c)) ∧ FM σ τ c := by
  have hf := fac_le h1 h2
  intro d
  induction d with
  | zero => intro e c σ ch t P _ h; omega
  | succ d ih =>
    intro e c σ ch t P hce hed hls hch hF ht ac hlen
    show ∃ τ, fb_Mating_layFrom (f_Mating_layFrom d) σ (nI n) (nI c) t = _ ∧ _
    unfold fb_Mating_layFrom
    rw [jn_eq, if_neg (nI_pos (by omega))]
    match e, hce, hed, hlen with
    | 0, hce, hed, hlen =>
      have hcn : c = n := by omega
      subst hcn
      rw [if_neg (nI_nlt (Nat.le_refl _) (by omega))]
      obtain ⟨τ, e1, a, f⟩ := keepLow_ok hls.1 h1 h2 hch hF (bdM_wf h1 h2 (fun s hs => (cp_pm h1 h2 (hch s hs).2).1)) ac (by omega)
      exact ⟨τ, by rw [e1, cal_some], a, fun m s hm hs => f m s (by omega) hs, fun i _ => f 25 i (by omega) (by omega)⟩
    | e + 1, hce, hed, hlen =>
      rw [if_pos (nI_lt (show c < n by omega) (by omega)), if_pos (show nI c < 5 from nI_lt (show c < 5 by omega) (by decide))]
      generalize hC : bdM n ch c = C at *
      let part : Nat → List Bd := fun i => ((L.take i).filter (fun i => dB (fitM n C (cp i) c))).flatMap (fun i => EN2 n cp L e (c + 1) (putM n C (cp i) c))
      have hwhole : EN2 n cp L (e + 1) c C = part L.length := by
        show (L.filter _).flatMap _ = ((L.take L.length).filter _).flatMap _
        rw [List.take_length]
      have hple : ∀ i, (part i).length ≤ (EN2 n cp L (e + 1) c C).length := by
        have gen : ∀ (p : Nat → Bool) (g : Nat → List Bd) (l : List Nat) (i : Nat), (((l.take i).filter p).flatMap g).length ≤ ((l.filter p).flatMap g).length := by
          intro p g l i
          have h : (l.filter p).flatMap g = ((l.take i).filter p).flatMap g ++ ((l.drop i).filter p).flatMap g := by
            rw [← List.flatMap_append, ← List.filter_append, List.take_append_drop]
          rw [h, List.length_append]
          omega
        exact fun i => gen _ _ L i
      have hnext : ∀ i m, L[i]? = some m → part (i + 1) = part i ++ if dB (fitM n C (cp m) c) = true then EN2 n cp L e (c + 1) (putM n C (cp m) c) else [] := by
        intro i m hm
        show ((L.take (i + 1)).filter _).flatMap _ = ((L.take i).filter _).flatMap _ ++ _
        rw [List.take_succ, hm, List.filter_append, List.flatMap_append]
        congr 1
        cases hd : dB (fitM n C (cp m) c)
        · simp [hd]
        · simp [hd]
      rw [hwhole]
      have A := loopE (fun f i (τ : St) => f_Mating_layFrom_L23 (f_Mating_layFrom d) (nI n) (nI c) t f (nI i) τ) L.length (fun i τ => AC τ n (P ++ part i) ∧ FM σ τ c)
        (fun R => ∃ τ, R = some ((), τ) ∧ AC τ n (P ++ part L.length) ∧ FM σ τ c) ?_ ?_ FU 0 σ (by omega) (FU_gt (by omega)) ⟨by
          show AC σ n (P ++ ((L.take 0).filter _).flatMap _)
          simpa using ac, fun _ _ _ _ => rfl, fun _ _ => rfl⟩
      · exact A
      · rintro f i τ hi ⟨p1, p2⟩
        obtain ⟨m, hm⟩ : ∃ m, L[i]? = some m := ⟨_, List.getElem?_eq_getElem hi⟩
        have hml := hL m (List.mem_iff_getElem?.mpr ⟨i, hm⟩)
        have lsτ := p2.ls hls
        obtain ⟨x, ex, hx⟩ := pairs_ok lsτ.1 h1 h2 (show m < 120 by omega)
        have i0 : f_Maps_imageOf τ (nI m) 0 = some (nI (cp m 0)) := image_ok lsτ.1 (by omega) (show 0 < 5 by omega)
        have hp := (cp_pm h1 h2 hml).1
        have hp0 := hp.1 0 (by omega)
        have hfit := take_fit h1 h2 hml ht hx
        have hnx := hnext i m hm
        have hpl := hple (i + 1)
        have key : f_Mating_layFrom_L23 (f_Mating_layFrom d) (nI n) (nI c) t (f + 1) (nI i) τ = if dB (fitM n C (cp m) c) = true then cal (f_Mating_layFrom d (wr τ 25 c (nI m)) (nI n) (nI (c + 1)) (t ||| x)) fun r_14 σ_15 => f_Mating_layFrom_L23 (f_Mating_layFrom d) (nI n) (nI c) t f (nI (i + 1)) σ_15 else f_Mating_layFrom_L23 (f_Mating_layFrom d) (nI n) (nI c) t f (nI (i + 1)) τ := by
          rw [f_Mating_layFrom_L23.eq_2]
          rw [lsτ.2.2, if_pos (nI_lt hi (by omega)), if_pos (show nI i < 120 from nI_lt (show i < 120 by omega) (by decide)), ald_nI (by omega) (by decide), lsτ.2.1 i m hm, ex, cap_some, i0, cap_some, nI_1 i]
          simp only [jn_eq]
          by_cases c0 : cp m 0 = c
          · rw [if_pos (by rw [c0])]
            by_cases c1 : ∀ r, r < n → C r (cp m r) = 0
            · rw [if_pos (hfit.mpr c1), if_pos (dB_t ⟨c0, c1⟩), ast_nI (by omega) (by decide), nI_1]
            · rw [if_neg (fun h => c1 (hfit.mp h)), if_neg (fun h => c1 (dB_iff.mp h).2)]
          · rw [if_neg (by rw [eq_nI (by omega) (by omega)]; exact c0), if_neg (fun h => c0 (dB_iff.mp h).1)]
        by_cases hfm : fitM n C (cp m) c
        · rw [dB_t hfm, if_pos rfl] at hnx
          have hb1 : bdM n (fun i => if i = c then m else ch i) c = C := by
            rw [← hC]
            exact bdM_congr c (fun i hi => by rw [if_neg (by omega)])
          have hb2 : bdM n (fun i => if i = c then m else ch i) (c + 1) = putM n C (cp m) c := by
            show putM n (bdM n (fun i => if i = c then m else ch i) c) (cp (if c = c then m else ch c)) c = _
            rw [hb1, if_pos rfl]
          have hrec := ih e (c + 1) (wr τ 25 c (nI m)) (fun i => if i = c then m else ch i) (t ||| x) (P ++ part i) (by omega) (by omega)
            ⟨fun m hm => by rw [wr_fn (by omega), wr_fn (by omega)]; exact lsτ.1 m hm, lsτ.2.1.fr (fun i => by rw [wr_fn (by omega)]), by rw [wr_fn (by omega)]; exact lsτ.2.2⟩
            (fun j hj => by
              show wr τ 25 c (nI m) 25 j = nI (if j = c then m else ch j) ∧ (if j = c then m else ch j) < facN n
              rw [wr_get]
              by_cases ej : j = c
              · rw [if_pos ⟨rfl, ej⟩, if_pos ej]; exact ⟨rfl, hml⟩
              · rw [if_neg (fun h => ej h.2), if_neg ej, p2.2 j (by omega)]; exact hch j (by omega))
            (fun s hs => by
              show fitM n (bdM n (fun i => if i = c then m else ch i) s) (cp (if s = c then m else ch s)) s
              by_cases es : s = c
              · subst es
                rw [hb1, if_pos rfl]; exact hfm
              · rw [if_neg es, bdM_congr (ch' := ch) s (fun i hi => by rw [if_neg (by omega)])]
                exact hF s (by omega))
            (by rw [hb2]; exact ht.next hx)
            ⟨by rw [wr_fn (by omega)]; exact p1.1, fun h => by
              obtain ⟨m0, a, b⟩ := p1.2 h
              exact ⟨m0, a, b.frame (fun m a b => wr_fn (by omega))⟩⟩
            (by rw [hb2, List.length_append]; rw [hnx, List.length_append] at hpl; omega)
          rw [hb2, List.append_assoc, ← hnx] at hrec
          obtain ⟨υ, e5, a5, f5⟩ := hrec
          refine Or.inr ⟨υ, ?_, a5, fun m' s hm' hs' => ?_, fun j hj => ?_⟩
          · show f_Mating_layFrom_L23 (f_Mating_layFrom d) (nI n) (nI c) t (f + 1) (nI i) τ = _
            rw [key, if_pos (dB_t hfm), e5, cal_some]
          · rw [f5.1 m' s hm' hs', wr_fn (by omega)]; exact p2.1 m' s hm' hs'
          · rw [f5.2 j (by omega), wr_get, if_neg (by omega)]; exact p2.2 j hj
        · rw [dB_f hfm, if_neg (by decide), List.append_nil] at hnx
          refine Or.inr ⟨τ, ?_, by rw [hnx]; exact p1, p2⟩
          show f_Mating_layFrom_L23 (f_Mating_layFrom d) (nI n) (nI c) t (f + 1) (nI i) τ = _
          rw [key, if_neg (fun h => hfm (dB_iff.mp h))]
      · rintro f τ ⟨p1, p2⟩
        refine ⟨τ, ?_, p1, p2⟩
        show f_Mating_layFrom_L23 (f_Mating_layFrom d) (nI n) (nI c) t (f + 1) (nI L.length) τ = _
        rw [f_Mating_layFrom_L23.eq_2]
        rw [(p2.ls hls).2.2, if_neg (nI_nlt (Nat.le_refl _) (by omega))]
end ML
