/-! mates, the reference lays a mate -/
def HT (f : Nat → Nat → Nat) (n : Nat) (ch : Nat → Nat) (c : Nat) : Prop := ∀ s, s < c → fitM n (bdT f n ch s) (f (ch s)) s
section RW
variable {σ : St} {n : Nat} {L : List Nat} {ch : Nat → Nat}
theorem bdT_at {f : Nat → Nat → Nat} : ∀ c, HT f n ch c → ∀ s r, s < c → r < n → bdT f n ch c r (f (ch s) r) = s + 1 := by
  intro c
  induction c with
  | zero => intro _ s r hs; omega
  | succ c ih =>
    intro h s r hs hr
    show putM n (bdT f n ch c) (f (ch c)) c r (f (ch s) r) = s + 1
    by_cases e : s = c
    · subst e; exact putM_at hr
    · have hne : ¬ (r < n ∧ f (ch s) r = f (ch c) r) := by
        rintro ⟨_, e2⟩
        exact (bdT_0 c r _ hr).mp ((h c (by omega)).2 r hr) s (by omega) e2.symm
      rw [putM_ne hne]
      exact ih (fun s' hs' => h s' (by omega)) s r (by omega) hr
theorem bdT_full {f : Nat → Nat → Nat} (h : HT f n ch n) (hp : ∀ s, s < n → PM n (f (ch s))) {r k : Nat} (hr : r < n) (hk : k < n) : ∃ s, s < n ∧ k = f (ch s) r ∧ bdT f n ch n r k = s + 1 := by
  have hpm : PM n (fun s => f (ch s) r) := by
    refine ⟨fun s hs => (hp s hs).1 r hr, fun s s' hs hs' e => ?_⟩
    have e : f (ch s) r = f (ch s') r := e
    have h1 := bdT_at n h s r hs hr
    have h2 := bdT_at n h s' r hs' hr
    rw [e, h2] at h1
    omega
  obtain ⟨s, hs, e⟩ := inj_sur hpm hk
  have e : f (ch s) r = k := e
  exact ⟨s, hs, e.symm, by rw [← e]; exact bdT_at n h s r hs hr⟩
theorem keepR10 (h2 : n ≤ 5) (la : LA σ n) (l97 : Lst 97 σ L) (hL : ∀ i, i ∈ L → i < facN n) (hLl : L.length ≤ 120) (hn : 2 ≤ n) {s x m : Nat} (hs : s < n) (hx : σ 98 s = nI x) (hm : L[x]? = some m) (v2 : Int32) (K : St → Option (Unit × St)) : ∃ τ, f_R_keepLower_L10 (nI n) v2 (nI s) K FU 0 σ = K τ ∧ (∀ r, r < n → τ 91 (n * r + lp n m r) = nI s) ∧ (∀ y, (∀ r, r < n → y ≠ n * r + lp n m r) → τ 91 y = σ 91 y) ∧ ∀ o, o ≠ 91 → τ o = σ o := by
  have hf := fac_le hn h2
  obtain ⟨hxl, _⟩ := List.getElem?_eq_some_iff.mp hm
  have hmf := hL m (List.mem_iff_getElem?.mpr ⟨x, hm⟩)
  have hp := lp_pm hn h2 hmf
  refine loopE (fun f r (τ : St) => f_R_keepLower_L10 (nI n) v2 (nI s) K f (nI r) τ) n
    (fun i τ => (∀ r, r < i → τ 91 (n * r + lp n m r) = nI s) ∧ (∀ y, (∀ r, r < n → y ≠ n * r + lp n m r) → τ 91 y = σ 91 y) ∧ ∀ o, o ≠ 91 → τ o = σ o)
    (fun R => ∃ τ, R = K τ ∧ (∀ r, r < n → τ 91 (n * r + lp n m r) = nI s) ∧ (∀ y, (∀ r, r < n → y ≠ n * r + lp n m r) → τ 91 y = σ 91 y) ∧ ∀ o, o ≠ 91 → τ o = σ o) ?_ ?_ FU 0 σ (by omega) (FU_gt (by omega)) ⟨fun r hr => by omega, fun _ _ => rfl, fun _ _ => rfl⟩
  · rintro f r τ hr ⟨p1, p2, p3⟩
    have q := hp.1 r hr
    have hb := ix25 h2 hr q
    have e98 : τ 98 s = nI x := by rw [p3 98 (by omega)]; exact hx
    have e97 : τ 97 x = nI m := by rw [p3 97 (by omega)]; exact l97 x m hm
    have e89 : τ 89 (5 * m + r) = nI (lp n m r) := by rw [p3 89 (by omega)]; exact la.2.2 m r hmf hr
    refine Or.inr ⟨wr τ 91 (n * r + lp n m r) (nI s), ?_, fun r' hr' => ?_, fun y hy => ?_, fun o ho => by rw [wr_fn ho]; exact p3 o ho⟩
    · show f_R_keepLower_L10 (nI n) v2 (nI s) K (f + 1) (nI r) τ = _
      rw [f_R_keepLower_L10.eq_2]
      rw [if_pos (nI_lt hr (by omega)), ald_nI (by omega) (by decide), e98, ald_nI (by omega) (by decide), e97, show (5 : Int32) = nI 5 from rfl, nI_mul, nI_add, ald_nI (by omega) (by decide), e89, nI_mul, nI_add, ast_nI (by omega) (by decide), nI_1]
    · rw [wr_get]
      by_cases e : r' = r
      · rw [if_pos ⟨rfl, by rw [e]⟩]
      · rw [if_neg (fun h => e (idx_inj (hp.1 r' (by omega)) q h.2).1)]
        exact p1 r' (by omega)
    · rw [wr_get, if_neg (fun h => hy r hr h.2)]
      exact p2 y hy
  · rintro f τ ⟨p1, p2, p3⟩
    refine ⟨τ, ?_, p1, p2, p3⟩
    show f_R_keepLower_L10 (nI n) v2 (nI s) K (f + 1) (nI n) τ = _
    rw [f_R_keepLower_L10.eq_2]
    rw [if_neg (nI_nlt (Nat.le_refl _) (by omega))]
theorem keepR2 (h2 : n ≤ 5) (la : LA σ n) (l97 : Lst 97 σ L) (hL : ∀ i, i ∈ L → i < facN n) (hLl : L.length ≤ 120) (hn : 2 ≤ n) (rc : RC σ L n ch) (hT : HT (lp n) n ch n) (v2 : Int32) (K : St → Option (Unit × St)) : ∃ τ, f_R_keepLower_L2 (nI n) v2 K FU 0 σ = K τ ∧ (∀ r k, r < n → k < n → τ 91 (n * r + k) = ce (bdT (lp n) n ch n r k)) ∧ ∀ o, o ≠ 91 → τ o = σ o := by
  have hp : ∀ s, s < n → PM n (lp n (ch s)) := fun s hs => by
    obtain ⟨x, _, hx⟩ := rc s hs
    exact lp_pm hn h2 (hL _ (List.mem_iff_getElem?.mpr ⟨x, hx⟩))
  have A := loopE (fun f s (τ : St) => f_R_keepLower_L2 (nI n) v2 K f (nI s) τ) n
    (fun i τ => (∀ s, s < i → ∀ r, r < n → τ 91 (n * r + lp n (ch s) r) = nI s) ∧ ∀ o, o ≠ 91 → τ o = σ o)
    (fun R => ∃ τ, R = K τ ∧ (∀ s, s < n → ∀ r, r < n → τ 91 (n * r + lp n (ch s) r) = nI s) ∧ ∀ o, o ≠ 91 → τ o = σ o) ?_ ?_ FU 0 σ (by omega) (FU_gt (by omega)) ⟨fun s hs => by omega, fun _ _ => rfl⟩
  · obtain ⟨τ, e, a, b⟩ := A
    refine ⟨τ, e, fun r k hr hk => ?_, b⟩
    obtain ⟨s, hs, e1, e2⟩ := bdT_full hT hp hr hk
    rw [e2, ce_s, e1]
    exact a s hs r hr
  · rintro f s τ hs ⟨p1, p2⟩
    obtain ⟨x, hx, hm⟩ := rc s hs
    have laτ : LA τ n := la.fr (by rw [p2 82 (by omega)]) (by rw [p2 82 (by omega)]) (p2 89 (by omega))
    obtain ⟨υ, e, a1, a2, a3⟩ := keepR10 h2 laτ (l97.fr (fun i => by rw [p2 97 (by omega)])) hL hLl hn hs (by rw [p2 98 (by omega)]; exact hx) hm v2 (fun (σ_5 : St) => f_R_keepLower_L2 (nI n) v2 K f (nI s + 1) σ_5)
    refine Or.inr ⟨υ, ?_, fun s' hs' r hr => ?_, fun o ho => (a3 o ho).trans (p2 o ho)⟩
    · show f_R_keepLower_L2 (nI n) v2 K (f + 1) (nI s) τ = f_R_keepLower_L2 (nI n) v2 K f (nI (s + 1)) υ
      rw [f_R_keepLower_L2.eq_2]
      rw [if_pos (nI_lt hs (by omega)), e]
      show f_R_keepLower_L2 (nI n) v2 K f (nI s + 1) υ = _
      rw [nI_1]
    · by_cases es : s' = s
      · rw [es]; exact a1 r hr
      · rw [a2 _ (fun r' hr' e2 => ?_)]
        · exact p1 s' (by omega) r hr
        · obtain ⟨e3, e4⟩ := idx_inj ((hp s' (by omega)).1 r hr) ((hp s hs).1 r' hr') e2
          subst e3
          have h5 := bdT_at n hT s' r (by omega) hr
          have h6 := bdT_at n hT s r hs hr
          rw [e4, h6] at h5
          omega
  · rintro f τ ⟨p1, p2⟩
    refine ⟨τ, ?_, p1, p2⟩
    show f_R_keepLower_L2 (nI n) v2 K (f + 1) (nI n) τ = _
    rw [f_R_keepLower_L2.eq_2]
    rw [if_neg (nI_nlt (Nat.le_refl _) (by omega))]
end RW
