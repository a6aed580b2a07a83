/-! mates, the reference keeps the lowest of those it has seen -/
section RA
variable {n : Nat}
theorem ltR_irr {X : Bd} : ¬ ltR n X X := fun ⟨x, _, _, h⟩ => Nat.lt_irrefl _ h
theorem ltR_tr {X Y Z : Bd} (h1 : ltR n X Y) (h2 : ltR n Y Z) : ltR n X Z := by
  obtain ⟨x, hx, a1, a2⟩ := h1
  obtain ⟨y, hy, b1, b2⟩ := h2
  rcases Nat.lt_trichotomy x y with h | h | h
  · exact ⟨x, hx, fun z hz => by rw [a1 z hz, b1 z (by omega)], by rw [← b1 x h]; exact a2⟩
  · subst h
    exact ⟨x, hx, fun z hz => by rw [a1 z hz, b1 z hz], Nat.lt_trans a2 b2⟩
  · exact ⟨y, hy, fun z hz => by rw [a1 z (by omega), b1 z hz], by rw [a1 y h]; exact b2⟩
theorem LOWR_one {X : Bd} : LOWR n [X] X := ⟨List.mem_singleton.mpr rfl, fun Y hY => by rw [List.mem_singleton.mp hY]; exact ltR_irr⟩
theorem LOWR_keep {P : List Bd} {m X : Bd} (h : LOWR n P m) (hx : ¬ ltR n X m) : LOWR n (P ++ [X]) m := by
  refine ⟨List.mem_append_left _ h.1, fun Y hY => ?_⟩
  rcases List.mem_append.mp hY with h1 | h1
  · exact h.2 Y h1
  · rw [List.mem_singleton.mp h1]; exact hx
theorem LOWR_new {P : List Bd} {m X : Bd} (h : LOWR n P m) (hx : ltR n X m) : LOWR n (P ++ [X]) X := by
  refine ⟨List.mem_append_right _ (List.mem_singleton.mpr rfl), fun Y hY => ?_⟩
  rcases List.mem_append.mp hY with h1 | h1
  · exact fun h2 => h.2 Y h1 (ltR_tr h2 hx)
  · rw [List.mem_singleton.mp h1]; exact ltR_irr
def ARm (σ : St) (n : Nat) (P : List Bd) : Prop := P ≠ [] → ∃ m, LOWR n P m ∧ (∀ r k, m r k ≤ 5) ∧ ∀ x, x < n * n → σ 93 x = ce (clR n m x)
theorem ARm.fr {σ τ : St} {P : List Bd} (h : ARm σ n P) (e : ∀ s, τ 93 s = σ 93 s) : ARm τ n P := fun hne => by
  obtain ⟨m, a, b, c⟩ := h hne
  exact ⟨m, a, b, fun x hx => by rw [e]; exact c x hx⟩
def SMr (σ : St) (n : Nat) (L : List Nat) (c : Nat) (ch : Nat → Nat) : Prop := LA σ n ∧ Lst 97 σ L ∧ σ 82 22 = nI L.length ∧ RC σ L c ch
theorem SMr.fr {σ τ : St} {L : List Nat} {c : Nat} {ch : Nat → Nat} (h : SMr σ n L c ch) (e : ∀ o, o ≠ 91 → o ≠ 93 → o ≠ 98 → τ o = σ o) (e2 : ∀ i, i < c → τ 98 i = σ 98 i) : SMr τ n L c ch := by
  obtain ⟨h1, h2, h3, h4⟩ := h
  refine ⟨h1.fr (by rw [e 82 (by omega) (by omega) (by omega)]) (by rw [e 82 (by omega) (by omega) (by omega)]) (e 89 (by omega) (by omega) (by omega)), h2.fr (fun i => by rw [e 97 (by omega) (by omega) (by omega)]), by rw [e 82 (by omega) (by omega) (by omega)]; exact h3, fun i hi => ?_⟩
  obtain ⟨x, a, b⟩ := h4 i hi
  exact ⟨x, by rw [e2 i hi]; exact a, b⟩
theorem SMr.le {σ : St} {L : List Nat} {c d : Nat} {ch : Nat → Nat} (h : SMr σ n L d ch) (hc : c ≤ d) : SMr σ n L c ch := ⟨h.1, h.2.1, h.2.2.1, fun i hi => h.2.2.2 i (by omega)⟩
/-- one more mate is found -/
theorem mate_one {σ : St} {L : List Nat} {ch : Nat → Nat} {P : List Bd} (h2 : n ≤ 5) (hn : 2 ≤ n) (hL : ∀ i, i ∈ L → i < facN n) (hLl : L.length ≤ 120) (sm : SMr σ n L n ch) (hT : HT (lp n) n ch n) (ar : ARm σ n P) (hP : P.length < 2 ^ 31) (K : Int32 → St → Option (Int32 × St)) : ∃ τ, (∀ m, f_R_matesOf_L24 (nI n) K (m + 1) (nI P.length) (nI n) σ = f_R_matesOf_L24 (nI n) K m (nI (P ++ [bdT (lp n) n ch n]).length) (nI n + -1) τ) ∧ ARm τ n (P ++ [bdT (lp n) n ch n]) ∧ ∀ o, o ≠ 91 → o ≠ 93 → τ o = σ o := by
  obtain ⟨la, l97, h22, rc⟩ := sm
  have hp : ∀ s, s < n → PM n (lp n (ch s)) := fun s hs => by
    obtain ⟨x, _, hx⟩ := rc s hs
    exact lp_pm hn h2 (hL _ (List.mem_iff_getElem?.mpr ⟨x, hx⟩))
  have hX : ∀ r k, bdT (lp n) n ch n r k ≤ 5 := fun r k => (bdT_wf hn h2 hp).bd r k
  generalize hb : decide (P.length = 0) = b
  obtain ⟨τ, e, f, t1, t2⟩ := keepR_ok h2 la l97 hL hLl hn rc hT b
  refine ⟨τ, fun m => ?_, ?_, f⟩
  · rw [f_R_matesOf_L24.eq_2, if_neg (nI_pos (by omega)), if_pos rfl]
    simp only [jn_eq]
    rw [List.length_append, List.length_singleton, ← nI_1]
    cases b
    · have hb := of_decide_eq_false hb
      rw [if_neg (show ¬ nI P.length = 0 by rw [show (0 : Int32) = nI 0 from rfl, eq_nI hP (by omega)]; exact hb)]
      show cal (f_R_keepLower σ (nI n) (bI false)) _ = _
      rw [e, cal_some]
    · have hb := of_decide_eq_true hb
      rw [if_pos (show nI P.length = 0 by rw [hb]; rfl)]
      show cal (f_R_keepLower σ (nI n) (bI true)) _ = _
      rw [e, cal_some]
  · intro _
    cases b
    · have hb := of_decide_eq_false hb
      obtain ⟨m, lo, m5, mc⟩ := ar (fun h => hb (by rw [h]; rfl))
      obtain ⟨u1, u2⟩ := t2 rfl m m5 mc
      by_cases hlt : ltR n (bdT (lp n) n ch n) m
      · exact ⟨_, LOWR_new lo hlt, hX, u1 hlt⟩
      · exact ⟨m, LOWR_keep lo hlt, m5, u2 hlt⟩
    · have hb := of_decide_eq_true hb
      have : P = [] := List.length_eq_zero_iff.mp hb
      subst this
      exact ⟨_, LOWR_one, hX, t1 rfl⟩
end RA
