/-! areMates -/
def UP (S1 S2 : Nat → Nat) (i : Nat) : Prop := ∀ a b, a < i → b < a → ¬ (S1 a = S1 b ∧ S2 a = S2 b)
theorem UP.next {S1 S2 : Nat → Nat} {i : Nat} (h : UP S1 S2 i) : UP S1 S2 (i + 1) ↔ ¬ ∃ b, b < i ∧ S1 i = S1 b ∧ S2 i = S2 b := by
  constructor
  · rintro h2 ⟨b, hb, e⟩; exact h2 i b (by omega) hb e
  · intro h2 a b ha hb e
    by_cases ea : a = i
    · subst ea; exact h2 ⟨b, hb, e⟩
    · exact h a b (by omega) hb e
theorem UP.mono {S1 S2 : Nat → Nat} {i j : Nat} (h : UP S1 S2 j) (hij : i ≤ j) : UP S1 S2 i := fun a b ha hb => h a b (by omega) hb
theorem ex_next {i : Nat} {p : Nat → Prop} : (∃ a, a < i + 1 ∧ p a) ↔ (∃ a, a < i ∧ p a) ∨ p i := by
  constructor
  · rintro ⟨a, h1, h2⟩
    by_cases e : a = i
    · rw [e] at h2; exact Or.inr h2
    · exact Or.inl ⟨a, by omega, h2⟩
  · rintro (⟨a, h1, h2⟩ | h)
    · exact ⟨a, by omega, h2⟩
    · exact ⟨i, by omega, h⟩
theorem dB_or {p q : Prop} : dB (p ∨ q) = (dB p || dB q) := by
  by_cases h : p
  · rw [dB_t h, dB_t (Or.inl h)]; rfl
  · by_cases h2 : q
    · rw [dB_t h2, dB_t (Or.inr h2), Bool.or_true]
    · rw [dB_f h, dB_f h2, dB_f (fun h3 => h3.elim h h2)]; rfl
section AM
variable {σ : St} {k l n : Nat} {B C : Bd}
def S1 (n : Nat) (B : Bd) (i : Nat) : Nat := sg B (i / n) (i % n)
def Seen (m : Nat) (s1 s2 : Nat → Nat) (i : Nat) (q : Nat → Bool) (top : Nat) : Prop := ∀ x, x < top → q x = dB (∃ a, a < i ∧ m * s1 a + s2 a = x)
theorem unl_ok (h : GOK σ k n B) (h' : GOK σ l n C) (hs : SQ n B) (hs' : SQ n C) : f_Mating_haveUnlikePairs σ k l = some (bI (dB (UP (S1 n B) (S1 n C) (n * n)))) := by
  have hn := h.le
  have ho := h.ord
  have dm : ∀ r c, c < n → (n * r + c) / n = r ∧ (n * r + c) % n = c := fun r c hc => ⟨by rw [Nat.mul_add_div (by omega), Nat.div_eq_of_lt hc, Nat.add_zero], by rw [Nat.mul_add_mod, Nat.mod_eq_of_lt hc]⟩
  have hle : ∀ r c, r < n → c < n → n * r + c + 1 ≤ n * n := by
    intro r c hr hc
    have h1 : n * (r + 1) ≤ n * n := Nat.mul_le_mul_left _ hr
    rw [Nat.mul_succ] at h1; omega
  have hlt5 : ∀ a, a < n * n → S1 n B a < 5 ∧ S1 n C a < 5 := by
    intro a ha
    have h1 : a / n < n := Nat.div_lt_of_lt_mul ha
    have h2 : a % n < n := Nat.mod_lt _ (by omega)
    have := hs.lt h1 h2
    have := hs'.lt h1 h2
    unfold S1
    omega
  unfold f_Mating_haveUnlikePairs
  have inner : ∀ (K : Int32 → Option Int32) (r : Nat), r < n → ∀ x : Int32, UP (S1 n B) (S1 n C) (n * r) → Seen 5 (S1 n B) (S1 n C) (n * r) (bt x) 31 → (f_Mating_haveUnlikePairs_L15 k l (nI r) σ K FU x 0 = some 0 ∧ ¬ UP (S1 n B) (S1 n C) (n * n)) ∨ ∃ y, f_Mating_haveUnlikePairs_L15 k l (nI r) σ K FU x 0 = K y ∧ UP (S1 n B) (S1 n C) (n * r + n) ∧ Seen 5 (S1 n B) (S1 n C) (n * r + n) (bt y) 31 := by
    intro K r hr x hU hS
    refine loopE (fun m i (x : Int32) => f_Mating_haveUnlikePairs_L15 k l (nI r) σ K m x (nI i)) n
      (fun c x => UP (S1 n B) (S1 n C) (n * r + c) ∧ Seen 5 (S1 n B) (S1 n C) (n * r + c) (bt x) 31)
      (fun R => (R = some 0 ∧ ¬ UP (S1 n B) (S1 n C) (n * n)) ∨ ∃ y, R = K y ∧ UP (S1 n B) (S1 n C) (n * r + n) ∧ Seen 5 (S1 n B) (S1 n C) (n * r + n) (bt y) 31) ?_ ?_ FU 0 x (by omega) (FU_gt (by omega)) ⟨hU, hS⟩
    · rintro m c x hc ⟨p1, p2⟩
      have hb := hs.lt hr hc
      have hb' := hs'.lt hr hc
      have eB : S1 n B (n * r + c) = sg B r c := by unfold S1; rw [(dm r c hc).1, (dm r c hc).2]
      have eC : S1 n C (n * r + c) = sg C r c := by unfold S1; rw [(dm r c hc).1, (dm r c hc).2]
      have hiff : (∃ b, b < n * r + c ∧ 5 * S1 n B b + S1 n C b = 5 * sg B r c + sg C r c) ↔ ∃ b, b < n * r + c ∧ S1 n B (n * r + c) = S1 n B b ∧ S1 n C (n * r + c) = S1 n C b := by
        constructor
        · rintro ⟨b, h1, h2⟩
          have := hlt5 b (by have := hle r c hr hc; omega)
          exact ⟨b, h1, by rw [eB]; omega, by rw [eC]; omega⟩
        · rintro ⟨b, h1, h2, h3⟩
          exact ⟨b, h1, by rw [← eB, ← eC, h2, h3]⟩
      have hq := p2 (5 * sg B r c + sg C r c) (by omega)
      have e0 : f_Mating_haveUnlikePairs_L15 k l (nI r) σ K (m + 1) x (nI c) = if bI (bt x (5 * sg B r c + sg C r c)) = 0 then f_Mating_haveUnlikePairs_L15 k l (nI r) σ K m (x ||| (1 <<< (nI (5 * sg B r c + sg C r c) &&& 31))) (nI (c + 1)) else some 0 := by
        rw [f_Mating_haveUnlikePairs_L15.eq_2]
        rw [ho, if_pos (nI_lt hc (by omega)), sq_sign h hs hr hc, cap_some, sq_sign h' hs' hr hc, cap_some, lt1_eq, show (5 : Int32) = nI 5 from rfl, nI_mul, nI_add, bt_isIn _ (by omega), cap_some, lt1_eq, nI_1]
      by_cases hex : ∃ b, b < n * r + c ∧ S1 n B (n * r + c) = S1 n B b ∧ S1 n C (n * r + c) = S1 n C b
      · refine Or.inl (Or.inl ⟨?_, fun hup => ?_⟩)
        · show f_Mating_haveUnlikePairs_L15 k l (nI r) σ K (m + 1) x (nI c) = _
          rw [e0, hq, dB_t (hiff.mpr hex), if_neg (by decide)]
        · exact (p1.next.mp (hup.mono (hle r c hr hc))) hex
      · refine Or.inr ⟨x ||| (1 <<< (nI (5 * sg B r c + sg C r c) &&& 31)), ?_, p1.next.mpr hex, fun z hz => ?_⟩
        · show f_Mating_haveUnlikePairs_L15 k l (nI r) σ K (m + 1) x (nI c) = _
          rw [e0, hq, dB_f (fun h => hex (hiff.mp h)), if_pos (by rfl)]
        · rw [bt_or, bt_one (by omega), p2 z hz, show (∃ a, a < n * r + (c + 1) ∧ 5 * S1 n B a + S1 n C a = z) = (∃ a, a < (n * r + c) + 1 ∧ 5 * S1 n B a + S1 n C a = z) from rfl, dB_cong (ex_next (p := fun a => 5 * S1 n B a + S1 n C a = z)), dB_or]
          congr 1
          apply b_dB
          rw [decide_eq_true_iff, eB, eC]
          exact ⟨fun h => h.symm, fun h => h.symm⟩
    · rintro m x ⟨p1, p2⟩
      refine Or.inr ⟨x, ?_, p1, p2⟩
      show f_Mating_haveUnlikePairs_L15 k l (nI r) σ K (m + 1) x (nI n) = _
      rw [f_Mating_haveUnlikePairs_L15.eq_2]
      rw [ho, if_neg (nI_nlt (Nat.le_refl _) (by omega))]
  refine loopE (fun m i (x : Int32) => f_Mating_haveUnlikePairs_L4 k l σ m x (nI i)) n
    (fun r x => UP (S1 n B) (S1 n C) (n * r) ∧ Seen 5 (S1 n B) (S1 n C) (n * r) (bt x) 31)
    (fun R => R = some (bI (dB (UP (S1 n B) (S1 n C) (n * n))))) ?_ ?_ FU 0 0 (by omega) (FU_gt (by omega)) ⟨fun a b ha => absurd ha (Nat.not_lt_zero a), fun x hx => by rw [bt_0, dB_f (fun ⟨a, ha, _⟩ => Nat.not_lt_zero a ha)]⟩
  · rintro m r x hr ⟨p1, p2⟩
    rcases inner (fun (v2_9 : Int32) => f_Mating_haveUnlikePairs_L4 k l σ m v2_9 (nI r + 1)) r hr x p1 p2 with ⟨e, hno⟩ | ⟨y, e, q1, q2⟩
    · refine Or.inl ?_
      show f_Mating_haveUnlikePairs_L4 k l σ (m + 1) x (nI r) = _
      rw [f_Mating_haveUnlikePairs_L4.eq_2]
      rw [ho, if_pos (nI_lt hr (by omega)), e, dB_f hno]
      rfl
    · refine Or.inr ⟨y, ?_, by rw [Nat.mul_succ]; exact q1, by rw [Nat.mul_succ]; exact q2⟩
      show f_Mating_haveUnlikePairs_L4 k l σ (m + 1) x (nI r) = _
      rw [f_Mating_haveUnlikePairs_L4.eq_2]
      rw [ho, if_pos (nI_lt hr (by omega)), e, nI_1]
  · rintro m x ⟨p1, p2⟩
    show f_Mating_haveUnlikePairs_L4 k l σ (m + 1) x (nI n) = _
    rw [f_Mating_haveUnlikePairs_L4.eq_2]
    rw [ho, if_neg (nI_nlt (Nat.le_refl _) (by omega)), dB_t p1]
    rfl
end AM
section RAM
variable {σ : St} {M : Nat} {N : Nat → Nat} {B : Nat → Bd}
theorem r94 (v1 v2 v3 v4 : Int32) (K : St → Option (Int32 × St)) : ∃ τ, f_R_areMates_L94 v1 v2 v3 v4 K FU 0 σ = K τ ∧ (∀ i, i < 25 → τ 99 i = 0) ∧ Frx 99 σ τ := by
  refine loopE (fun m i (τ : St) => f_R_areMates_L94 v1 v2 v3 v4 K m (nI i) τ) 25
    (fun i τ => (∀ i', i' < i → τ 99 i' = 0) ∧ Frx 99 σ τ)
    (fun R => ∃ τ, R = K τ ∧ (∀ i, i < 25 → τ 99 i = 0) ∧ Frx 99 σ τ) ?_ ?_ FU 0 _ (by omega) (FU_gt (by decide)) ⟨fun j hj => by omega, fun m hm => rfl⟩
  · intro m i τ hi ⟨p3, p4⟩
    refine Or.inr ⟨wr τ 99 i (zb 0), ?_, fun i' hi' => ?_, fun m' hm => ?_⟩
    · show f_R_areMates_L94 v1 v2 v3 v4 K (m + 1) (nI i) τ = _
      rw [f_R_areMates_L94.eq_2]
      rw [if_pos (show nI i < 25 from nI_lt hi (by decide)), asz_nI (by omega) (by decide), nI_1]
    · rw [wr_get]
      by_cases hji : i' = i
      · rw [if_pos ⟨rfl, hji⟩]; rfl
      · rw [if_neg (by omega)]; exact p3 i' (by omega)
    · rw [wr_fn hm]; exact p4 m' hm
  · intro m τ ⟨p3, p4⟩
    refine ⟨τ, ?_, p3, p4⟩
    show f_R_areMates_L94 v1 v2 v3 v4 K (m + 1) (nI 25) τ = _
    rw [f_R_areMates_L94.eq_2]
    rw [if_neg (show ¬ nI 25 < 25 by decide)]
theorem r118 (h : MW σ M N B) {i j : Nat} (hi : i < M) (hj : j < M) (e : N i = N j) (hs : SQ (N i) (B i)) (hs' : SQ (N j) (B j)) (h99 : ∀ k, k < 25 → σ 99 k = 0) (n : Nat) (hN : N i = n) (K : Int32 → St → Option (Int32 × St)) : ∃ τ, f_R_areMates_L118 (nI i) (nI j) (nI n) K FU 1 0 σ = K (bI (dB (UP (S1 n (B i)) (S1 n (B j)) (n * n)))) τ ∧ Frx 99 σ τ := by
  have hM := h.le
  have hn := h.n hi
  rw [← e] at hs'
  rw [hN] at hs hs' hn
  have h25 : n * n ≤ 25 := Nat.mul_le_mul hn.2 hn.2
  have hlt5 : ∀ a, a < n * n → S1 n (B i) a < n ∧ S1 n (B j) a < n := by
    intro a ha
    have h1 : a / n < n := Nat.div_lt_of_lt_mul ha
    have h2 : a % n < n := Nat.mod_lt _ (by omega)
    exact ⟨hs.lt h1 h2, hs'.lt h1 h2⟩
  refine loopE (fun m k (τ : St) => f_R_areMates_L118 (nI i) (nI j) (nI n) K m (bI (dB (UP (S1 n (B i)) (S1 n (B j)) k))) (nI k) τ) (n * n)
    (fun k τ => Seen n (S1 n (B i)) (S1 n (B j)) k (fun x => dB (τ 99 x ≠ 0)) 25 ∧ (∀ x, x < 25 → τ 99 x = 0 ∨ τ 99 x = 1) ∧ Frx 99 σ τ)
    (fun R => ∃ τ, R = K (bI (dB (UP (S1 n (B i)) (S1 n (B j)) (n * n)))) τ ∧ Frx 99 σ τ) ?_ ?_ FU 0 σ (by omega) (FU_gt (by omega)) ⟨fun x hx => ?_, fun x hx => Or.inl (h99 x hx), fun m _ => rfl⟩ |> fun A => by
      rw [dB_t (p := UP (S1 n (B i)) (S1 n (B j)) 0) (fun a b ha => absurd ha (Nat.not_lt_zero a))] at A
      exact A
  · rintro m k τ hk ⟨p1, p2, p3⟩
    have hr : k / n < n := Nat.div_lt_of_lt_mul hk
    have hc : k % n < n := Nat.mod_lt _ (by omega)
    have hbb := hlt5 k hk
    have c0 := ix25 hn.2 hbb.1 hbb.2
    have mwτ : MW τ M N B := h.fr ⟨fun m hm => p3 m (by omega), by rw [p3 82 (by omega)], by rw [p3 82 (by omega)]⟩
    have e1 := mwτ.ce hi (r := k / n) (c := k % n) (by omega) (by omega)
    have e2 := mwτ.ce hj (r := k / n) (c := k % n) (by omega) (by omega)
    rw [← e] at e2
    rw [hN, Nat.add_assoc, Nat.div_add_mod] at e1 e2
    rw [hs.ce hr hc] at e1
    rw [hs'.ce hr hc] at e2
    have e1 : τ 84 (25 * i + k) = nI (S1 n (B i) k) := e1
    have e2 : τ 84 (25 * j + k) = nI (S1 n (B j) k) := e2
    have hiff : (∃ b, b < k ∧ n * S1 n (B i) b + S1 n (B j) b = n * S1 n (B i) k + S1 n (B j) k) ↔ ∃ b, b < k ∧ S1 n (B i) k = S1 n (B i) b ∧ S1 n (B j) k = S1 n (B j) b := by
      constructor
      · rintro ⟨b, h1, h2⟩
        have := idx_inj (hlt5 b (by omega)).2 hbb.2 h2
        exact ⟨b, h1, this.1.symm, this.2.symm⟩
      · rintro ⟨b, h1, h2, h3⟩
        exact ⟨b, h1, by rw [h2, h3]⟩
    have hup : UP (S1 n (B i)) (S1 n (B j)) (k + 1) ↔ UP (S1 n (B i)) (S1 n (B j)) k ∧ ¬ ∃ b, b < k ∧ n * S1 n (B i) b + S1 n (B j) b = n * S1 n (B i) k + S1 n (B j) k := by
      rw [hiff]
      constructor
      · intro h; exact ⟨h.mono (by omega), (UP.next (h.mono (Nat.le_succ k))).mp h⟩
      · rintro ⟨h1, h2⟩; exact h1.next.mpr h2
    have hq : dB (τ 99 (n * S1 n (B i) k + S1 n (B j) k) ≠ 0) = _ := p1 (n * S1 n (B i) k + S1 n (B j) k) c0
    refine Or.inr ⟨wr τ 99 (n * S1 n (B i) k + S1 n (B j) k) 1, ?_, fun x hx => ?_, fun x hx => ?_, fun m' hm' => by rw [wr_fn hm']; exact p3 m' hm'⟩
    · show f_R_areMates_L118 (nI i) (nI j) (nI n) K (m + 1) _ (nI k) τ = _
      rw [f_R_areMates_L118.eq_2]
      rw [nI_mul, if_pos (nI_lt hk (by omega)), show (25 : Int32) = nI 25 from rfl, nI_mul, nI_add, nI_mul, nI_add, ald_nI (by omega) (by decide), ald_nI (by omega) (by decide), e1, e2, lt1_eq, nI_mul, nI_add]
      simp only [jn_eq, nI_1]
      rw [ald_nI (by omega) (by decide), asz_nI (by omega) (by decide), asz_nI (by omega) (by decide), zb_1]
      rw [dB_cong hup, dB_and, dB_not, ← hq]
      cases dB (UP (S1 n (B i)) (S1 n (B j)) k)
      · rw [if_pos (by rfl)]; rfl
      · rw [if_neg (by decide)]
        by_cases h0 : τ 99 (n * S1 n (B i) k + S1 n (B j) k) = 0
        · rw [if_pos h0, dB_f (fun h => h h0)]; rfl
        · rw [if_neg h0, dB_t h0]; rfl
    · show dB (wr τ 99 _ 1 99 x ≠ 0) = _
      rw [dB_cong (ex_next (i := k) (p := fun a => n * S1 n (B i) a + S1 n (B j) a = x)), dB_or, ← p1 x hx]
      by_cases ex : x = n * S1 n (B i) k + S1 n (B j) k
      · subst ex
        rw [wr_at, dB_t (by decide), dB_t (p := n * S1 n (B i) k + S1 n (B j) k = n * S1 n (B i) k + S1 n (B j) k) rfl, Bool.or_true]
      · rw [wr_get, if_neg (by omega), dB_f (p := n * S1 n (B i) k + S1 n (B j) k = x) (fun h => ex h.symm), Bool.or_false]
    · rw [wr_get]
      split
      · exact Or.inr rfl
      · exact p2 x hx
  · rintro m τ ⟨p1, p2, p3⟩
    refine ⟨τ, ?_, p3⟩
    show f_R_areMates_L118 (nI i) (nI j) (nI n) K (m + 1) _ (nI (n * n)) τ = _
    rw [f_R_areMates_L118.eq_2]
    rw [nI_mul, if_neg (nI_nlt (Nat.le_refl _) (by omega))]
  · show dB (σ 99 x ≠ 0) = _
    rw [h99 x hx, dB_f (fun h => h rfl), dB_f (fun ⟨a, ha, _⟩ => Nat.not_lt_zero a ha)]
end RAM
def rb (o : Option (Int32 × St)) : Option (Int32 × St) := match o with
  | some (v, σ) => some ((if v = 0 then 0 else 1), σ)
  | none => none
theorem ok_areMates : Ok_areMates Inv := by
  intro σ hI p0 p1
  have main : ∃ (k b9 : Int32) (σ1 σ2 : St), wv cd_areMates (bo (f_Q_areMates σ p0 p1)) = some (k, σ1) ∧ rb (f_R_areMates σ1 p0 p1) = some (b9, σ2) ∧ σ2 82 0 = k ∧ (k = 0 → σ2 103 0 = b9) ∧ Inv σ2 := by
    refine op_rd hI (Q := fun σ => bo (f_Q_areMates σ p0 p1)) (R := fun σ => rb (f_R_areMates σ p0 p1)) (fun M N B cw mt ct => ?_)
    have hM12 := cw.le
    rcases g_cases M cw.le p0 with ⟨i, hi, rfl⟩ | hx
    · have hG := cw.g hi
      rcases g_cases M cw.le p1 with ⟨j, hj, rfl⟩ | hx
      · have hG2 := cw.g hj
        have n1 := hG.le
        have n2 := hG2.le
        have q0 : f_Q_areMates σ (nI i) (nI j) = if (full (N i) (B i) && full (N j) (B j)) = true then (if N i = N j then cap (f_Mating_haveUnlikePairs σ (gid i) (gid j)) fun r_16 => if r_16 = 0 then some (.ok 0, σ) else some (.ok 1, σ) else some (.ok 0, σ)) else some (.error 3, σ) := by
          unfold f_Q_areMates
          rw [gridAt_in cw hi, cax_ok, gridAt_in cw hj, cax_ok, sq_ok hG, sq_ok hG2, cap_some, jn_eq, jn_eq, cap_some]
          cases full (N i) (B i)
          · rfl
          · rw [if_neg (by decide)]
            cases full (N j) (B j)
            · rfl
            · rw [if_neg (by decide)]
              show cax (f_Q_needState σ 1) _ = _
              rw [nst1, cax_ok, jn_eq, hG.ord, hG2.ord, if_pos (show (true && true) = true from rfl)]
              by_cases e : N i = N j
              · rw [if_pos (show nI (N i) = nI (N j) by rw [e]), if_pos e]
              · rw [if_neg (show ¬ nI (N i) = nI (N j) by rw [eq_nI (by omega) (by omega)]; exact e), if_neg e]
        have r0 : ∀ σ1 : St, MW σ1 M N B → ∃ τ, FrK σ1 τ ∧ τ 82 0 = (if (full (N i) (B i) && full (N j) (B j)) = true then 0 else 2) ∧ f_R_areMates σ1 (nI i) (nI j) = if τ 82 0 ≤ 0 then (if N i = N j then f_R_areMates_L94 (nI i) (nI j) (nI (N i)) 1 (fun (σ_12 : St) => f_R_areMates_L118 (nI i) (nI j) (nI (N i)) (fun (v4_21 : Int32) (σ_22 : St) => some ((zb v4_21), σ_22)) FU 1 0 σ_12) FU 0 τ else some (0, τ)) else some (0, τ) := by
          intro σ1 mw
          have hM := mw.le
          refine ⟨wr (wr σ1 82 0 0) 82 0 (if (full (N i) (B i) && full (N j) (B j)) = true then 0 else 2), FrK.t.trans FrK.t, wr_at, ?_⟩
          unfold f_R_areMates
          rw [rgrid_in mw hi, rgrid_in mw hj, cap_some, jn_eq, jn_eq, if_neg (show ¬ (1 : Int32) = 0 by decide), cap_some, if_neg (show ¬ (1 : Int32) = 0 by decide)]
          show sto σ1 82 0 0 _ = _
          rw [sto_eq, jn_eq, wr_at, if_pos (show (0 : Int32) = 0 from rfl), rsq_ok (mw.k FrK.t) hi, rsq_ok (mw.k FrK.t) hj, cap_some, jn_eq, jn_eq, cap_some]
          have key : ∀ s : Int32, (sto (wr σ1 82 0 0) 82 0 s fun σ_27 => (fun (σ_7 : St) => if (σ_7 82 0) ≤ 0 then ald σ_7 83 12 (nI i) fun r_8 => ald σ_7 83 12 (nI j) fun r_9 => if r_8 = r_9 then ald σ_7 83 12 (nI i) fun r_10 => f_R_areMates_L94 (nI i) (nI j) r_10 1 (fun (σ_12 : St) => f_R_areMates_L118 (nI i) (nI j) r_10 (fun (v4_21 : Int32) (σ_22 : St) => some ((zb v4_21), σ_22)) FU 1 0 σ_12) FU 0 σ_7 else some (0, σ_7) else some (0, σ_7)) σ_27) = if wr (wr σ1 82 0 0) 82 0 s 82 0 ≤ 0 then (if N i = N j then f_R_areMates_L94 (nI i) (nI j) (nI (N i)) 1 (fun (σ_12 : St) => f_R_areMates_L118 (nI i) (nI j) (nI (N i)) (fun (v4_21 : Int32) (σ_22 : St) => some ((zb v4_21), σ_22)) FU 1 0 σ_12) FU 0 (wr (wr σ1 82 0 0) 82 0 s) else some (0, (wr (wr σ1 82 0 0) 82 0 s))) else some (0, (wr (wr σ1 82 0 0) 82 0 s)) := by
            intro s
            have ei : wr (wr σ1 82 0 0) 82 0 s 83 i = nI (N i) := by rw [wr_fn (by omega), wr_fn (by omega), mw.od hi]
            have ej : wr (wr σ1 82 0 0) 82 0 s 83 j = nI (N j) := by rw [wr_fn (by omega), wr_fn (by omega), mw.od hj]
            rw [sto_eq]
            show (if wr (wr σ1 82 0 0) 82 0 s 82 0 ≤ 0 then ald (wr (wr σ1 82 0 0) 82 0 s) 83 12 (nI i) _ else _) = _
            rw [ald_nI (by omega) (by decide), ald_nI (by omega) (by decide), ald_nI (by omega) (by decide), ei, ej]
            by_cases e : N i = N j
            · rw [if_pos (show nI (N i) = nI (N j) by rw [e]), if_pos e]
            · rw [if_neg (show ¬ nI (N i) = nI (N j) by rw [eq_nI (by omega) (by omega)]; exact e), if_neg e]
          cases full (N i) (B i)
          · rw [if_pos (by rfl)]
            exact key 2
          · rw [if_neg (show ¬ bI true = 0 by decide)]
            cases full (N j) (B j)
            · rw [if_pos (by rfl)]
              exact key 2
            · rw [if_neg (show ¬ bI true = 0 by decide)]
              exact key 0
        cases hf : (full (N i) (B i) && full (N j) (B j))
        · refine rd_err 3 2 (σ' := σ) ?_ (FrC.refl σ) (by decide) (fun σ1 mw _ => ?_)
          · show bo (f_Q_areMates σ (nI i) (nI j)) = _
            rw [q0, hf]; rfl
          · obtain ⟨τ, k, h0, e3⟩ := r0 σ1 mw
            rw [hf] at h0
            have h0 : τ 82 0 = 2 := h0
            refine ⟨0, τ, ?_, k, h0⟩
            show rb (f_R_areMates σ1 (nI i) (nI j)) = _
            rw [e3, h0, if_neg (by decide)]
            rfl
        · obtain ⟨hf1, hf2⟩ := Bool.and_eq_true_iff.mp hf
          have hs := full_sq hG.1 hf1
          have hs2 := full_sq hG2.1 hf2
          by_cases e : N i = N j
          · have hG2' := hG2
            have hs2' := hs2
            rw [← e] at hG2' hs2'
            refine rd_k (bI (dB (UP (S1 (N i) (B i)) (S1 (N i) (B j)) (N i * N i)))) (σ' := σ) ?_ (FrC.refl σ) (fun σ1 mw => ?_)
            · show bo (f_Q_areMates σ (nI i) (nI j)) = _
              rw [q0, hf, if_pos rfl, if_pos e, unl_ok hG hG2' hs hs2', cap_some]
              cases dB (UP (S1 (N i) (B i)) (S1 (N i) (B j)) (N i * N i)) <;> rfl
            · obtain ⟨τ, k, h0, e3⟩ := r0 σ1 mw
              rw [hf, if_pos rfl] at h0
              obtain ⟨υ, e4, h99, f4⟩ := r94 (σ := τ) (nI i) (nI j) (nI (N i)) 1 (fun (σ_12 : St) => f_R_areMates_L118 (nI i) (nI j) (nI (N i)) (fun (v4_21 : Int32) (σ_22 : St) => some ((zb v4_21), σ_22)) FU 1 0 σ_12)
              have k4 : FrK τ υ := ⟨fun m hm => f4 m (by omega), fun s _ => by rw [f4 82 (by omega)]⟩
              obtain ⟨φ, e5, f5⟩ := r118 ((mw.k k).k k4) hi hj e hs hs2 h99 (N i) rfl (fun (v4_21 : Int32) (σ_22 : St) => some ((zb v4_21), σ_22))
              have k5 : FrK υ φ := ⟨fun m hm => f5 m (by omega), fun s _ => by rw [f5 82 (by omega)]⟩
              refine ⟨φ, ?_, (k.trans k4).trans k5, by rw [f5 82 (by omega), f4 82 (by omega), h0]⟩
              show rb (f_R_areMates σ1 (nI i) (nI j)) = _
              rw [e3, h0, if_pos (by decide), if_pos e, e4, e5, zb_bI]
              cases dB (UP (S1 (N i) (B i)) (S1 (N i) (B j)) (N i * N i)) <;> rfl
          · refine rd_k 0 (σ' := σ) ?_ (FrC.refl σ) (fun σ1 mw => ?_)
            · show bo (f_Q_areMates σ (nI i) (nI j)) = _
              rw [q0, hf, if_pos rfl, if_neg e]; rfl
            · obtain ⟨τ, k, h0, e3⟩ := r0 σ1 mw
              rw [hf, if_pos rfl] at h0
              refine ⟨τ, ?_, k, h0⟩
              show rb (f_R_areMates σ1 (nI i) (nI j)) = _
              rw [e3, h0, if_pos (by decide), if_neg e]
              rfl
      · refine rd_err 1 1 (σ' := σ) ?_ (FrC.refl σ) (by decide) (fun σ1 mw _ => ⟨0, wr σ1 82 0 1, ?_, FrK.t, rfl⟩)
        · show bo (f_Q_areMates σ _ _) = _
          unfold f_Q_areMates
          rw [gridAt_in cw hi, cax_ok, gridAt_out cw hx, cax_er]
          rfl
        · show rb (f_R_areMates σ1 _ _) = _
          have : f_R_areMates σ1 (nI i) p1 = some (0, wr σ1 82 0 1) := by
            unfold f_R_areMates
            rw [rgrid_in mw hi, rgrid_out mw hx, cap_some, jn_eq, jn_eq, if_neg (show ¬ (1 : Int32) = 0 by decide), cap_some, if_pos rfl]
            show sto σ1 82 0 1 _ = _
            rw [sto_eq, jn_eq, wr_at, if_neg (by decide)]
            show (if wr σ1 82 0 1 82 0 ≤ 0 then _ else _) = _
            rw [wr_at, if_neg (by decide)]
          rw [this]; rfl
    · refine rd_err 1 1 (σ' := σ) ?_ (FrC.refl σ) (by decide) (fun σ1 mw _ => ⟨0, wr σ1 82 0 1, ?_, FrK.t, rfl⟩)
      · show bo (f_Q_areMates σ _ _) = _
        unfold f_Q_areMates
        rw [gridAt_out cw hx, cax_er]
        rfl
      · show rb (f_R_areMates σ1 _ _) = _
        have : f_R_areMates σ1 p0 p1 = some (0, wr σ1 82 0 1) := by
          unfold f_R_areMates
          rw [rgrid_out mw hx, cap_some, jn_eq, jn_eq, if_pos rfl]
          show sto σ1 82 0 1 _ = _
          rw [sto_eq, jn_eq, wr_at, if_neg (by decide)]
          show (if wr σ1 82 0 1 82 0 ≤ 0 then _ else _) = _
          rw [wr_at, if_neg (by decide)]
        rw [this]; rfl
  obtain ⟨k, b9, σ1, σ2, e1, e2, e3, e4, e5⟩ := main
  cases hR : f_R_areMates σ1 p0 p1 with
  | none => rw [hR] at e2; cases e2
  | some p =>
    obtain ⟨v, τ⟩ := p
    rw [hR] at e2
    have e2 : some ((if v = 0 then (0 : Int32) else 1), τ) = some (b9, σ2) := e2
    have h1 := Option.some.inj e2
    have h2 : (if v = 0 then (0 : Int32) else 1) = b9 := congrArg Prod.fst h1
    have h3 : τ = σ2 := congrArg Prod.snd h1
    subst h3
    exact ⟨k, v, σ1, τ, e1, hR, e3, fun hk => by rw [e4 hk, ← h2], e5⟩
