/-! the game -/
def GW (n : Nat) : Nat → Bd → Prop
  | 0, _ => False
  | e + 1, B => ∃ i, i < n * n * n ∧ opt n B (i / n / n) (i / n % n) (i % n) = true ∧ ¬ GW n e (upB B (i / n / n) (i / n % n) (i % n + 1))
def wP (n e : Nat) (B : Bd) (r c s : Nat) : Prop := opt n B r c s = true ∧ ¬ GW n (e - 1) (upB B r c (s + 1))
theorem GW_iff {n e : Nat} {B : Bd} (he : e = 0 → ∀ r c s, r < n → c < n → opt n B r c s = false) (hn : 0 < n) : GW n e B ↔ ∃ i, i < n * n * n ∧ wP n e B (i / n / n) (i / n % n) (i % n) := by
  cases e with
  | zero =>
    constructor
    · intro h; exact h.elim
    · rintro ⟨i, hi, h, _⟩
      have h1 : i / n / n < n := Nat.div_lt_of_lt_mul (Nat.div_lt_of_lt_mul (by rw [← Nat.mul_assoc]; exact hi))
      rw [he rfl _ _ _ h1 (Nat.mod_lt _ hn)] at h; cases h
  | succ e => exact Iff.rfl
section WIN
variable {n k : Nat}
def GJ (k n : Nat) (C : Bd) (σ τ : St) : Prop := GOK τ k n C ∧ ∀ m, m < k ∨ k + 3 < m → τ m = σ m
theorem winsBy_ok {rec : St → Nat → Int32 → Option (Int32 × St)} {C : Bd} {σ : St} {depth e : Nat} (hc0 : n * n - cnt C = e)
    (hrec : ∀ (D : Bd) (τ : St), GOK τ k n D → n * n - cnt D + 1 = e → FstS (n * n * n) (fun i => wP n (e - 1) D (i / n / n) (i / n % n) (i % n)) (GJ k n D τ) (rec τ k (nI (depth + 1))) (fun i υ => some (nI (pk n i), υ)) (fun υ => some (-1, υ)))
    {r c s : Nat} (hr : r < n) (hc : c < n) (hs : s < n) {τ : St} (hG : GJ k n C σ τ) (ho : opt n C r c s = true) : ∃ τ', GJ k n C σ τ' ∧ f_Game_winsBy rec τ k (nI r) (nI c) (nI s) (nI depth) = some (bI (dB (wP n e C r c s)), τ') := by
  obtain ⟨p1, p2⟩ := hG
  have hn := p1.le
  have h0 : C r c = 0 := (opt_iff.mp ho).1
  have hw := p1.1.opt hr hc ho
  have hlt := cnt_opt p1.1 hr hc h0
  have hse := set_eq p1 hr hc (v := s + 1) (by omega)
  have hG2 := set_GOK p1 hr hc (v := s + 1) (by omega) hw
  rw [ce_s] at hse
  have hup := cnt_up (B := C) (r := r) (c := c) (v := s + 1) (by omega) (by omega)
  rw [if_pos h0, if_neg (by omega)] at hup
  have he1 : n * n - cnt (upB C r c (s + 1)) + 1 = e := by omega
  have hz : e - 1 = 0 → ∀ r' c' s', r' < n → c' < n → opt n (upB C r c (s + 1)) r' c' s' = false := by
    intro he r' c' s' hr' hc'
    apply Bool.eq_false_iff.mpr
    intro h
    have := cnt_opt hw hr' hc' (opt_iff.mp h).1
    omega
  have hgw := GW_iff hz (by omega)
  have fin : ∀ (υ : St), GJ k n (upB C r c (s + 1)) (setSt τ k r c (C r c) (s + 1)) υ → ∀ b : Bool, ∃ τ', GJ k n C σ τ' ∧ (cal (f_Grid_set υ k (nI r) (nI c) (-1)) fun r_10 σ_11 => some (zb (bI b), σ_11)) = some (bI b, τ') := by
    rintro υ ⟨g1, g2⟩ b
    have hse2 := set_eq g1 hr hc (v := 0) (by omega)
    have hG3 := set_GOK g1 hr hc (v := 0) (by omega) (hw.put0 r c)
    rw [upB_zero h0] at hG3
    rw [ce_0] at hse2
    exact ⟨_, ⟨hG3, fun m hm => by rw [setSt_fr hm, g2 m hm, setSt_fr hm, p2 m hm]⟩, by rw [hse2, cal_some, zb_bI]⟩
  unfold f_Game_winsBy
  rw [hse, cal_some, nI_1]
  rcases hrec (upB C r c (s + 1)) (setSt τ k r c (C r c) (s + 1)) hG2 he1 with ⟨υ, a, e1, a2⟩ | ⟨i, υ, a1, a2, a3, a, e1⟩
  · have e1 : rec (setSt τ k r c (C r c) (s + 1)) k (nI (depth + 1)) = some (-1, υ) := e1
    obtain ⟨τ', b1, b2⟩ := fin υ a true
    refine ⟨τ', b1, ?_⟩
    rw [e1, cal_some]
    simp only [jn_eq]
    rw [if_pos trivial, dB_t ⟨ho, fun h => by obtain ⟨i, h1, h2⟩ := hgw.mp h; exact a2 i h1 h2⟩]
    exact b2
  · have e1 : rec (setSt τ k r c (C r c) (s + 1)) k (nI (depth + 1)) = some (nI (pk n i), υ) := e1
    obtain ⟨τ', b1, b2⟩ := fin υ a false
    refine ⟨τ', b1, ?_⟩
    rw [e1, cal_some]
    simp only [jn_eq]
    have hi3 : i / n / n < n := Nat.div_lt_of_lt_mul (Nat.div_lt_of_lt_mul (by rw [← Nat.mul_assoc]; exact a1))
    have hi2 : i / n % n < n := Nat.mod_lt _ (by omega)
    have hi1 : i % n < n := Nat.mod_lt _ (by omega)
    rw [if_neg (nm1 (by unfold pk; omega)), dB_f (fun h => h.2 (hgw.mpr ⟨i, a1, a2⟩))]
    exact b2
theorem win39 {rec : St → Nat → Int32 → Option (Int32 × St)} {C : Bd} {σ : St} {depth e : Nat} (h1 : 2 ≤ n) (h2 : n ≤ 5) (hc0 : n * n - cnt C = e)
    (hrec : ∀ (D : Bd) (τ : St), GOK τ k n D → n * n - cnt D + 1 = e → FstS (n * n * n) (fun i => wP n (e - 1) D (i / n / n) (i / n % n) (i % n)) (GJ k n D τ) (rec τ k (nI (depth + 1))) (fun i υ => some (nI (pk n i), υ)) (fun υ => some (-1, υ)))
    {r c : Nat} (hr : r < n) (hc : c < n) (kA : Int32 → St → Option (Int32 × St)) (kB : St → Option (Int32 × St)) : ∀ τ, GJ k n C σ τ → FstS n (fun s => wP n e C r c s) (GJ k n C σ) (f_Game_winningFrom_L39 rec k (nI depth) (nI r) (nI c) (sI (opt n C r c)) kA kB FU 0 τ) (fun s τ => kA (nI s) τ) kB := by
  refine fstS_loop (fun m i τ => f_Game_winningFrom_L39 rec k (nI depth) (nI r) (nI c) (sI (opt n C r c)) kA kB m (nI i) τ) n (fun s => wP n e C r c s) (GJ k n C σ) (fun s τ => kA (nI s) τ) kB (by omega) ?_ ?_ ?_
  · intro m s τ hs hI hp
    have e0 : f_Game_winningFrom_L39 rec k (nI depth) (nI r) (nI c) (sI (opt n C r c)) kA kB (m + 1) (nI s) τ = if opt n C r c s = true then cal (f_Game_winsBy rec τ k (nI r) (nI c) (nI s) (nI depth)) fun r_8 σ_9 => if r_8 = 0 then f_Game_winningFrom_L39 rec k (nI depth) (nI r) (nI c) (sI (opt n C r c)) kA kB m (nI (s + 1)) σ_9 else kA (nI s) σ_9 else f_Game_winningFrom_L39 rec k (nI depth) (nI r) (nI c) (sI (opt n C r c)) kA kB m (nI (s + 1)) τ := by
      rw [f_Game_winningFrom_L39.eq_2]
      rw [hI.1.ord, if_pos (nI_lt hs (by omega)), isIn_opt hI.1 hs, cap_some, nI_1]
      simp only [jn_eq]
      cases opt n C r c s
      · rw [if_pos (by rfl), if_neg (by decide)]
      · rw [if_neg (by decide), if_pos rfl]
    cases ho : opt n C r c s
    · refine ⟨τ, hI, ?_⟩
      show f_Game_winningFrom_L39 rec k (nI depth) (nI r) (nI c) (sI (opt n C r c)) kA kB (m + 1) (nI s) τ = _
      rw [e0, ho, if_neg (by decide)]
    · obtain ⟨τ', a, b⟩ := winsBy_ok hc0 hrec hr hc hs hI ho
      refine ⟨τ', a, ?_⟩
      show f_Game_winningFrom_L39 rec k (nI depth) (nI r) (nI c) (sI (opt n C r c)) kA kB (m + 1) (nI s) τ = _
      rw [e0, ho, if_pos rfl, b, dB_f hp, cal_some, if_pos (by rfl)]
  · intro m s τ hs hI hp
    have ho := hp.1
    obtain ⟨τ', a, b⟩ := winsBy_ok hc0 hrec hr hc hs hI ho
    refine ⟨τ', a, ?_⟩
    show f_Game_winningFrom_L39 rec k (nI depth) (nI r) (nI c) (sI (opt n C r c)) kA kB (m + 1) (nI s) τ = _
    rw [f_Game_winningFrom_L39.eq_2]
    rw [hI.1.ord, if_pos (nI_lt hs (by omega)), isIn_opt hI.1 hs, cap_some, nI_1]
    simp only [jn_eq]
    rw [ho, if_neg (by decide), b, dB_t hp, cal_some, if_neg (by decide)]
  · intro m τ hI
    show f_Game_winningFrom_L39 rec k (nI depth) (nI r) (nI c) (sI (opt n C r c)) kA kB (m + 1) (nI n) τ = _
    rw [f_Game_winningFrom_L39.eq_2]
    rw [hI.1.ord, if_neg (nI_nlt (Nat.le_refl _) (by omega))]
theorem idx2 {c s : Nat} (hs : s < n) : (n * c + s) / n = c ∧ (n * c + s) % n = s := by
  rw [Nat.mul_add_div (by omega), Nat.div_eq_of_lt hs, Nat.add_zero, Nat.mul_add_mod, Nat.mod_eq_of_lt hs]
  exact ⟨rfl, rfl⟩
theorem win20 {rec : St → Nat → Int32 → Option (Int32 × St)} {C : Bd} {σ : St} {depth e : Nat} (h1 : 2 ≤ n) (h2 : n ≤ 5) (hc0 : n * n - cnt C = e)
    (hrec : ∀ (D : Bd) (τ : St), GOK τ k n D → n * n - cnt D + 1 = e → FstS (n * n * n) (fun i => wP n (e - 1) D (i / n / n) (i / n % n) (i % n)) (GJ k n D τ) (rec τ k (nI (depth + 1))) (fun i υ => some (nI (pk n i), υ)) (fun υ => some (-1, υ)))
    {r : Nat} (hr : r < n) (kA : Int32 → Int32 → St → Option (Int32 × St)) (kB : St → Option (Int32 × St)) : ∀ τ, GJ k n C σ τ → FstS (n * n) (fun q => wP n e C r (q / n) (q % n)) (GJ k n C σ) (f_Game_winningFrom_L20 rec k (nI depth) (nI r) kA kB FU 0 τ) (fun q τ => kA (nI (q / n)) (nI (q % n)) τ) kB := by
  refine fstS_nest (fun m i τ => f_Game_winningFrom_L20 rec k (nI depth) (nI r) kA kB m (nI i) τ) n n (fun q => wP n e C r (q / n) (q % n)) (GJ k n C σ) (fun q τ => kA (nI (q / n)) (nI (q % n)) τ) kB (by omega) ?_ ?_
  · intro m c τ hc hI
    have e0 : f_Game_winningFrom_L20 rec k (nI depth) (nI r) kA kB (m + 1) (nI c) τ = f_Game_winningFrom_L39 rec k (nI depth) (nI r) (nI c) (sI (opt n C r c)) (fun (v5_10 : Int32) (σ_11 : St) => kA (nI c) v5_10 σ_11) (fun (σ_12 : St) => f_Game_winningFrom_L20 rec k (nI depth) (nI r) kA kB m (nI (c + 1)) σ_12) FU 0 τ := by
      rw [f_Game_winningFrom_L20.eq_2]
      rw [hI.1.ord, if_pos (nI_lt hc (by omega)), opt_in hI.1 hr hc, cap_some, nI_1]
    show FstS _ _ _ (f_Game_winningFrom_L20 rec k (nI depth) (nI r) kA kB (m + 1) (nI c) τ) _ _
    rw [e0]
    refine (win39 h1 h2 hc0 hrec hr hc _ _ τ hI).conv (fun s hs => ?_) (fun s τ hs => ?_) (fun τ => rfl)
    · rw [(idx2 hs).1, (idx2 hs).2]
    · show kA (nI c) (nI s) τ = kA (nI ((n * c + s) / n)) (nI ((n * c + s) % n)) τ
      rw [(idx2 hs).1, (idx2 hs).2]
  · intro m τ hI
    show f_Game_winningFrom_L20 rec k (nI depth) (nI r) kA kB (m + 1) (nI n) τ = _
    rw [f_Game_winningFrom_L20.eq_2]
    rw [hI.1.ord, if_neg (nI_nlt (Nat.le_refl _) (by omega))]
theorem win10 {rec : St → Nat → Int32 → Option (Int32 × St)} {C : Bd} {σ : St} {depth e : Nat} (h1 : 2 ≤ n) (h2 : n ≤ 5) (hc0 : n * n - cnt C = e)
    (hrec : ∀ (D : Bd) (τ : St), GOK τ k n D → n * n - cnt D + 1 = e → FstS (n * n * n) (fun i => wP n (e - 1) D (i / n / n) (i / n % n) (i % n)) (GJ k n D τ) (rec τ k (nI (depth + 1))) (fun i υ => some (nI (pk n i), υ)) (fun υ => some (-1, υ)))
    (kA : Int32 → Int32 → Int32 → St → Option (Int32 × St)) : ∀ τ, GJ k n C σ τ → FstS (n * n * n) (fun i => wP n e C (i / n / n) (i / n % n) (i % n)) (GJ k n C σ) (f_Game_winningFrom_L10 rec k (nI depth) kA FU 0 τ) (fun i τ => kA (nI (i / n / n)) (nI (i / n % n)) (nI (i % n)) τ) (fun τ => some (-1, τ)) := by
  refine fstS_nest (fun m i τ => f_Game_winningFrom_L10 rec k (nI depth) kA m (nI i) τ) n (n * n) (fun i => wP n e C (i / n / n) (i / n % n) (i % n)) (GJ k n C σ) (fun i τ => kA (nI (i / n / n)) (nI (i / n % n)) (nI (i % n)) τ) (fun τ => some (-1, τ)) (by omega) ?_ ?_
  · intro m r τ hr hI
    have e0 : f_Game_winningFrom_L10 rec k (nI depth) kA (m + 1) (nI r) τ = f_Game_winningFrom_L20 rec k (nI depth) (nI r) (fun (v3_13 : Int32) (v5_14 : Int32) (σ_15 : St) => kA (nI r) v3_13 v5_14 σ_15) (fun (σ_16 : St) => f_Game_winningFrom_L10 rec k (nI depth) kA m (nI (r + 1)) σ_16) FU 0 τ := by
      rw [f_Game_winningFrom_L10.eq_2]
      rw [hI.1.ord, if_pos (nI_lt hr (by omega)), nI_1]
    show FstS _ _ _ (f_Game_winningFrom_L10 rec k (nI depth) kA (m + 1) (nI r) τ) _ _
    rw [e0]
    have hq : ∀ q, q < n * n → (n * n * r + q) / n / n = r ∧ (n * n * r + q) / n % n = q / n ∧ (n * n * r + q) % n = q % n := by
      intro q hq
      have := idx3 (r := r) (show q / n < n from Nat.div_lt_of_lt_mul hq) (show q % n < n from Nat.mod_lt _ (by omega))
      rw [Nat.div_add_mod] at this
      exact this
    refine (win20 h1 h2 hc0 hrec hr _ _ τ hI).conv (fun q hq' => ?_) (fun q τ hq' => ?_) (fun τ => rfl)
    · obtain ⟨a, b, c⟩ := hq q hq'
      rw [a, b, c]
    · obtain ⟨a, b, c⟩ := hq q hq'
      show kA (nI r) (nI (q / n)) (nI (q % n)) τ = kA (nI ((n * n * r + q) / n / n)) (nI ((n * n * r + q) / n % n)) (nI ((n * n * r + q) % n)) τ
      rw [a, b, c]
  · intro m τ hI
    show f_Game_winningFrom_L10 rec k (nI depth) kA (m + 1) (nI n) τ = _
    rw [f_Game_winningFrom_L10.eq_2]
    rw [hI.1.ord, if_neg (nI_nlt (Nat.le_refl _) (by omega))]
theorem win_ok (h1 : 2 ≤ n) (h2 : n ≤ 5) : ∀ (d e depth : Nat) (C : Bd) (σ : St), e < d → n * n - cnt C = e → GOK σ k n C → depth + e ≤ 6 → FstS (n * n * n) (fun i => wP n e C (i / n / n) (i / n % n) (i % n)) (GJ k n C σ) (f_Game_winningFrom d σ k (nI depth)) (fun i τ => some (nI (pk n i), τ)) (fun τ => some (-1, τ)) := by
  intro d
  induction d with
  | zero => intro e depth C σ h; omega
  | succ d ih =>
    intro e depth C σ hd he hG hdep
    show FstS _ _ _ (fb_Game_winningFrom (f_Game_winningFrom d) σ k (nI depth)) _ _
    unfold fb_Game_winningFrom
    rw [if_pos (show nI depth ≤ 6 by rw [show (6 : Int32) = nI 6 from rfl, le_nI (by omega) (by omega)]; omega)]
    refine (win10 h1 h2 he (fun D τ g hD => ih (e - 1) (depth + 1) D τ (by omega) (by omega) g (by omega)) _ σ ⟨hG, fun m _ => rfl⟩).conv (fun i _ => Iff.rfl) (fun i τ hi => ?_) (fun τ => rfl)
    show cap (f_Move_packed τ (nI (i / n / n)) (nI (i / n % n)) (nI (i % n))) _ = _
    unfold f_Move_packed pk
    rw [cap_some, show (10 : Int32) = nI 10 from rfl, show (5 : Int32) = nI 5 from rfl, nI_mul, nI_add, nI_mul, nI_add]
end WIN
