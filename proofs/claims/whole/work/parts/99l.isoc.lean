/-! isotopies, the class -/
section ISOC
variable {σ : St} {k l n m : Nat} {S T : Bd}
theorem mapSigns_ok (mt : MT σ) (hk : GOK σ k n S) (hl : GOK σ l n T) (hS : SQ n S) (hT : SQ n T) (gk : 33 < k) (gl : 33 < l) (hm : m < facN n) {d : Nat} (hd : d < n) : ∃ τ, f_Symmetry_mapSigns σ k l (nI m) (nI d) = some ((), τ) ∧ (∀ r, r < n → τ 22 (sg S r 0) = nI (sg T (cp m r) d)) ∧ Frx 22 σ τ := by
  have hn := hk.le
  have hf := fac_le hn.1 hn.2
  have hp := (cp_pm hn.1 hn.2 hm).1
  unfold f_Symmetry_mapSigns
  refine loopE (fun f i (τ : St) => f_Symmetry_mapSigns_L3 k l (nI m) (nI d) f (nI i) τ) n (fun i τ => (∀ r, r < i → τ 22 (sg S r 0) = nI (sg T (cp m r) d)) ∧ Frx 22 σ τ)
    (fun R => ∃ τ, R = some ((), τ) ∧ (∀ r, r < n → τ 22 (sg S r 0) = nI (sg T (cp m r) d)) ∧ Frx 22 σ τ) ?_ ?_ FU 0 σ (by omega) (FU_gt (by omega)) ⟨fun r hr => by omega, fun m _ => rfl⟩
  · rintro f i τ hi ⟨p1, p2⟩
    have gkτ : GOK τ k n S := hk.frame (fun m a b => p2 m (by omega))
    have glτ : GOK τ l n T := hl.frame (fun m a b => p2 m (by omega))
    have mtτ : MT τ := fun m hm => by rw [p2 7 (by omega), p2 8 (by omega)]; exact mt m hm
    have hs := hS.lt hi (show 0 < n by omega)
    have hci := hp.1 i hi
    refine Or.inr ⟨wr τ 22 (sg S i 0) (nI (sg T (cp m i) d)), ?_, fun r hr => ?_, fun m hm => by rw [wr_fn hm]; exact p2 m hm⟩
    · show f_Symmetry_mapSigns_L3 k l (nI m) (nI d) (f + 1) (nI i) τ = _
      have e0 := sq_sign gkτ hS hi (show 0 < n by omega)
      rw [show nI 0 = (0 : Int32) from rfl] at e0
      rw [f_Symmetry_mapSigns_L3.eq_2]
      rw [gkτ.ord, if_pos (nI_lt hi (by omega)), e0, cap_some]
      simp only [jn_eq, nI_1]
      rw [if_neg (nI_pos (by omega)), if_pos (show nI (sg S i 0) < 5 from nI_lt (show sg S i 0 < 5 by omega) (by decide)), image_ok mtτ (by omega) (by omega), cap_some, sq_sign glτ hT hci hd, cap_some, ast_nI (by omega) (by decide)]
    · rw [wr_get]
      by_cases e : r = i
      · rw [if_pos ⟨rfl, by rw [e]⟩, e]
      · rw [if_neg (fun h => e (hS.inj_c (show r < n by omega) hi (by omega) h.2))]
        exact p1 r (by omega)
  · rintro f τ ⟨p1, p2⟩
    refine ⟨τ, ?_, p1, p2⟩
    show f_Symmetry_mapSigns_L3 k l (nI m) (nI d) (f + 1) (nI n) τ = _
    rw [f_Symmetry_mapSigns_L3.eq_2]
    rw [p2 k (by omega), hk.ord, if_neg (nI_nlt (Nat.le_refl _) (by omega))]
theorem bringsAll_ok (mt : MT σ) (hk : GOK σ k n S) (hl : GOK σ l n T) (hS : SQ n S) (hT : SQ n T) (hm : m < facN n) {M : Nat → Nat} (hv : ∀ s, s < n → σ 22 s = nI (M s)) (hM : ∀ s, s < n → M s < n) : f_Symmetry_bringsAllColumns σ k l (nI m) = some (bI (dB (CB n T S (cp m) M))) := by
  have hn := hk.le
  have hf := fac_le hn.1 hn.2
  have hp := (cp_pm hn.1 hn.2 hm).1
  have hmp : ∀ s, s < n → f_Symmetry_mapped σ (nI s) = some (nI (M s)) := by
    intro s hs
    unfold f_Symmetry_mapped
    rw [jn_eq, if_neg (nI_pos (by omega)), if_pos (show nI s < 5 from nI_lt (show s < 5 by omega) (by decide)), ald_nI (by omega) (by decide), hv s hs]
  have i0 : f_Maps_imageOf σ (nI m) 0 = some (nI (cp m 0)) := image_ok mt (by omega) (show 0 < 5 by omega)
  have hinner : ∀ (c g : Nat) (K : Option Int32), c < n → g < n → f_Symmetry_bringsAllColumns_L41 k l (nI m) (nI c) (nI g) σ K FU 1 = if dB (∀ i, i < n - 1 → sg T (cp m (i + 1)) g = M (sg S (i + 1) c)) = true then K else some 0 := by
    intro c g K hc hg
    refine loop_all (fun f i => f_Symmetry_bringsAllColumns_L41 k l (nI m) (nI c) (nI g) σ K f (nI (i + 1))) (n - 1) (fun i => sg T (cp m (i + 1)) g = M (sg S (i + 1) c)) (some 0) K (by omega) ?_ ?_ ?_
    · intro f i hi hpp
      show f_Symmetry_bringsAllColumns_L41 k l (nI m) (nI c) (nI g) σ K (f + 1) (nI (i + 1)) = _
      rw [f_Symmetry_bringsAllColumns_L41.eq_2]
      rw [hk.ord, if_pos (nI_lt (show i + 1 < n by omega) (by omega)), image_ok mt (by omega) (by omega), cap_some, sq_sign hl hT (hp.1 _ (by omega)) hg, cap_some, sq_sign hk hS (by omega) hc, cap_some, hmp _ (hS.lt (by omega) hc), cap_some, if_pos (by rw [hpp]), nI_1]
    · intro f i hi hpp
      have b1 := hT.lt (hp.1 (i + 1) (by omega)) hg
      have b2 := hM _ (hS.lt (show i + 1 < n by omega) hc)
      show f_Symmetry_bringsAllColumns_L41 k l (nI m) (nI c) (nI g) σ K (f + 1) (nI (i + 1)) = _
      rw [f_Symmetry_bringsAllColumns_L41.eq_2]
      rw [hk.ord, if_pos (nI_lt (show i + 1 < n by omega) (by omega)), image_ok mt (by omega) (by omega), cap_some, sq_sign hl hT (hp.1 _ (by omega)) hg, cap_some, sq_sign hk hS (by omega) hc, cap_some, hmp _ (hS.lt (by omega) hc), cap_some, if_neg (by rw [eq_nI (by omega) (by omega)]; exact hpp)]
    · intro f
      show f_Symmetry_bringsAllColumns_L41 k l (nI m) (nI c) (nI g) σ K (f + 1) (nI (n - 1 + 1)) = _
      rw [show n - 1 + 1 = n by omega]
      rw [f_Symmetry_bringsAllColumns_L41.eq_2]
      rw [hk.ord, if_neg (nI_nlt (Nat.le_refl _) (by omega))]
  have key : ∀ f c, c < n → f_Symmetry_bringsAllColumns_L3 k l (nI m) σ (f + 1) (nI c) = if dB (∀ i, i < n - 1 → sg T (cp m (i + 1)) (cS n T (cp m 0) (M (sg S 0 c))) = M (sg S (i + 1) c)) = true then f_Symmetry_bringsAllColumns_L3 k l (nI m) σ f (nI (c + 1)) else some 0 := by
    intro f c hc
    have hs0 := hS.lt (show 0 < n by omega) hc
    have e0 := sq_sign hk hS (show 0 < n by omega) hc
    rw [show nI 0 = (0 : Int32) from rfl] at e0
    rw [f_Symmetry_bringsAllColumns_L3.eq_2]
    rw [hk.ord, if_pos (nI_lt hc (by omega)), i0, cap_some, e0, cap_some, hmp _ hs0, cap_some, colOf_sq hl hT (hp.1 0 (by omega)) (hM _ hs0), cap_some, nI_1]
    exact hinner c _ _ hc (cS_ok hT (hp.1 0 (by omega)) (hM _ hs0)).1
  unfold f_Symmetry_bringsAllColumns
  refine (loop_all (fun f i => f_Symmetry_bringsAllColumns_L3 k l (nI m) σ f (nI (i + 1))) (n - 1) (fun j => ∀ i, i < n - 1 → sg T (cp m (i + 1)) (cS n T (cp m 0) (M (sg S 0 (j + 1)))) = M (sg S (i + 1) (j + 1))) (some 0) (some 1) (by omega) ?_ ?_ ?_).trans ?_
  · intro f j hj hpp
    show f_Symmetry_bringsAllColumns_L3 k l (nI m) σ (f + 1) (nI (j + 1)) = _
    rw [key f (j + 1) (by omega), if_pos (dB_t hpp)]
  · intro f j hj hpp
    show f_Symmetry_bringsAllColumns_L3 k l (nI m) σ (f + 1) (nI (j + 1)) = _
    rw [key f (j + 1) (by omega), if_neg (fun h => hpp (dB_iff.mp h))]
  · intro f
    show f_Symmetry_bringsAllColumns_L3 k l (nI m) σ (f + 1) (nI (n - 1 + 1)) = _
    rw [show n - 1 + 1 = n by omega]
    rw [f_Symmetry_bringsAllColumns_L3.eq_2]
    rw [hk.ord, if_neg (nI_nlt (Nat.le_refl _) (by omega))]
  · refine (some_bI _).trans ?_
    congr 2
    apply dB_cong
    constructor
    · intro h c hc hc1 r hr hr1
      have := h (c - 1) (by omega) (r - 1) (by omega)
      rw [show r - 1 + 1 = r by omega, show c - 1 + 1 = c by omega] at this
      exact this
    · intro h j hj i hi
      exact h (j + 1) (by omega) (by omega) (i + 1) (by omega) (by omega)
theorem isoOne_ok (mt : MT σ) (hk : GOK σ k n S) (hl : GOK σ l n T) (hS : SQ n S) (hT : SQ n T) (gk : 33 < k) (gl : 33 < l) (hm : m < facN n) {d : Nat} (hd : d < n) : ∃ τ, f_Symmetry_mapSigns σ k l (nI m) (nI d) = some ((), τ) ∧ f_Symmetry_bringsAllColumns τ k l (nI m) = some (bI (CC n S T (cp m) d)) ∧ Frx 22 σ τ := by
  have hn := hk.le
  have hp := (cp_pm hn.1 hn.2 hm).1
  obtain ⟨τ, e, h1, f⟩ := mapSigns_ok mt hk hl hS hT gk gl hm hd
  have hx : ∀ s, ∃ v, ∀ r, r < n → sg S r 0 = s → v = sg T (cp m r) d := by
    intro s
    by_cases hs : ∃ r, r < n ∧ sg S r 0 = s
    · obtain ⟨r, hr, e⟩ := hs
      exact ⟨sg T (cp m r) d, fun r' hr' e' => by rw [hS.inj_c hr hr' (show 0 < n by omega) (by rw [e, e'])]⟩
    · exact ⟨0, fun r hr e => absurd ⟨r, hr, e⟩ hs⟩
  obtain ⟨M, hM⟩ := Classical.axiomOfChoice hx
  have hM1 : ∀ r, r < n → M (sg S r 0) = sg T (cp m r) d := fun r hr => hM _ r hr rfl
  have hv : ∀ s, s < n → τ 22 s = nI (M s) ∧ M s < n := by
    intro s hs
    obtain ⟨r, hr, e⟩ := col_sur0 hS (show 0 < n by omega) hs
    rw [← e, h1 r hr, hM1 r hr]
    exact ⟨rfl, hT.lt (hp.1 r hr) hd⟩
  refine ⟨τ, e, ?_, f⟩
  rw [bringsAll_ok (fun m hm => by rw [f 7 (by omega), f 8 (by omega)]; exact mt m hm) (hk.frame (fun m a b => f m (by omega))) (hl.frame (fun m a b => f m (by omega))) hS hT hm (fun s hs => (hv s hs).1) (fun s hs => (hv s hs).2)]
  congr 2
  exact dB_cong (CB_iff hS hT hp (by omega) hd hM1)
theorem iso24 (mt : MT σ) (hk : GOK σ k n S) (hl : GOK σ l n T) (hS : SQ n S) (hT : SQ n T) (gk : 33 < k) (gl : 33 < l) (hm : m < facN n) (a : Nat) (ha : a ≤ 600) (K : Int32 → St → Option (Int32 × St)) : ∃ τ, f_Symmetry_isotopiesBetween_L24 k l (nI m) K FU (nI a) 0 σ = K (nI (a + sumN n (fun d => (CC n S T (cp m) d).toNat))) τ ∧ Frx 22 σ τ := by
  have hn := hk.le
  refine loopE (fun f i (x : Nat × St) => f_Symmetry_isotopiesBetween_L24 k l (nI m) K f (nI x.1) (nI i) x.2) n (fun i x => x.1 = a + sumN i (fun d => (CC n S T (cp m) d).toNat) ∧ Frx 22 σ x.2)
    (fun R => ∃ τ, R = K (nI (a + sumN n (fun d => (CC n S T (cp m) d).toNat))) τ ∧ Frx 22 σ τ) ?_ ?_ FU 0 (a, σ) (by omega) (FU_gt (by omega)) ⟨rfl, fun m _ => rfl⟩
  · rintro f i ⟨x, τ⟩ hi ⟨p1, p2⟩
    have p1 : x = a + sumN i (fun d => (CC n S T (cp m) d).toNat) := p1
    have p2 : Frx 22 σ τ := p2
    have gkτ : GOK τ k n S := hk.frame (fun m a b => p2 m (by omega))
    have glτ : GOK τ l n T := hl.frame (fun m a b => p2 m (by omega))
    have mtτ : MT τ := fun m hm => by rw [p2 7 (by omega), p2 8 (by omega)]; exact mt m hm
    obtain ⟨υ, e1, e2, fu⟩ := isoOne_ok mtτ gkτ glτ hS hT gk gl hm hi
    refine Or.inr ⟨(x + (CC n S T (cp m) i).toNat, υ), ?_, by rw [p1]; exact Nat.add_assoc .., fun m' hm' => (fu m' hm').trans (p2 m' hm')⟩
    show f_Symmetry_isotopiesBetween_L24 k l (nI m) K (f + 1) (nI x) (nI i) τ = f_Symmetry_isotopiesBetween_L24 k l (nI m) K f (nI (x + (CC n S T (cp m) i).toNat)) (nI (i + 1)) υ
    rw [f_Symmetry_isotopiesBetween_L24.eq_2]
    rw [gkτ.ord, if_pos (nI_lt hi (by omega)), e1, cal_some, e2, cap_some]
    simp only [jn_eq, nI_1]
    cases CC n S T (cp m) i
    · rw [if_pos (by rfl)]; rfl
    · rw [if_neg (by decide)]; rfl
  · rintro f ⟨x, τ⟩ ⟨p1, p2⟩
    have p1 : x = a + sumN n (fun d => (CC n S T (cp m) d).toNat) := p1
    have p2 : Frx 22 σ τ := p2
    refine ⟨τ, ?_, p2⟩
    show f_Symmetry_isotopiesBetween_L24 k l (nI m) K (f + 1) (nI x) (nI n) τ = _
    rw [f_Symmetry_isotopiesBetween_L24.eq_2]
    rw [p2 k (by omega), hk.ord, if_neg (nI_nlt (Nat.le_refl _) (by omega)), p1]
theorem isoBetween_ok (mt : MT σ) (hk : GOK σ k n S) (hl : GOK σ l n T) (hS : SQ n S) (hT : SQ n T) (gk : 33 < k) (gl : 33 < l) : ∃ τ, f_Symmetry_isotopiesBetween σ k l = some (nI (sumN (facN n) (fun m => sumN n (fun d => (CC n S T (cp m) d).toNat))), τ) ∧ Frx 22 σ τ := by
  have hn := hk.le
  have hf := fac_le hn.1 hn.2
  have hb : ∀ i, i ≤ facN n → sumN i (fun m => sumN n (fun d => (CC n S T (cp m) d).toNat)) ≤ 600 := by
    intro i hi
    have : sumN i (fun m => sumN n (fun d => (CC n S T (cp m) d).toNat)) ≤ i * 5 := sumN_le (fun m _ => Nat.le_trans (sumN_le (b := 1) (fun d _ => tn_le _)) (by omega))
    omega
  unfold f_Symmetry_isotopiesBetween
  refine loopE (fun f i (x : Nat × St) => f_Symmetry_isotopiesBetween_L5 k l (fun (v3_12 : Int32) (σ_13 : St) => some (v3_12, σ_13)) f (nI x.1) (nI i) x.2) (facN n) (fun i x => x.1 = sumN i (fun m => sumN n (fun d => (CC n S T (cp m) d).toNat)) ∧ Frx 22 σ x.2)
    (fun R => ∃ τ, R = some (nI (sumN (facN n) (fun m => sumN n (fun d => (CC n S T (cp m) d).toNat))), τ) ∧ Frx 22 σ τ) ?_ ?_ FU 0 (0, σ) (by omega) (FU_gt (by omega)) ⟨rfl, fun m _ => rfl⟩
  · rintro f i ⟨x, τ⟩ hi ⟨p1, p2⟩
    have p1 : x = sumN i (fun m => sumN n (fun d => (CC n S T (cp m) d).toNat)) := p1
    have p2 : Frx 22 σ τ := p2
    have gkτ : GOK τ k n S := hk.frame (fun m a b => p2 m (by omega))
    have glτ : GOK τ l n T := hl.frame (fun m a b => p2 m (by omega))
    have mtτ : MT τ := fun m hm => by rw [p2 7 (by omega), p2 8 (by omega)]; exact mt m hm
    obtain ⟨υ, e, fu⟩ := iso24 mtτ gkτ glτ hS hT gk gl hi x (by rw [p1]; exact hb i (by omega)) (fun (v3_10 : Int32) (σ_11 : St) => f_Symmetry_isotopiesBetween_L5 k l (fun (v3_12 : Int32) (σ_13 : St) => some (v3_12, σ_13)) f v3_10 (nI i + 1) σ_11)
    refine Or.inr ⟨(x + sumN n (fun d => (CC n S T (cp i) d).toNat), υ), ?_, by rw [p1]; rfl, fun m' hm' => (fu m' hm').trans (p2 m' hm')⟩
    show f_Symmetry_isotopiesBetween_L5 k l _ (f + 1) (nI x) (nI i) τ = f_Symmetry_isotopiesBetween_L5 k l (fun (v3_12 : Int32) (σ_13 : St) => some (v3_12, σ_13)) f (nI (x + sumN n (fun d => (CC n S T (cp i) d).toNat))) (nI (i + 1)) υ
    rw [f_Symmetry_isotopiesBetween_L5.eq_2]
    rw [gkτ.ord, amount_ok hn.1 hn.2, cap_some, if_pos (nI_lt hi (by omega)), e]
    show f_Symmetry_isotopiesBetween_L5 k l _ f _ (nI i + 1) υ = _
    rw [nI_1]
  · rintro f ⟨x, τ⟩ ⟨p1, p2⟩
    have p1 : x = sumN (facN n) (fun m => sumN n (fun d => (CC n S T (cp m) d).toNat)) := p1
    have p2 : Frx 22 σ τ := p2
    refine ⟨τ, ?_, p2⟩
    show f_Symmetry_isotopiesBetween_L5 k l _ (f + 1) (nI x) (nI (facN n)) τ = _
    rw [f_Symmetry_isotopiesBetween_L5.eq_2]
    rw [p2 k (by omega), hk.ord, amount_ok hn.1 hn.2, cap_some, if_neg (nI_nlt (Nat.le_refl _) (by omega)), p1]
end ISOC
