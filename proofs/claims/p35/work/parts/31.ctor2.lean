/-! constructors: their contracts -/
def g_QcC (D : va_G) (cA : Nat → ClassId) (A : Nat → Prop) (SH : List Shp) (ad : Nat → Nat) (SH' : List Shp) (σ' : St) : Array Value → State → Outcome → State → Prop := fun _ st oc t =>
  oc = .returned none ∧ (∃ ad' : Nat → Nat, (∀ i, i < SH.length → ad' i = ad i) ∧ va_P D vwCl (g_ws cA (SH', ad') σ') t.heap ∧ va_D A (g_ws cA (SH', ad') σ')) ∧ va_F A st t
def g_BE (E : Bool) (D : va_G) (cA : Nat → ClassId) (strs : List (String × Nat × String)) (A : Nat → Prop) (w : Wd) (σ : St) (sz : Nat) (U : State) : Prop := g_B D cA strs A w σ sz U ∧ (E = true → va_AO "Quasigrove$Grid" U)
theorem g_blindE {E : Bool} {D : va_G} {cA : Nat → ClassId} {strs : List (String × Nat × String)} {A : Nat → Prop} {w : Wd} {σ : St} {sz : Nat} {av : List Value} : FrameBlind (va_Pc av (g_BE E D cA strs A w σ sz)) := by
  intro a U g mk h
  have h1 := g_blind a U g mk ⟨h.1, h.2.1⟩
  exact ⟨h1.1, h1.2, fun e => va_AO.moved (u := U) (U := U.calling g mk a) (Vm.Alike.refl U.vm) (h.2.2 e)⟩
def RtC (E : Bool) (l : Launch) (strs : List (String × Nat × String)) (y : MethodName) (cc : ByteArray) (maxL fr lo mc ms : Nat) (SH : List Shp) (av : (Nat → Nat) → List Value) (σ : St) (SH' : List Shp) (σ' : St) : Prop :=
  ∀ (ad : Nat → Nat) (A : Nat → Prop) (D : va_G) (cA : Nat → ClassId) (sz : Nat), (∀ q, sz ≤ q → A q) →
    Met l y (Cond.code y cc maxL none :: g_GW) { frames := fr, cells := mc, slots := ms, locals := lo } (va_Pc (av ad) (g_BE E D cA strs A (SH, ad) σ sz)) (g_QcC D cA A SH ad SH' σ') mc ms A
def Cq (θ : Th) (SH : List Shp) (ad : Nat → Nat) (SH' : List Shp) (σ' : St) (mc ms : Nat) : Prop := match θ with
  | (p, l, e, R, s, m, args, below, meth, c, A, D, cA, Q) => meth.sig.returnType = none ∧ Q = MQ below (g_QcC D cA A SH ad SH' σ') args s mc ms A
theorem RtC.intro {E : Bool} {l : Launch} {strs : List (String × Nat × String)} {y : MethodName} {cc : ByteArray} {maxL fr lo mc ms : Nat} {SH : List Shp} {av : (Nat → Nat) → List Value} {σ : St} {SH' : List Shp} {σ' : St} {L : (Nat → Nat) → LV}
    (hy : plainName y.cls = true) (hyn : y.name = "<init>") (hn : ∀ ad, (lg_sl (av ad)).length ≤ maxL) (hL : ∀ ad, g_pairs (L ad) = lv_args 0 (av ad))
    (body : ∀ (ad : Nat → Nat) (θ : Th), θ.2.1 = l → Cx θ strs cc maxL y.cls fr lo → Ix θ → Rm θ mc ms → Cq θ SH ad SH' σ' mc ms → (E = true → AOx θ) → G θ (0, 0) (SH, ad) σ 0 (L ad) []) : RtC E l strs y cc maxL fr lo mc ms SH av σ SH' σ' := by
  intro ad A D cA sz hA
  refine Met.ofW (cc := cc) (maxL := maxL) (ret := none) hy rfl ?_
  intro p e s m args below meth c s₁ B hml hv
  obtain ⟨rfl, ⟨hsz, hP, hD, hK⟩, hE⟩ := hv
  have hts := atoms_spec (ws := Cond.code y cc maxL none :: g_GW) B.pre
  have hown : s.vm.findClass y.cls = some m.cls := findClass_of_methodNamed B.named
  have hin : meth.name = y.name := (name_of_methodNamed B.named B.method).1
  subst hsz
  have hb := body ad (p, l, e, (headSpec (Cond.code y cc maxL none :: g_GW) { frames := fr, cells := mc, slots := ms, locals := lo }).room, s, m, (av ad).toArray, below, meth, c, A, D, cA, MQ below (g_QcC D cA A SH ad SH' σ') (av ad).toArray s mc ms A) rfl
    ⟨B.exec, B.bytes, hml, hown, fun w hw => hts w (List.mem_cons_of_mem _ hw), B.notSynchronized, hA, hK, Nat.le_refl _, Nat.le_refl _⟩ (hin.trans hyn) ⟨Nat.le_refl _, Nat.le_refl _⟩ ⟨B.returns, rfl⟩ hE
  rw [lg_entry_eq]
  exact hb s.heap [] _ (by rw [hml]; exact LH.entry (av ad) (hn ad) (hL ad)) hP hD va_S.rf
theorem g_blindC {D : va_G} {cA : Nat → ClassId} {strs : List (String × Nat × String)} {A : Nat → Prop} {w : Wd} {σ : St} {sz : Nat} {av : List Value} : FrameBlind (va_Pc av (g_B D cA strs A w σ sz)) := g_blind
section GK
variable {E : Bool} {θ : Th} {cs : Nat × Nat} {SH SH' SH0 : List Shp} {ad ad0 : Nat → Nat} {σ σ1 : St} {pc : Nat} {L : LV} {S : List Value} {strs strs' : List (String × Nat × String)} {cc : ByteArray} {nL : Nat} {own : String} {fr lo : Nat}
theorem G_cret {mc ms : Nat} (X : Cx θ strs cc nL own fr lo) (hq : Cq θ SH0 ad0 SH σ mc ms) (hd : decode cc pc = .ok (.return_, 1)) (ha : ∀ i, i < SH0.length → ad i = ad0 i) : G θ (mc, ms) (SH, ad) σ pc L [] := by
  obtain ⟨p, l, e, R, s, m, args, below, meth, c, A, D, cA, Q⟩ := θ
  obtain ⟨hx, hb, hml, hown, hts, hlk, hA, hK, hfr, hlo⟩ := X
  obtain ⟨hr, rfl⟩ := hq
  intro H locs ls hl' hP hD hS
  exact W.vret hx hb hr (fun t ht hW => ⟨rfl, ⟨ad, ha, by rw [ht]; exact hP, hD⟩, hS.F ht⟩) hS.2.2 hd
theorem g_goC {p : Program} {l : Launch} {e : Env} {R : Room} {s : State} {m : MethodId} {args : Array Value} {below : List Frame} {meth : Method} {c : Code} {H : Heap} {locs : List Loc} {cells slots mc ms : Nat} {Q : State → Prop} {D : va_G} {cA : Nat → ClassId} {A : Nat → Prop} {a : Array Value} {ls : Array Slot} {st0 rest : List Value}
    (hr : va_Run p l e R s m args below meth c H locs cells slots mc ms (F0 m pc ls st0) rest (g_QcC D cA A SH ad SH' σ1 a) A) (hS : va_S A s.heap H locs)
    (kk : ∀ (ad' : Nat → Nat) (H1 : Heap) (locs1 : List Loc), (∀ i, i < SH.length → ad' i = ad i) → va_P D vwCl (g_ws cA (SH', ad') σ1) H1 → va_D A (g_ws cA (SH', ad') σ1) → va_S A s.heap H1 locs1 → W p l e R s m args below meth c H1 locs1 (cells + mc) (slots + ms) Q (F0 m (pc + 3) ls rest)) : W p l e R s m args below meth c H locs cells slots Q (F0 m pc ls st0) := by
  intro T hT X
  obtain ⟨v', st₀, t, T', L9, h0, X', hL, e1, e2, ⟨hv, ⟨ad', ha, hp, hD⟩, hz, hk⟩, st⟩ := hr T hT X
  cases hv
  rw [h0] at hz hk
  obtain ⟨t2, a1, b1⟩ := kk ad' T'.heap (locs ++ L9) ha (by rw [e1]; exact hp) hD
    ⟨Nat.le_trans hS.1 (by rw [e1]; exact hz), fun q h1 h2 => by rw [e1, hk q (Nat.lt_of_lt_of_le h1 hS.1) h2]; exact hS.2.1 q h1 h2, fun q hq => by
      rcases List.mem_append.mp hq with h | h
      · exact hS.2.2 q h
      · exact hL q h⟩ T' rfl X'
  exact ⟨t2, st t2 a1, b1⟩
theorem G_callC {y : MethodName} {cy : ByteArray} {maxL idx n fr' lo' mc ms b : Nat} {av : (Nat → Nat) → List Value} (As : List Value) (hsub : ∀ q ∈ strs', q ∈ strs) (X : Cx θ strs cc nL own fr lo) (hd : decode cc pc = .ok (.invokespecial idx, 3)) (hc : CBd y cy maxL none n) (hin : Cond.instanceMethod y ∈ g_GW) (hy1 : y.name = "<init>") (hl : Cond.methodLink own idx y ∈ g_GW)
    (hE : E = true → AOx θ) (hR : RtC E θ.2.1 strs' y cy maxL fr' lo' mc ms SH av σ SH' σ1) (hav : av ad = .ref b :: As) (hn : As.length = n) (hroom : fr' + 1 ≤ fr ∧ 8 + (maxL + 11) + lo' ≤ lo) (hS8 : (S.map fun v => v.category).sum ≤ 8) (hRm : Rm θ (cs.1 + mc) (cs.2 + ms))
    (kk : ∀ ad' : Nat → Nat, (∀ i, i < SH.length → ad' i = ad i) → G θ (cs.1 + mc, cs.2 + ms) (SH', ad') σ1 (pc + 3) L S) : G θ cs (SH, ad) σ pc L (As.reverse ++ .ref b :: S) := by
  obtain ⟨p, l, e, R, s, m, args, below, meth, c, A, D, cA, Q⟩ := θ
  obtain ⟨hx, hb, hml, hown, hts, hlk, hA, hK, hfr, hlo⟩ := X
  obtain ⟨c1, c2, c3⟩ := hc
  intro H locs ls hl' hP hD hS
  have hcw : CallB R s args own idx y cy maxL none (Cond.code y cy maxL none :: g_GW) { frames := fr', cells := mc, slots := ms, locals := lo' } mc ms n ∧ y.name = "<init>" ∧ (Cond.instanceMethod y).before args s = true :=
    ⟨callB_of n hts (g_goodIn c1) rfl rfl rfl (hts _ c2) (hts _ hl) c3 ⟨Nat.le_trans hroom.1 hfr, Nat.le_trans hroom.2 hlo⟩, hy1, hts _ hin⟩
  refine g_goC (a := (Value.ref b :: As).toArray) (va_runI (As := As) (rest := S) ⟨hx, hb, hml, hown, hts⟩ (hR ad A D cA H.size (fun q hq => hA q (Nat.le_trans hS.1 hq))) hcw ⟨g_blindE, fun U hU hW => ⟨by rw [hav], g_pre hsub hK hP hD hS hU hW, fun e9 => va_AO.moved hW.alike (hE e9)⟩⟩ rfl hn (by rw [← hml]; exact hl'.1) rfl (lv_room hS8) hd hRm) hS (fun ad' H1 locs1 ha hP1 hD1 hS1 => ?_)
  exact kk ad' ha H1 locs1 ls hl' hP1 hD1 hS1
theorem G_callCN {y : MethodName} {host : String} {cy : ByteArray} {maxL idx n fr' lo' mc ms b : Nat} {av : (Nat → Nat) → List Value} (As : List Value) (hsub : ∀ q ∈ strs', q ∈ strs) (X : Cx θ strs cc nL own fr lo) (hd : decode cc pc = .ok (.invokespecial idx, 3)) (hc : CBd y cy maxL none n) (hin : Cond.instanceMethod y ∈ g_GW) (hy1 : y.name = "<init>") (hl : Cond.methodLinkNest own idx y host ∈ g_NW)
    (hE : E = true → AOx θ) (hR : RtC E θ.2.1 strs' y cy maxL fr' lo' mc ms SH av σ SH' σ1) (hav : av ad = .ref b :: As) (hn : As.length = n) (hroom : fr' + 1 ≤ fr ∧ 8 + (maxL + 11) + lo' ≤ lo) (hS8 : (S.map fun v => v.category).sum ≤ 8) (hRm : Rm θ (cs.1 + mc) (cs.2 + ms))
    (kk : ∀ ad' : Nat → Nat, (∀ i, i < SH.length → ad' i = ad i) → G θ (cs.1 + mc, cs.2 + ms) (SH', ad') σ1 (pc + 3) L S) : G θ cs (SH, ad) σ pc L (As.reverse ++ .ref b :: S) := by
  obtain ⟨p, l, e, R, s, m, args, below, meth, c, A, D, cA, Q⟩ := θ
  obtain ⟨hx, hb, hml, hown, hts, hlk, hA, hK, hfr, hlo⟩ := X
  obtain ⟨c1, c2, c3⟩ := hc
  intro H locs ls hl' hP hD hS
  have hcw : va_CN R s args own idx y host cy maxL none (Cond.code y cy maxL none :: g_GW) { frames := fr', cells := mc, slots := ms, locals := lo' } mc ms n ∧ y.name = "<init>" ∧ (Cond.instanceMethod y).before args s = true :=
    ⟨va_cnB n hts (g_goodIn c1) rfl rfl rfl (hK.2.1 _ hl) (hts _ c2) c3 ⟨Nat.le_trans hroom.1 hfr, Nat.le_trans hroom.2 hlo⟩, hy1, hts _ hin⟩
  refine g_goC (a := (Value.ref b :: As).toArray) (va_runIN (As := As) (rest := S) ⟨hx, hb, hml, hown, hts⟩ (hR ad A D cA H.size (fun q hq => hA q (Nat.le_trans hS.1 hq))) hcw ⟨g_blindE, fun U hU hW => ⟨by rw [hav], g_pre hsub hK hP hD hS hU hW, fun e9 => va_AO.moved hW.alike (hE e9)⟩⟩ rfl hn (by rw [← hml]; exact hl'.1) rfl (lv_room hS8) hd hRm) hS (fun ad' H1 locs1 ha hP1 hD1 hS1 => ?_)
  exact kk ad' ha H1 locs1 ls hl' hP1 hD1 hS1
end GK
theorem g_rb_mono {SH : List Shp} {n m : Nat} (h : g_rb SH n = true) (hm : n ≤ m) : g_rb SH m = true := by
  simp only [g_rb, List.all_eq_true] at h ⊢
  intro sh hsh
  have h1 := h sh hsh
  rcases sh with ⟨ci, fl⟩ | ⟨kd, k⟩ | ts
  · simp only [List.all_eq_true] at h1 ⊢
    intro o ho
    have h2 := h1 o ho
    rcases o with _ | _ | t
    · rfl
    · rfl
    · simp only [decide_eq_true_eq] at h2 ⊢; omega
  · rfl
  · simp only [List.all_eq_true] at h1 ⊢
    intro o ho
    have h2 := h1 o ho
    rcases o with _ | t
    · rfl
    · simp only [decide_eq_true_eq] at h2 ⊢; omega
theorem g_rb_app {SH : List Shp} {sh : Shp} {n m : Nat} (h : g_rb SH n = true) (h1 : g_rb [sh] m = true) (hm : n ≤ m) : g_rb (SH ++ [sh]) m = true := by
  have h2 := g_rb_mono h hm
  simp only [g_rb, List.all_append, Bool.and_eq_true] at h1 h2 ⊢
  exact ⟨h2, h1⟩
theorem g_rb_set {SH : List Shp} {sh : Shp} {k n : Nat} (h : g_rb SH n = true) (h1 : g_rb [sh] n = true) : g_rb (SH.set k sh) n = true := by
  simp only [g_rb, List.all_eq_true] at h h1 ⊢
  intro x hx
  rcases List.mem_or_eq_of_mem_set hx with hx | rfl
  · exact h x hx
  · exact h1 _ (List.mem_singleton.mpr rfl)
