section GC
variable {θ : Th} {cs : Nat × Nat} {w : Wd} {σ σ1 : St} {pc : Nat} {L : LV} {S : List Value} {strs strs' : List (String × Nat × String)} {cc : ByteArray} {nL : Nat} {own : String} {fr lo : Nat}
theorem g_go {p : Program} {l : Launch} {e : Env} {R : Room} {s : State} {m : MethodId} {args : Array Value} {below : List Frame} {meth : Method} {c : Code} {H : Heap} {locs : List Loc} {cells slots : Nat} {Q : State → Prop} {D : va_G} {cA : Nat → ClassId} {A : Nat → Prop} {v : Option Value} {a : Array Value} {ls : Array Slot} {st0 rest : List Value}
    (hr : va_Run p l e R s m args below meth c H locs cells slots 0 0 (F0 m pc ls st0) rest (g_Qc D cA A w v σ1 a) A) (hS : va_S A s.heap H locs)
    (kk : ∀ (H1 : Heap) (locs1 : List Loc), va_P D vwCl (g_ws cA w σ1) H1 → va_S A s.heap H1 locs1 → W p l e R s m args below meth c H1 locs1 cells slots Q (F0 m (pc + 3) ls (v.toList ++ rest))) : W p l e R s m args below meth c H locs cells slots Q (F0 m pc ls st0) := by
  intro T hT X
  obtain ⟨v', st₀, t, T', L9, h0, X', hL, e1, e2, ⟨hv, hp, hz, hk⟩, st⟩ := hr T hT X
  cases hv
  rw [h0] at hz hk
  obtain ⟨t2, a1, b1⟩ := kk T'.heap (locs ++ L9) (by rw [e1]; exact hp)
    ⟨Nat.le_trans hS.1 (by rw [e1]; exact hz), fun q h1 h2 => by rw [e1, hk q (Nat.lt_of_lt_of_le h1 hS.1) h2]; exact hS.2.1 q h1 h2, fun q hq => by
      rcases List.mem_append.mp hq with h | h
      · exact hS.2.2 q h
      · exact hL q h⟩ T' rfl X'
  exact ⟨t2, st t2 a1, b1⟩
/-- a callee: its words -/
def CBd (y : MethodName) (cy : ByteArray) (maxL : Nat) (ret : Option FieldType) (n : Nat) : Prop := Cond.code y cy maxL ret ∈ g_GW ∧ Cond.initialized y.cls ∈ g_GW ∧ (y.cls ≠ "java/lang/invoke/MethodHandle" ∧ y.cls ≠ "java/lang/invoke/VarHandle" ∧ (parseMethodDescriptor y.desc).map (fun d => d.parameters.length) = some n)
def CBv (y : MethodName) : Prop := Cond.instanceMethod y ∈ g_GW ∧ Cond.selects y.cls y y ∈ g_GW
def Rc (θ : Th) (cs : Nat × Nat) : Prop := match θ with
  | (p, l, e, R, s, m, args, below, meth, c, A, D, cA, Q) => cs.1 ≤ R.cells ∧ cs.2 ≤ R.slots
theorem Rc0 {θ : Th} : Rc θ (0, 0) := by
  obtain ⟨p, l, e, R, s, m, args, below, meth, c, A, D, cA, Q⟩ := θ
  exact ⟨Nat.zero_le _, Nat.zero_le _⟩
theorem Kx.less {D : va_G} {cA : Nat → ClassId} {A : Nat → Prop} {U : State} {H : Heap} (hsub : ∀ q ∈ strs', q ∈ strs) (h : Kx D cA strs A U H) : Kx D cA strs' A U H := ⟨h.1, h.2.1, h.2.2.1, fun q hq => h.2.2.2 q (hsub q hq)⟩
theorem g_pre {D : va_G} {cA : Nat → ClassId} {A : Nat → Prop} {s U : State} {H : Heap} {locs : List Loc} (hsub : ∀ q ∈ strs', q ∈ strs) (hK : Kx D cA strs A s s.heap) (hP : va_P D vwCl (g_ws cA w σ) H) (hD : va_D A (g_ws cA w σ)) (hS : va_S A s.heap H locs) (hU : U.heap = H) (hW : s.WarmedH U.vm) : g_B D cA strs' A w σ H.size U := by
  refine ⟨by rw [hU], by rw [hU]; exact hP, hD, ?_⟩
  rw [hU]
  exact Kx.warm hW (Kx.less hsub hK) (fun a ha hna => hS.2.1 a ha hna)
theorem G_callV {y : MethodName} {cy : ByteArray} {maxL : Nat} {ret : Option FieldType} {idx n fr' lo' k ci N : Nat} {fl : List (Option (Option Nat))} {T : u_T} {v : Option Value} (As : List Value) (hsub : ∀ q ∈ strs', q ∈ strs) (X : Cx θ strs cc nL own fr lo) (hd : decode cc pc = .ok (.invokevirtual idx, 3)) (hc : CBd y cy maxL ret n) (hv : CBv y) (hl : Cond.methodLink own idx y ∈ g_GW)
    (hR : Rt θ.2.1 strs' y cy maxL ret fr' lo' w (.ref (w.2 k) :: As) σ v σ1) (hn : As.length = n) (hroom : fr' + 1 ≤ fr ∧ 8 + (maxL + 11) + lo' ≤ lo) (hs : w.1[k]? = some (.inl (ci, fl))) (hC : vwCl[ci]? = some (y.cls, T, N)) (hS8 : (S.map fun v => v.category).sum ≤ 8) (hcs : Rc θ cs)
    (kk : G θ cs w σ1 (pc + 3) L (v.toList ++ S)) : G θ cs w σ pc L (As.reverse ++ .ref (w.2 k) :: S) := by
  obtain ⟨p, l, e, R, s, m, args, below, meth, c, A, D, cA, Q⟩ := θ
  obtain ⟨hx, hb, hml, hown, hts, hlk, hA, hK, hfr, hlo⟩ := X
  obtain ⟨c1, c2, c3⟩ := hc
  intro H locs ls hl' hP hD hS
  have hcw : CallW R s args own y.cls idx y cy maxL ret (Cond.code y cy maxL ret :: g_GW) { frames := fr', cells := 0, slots := 0, locals := lo' } 0 0 n :=
    ⟨callB_of n hts (g_goodIn c1) rfl rfl rfl (hts _ c2) (hts _ hl) c3 ⟨Nat.le_trans hroom.1 hfr, Nat.le_trans hroom.2 hlo⟩, hts _ hv.1, hts _ hv.2⟩
  refine g_go (a := (Value.ref (w.2 k) :: As).toArray) (va_runV (As := As) (rest := S) ⟨hx, hb, hml, hown, hts⟩ (hR A D cA H.size (fun q hq => hA q (Nat.le_trans hS.1 hq))) hcw ⟨g_blind, va_recv hK.1 hP hC (g_getO hs), fun U hU hW => ⟨rfl, g_pre hsub hK hP hD hS hU hW⟩⟩ rfl hn (by rw [← hml]; exact hl'.1) rfl (lv_room hS8) hd ⟨hcs.1, hcs.2⟩) hS (fun H1 locs1 hP1 hS1 => ?_)
  exact kk H1 locs1 ls hl' hP1 (g_D hD) hS1
theorem G_callVN {y : MethodName} {host : String} {cy : ByteArray} {maxL : Nat} {ret : Option FieldType} {idx n fr' lo' k ci N : Nat} {fl : List (Option (Option Nat))} {T : u_T} {v : Option Value} (As : List Value) (hsub : ∀ q ∈ strs', q ∈ strs) (X : Cx θ strs cc nL own fr lo) (hd : decode cc pc = .ok (.invokevirtual idx, 3)) (hc : CBd y cy maxL ret n) (hv : CBv y) (hl : Cond.methodLinkNest own idx y host ∈ g_NW)
    (hR : Rt θ.2.1 strs' y cy maxL ret fr' lo' w (.ref (w.2 k) :: As) σ v σ1) (hn : As.length = n) (hroom : fr' + 1 ≤ fr ∧ 8 + (maxL + 11) + lo' ≤ lo) (hs : w.1[k]? = some (.inl (ci, fl))) (hC : vwCl[ci]? = some (y.cls, T, N)) (hS8 : (S.map fun v => v.category).sum ≤ 8) (hcs : Rc θ cs)
    (kk : G θ cs w σ1 (pc + 3) L (v.toList ++ S)) : G θ cs w σ pc L (As.reverse ++ .ref (w.2 k) :: S) := by
  obtain ⟨p, l, e, R, s, m, args, below, meth, c, A, D, cA, Q⟩ := θ
  obtain ⟨hx, hb, hml, hown, hts, hlk, hA, hK, hfr, hlo⟩ := X
  obtain ⟨c1, c2, c3⟩ := hc
  intro H locs ls hl' hP hD hS
  have hcw : va_CN R s args own idx y host cy maxL ret (Cond.code y cy maxL ret :: g_GW) { frames := fr', cells := 0, slots := 0, locals := lo' } 0 0 n ∧ (Cond.instanceMethod y).before args s = true ∧ (Cond.selects y.cls y y).before args s = true :=
    ⟨va_cnB n hts (g_goodIn c1) rfl rfl rfl (hK.2.1 _ hl) (hts _ c2) c3 ⟨Nat.le_trans hroom.1 hfr, Nat.le_trans hroom.2 hlo⟩, hts _ hv.1, hts _ hv.2⟩
  refine g_go (a := (Value.ref (w.2 k) :: As).toArray) (va_runVN (As := As) (rest := S) ⟨hx, hb, hml, hown, hts⟩ (hR A D cA H.size (fun q hq => hA q (Nat.le_trans hS.1 hq))) hcw ⟨g_blind, va_recv hK.1 hP hC (g_getO hs), fun U hU hW => ⟨rfl, g_pre hsub hK hP hD hS hU hW⟩⟩ rfl hn (by rw [← hml]; exact hl'.1) rfl (lv_room hS8) hd ⟨hcs.1, hcs.2⟩) hS (fun H1 locs1 hP1 hS1 => ?_)
  exact kk H1 locs1 ls hl' hP1 (g_D hD) hS1
theorem G_callS {y : MethodName} {cy : ByteArray} {maxL : Nat} {ret : Option FieldType} {idx n fr' lo' : Nat} {v : Option Value} (As : List Value) (hsub : ∀ q ∈ strs', q ∈ strs) (X : Cx θ strs cc nL own fr lo) (hd : decode cc pc = .ok (.invokestatic idx, 3)) (hc : CBd y cy maxL ret n) (hv : Cond.static y ∈ g_GW) (hl : Cond.methodLink own idx y ∈ g_GW)
    (hR : Rt θ.2.1 strs' y cy maxL ret fr' lo' w As σ v σ1) (hn : As.length = n) (hroom : fr' + 1 ≤ fr ∧ 8 + (maxL + 11) + lo' ≤ lo) (hS8 : (S.map fun v => v.category).sum ≤ 8) (hcs : Rc θ cs)
    (kk : G θ cs w σ1 (pc + 3) L (v.toList ++ S)) : G θ cs w σ pc L (As.reverse ++ S) := by
  obtain ⟨p, l, e, R, s, m, args, below, meth, c, A, D, cA, Q⟩ := θ
  obtain ⟨hx, hb, hml, hown, hts, hlk, hA, hK, hfr, hlo⟩ := X
  obtain ⟨c1, c2, c3⟩ := hc
  intro H locs ls hl' hP hD hS
  have hcw : CallB R s args own idx y cy maxL ret (Cond.code y cy maxL ret :: g_GW) { frames := fr', cells := 0, slots := 0, locals := lo' } 0 0 n ∧ (Cond.static y).before args s = true :=
    ⟨callB_of n hts (g_goodIn c1) rfl rfl rfl (hts _ c2) (hts _ hl) c3 ⟨Nat.le_trans hroom.1 hfr, Nat.le_trans hroom.2 hlo⟩, hts _ hv⟩
  refine g_go (a := As.toArray) (va_runS (As := As) (rest := S) ⟨hx, hb, hml, hown, hts⟩ (hR A D cA H.size (fun q hq => hA q (Nat.le_trans hS.1 hq))) hcw ⟨g_blind, fun U hU hW => ⟨rfl, g_pre hsub hK hP hD hS hU hW⟩⟩ rfl hn (by rw [← hml]; exact hl'.1) rfl (lv_room hS8) hd ⟨hcs.1, hcs.2⟩) hS (fun H1 locs1 hP1 hS1 => ?_)
  exact kk H1 locs1 ls hl' hP1 (g_D hD) hS1
theorem G_callSN {y : MethodName} {host : String} {cy : ByteArray} {maxL : Nat} {ret : Option FieldType} {idx n fr' lo' : Nat} {v : Option Value} (As : List Value) (hsub : ∀ q ∈ strs', q ∈ strs) (X : Cx θ strs cc nL own fr lo) (hd : decode cc pc = .ok (.invokestatic idx, 3)) (hc : CBd y cy maxL ret n) (hv : Cond.static y ∈ g_GW) (hl : Cond.methodLinkNest own idx y host ∈ g_NW)
    (hR : Rt θ.2.1 strs' y cy maxL ret fr' lo' w As σ v σ1) (hn : As.length = n) (hroom : fr' + 1 ≤ fr ∧ 8 + (maxL + 11) + lo' ≤ lo) (hS8 : (S.map fun v => v.category).sum ≤ 8) (hcs : Rc θ cs)
    (kk : G θ cs w σ1 (pc + 3) L (v.toList ++ S)) : G θ cs w σ pc L (As.reverse ++ S) := by
  obtain ⟨p, l, e, R, s, m, args, below, meth, c, A, D, cA, Q⟩ := θ
  obtain ⟨hx, hb, hml, hown, hts, hlk, hA, hK, hfr, hlo⟩ := X
  obtain ⟨c1, c2, c3⟩ := hc
  intro H locs ls hl' hP hD hS
  have hcw : va_CN R s args own idx y host cy maxL ret (Cond.code y cy maxL ret :: g_GW) { frames := fr', cells := 0, slots := 0, locals := lo' } 0 0 n ∧ (Cond.static y).before args s = true ∧ True :=
    ⟨va_cnB n hts (g_goodIn c1) rfl rfl rfl (hK.2.1 _ hl) (hts _ c2) c3 ⟨Nat.le_trans hroom.1 hfr, Nat.le_trans hroom.2 hlo⟩, hts _ hv, trivial⟩
  refine g_go (a := As.toArray) (va_runSN (As := As) (rest := S) ⟨hx, hb, hml, hown, hts⟩ (hR A D cA H.size (fun q hq => hA q (Nat.le_trans hS.1 hq))) hcw ⟨g_blind, fun U hU hW => ⟨rfl, g_pre hsub hK hP hD hS hU hW⟩⟩ rfl hn (by rw [← hml]; exact hl'.1) rfl (lv_room hS8) hd ⟨hcs.1, hcs.2⟩) hS (fun H1 locs1 hP1 hS1 => ?_)
  exact kk H1 locs1 ls hl' hP1 (g_D hD) hS1
end GC
