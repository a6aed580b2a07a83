/-! methods that throw -/
def g_xn (e : Nat) : String := match e with
  | 1 => "java/lang/IndexOutOfBoundsException"
  | 2 => "java/lang/IllegalArgumentException"
  | _ => "java/lang/IllegalStateException"
def g_XC (D : va_G) (cA : Nat → ClassId) (A : Nat → Prop) (w : Wd) (x : String) (σ : St) : String → State → State → Prop := fun E st t => E = x ∧ va_P D vwCl (g_ws cA w σ) t.heap ∧ va_F A st t
def g_no : Array Value → State → Outcome → State → Prop := fun _ _ _ _ => False
/-- method y, from σ on the arguments av: throws x, and leaves σ' -/
def Tx (l : Launch) (strs : List (String × Nat × String)) (y : MethodName) (cc : ByteArray) (maxL : Nat) (ret : Option FieldType) (fr lo : Nat) (w : Wd) (av : List Value) (σ : St) (x : String) (σ' : St) : Prop :=
  ∀ (A : Nat → Prop) (D : va_G) (cA : Nat → ClassId) (sz : Nat), (∀ q, sz ≤ q → A q) →
    vx_Met l y (Cond.code y cc maxL ret :: g_GW) { frames := fr, cells := 1, slots := 6, locals := lo } (va_Pc av (g_B D cA strs A w σ sz)) g_no (g_XC D cA A w x σ') 1 6 A
def Tq (θ : Th) (w : Wd) (x : String) (σ : St) : Prop := match θ with
  | (p, l, e, R, s, m, args, below, meth, c, A, D, cA, Q) => l.stackTraces = false ∧ 1 ≤ R.cells ∧ 6 ≤ R.slots ∧ (∀ x ∈ c.exceptionTable.toList, False) ∧ Q = vx_MQ below g_no (g_XC D cA A w x σ) args s 1 6 A
theorem Tx.intro {l : Launch} {strs : List (String × Nat × String)} {y : MethodName} {cc : ByteArray} {maxL : Nat} {ret : Option FieldType} {fr lo : Nat} {w : Wd} {av : List Value} {σ : St} {x : String} {σ' : St} {L : LV} (htr : l.stackTraces = false)
    (hy : plainName y.cls = true) (hn : (lg_sl av).length ≤ maxL) (hL : g_pairs L = lv_args 0 av)
    (body : ∀ θ : Th, θ.2.1 = l → Cx θ strs cc maxL y.cls fr lo → Tq θ w x σ' → G θ (0, 0) w σ 0 L []) : Tx l strs y cc maxL ret fr lo w av σ x σ' := by
  intro A D cA sz hA
  refine vx_ofW (cc := cc) (maxL := maxL) (ret := ret) hy rfl ?_
  intro p e s m args below meth c s₁ B hml htab hv
  obtain ⟨rfl, hsz, hP, hD, hK⟩ := hv
  have hts := atoms_spec (ws := Cond.code y cc maxL ret :: g_GW) B.pre
  have hown : s.vm.findClass y.cls = some m.cls := findClass_of_methodNamed B.named
  subst hsz
  have hb := body (p, l, e, (headSpec (Cond.code y cc maxL ret :: g_GW) { frames := fr, cells := 1, slots := 6, locals := lo }).room, s, m, av.toArray, below, meth, c, A, D, cA, vx_MQ below g_no (g_XC D cA A w x σ') av.toArray s 1 6 A) rfl
    ⟨B.exec, B.bytes, hml, hown, fun w hw => hts w (List.mem_cons_of_mem _ hw), B.notSynchronized, hA, hK, Nat.le_refl _, Nat.le_refl _⟩ ⟨htr, Nat.le_refl _, Nat.le_refl _, htab, rfl⟩
  rw [lg_entry_eq]
  exact hb s.heap [] _ (by rw [hml]; exact LH.entry av hn hL) hP hD va_S.rf
section GT
variable {θ : Th} {cs : Nat × Nat} {w : Wd} {σ σ1 : St} {pc : Nat} {L : LV} {S : List Value} {strs strs' : List (String × Nat × String)} {cc : ByteArray} {nL : Nat} {own : String} {fr lo : Nat}
/-- the words of a throw statement -/
def TW (own cls : String) (ik ic : Nat) (names : List String) : Prop := Bundle.fit cls = true ∧ (∀ n ∈ names, Bundle.fit n = true) ∧ Cond.classLink own ik cls ∈ g_GW ∧ Cond.initialized cls ∈ g_GW ∧ (vx_atS own ic cls names).all (fun w => decide (w ∈ g_GW) || decide (w ∈ g_NW)) = true ∧ (Cond.classLink own ik cls :: Cond.initialized cls :: vx_atS own ic cls names).all vx_ot = true
theorem G_throw {cls text : String} {names : List String} {ik is ic : Nat} (X : Cx θ strs cc nL own fr lo) (hq : Tq θ w cls σ) (tw : TW own cls ik ic names) (hstr : (own, is, text) ∈ strs)
    (d0 : decode cc pc = .ok (.new ik, 3)) (d3 : decode cc (pc + 3) = .ok (.dup, 1)) (d4 : decode cc (pc + 4) = .ok (.ldc_w is, 3)) (d7 : decode cc (pc + 7) = .ok (.invokespecial ic, 3)) (d10 : decode cc (pc + 10) = .ok (.athrow, 1))
    (hRf : names.length + 3 < fr) (hRl : (S.map fun v => v.category).sum + (13 * (names.length + 1) + 43) ≤ lo) : G θ (0, 0) w σ pc L S := by
  obtain ⟨p, l, e, R, s, m, args, below, meth, c, A, D, cA, Q⟩ := θ
  obtain ⟨hx, hb, hml, hown, hts, hlk, hA, hK, hfr, hlo⟩ := X
  obtain ⟨htr, hR1, hR2, htab, rfl⟩ := hq
  obtain ⟨t1, t2, t3, t4, t5, t6⟩ := tw
  intro H locs ls hl' hP hD hS
  obtain ⟨sa, hsa⟩ := hK.2.2.2 _ hstr
  refine vx_throwSW hx hb htr hown t1 t2 (hts _ t3) (hts _ t4) hsa ?_ (fun w hw => List.all_eq_true.mp t6 w hw) hK.2.2.1.1 hK.2.2.1.2 hS hl'.1 d0 d3 d4 d7 d10 (fun x hx => (htab x hx).elim) (Nat.lt_of_lt_of_le hRf hfr) (Nat.le_trans hRl hlo) hR1 hR2 hlk ?_ hS.2.2 (Nat.le_refl _) (Nat.le_refl _)
  · intro w hw
    have := List.all_eq_true.mp t5 w hw
    simp only [Bool.or_eq_true, decide_eq_true_eq] at this
    rcases this with h | h
    · exact hts _ h
    · exact g_nw hK.2.1 h
  · intro t hvm hsz hkeep
    refine ⟨rfl, ?_, ?_⟩
    · intro k q hk
      exact (hP k q hk).kept (hkeep _ (hP k q hk).lt)
    · refine ⟨Nat.le_trans hS.1 hsz, fun q h1 h2 => ?_⟩
      rw [hkeep q (Nat.lt_of_lt_of_le h1 hS.1)]
      exact hS.2.1 q h1 h2
theorem g_thrown {p : Program} {l : Launch} {e : Env} {R : Room} {s : State} {m : MethodId} {args : Array Value} {below : List Frame} {meth : Method} {c : Code} {H : Heap} {locs : List Loc} {D : va_G} {cA : Nat → ClassId} {A : Nat → Prop} {a : Array Value} {ls : Array Slot} {st0 rest : List Value} {x : String} (htab : ∀ x ∈ c.exceptionTable.toList, False) (hlk : meth.locks = false)
    (hr : vx_Run p l e R s m args below meth c H locs 0 0 1 6 (F0 m pc ls st0) rest (g_no a) (g_XC D cA A w x σ1) A) (hS : va_S A s.heap H locs) : W p l e R s m args below meth c H locs 0 0 (vx_MQ below g_no (g_XC D cA A w x σ1) args s 1 6 A) (F0 m pc ls st0) := by
  intro T hT X
  rcases hr T hT X with ⟨v, st₀, t, T', L9, h0, X', hL, e1, e2, hno, st⟩ | ⟨q, st₀, t, T', L9, E, ce, h0, X', hL, e1, e2, ⟨hE, hp, hF⟩, hce, hcv, hcl, st⟩
  · exact hno.elim
  · obtain ⟨k1, k2, k3⟩ := vx_keep h0 e1 hS (fun _ _ h => h) (fun _ h => h) hL hF
    obtain ⟨t2, a1, b1⟩ := vx_out (Qc := g_no) (XC := g_XC D cA A w x σ1) (args := args) (below := below) (rest := rest) (ls := ls) (pc := pc) (m := m) (mc := 1) (ms := 6) (free := A) (fun x hx => (htab x hx).elim) hlk (H := T'.heap) (by rw [e1]; exact hce) hcv hcl
      (fun t' ht' _ => ⟨hE, by rw [ht', e1]; exact hp, ⟨by rw [ht']; exact k3.1, fun q h1 h2 => by rw [ht']; exact k3.2.1 q h1 h2⟩⟩) k3.2.2 (Nat.le_refl _) (Nat.le_refl _) T' rfl X'
    exact ⟨t2, st.trans a1, b1⟩
theorem G_callSX {y : MethodName} {cy : ByteArray} {maxL : Nat} {ret : Option FieldType} {idx n fr' lo' : Nat} {x : String} (As : List Value) (hsub : ∀ q ∈ strs', q ∈ strs) (X : Cx θ strs cc nL own fr lo) (hq : Tq θ w x σ1) (hd : decode cc pc = .ok (.invokestatic idx, 3)) (hc : CBd y cy maxL ret n) (hv : Cond.static y ∈ g_GW) (hl : Cond.methodLink own idx y ∈ g_GW)
    (hR : Tx θ.2.1 strs' y cy maxL ret fr' lo' w As σ x σ1) (hn : As.length = n) (hroom : fr' + 1 ≤ fr ∧ 8 + (maxL + 11) + lo' ≤ lo) (hS8 : (S.map fun v => v.category).sum ≤ 8) : G θ (0, 0) w σ pc L (As.reverse ++ S) := by
  obtain ⟨p, l, e, R, s, m, args, below, meth, c, A, D, cA, Q⟩ := θ
  obtain ⟨hx, hb, hml, hown, hts, hlk, hA, hK, hfr, hlo⟩ := X
  obtain ⟨htr, hR1, hR2, htab, rfl⟩ := hq
  obtain ⟨c1, c2, c3⟩ := hc
  intro H locs ls hl' hP hD hS
  have hcw : CallB R s args own idx y cy maxL ret (Cond.code y cy maxL ret :: g_GW) { frames := fr', cells := 1, slots := 6, locals := lo' } 1 6 n ∧ (Cond.static y).before args s = true :=
    ⟨callB_of n hts (g_goodIn c1) rfl rfl rfl (hts _ c2) (hts _ hl) c3 ⟨Nat.le_trans hroom.1 hfr, Nat.le_trans hroom.2 hlo⟩, hts _ hv⟩
  exact g_thrown (a := As.toArray) htab hlk (vx_runS (As := As) (rest := S) ⟨hx, hb, hml, hown, hts⟩ (hR A D cA H.size (fun q hq => hA q (Nat.le_trans hS.1 hq))) hcw ⟨g_blind, fun U hU hW => ⟨rfl, g_pre hsub hK hP hD hS hU hW⟩⟩ rfl hn (by rw [← hml]; exact hl'.1) rfl (lv_room hS8) hd ⟨hR1, hR2⟩) hS
theorem G_callVX {y : MethodName} {cy : ByteArray} {maxL : Nat} {ret : Option FieldType} {idx n fr' lo' k ci N : Nat} {fl : List (Option (Option Nat))} {T : u_T} {x : String} (As : List Value) (hsub : ∀ q ∈ strs', q ∈ strs) (X : Cx θ strs cc nL own fr lo) (hq : Tq θ w x σ1) (hd : decode cc pc = .ok (.invokevirtual idx, 3)) (hc : CBd y cy maxL ret n) (hv : CBv y) (hl : Cond.methodLink own idx y ∈ g_GW)
    (hR : Tx θ.2.1 strs' y cy maxL ret fr' lo' w (.ref (w.2 k) :: As) σ x σ1) (hn : As.length = n) (hroom : fr' + 1 ≤ fr ∧ 8 + (maxL + 11) + lo' ≤ lo) (hs : w.1[k]? = some (.inl (ci, fl))) (hC : vwCl[ci]? = some (y.cls, T, N)) (hS8 : (S.map fun v => v.category).sum ≤ 8) : G θ (0, 0) w σ pc L (As.reverse ++ .ref (w.2 k) :: S) := by
  obtain ⟨p, l, e, R, s, m, args, below, meth, c, A, D, cA, Q⟩ := θ
  obtain ⟨hx, hb, hml, hown, hts, hlk, hA, hK, hfr, hlo⟩ := X
  obtain ⟨htr, hR1, hR2, htab, rfl⟩ := hq
  obtain ⟨c1, c2, c3⟩ := hc
  intro H locs ls hl' hP hD hS
  have hcw : CallW R s args own y.cls idx y cy maxL ret (Cond.code y cy maxL ret :: g_GW) { frames := fr', cells := 1, slots := 6, locals := lo' } 1 6 n :=
    ⟨callB_of n hts (g_goodIn c1) rfl rfl rfl (hts _ c2) (hts _ hl) c3 ⟨Nat.le_trans hroom.1 hfr, Nat.le_trans hroom.2 hlo⟩, hts _ hv.1, hts _ hv.2⟩
  exact g_thrown (a := (Value.ref (w.2 k) :: As).toArray) htab hlk (vx_runV (As := As) (rest := S) ⟨hx, hb, hml, hown, hts⟩ (hR A D cA H.size (fun q hq => hA q (Nat.le_trans hS.1 hq))) hcw ⟨g_blind, va_recv hK.1 hP hC (g_getO hs), fun U hU hW => ⟨rfl, g_pre hsub hK hP hD hS hU hW⟩⟩ rfl hn (by rw [← hml]; exact hl'.1) rfl (lv_room hS8) hd ⟨hR1, hR2⟩) hS
/-! both ends in one -/
def cax {α β : Type} (o : Option (Except Nat α × St)) (f : α → St → Option (Except Nat β × St)) : Option (Except Nat β × St) := match o with
  | none => none
  | some (.error e, σ) => some (.error e, σ)
  | some (.ok v, σ) => f v σ
def Xq (θ : Th) (w : Wd) (ret : Option FieldType) (x : Except Nat (Option Value)) (σ : St) : Prop := match x with
  | .ok v => Rq θ w ret v σ
  | .error e => Tq θ w (g_xn e) σ
def RX (l : Launch) (strs : List (String × Nat × String)) (y : MethodName) (cc : ByteArray) (maxL : Nat) (ret : Option FieldType) (fr lo : Nat) (w : Wd) (av : List Value) (σ : St) (x : Except Nat (Option Value)) (σ' : St) : Prop := match x with
  | .ok v => Rt l strs y cc maxL ret fr lo w av σ v σ'
  | .error e => Tx l strs y cc maxL ret fr lo w av σ (g_xn e) σ'
theorem RX.intro {l : Launch} {strs : List (String × Nat × String)} {y : MethodName} {cc : ByteArray} {maxL : Nat} {ret : Option FieldType} {fr lo : Nat} {w : Wd} {av : List Value} {σ : St} {x : Except Nat (Option Value)} {σ' : St} {L : LV} (htr : l.stackTraces = false)
    (hy : plainName y.cls = true) (hn : (lg_sl av).length ≤ maxL) (hL : g_pairs L = lv_args 0 av)
    (body : ∀ θ : Th, θ.2.1 = l → Cx θ strs cc maxL y.cls fr lo → Xq θ w ret x σ' → G θ (0, 0) w σ 0 L []) : RX l strs y cc maxL ret fr lo w av σ x σ' := by
  cases x with
  | ok v => exact Rt.intro hy hn hL body
  | error e => exact Tx.intro htr hy hn hL body
theorem cax_go {α β : Type} {o : Option (Except Nat α × St)} {f : α → St → Option (Except Nat β × St)} {x : Except Nat β} {σ' : St} {C : Prop} (h : cax o f = some (x, σ')) (ke : ∀ e, o = some (.error e, σ') → x = .error e → C) (kk : ∀ v σ1, o = some (.ok v, σ1) → f v σ1 = some (x, σ') → C) : C := by
  cases o with
  | none => cases h
  | some q =>
    obtain ⟨x', σ1⟩ := q
    cases x' with
    | error e => cases h; exact ke e rfl rfl
    | ok v => exact kk v σ1 rfl h
end GT
