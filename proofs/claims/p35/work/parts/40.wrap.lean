/-! the law's calls of the class: methods with a table of their own -/
def Nx (U : State) : Prop := va_Nc (g_xn 3) (g_xn 2) U
theorem Nx.moved {u U : State} (hvm : u.vm.Alike U.vm) (h : Nx u) : Nx U := va_Nc.moved hvm h
def g_BW (D : va_G) (cA : Nat → ClassId) (A : Nat → Prop) (w : Wd) (σ : St) (sz : Nat) (U : State) : Prop := g_B D cA g_strs A w σ sz U ∧ Nx U
theorem g_blindW {D : va_G} {cA : Nat → ClassId} {A : Nat → Prop} {w : Wd} {σ : St} {sz : Nat} {av : List Value} : FrameBlind (va_Pc av (g_BW D cA A w σ sz)) := by
  intro a U g mk h
  have h1 := g_blind a U g mk ⟨h.1, h.2.1⟩
  exact ⟨h1.1, h1.2, Nx.moved (u := U) (U := U.calling g mk a) (Vm.Alike.refl U.vm) h.2.2⟩
def RtW (l : Launch) (y : MethodName) (cc : ByteArray) (maxL : Nat) (hh : List (Nat × Nat × Nat × Nat)) (fr lo : Nat) (w : Wd) (av : List Value) (σ : St) (v : Int32) (σ' : St) : Prop :=
  ∀ (A : Nat → Prop) (D : va_G) (cA : Nat → ClassId) (sz : Nat), (∀ q, sz ≤ q → A q) →
    Met l y (Cond.codeWith y cc maxL (some .int) hh :: g_GW) { frames := fr, cells := 1, slots := 6, locals := lo } (va_Pc av (g_BW D cA A w σ sz)) (g_Qc D cA A w (some (.int v)) σ') 1 6 A
def Wq (θ : Th) (w : Wd) (hh : List (Nat × Nat × Nat × Nat)) (v : Int32) (σ : St) : Prop := match θ with
  | (p, l, e, R, s, m, args, below, meth, c, A, D, cA, Q) => meth.sig.returnType = some .int ∧ c.exceptionTable.toList = tableOf hh ∧ 1 ≤ R.cells ∧ 6 ≤ R.slots ∧ Nx s ∧ Q = MQ below (g_Qc D cA A w (some (.int v)) σ) args s 1 6 A
theorem RtW.intro {l : Launch} {y : MethodName} {cc : ByteArray} {maxL : Nat} {hh : List (Nat × Nat × Nat × Nat)} {fr lo : Nat} {w : Wd} {av : List Value} {σ : St} {v : Int32} {σ' : St} {L : LV}
    (hy : plainName y.cls = true) (hn : (lg_sl av).length ≤ maxL) (hL : g_pairs L = lv_args 0 av)
    (body : ∀ θ : Th, θ.2.1 = l → Cx θ g_strs cc maxL y.cls fr lo → Wq θ w hh v σ' → G θ (0, 0) w σ 0 L []) : RtW l y cc maxL hh fr lo w av σ v σ' := by
  intro A D cA sz hA
  refine MetFree.of_bodyS (code := cc) (maxLocals := maxL) (ret := some .int) hy ?_ ?_
  · intro args s m h hn
    obtain ⟨m9, meth, c, hn9, h1, h2, h3, h4, -, h5, h6, -⟩ := Cond.codeWith_spec (atoms_spec (ws := Cond.codeWith y cc maxL (some .int) hh :: g_GW) h _ List.mem_cons_self)
    cases hn.symm.trans hn9
    exact ⟨meth, c, h1, h2, h3, h4, h5, h6⟩
  · intro p e s m args below meth c s₁ B hml hv _
    obtain ⟨rfl, ⟨hsz, hP, hD, hK⟩, hN⟩ := hv
    have hts := atoms_spec (ws := Cond.codeWith y cc maxL (some .int) hh :: g_GW) B.pre
    have hown : s.vm.findClass y.cls = some m.cls := findClass_of_methodNamed B.named
    have htab := vx_table (x := y) B (hts _ List.mem_cons_self)
    subst hsz
    have hh0 : s₁.heap = s.heap := by rw [B.state]; rfl
    have hb := body (p, l, e, (headSpec (Cond.codeWith y cc maxL (some .int) hh :: g_GW) { frames := fr, cells := 1, slots := 6, locals := lo }).room, s, m, av.toArray, below, meth, c, A, D, cA, MQ below (g_Qc D cA A w (some (.int v)) σ') av.toArray s 1 6 A) rfl
      ⟨B.exec, B.bytes, hml, hown, fun w hw => hts w (List.mem_cons_of_mem _ hw), B.notSynchronized, hA, hK, Nat.le_refl _, Nat.le_refl _⟩ ⟨B.returns, htab, Nat.le_refl _, Nat.le_refl _, hN, rfl⟩
    have k := hb s.heap [] _ (by rw [hml]; exact LH.entry av hn hL) hP hD va_S.rf
    rw [← lg_entry_eq] at k
    obtain ⟨t, a1, o, b1, b2, b3⟩ := k s₁ hh0 (Stand.of_body B)
    exact ⟨t, o, a1, b1, b2, ⟨b3.1, b3.2⟩⟩
section GW
variable {θ : Th} {cs : Nat × Nat} {w : Wd} {σ σ1 : St} {pc : Nat} {L : LV} {S : List Value} {strs strs' : List (String × Nat × String)} {cc : ByteArray} {nL : Nat} {own : String} {fr lo : Nat} {hh : List (Nat × Nat × Nat × Nat)}
theorem G_wret {v r : Int32} (X : Cx θ strs cc nL own fr lo) (hq : Wq θ w hh r σ) (hd : decode cc pc = .ok (.ireturn, 1)) (hcs : cs.1 ≤ 1 ∧ cs.2 ≤ 6) (h : v = r) : G θ cs w σ pc L [.int v] := by
  obtain ⟨p, l, e, R, s, m, args, below, meth, c, A, D, cA, Q⟩ := θ
  obtain ⟨hx, hb, hml, hown, hts, hlk, hA, hK, hfr, hlo⟩ := X
  obtain ⟨hr, _, _, _, _, rfl⟩ := hq
  intro H locs ls hl' hP hD hS
  subst h
  exact W.widen hcs.1 hcs.2 (W.iret hx hb hr (fun t ht hW => ⟨rfl, by rw [ht]; exact hP, hS.F ht⟩) hS.2.2 hd)
/-- a call that throws, caught by a row of the method's table -/
theorem G_callSC {y : MethodName} {cy : ByteArray} {maxL : Nat} {ret : Option FieldType} {idx n fr' lo' e : Nat} {r : Int32} {σ' : St} (As : List Value) (pre : List (Nat × Nat × Nat × Nat)) (x : Nat × Nat × Nat × Nat) (suf : List (Nat × Nat × Nat × Nat)) (X : Cx θ g_strs cc nL own fr lo) (hq : Wq θ w hh r σ') (hd : decode cc pc = .ok (.invokestatic idx, 3)) (hc : CBd y cy maxL ret n) (hv : Cond.static y ∈ g_GW) (hl : Cond.methodLink own idx y ∈ g_GW)
    (hR : Tx θ.2.1 g_strs y cy maxL ret fr' lo' w As σ (g_xn e) σ1) (hn : As.length = n) (hroom : fr' + 1 ≤ fr ∧ 8 + (maxL + 11) + lo' ≤ lo) (hS8 : (S.map fun v => v.category).sum ≤ 8)
    (hsplit : hh = pre ++ x :: suf) (hpass : ∀ z ∈ pre, ∃ nm : String, z.2.2.2 ≠ 0 ∧ Cond.classLink own z.2.2.2 nm ∈ g_GW ∧ ∀ U : State, Nx U → va_Nc (g_xn e) nm U) (hcov : x.1 ≤ pc ∧ pc < x.2.1) (hx0 : x.2.2.2 ≠ 0) (hlink : Cond.classLink own x.2.2.2 (g_xn e) ∈ g_GW) (hcast : Cond.castable (g_xn e) (g_xn e) ∈ g_NW)
    (kk : ∀ q : Nat, G θ (1, 6) w σ1 x.2.2.1 L [.ref q]) : G θ (0, 0) w σ pc L (As.reverse ++ S) := by
  obtain ⟨p, l, e9, R, s, m, args, below, meth, c, A, D, cA, Q⟩ := θ
  obtain ⟨hx, hb, hml, hown, hts, hlk, hA, hK, hfr, hlo⟩ := X
  obtain ⟨hr, htab, hR1, hR2, hN, rfl⟩ := hq
  obtain ⟨c1, c2, c3⟩ := hc
  intro H locs ls hl' hP hD hS
  have hcw : CallB R s args own idx y cy maxL ret (Cond.code y cy maxL ret :: g_GW) { frames := fr', cells := 1, slots := 6, locals := lo' } 1 6 n ∧ (Cond.static y).before args s = true :=
    ⟨callB_of n hts (g_goodIn c1) rfl rfl rfl (hts _ c2) (hts _ hl) c3 ⟨Nat.le_trans hroom.1 hfr, Nat.le_trans hroom.2 hlo⟩, hts _ hv⟩
  have run := vx_runS (p := p) (e := e9) (meth := meth) (below := below) (H := H) (locs := locs) (cells := 0) (slots := 0) (As := As) (rest := S) (g := F0 m pc ls (As.reverse ++ S)) ⟨hx, hb, hml, hown, hts⟩ (hR A D cA H.size (fun q hq => hA q (Nat.le_trans hS.1 hq))) hcw ⟨g_blind, fun U hU hW => ⟨rfl, g_pre (fun _ h => h) hK hP hD hS hU hW⟩⟩ rfl hn (by rw [← hml]; exact hl'.1) rfl (lv_room hS8) hd ⟨hR1, hR2⟩
  intro T9 hT9 X9
  rcases run T9 hT9 X9 with ⟨v, st₀, t, T', L9, h0, X', hL, e1, e2, hno, st⟩ | ⟨q, st₀, t, T', L9, E, ce, h0, X', hL, e1, e2, ⟨hE, hp, hF⟩, hce, hcv, hcl, st⟩
  · exact hno.elim
  · subst hE
    obtain ⟨k1, k2, k3⟩ := vx_keep h0 e1 hS (fun _ _ h => h) (fun _ h => h) hL hF
    have hcat := vx_catch (p := p) (l := l) (e := e9) (R := R) (args := args) (below := below) (meth := meth) (H := T'.heap) (locs := locs ++ L9) (cells := 0 + 1) (slots := 0 + 6) (Q := MQ below (g_Qc D cA A w (some (.int r)) σ') args s 1 6 A) (pc := pc) (ls := ls) (rest := S) (c := c) (m := m) (q := q) (name := g_xn e) hown (tableOf pre) ⟨x.1, x.2.1, x.2.2.1, x.2.2.2⟩ (tableOf suf) (by rw [htab, hsplit]; simp [tableOf])
      (fun z hz => by
        obtain ⟨z', hz', rfl⟩ := List.mem_map.mp hz
        obtain ⟨nm, g1, g2, g3⟩ := hpass z' hz'
        exact Or.inr ⟨g1, nm, hts _ g2, g3 s hN⟩) (by simp only [covers, Bool.and_eq_true, decide_eq_true_eq]; exact hcov) hx0 (hts _ hlink) (g_nw hK.2.1 hcast) (by rw [e1]; exact hce) hcv hcl
      (kk q T'.heap (locs ++ L9) ls hl' (by rw [e1]; exact hp) (g_D hD) k3)
    obtain ⟨t2, a1, b1⟩ := hcat T' rfl X'
    exact ⟨t2, st.trans a1, b1⟩
/-- a static call of such a method -/
theorem G_callSW {y : MethodName} {cy : ByteArray} {maxL idx n fr' lo' : Nat} {v : Int32} (As : List Value) (X : Cx θ g_strs cc nL own fr lo) (hN : match θ with | (p, l, e, R, s, m, args, below, meth, c, A, D, cA, Q) => Nx s) (hd : decode cc pc = .ok (.invokestatic idx, 3)) (hcode : Cond.codeWith y cy maxL (some .int) hh ∈ g_GW) (hini : Cond.initialized y.cls ∈ g_GW) (c3 : y.cls ≠ "java/lang/invoke/MethodHandle" ∧ y.cls ≠ "java/lang/invoke/VarHandle" ∧ (parseMethodDescriptor y.desc).map (fun d => d.parameters.length) = some n) (hv : Cond.static y ∈ g_GW) (hl : Cond.methodLink own idx y ∈ g_GW)
    (hR : RtW θ.2.1 y cy maxL hh fr' lo' w As σ v σ1) (hn : As.length = n) (hroom : fr' + 1 ≤ fr ∧ 8 + (maxL + 11) + lo' ≤ lo) (hS8 : (S.map fun v => v.category).sum ≤ 8) (hcs : Rm θ (cs.1 + 1) (cs.2 + 6))
    (kk : G θ (cs.1 + 1, cs.2 + 6) w σ1 (pc + 3) L (.int v :: S)) : G θ cs w σ pc L (As.reverse ++ S) := by
  obtain ⟨p, l, e, R, s, m, args, below, meth, c, A, D, cA, Q⟩ := θ
  obtain ⟨hx, hb, hml, hown, hts, hlk, hA, hK, hfr, hlo⟩ := X
  intro H locs ls hl' hP hD hS
  have hG : GoodIn g_GW (va_wsS own idx y (Cond.codeWith y cy maxL (some .int) hh :: g_GW)) := by
    have hall : ∀ w ∈ g_GW, goodWord w = true := fun w hw => (List.mem_filter.mp hw).2
    intro w hw
    have hm : w ∈ g_GW := by
      simp only [va_wsS, List.mem_append, List.mem_cons, List.not_mem_nil, or_false] at hw
      rcases hw with (rfl | rfl | rfl) | rfl | hw
      · exact hl
      · exact hv
      · exact hini
      · exact hcode
      · exact hw
    exact ⟨hm, good_of_word (hall _ hm)⟩
  have hcw := vx_cwSW (R := R) (rm := { frames := fr', cells := 1, slots := 6, locals := lo' }) (mc := 1) (ms := 6) n hts hG rfl rfl rfl c3 ⟨Nat.le_trans hroom.1 hfr, Nat.le_trans hroom.2 hlo⟩
  have run := vx_runSW (p := p) (e := e) (meth := meth) (below := below) (H := H) (locs := locs) (cells := cs.1) (slots := cs.2) (As := As) (rest := S) (g := F0 m pc ls (As.reverse ++ S)) ⟨hx, hb, hml, hown, hts⟩ (hR A D cA H.size (fun q hq => hA q (Nat.le_trans hS.1 hq))) hcw ⟨g_blindW, fun U hU hW => ⟨rfl, g_pre (fun _ h => h) hK hP hD hS hU hW, Nx.moved hW.alike hN⟩⟩ rfl hn (by rw [← hml]; exact hl'.1) rfl (lv_room hS8) hd hcs
  intro T9 hT9 X9
  obtain ⟨v', st₀, t, T', L9, h0, X', hL, e1, e2, ⟨hv', hp, hz, hk⟩, st⟩ := run T9 hT9 X9
  cases hv'
  rw [h0] at hz hk
  obtain ⟨t2, a1, b1⟩ := kk T'.heap (locs ++ L9) ls hl' (by rw [e1]; exact hp) (g_D hD)
    ⟨Nat.le_trans hS.1 (by rw [e1]; exact hz), fun q h1 h2 => by rw [e1, hk q (Nat.lt_of_lt_of_le h1 hS.1) h2]; exact hS.2.1 q h1 h2, fun q hq => by
      rcases List.mem_append.mp hq with h | h
      · exact hS.2.2 q h
      · exact hL q h⟩ T' rfl X'
  exact ⟨t2, st t2 a1, b1⟩
end GW
/-! the law's own rules -/
def Sx (θ : Th) (b n : Nat) (xs : Nat → Int32) : Prop := match θ with
  | (p, l, e, R, s, m, args, below, meth, c, A, D, cA, Q) => va_X b n xs s s.heap ∧ b < s.heap.size ∧ ¬ A b ∧ Nx s
section GL
variable {θ : Th} {cs : Nat × Nat} {w : Wd} {σ σ1 : St} {pc : Nat} {L : LV} {S : List Value} {strs strs' : List (String × Nat × String)} {cc : ByteArray} {nL : Nat} {own : String} {fr lo : Nat} {b n : Nat} {xs : Nat → Int32}
theorem Sx.nx (h : Sx θ b n xs) : match θ with | (p, l, e, R, s, m, args, below, meth, c, A, D, cA, Q) => Nx s := by
  obtain ⟨p, l, e, R, s, m, args, below, meth, c, A, D, cA, Q⟩ := θ
  exact h.2.2.2
theorem G_sld {i : Int32} (X : Cx θ strs cc nL own fr lo) (hS9 : Sx θ b n xs) (hd : decode cc pc = .ok (.iaload, 1)) (hin : inb i n = true) (kk : G θ cs w σ (pc + 1) L (.int (xs (ix i)) :: S)) : G θ cs w σ pc L (.int i :: .ref b :: S) := by
  obtain ⟨p, l, e, R, s, m, args, below, meth, c, A, D, cA, Q⟩ := θ
  obtain ⟨hx, hb, hml, hown, hts, hlk, hA, hK, hfr, hlo⟩ := X
  intro H locs ls hl' hP hD hS
  exact va_sld hx hb hS9.1 hS9.2.1 hS9.2.2.1 hS (inb_vp hin) hd (kk H locs ls hl' hP hD hS)
theorem G_slen (X : Cx θ strs cc nL own fr lo) (hS9 : Sx θ b n xs) (hd : decode cc pc = .ok (.arraylength, 1)) (kk : G θ cs w σ (pc + 1) L (.int (Int32.ofNat n) :: S)) : G θ cs w σ pc L (.ref b :: S) := by
  obtain ⟨p, l, e, R, s, m, args, below, meth, c, A, D, cA, Q⟩ := θ
  obtain ⟨hx, hb, hml, hown, hts, hlk, hA, hK, hfr, hlo⟩ := X
  intro H locs ls hl' hP hD hS
  exact va_slen hx hb hS9.1 hS9.2.1 hS9.2.2.1 hS hd (kk H locs ls hl' hP hD hS)
end GL
/-! a static method that reads the script -/
def g_BS (D : va_G) (cA : Nat → ClassId) (A : Nat → Prop) (w : Wd) (σ : St) (sz b n : Nat) (xs : Nat → Int32) (U : State) : Prop := g_B D cA [] A w σ sz U ∧ va_X b n xs U U.heap ∧ b < U.heap.size ∧ ¬ A b ∧ Nx U
theorem g_blindS {D : va_G} {cA : Nat → ClassId} {A : Nat → Prop} {w : Wd} {σ : St} {sz b n : Nat} {xs : Nat → Int32} {av : List Value} : FrameBlind (va_Pc av (g_BS D cA A w σ sz b n xs)) := by
  intro a U g mk h
  have h1 := g_blind a U g mk ⟨h.1, h.2.1⟩
  exact ⟨h1.1, h1.2, va_X.moved (u := U) (U := U.calling g mk a) (Vm.Alike.refl U.vm) h.2.2.1, h.2.2.2.1, h.2.2.2.2.1, Nx.moved (u := U) (U := U.calling g mk a) (Vm.Alike.refl U.vm) h.2.2.2.2.2⟩
def RtS (l : Launch) (y : MethodName) (cc : ByteArray) (maxL : Nat) (fr lo : Nat) (w : Wd) (av : List Value) (σ : St) (b n : Nat) (xs : Nat → Int32) (v : Int32) : Prop :=
  ∀ (A : Nat → Prop) (D : va_G) (cA : Nat → ClassId) (sz : Nat), (∀ q, sz ≤ q → A q) →
    Met l y (Cond.code y cc maxL (some .int) :: g_GW) { frames := fr, cells := 0, slots := 0, locals := lo } (va_Pc av (g_BS D cA A w σ sz b n xs)) (g_Qc D cA A w (some (.int v)) σ) 0 0 A
theorem RtS.intro {l : Launch} {y : MethodName} {cc : ByteArray} {maxL : Nat} {fr lo : Nat} {w : Wd} {av : List Value} {σ : St} {b n : Nat} {xs : Nat → Int32} {v : Int32} {L : LV}
    (hy : plainName y.cls = true) (hn : (lg_sl av).length ≤ maxL) (hL : g_pairs L = lv_args 0 av)
    (body : ∀ θ : Th, θ.2.1 = l → Cx θ [] cc maxL y.cls fr lo → Sx θ b n xs → Rq θ w (some .int) (some (.int v)) σ → G θ (0, 0) w σ 0 L []) : RtS l y cc maxL fr lo w av σ b n xs v := by
  intro A D cA sz hA
  refine Met.ofW (cc := cc) (maxL := maxL) (ret := some .int) hy rfl ?_
  intro p e s m args below meth c s₁ B hml hv
  obtain ⟨rfl, ⟨hsz, hP, hD, hK⟩, hX, hbl, hbA, hN⟩ := hv
  have hts := atoms_spec (ws := Cond.code y cc maxL (some .int) :: g_GW) B.pre
  have hown : s.vm.findClass y.cls = some m.cls := findClass_of_methodNamed B.named
  subst hsz
  have hb := body (p, l, e, (headSpec (Cond.code y cc maxL (some .int) :: g_GW) { frames := fr, cells := 0, slots := 0, locals := lo }).room, s, m, av.toArray, below, meth, c, A, D, cA, MQ below (g_Qc D cA A w (some (.int v)) σ) av.toArray s 0 0 A) rfl
    ⟨B.exec, B.bytes, hml, hown, fun w hw => hts w (List.mem_cons_of_mem _ hw), B.notSynchronized, hA, hK, Nat.le_refl _, Nat.le_refl _⟩ ⟨hX, hbl, hbA, hN⟩ ⟨B.returns, rfl⟩
  rw [lg_entry_eq]
  exact hb s.heap [] _ (by rw [hml]; exact LH.entry av hn hL) hP hD va_S.rf
section GSS
variable {θ : Th} {cs : Nat × Nat} {w : Wd} {σ σ1 : St} {pc : Nat} {L : LV} {S : List Value} {strs : List (String × Nat × String)} {cc : ByteArray} {nL : Nat} {own : String} {fr lo : Nat} {b N : Nat} {xs : Nat → Int32}
theorem G_callSS {y : MethodName} {cy : ByteArray} {maxL idx n fr' lo' : Nat} {v : Int32} (As : List Value) (X : Cx θ strs cc nL own fr lo) (hS9 : Sx θ b N xs) (hd : decode cc pc = .ok (.invokestatic idx, 3)) (hc : CBd y cy maxL (some .int) n) (hv : Cond.static y ∈ g_GW) (hl : Cond.methodLink own idx y ∈ g_GW)
    (hR : RtS θ.2.1 y cy maxL fr' lo' w As σ b N xs v) (hn : As.length = n) (hroom : fr' + 1 ≤ fr ∧ 8 + (maxL + 11) + lo' ≤ lo) (hS8 : (S.map fun v => v.category).sum ≤ 8) (hcs : Rc θ cs)
    (kk : G θ cs w σ (pc + 3) L (.int v :: S)) : G θ cs w σ pc L (As.reverse ++ S) := by
  obtain ⟨p, l, e, R, s, m, args, below, meth, c, A, D, cA, Q⟩ := θ
  obtain ⟨hx, hb, hml, hown, hts, hlk, hA, hK, hfr, hlo⟩ := X
  obtain ⟨hX, hbl, hbA, hN⟩ := hS9
  obtain ⟨c1, c2, c3⟩ := hc
  intro H locs ls hl' hP hD hS
  have hcw : CallB R s args own idx y cy maxL (some .int) (Cond.code y cy maxL (some .int) :: g_GW) { frames := fr', cells := 0, slots := 0, locals := lo' } 0 0 n ∧ (Cond.static y).before args s = true :=
    ⟨callB_of n hts (g_goodIn c1) rfl rfl rfl (hts _ c2) (hts _ hl) c3 ⟨Nat.le_trans hroom.1 hfr, Nat.le_trans hroom.2 hlo⟩, hts _ hv⟩
  refine g_go (a := As.toArray) (v := some (.int v)) (σ1 := σ) (va_runS (As := As) (rest := S) ⟨hx, hb, hml, hown, hts⟩ (hR A D cA H.size (fun q hq => hA q (Nat.le_trans hS.1 hq))) hcw ⟨g_blindS, fun U hU hW => ⟨rfl, g_pre nosub hK hP hD hS hU hW, ?_, ?_, hbA, Nx.moved hW.alike hN⟩⟩ rfl hn (by rw [← hml]; exact hl'.1) rfl (lv_room hS8) hd ⟨hcs.1, hcs.2⟩) hS (fun H1 locs1 hP1 hS1 => ?_)
  · rw [hU]
    exact va_X.moved hW.alike (hX.kept (hS.2.1 b hbl hbA))
  · rw [hU]
    exact Nat.lt_of_lt_of_le hbl hS.1
  · exact kk H1 locs1 ls hl' hP1 (g_D hD) hS1
def cay {α β : Type} (o : Option (Except Nat α × St)) (f : α → St → Option β) : Option β := match o with
  | some (.ok v, σ) => f v σ
  | _ => none
theorem cay_go {α β : Type} {o : Option (Except Nat α × St)} {f : α → St → Option β} {r : β} (h : cay o f = some r) : ∃ v σ, o = some (.ok v, σ) ∧ f v σ = some r := by
  cases o with
  | none => cases h
  | some q =>
    obtain ⟨x', σ1⟩ := q
    cases x' with
    | error e => cases h
    | ok v => exact ⟨v, σ1, rfl, h⟩
end GSS
