section
-- ===== PART A: goes FIRST, ahead of the names: the tables' words, and 'selects' of the private methods out of them =====
/-- a private method of a class that the tables say can be made, by its rows of tables_1 -/
def lw_okq (q : MethodName × Nat) : Prop := (q.1.cls ≠ "java/lang/invoke/MethodHandle" ∧ q.1.cls ≠ "java/lang/invoke/VarHandle") ∧ Cond.instantiable q.1.cls q.2 ∈ tables_1 ∧ Cond.privateMethod q.1 ∈ tables_1 ∧ Cond.instanceMethod q.1 ∈ tables_1
theorem lw_p0 : lw_okq (⟨"Quasigrove$Maps", "arrange", "(I)V"⟩, 3) := ⟨⟨by decide +kernel, by decide +kernel⟩, List.mem_of_getElem? (i := 54) (by decide +kernel), List.mem_of_getElem? (i := 60) (by decide +kernel), List.mem_of_getElem? (i := 61) (by decide +kernel)⟩
theorem lw_p1 : lw_okq (⟨"java/lang/Throwable", "fillInStackTrace", "(I)Ljava/lang/Throwable;"⟩, 6) := ⟨⟨by decide +kernel, by decide +kernel⟩, List.mem_of_getElem? (i := 257) (by decide +kernel), List.mem_of_getElem? (i := 255) (by decide +kernel), List.mem_of_getElem? (i := 256) (by decide +kernel)⟩
theorem lw_p2 : lw_okq (⟨"Quasigrove", "newGrid", "(I)LQuasigrove$Grid;"⟩, 9) := ⟨⟨by decide +kernel, by decide +kernel⟩, List.mem_of_getElem? (i := 19) (by decide +kernel), List.mem_of_getElem? (i := 287) (by decide +kernel), List.mem_of_getElem? (i := 288) (by decide +kernel)⟩
theorem lw_p3 : lw_okq (⟨"Quasigrove$Grid", "isLine", "(I)Z"⟩, 5) := ⟨⟨by decide +kernel, by decide +kernel⟩, List.mem_of_getElem? (i := 28) (by decide +kernel), List.mem_of_getElem? (i := 335) (by decide +kernel), List.mem_of_getElem? (i := 336) (by decide +kernel)⟩
theorem lw_p4 : lw_okq (⟨"Quasigrove", "gridAt", "(I)LQuasigrove$Grid;"⟩, 9) := ⟨⟨by decide +kernel, by decide +kernel⟩, List.mem_of_getElem? (i := 19) (by decide +kernel), List.mem_of_getElem? (i := 343) (by decide +kernel), List.mem_of_getElem? (i := 344) (by decide +kernel)⟩
theorem lw_p5 : lw_okq (⟨"Quasigrove$Grid", "exchange", "(III)V"⟩, 5) := ⟨⟨by decide +kernel, by decide +kernel⟩, List.mem_of_getElem? (i := 28) (by decide +kernel), List.mem_of_getElem? (i := 499) (by decide +kernel), List.mem_of_getElem? (i := 500) (by decide +kernel)⟩
def lw_privs_1 : List (MethodName × Nat) := [(⟨"Quasigrove$Maps", "arrange", "(I)V"⟩, 3), (⟨"java/lang/Throwable", "fillInStackTrace", "(I)Ljava/lang/Throwable;"⟩, 6), (⟨"Quasigrove", "newGrid", "(I)LQuasigrove$Grid;"⟩, 9), (⟨"Quasigrove$Grid", "isLine", "(I)Z"⟩, 5), (⟨"Quasigrove", "gridAt", "(I)LQuasigrove$Grid;"⟩, 9), (⟨"Quasigrove$Grid", "exchange", "(III)V"⟩, 5)]
theorem lw_r1 : ∀ q ∈ lw_privs_1, lw_okq q := List.forall_mem_cons.mpr ⟨lw_p0, List.forall_mem_cons.mpr ⟨lw_p1, List.forall_mem_cons.mpr ⟨lw_p2, List.forall_mem_cons.mpr ⟨lw_p3, List.forall_mem_cons.mpr ⟨lw_p4, List.forall_mem_cons.mpr ⟨lw_p5, fun _ h => absurd h List.not_mem_nil⟩⟩⟩⟩⟩⟩
def lw_privs : List (MethodName × Nat) := lw_privs_1
def lw_tbl : List Cond := k2_sels lw_privs ++ tables_1
theorem lw_privs_ok : ∀ q ∈ lw_privs, lw_okq q := lw_r1
end
section
/-! ===== BEGIN words of one list among another's, by their places ===== -/
theorem goodIn_r {big : List Cond} (ws : List Cond) (ps : List Nat) (hp : ws = ps.filterMap (fun i => big[i]?)) (h : ws.all goodWord = true) : GoodIn big ws := by
  intro w hw
  have h1 := List.all_eq_true.mp h w hw
  rw [hp] at hw
  obtain ⟨i, -, hi⟩ := List.mem_filterMap.mp hw
  have hm : w ∈ big := by first | exact List.mem_of_getElem? hi | exact List.getElem?_mem hi
  exact ⟨hm, good_of_word h1⟩
theorem goodIn_app {big a b : List Cond} (ha : GoodIn big a) (hb : GoodIn big b) : GoodIn big (a ++ b) := fun w h => (List.mem_append.mp h).elim (ha w) (hb w)
theorem goodIn_ca {big a b : List Cond} {c : Cond} (ha : GoodIn big (c :: a)) (hb : GoodIn big b) : GoodIn big (c :: (a ++ b)) := fun w h => (List.mem_cons.mp h).elim (fun e => ha w (List.mem_cons.mpr (Or.inl e))) (fun h => (List.mem_append.mp h).elim (fun h => ha w (List.mem_cons.mpr (Or.inr h))) (hb w))
theorem goodIn_sub {big ws : List Cond} (hm : ∀ w ∈ ws, w ∈ big) (h : ws.all goodWord = true) : GoodIn big ws := fun w hw => ⟨hm w hw, good_of_word (List.all_eq_true.mp h w hw)⟩
/-! ===== END ===== -/

/-! ===== BEGIN exceptions that leave a method, and their catching by the caller (launches without stack traces) ===== -/
section VXA
/-! The laws vx_back, vx_callV, vx_callS, vx_callSW, vx_throw0, vx_throwS follow proofs of the library, with one case more: JvmDerived/Free/Laws.lean (Back.of_free), Shelf42/LK1.lean (callV, callS), Shelf/KitTraced.lean (throwNew0V, throwNewS). -/
/-- where a method has thrown q: the class by its name, the cell, what was written, the world -/
def vx_T (XC : String → State → State → Prop) (st : State) (q : Addr) (t : State) (mc ms : Nat) (free : Addr → Prop) : Prop :=
  ∃ (E : String) (ce : Cell) (L : List Loc), XC E st t ∧ t.heap[q]? = some ce ∧ ce.vm = .none ∧ st.vm.findClass E = some ce.cls ∧ st.WarmedH t.vm ∧ st.sameButNew ({ t with vm := st.vm } : State) L mc ms ∧ ∀ z ∈ L, free z.base
def vx_Q (Qc : Array Value → State → Outcome → State → Prop) (XC : String → State → State → Prop) (mc ms : Nat) (free : Addr → Prop) : Array Value → State → Outcome → State → Prop := fun a st o t =>
  (Qc a st o t ∧ ∃ L, FrameEnd st o t L mc ms ∧ ∀ q ∈ L, free q.base) ∨ ∃ q, o = .threw q ∧ vx_T XC st q t mc ms free
/-- a callee that returns or throws -/
def vx_Met (l : Launch) (y : MethodName) (ws : List Cond) (rm : Room) (Pc : Array Value → State → Prop) (Qc : Array Value → State → Outcome → State → Prop) (XC : String → State → State → Prop) (mc ms : Nat) (free : Addr → Prop) : Prop :=
  MetFree l y (headSpec ws rm) Pc (fun _ _ _ _ _ => True) (vx_Q Qc XC mc ms free)
def vx_Post (XC : String → State → State → Prop) (mc ms : Nat) (free : Addr → Prop) : Pt → Array Value → Addr → Pt → Prop := fun A a q B =>
  ∃ (g : JFrame) (mk : MethodId) (t : State) (L : List Loc) (E : String) (ce : Cell), B.U.heap = t.heap ∧ B.U.vm = t.vm ∧ XC E (A.U.calling g mk a) t ∧ t.heap[q]? = some ce ∧ ce.vm = .none ∧ A.U.vm.findClass E = some ce.cls ∧ B.locs = A.locs ++ L ∧ (∀ z ∈ L, free z.base) ∧ B.cells = A.cells + mc ∧ B.slots = A.slots + ms
def vx_Back (l : Launch) (R : Room) (p : Program) (e : Env) (below : List Frame) (s : State) (sargs : Array Value) (y : MethodName) (len W9 : Nat)
    (Pre : Pt → Array Value → Prop) (Post : Pt → Array Value → Option Value → Pt → Prop) (PostX : Pt → Array Value → Addr → Pt → Prop) : Prop :=
  ∀ (m : MethodId) (meth : Method) (c : Code) (A : Pt) (g : JFrame) (ig : Instr) (mk : MethodId) (a : Array Value),
    Stand p l e R s m sargs below meth c A.U A.locs A.cells A.slots → g.method = m → g.locals.size = c.maxLocals → decode c.code g.pc = .ok (ig, len) →
    2 * g.monitorRoom + (g.stack.map fun v => v.category).sum ≤ W9 → A.U.methodNamed? y = some mk → Pre A a →
    (∃ (v : Option Value) (B : Pt), Stand p l e R s m sargs below meth c B.U B.locs B.cells B.slots ∧ Post A a v B ∧
      Steps p.tables e below (doInvoke e (A.U.setTop g) [] mk a).1 (B.U.setTop { g with pc := g.pc + len, stack := v.toList ++ g.stack })) ∨
    (∃ (q : Addr) (B : Pt), Stand p l e R s m sargs below meth c B.U B.locs B.cells B.slots ∧ PostX A a q B ∧
      Steps p.tables e below (doInvoke e (A.U.setTop g) [] mk a).1 ((B.U.setTop g).pushFrame (.throwing q)))
section Payer
variable {l : Launch} {R : Room} {p : Program} {e : Env} {below : List Frame} {s : State} {sargs : Array Value} {y : MethodName} {len W9 : Nat}
theorem vx_back {ws : List Cond} {rm : Room} {Pc : Array Value → State → Prop} {Qc : Array Value → State → Outcome → State → Prop} {XC : String → State → State → Prop} {mc ms : Nat} {free : Addr → Prop} {bytes : ByteArray} {maxL : Nat} {ret : Option FieldType}
    (hM : vx_Met l y ws rm Pc Qc XC mc ms free) (hblind : FrameBlind Pc) (hrc : rm.cells = mc) (hrs : rm.slots = ms)
    (hframes : rm.frames + 1 ≤ R.frames) (hlocals : W9 + (maxL + 11) + rm.locals ≤ R.locals)
    (hws : ∀ w ∈ ws, ∀ a' U, s.WarmedH U.vm → w.before a' U = true) (hcode : Cond.code y bytes maxL ret ∈ ws) (hinit : ∀ a' U, s.WarmedH U.vm → (Cond.initialized y.cls).before a' U = true) :
    vx_Back l R p e below s sargs y len W9 (PreOf R mc ms Pc) (PostOf Qc mc ms free) (vx_Post XC mc ms free) := by
  intro m meth c A g ig mk a X hg hsize hdg hW hn hp
  have h1 : (headSpec ws rm).pre.before a A.U = true := atoms_intro fun w hw => hws w hw _ _ X.warmed
  have h2 : (Cond.code y bytes maxL ret).before a A.U = true := hws _ hcode _ _ X.warmed
  have h3 : (Cond.initialized y.cls).before a A.U = true := hinit _ _ X.warmed
  have h4 : A.cells + (headSpec ws rm).room.cells ≤ R.cells := by rw [show (headSpec ws rm).room.cells = mc from hrc]; exact hp.1
  have h5 : A.slots + (headSpec ws rm).room.slots ≤ R.slots := by rw [show (headSpec ws rm).room.slots = ms from hrs]; exact hp.2.1
  have hPc : Pc a (A.U.calling g mk a) := hblind _ _ _ _ hp.2.2
  obtain ⟨U, Ls, c0, s0⟩ := A
  dsimp only [Pt.U, Pt.locs, Pt.cells, Pt.slots] at h1 h2 h3 h4 h5 X hn hPc ⊢
  obtain ⟨methY, cY, hmY, hcY, -, hlY, -, -, -, -⟩ := Cond.code_spec hn h2
  obtain ⟨kY, hkY, -⟩ := className_of_methodNamed hn
  have hinitY : kY.init = .initialized := Cond.initialized_spec (findClass_of_methodNamed hn) hkY h3
  have h : At U g.method c below := by rw [hg]; exact X.here
  have hlocals9 : W9 + (maxL + 11) + (headSpec ws rm).room.locals ≤ R.locals := hlocals
  have happ : (headSpec ws rm).appliesLoose y e.platform (U.calling g mk a) = true :=
    Spec.appliesLoose_calling (g := g) h hdg hn hkY hinitY
      (X.room_calling (g := g) (R' := (headSpec ws rm).room) hsize hmY hcY hframes (by rw [hlY]; omega) h4 h5) h1
  obtain ⟨mid, hmid⟩ := h.above
  have hfr : (U.setTop g).frames = (.java g :: mid) ++ below := by rw [State.frames_setTop' g h.top, hmid]; rfl
  obtain ⟨o, s₂, hsteps, -, hend, hq⟩ := Steps.callFree hM p X.admits X.cas X.clock (acts := []) hfr happ hPc trivial
  have hq' : vx_Q Qc XC mc ms free a (U.calling g mk a) o s₂ := hq
  rw [State.frames_setTop' g h.top] at hend
  obtain ⟨g₀, hg0⟩ := Option.isSome_iff_exists.mp h.top
  obtain ⟨r, hr⟩ := State.topJava?_eq_some.mp hg0
  have hr' : (({ U with heap := s₂.heap, slotsUsed := s₂.slotsUsed } : State).setVm s₂.vm).frames = .java g₀ :: r := hr
  rcases hq' with ⟨hqc, L, hfe, hL⟩ | ⟨q, rfl, E, ce, L, hx, hce, hcv, hcl, hW₂, hsm, hL⟩
  · obtain ⟨⟨v, rfl⟩, hW₂, e2, q2, q3, q4, q5, q6⟩ := id hfe
    have e3 : s₂ = ({ (U.calling g mk a).setFrames s₂.frames with heap := s₂.heap, slotsUsed := s₂.slotsUsed } : State).setVm s₂.vm := by
      have : s₂ = ({ s₂ with vm := (U.calling g mk a).vm } : State).setVm s₂.vm := rfl
      rw [e2] at this
      exact this
    obtain ⟨c₂, i₂, len₂, hc₂, hd₂, hf₂⟩ := hend
    have hW' : U.WarmedH s₂.vm := hW₂
    have hcc : c₂ = c := by
      have h1 : s₂.code? g.method = U.code? g.method := by
        rw [State.code?_eq, State.code?_eq, hW'.alike.method?]
      exact Option.some.inj (hc₂.symm.trans (h1.trans h.code))
    subst hcc
    have hlen : len₂ = len := by rw [hdg] at hd₂; cases hd₂; rfl
    subst hlen
    have hs₂ : s₂ = (({ U with heap := s₂.heap, slotsUsed := s₂.slotsUsed } : State).setVm s₂.vm).setTop { g with pc := g.pc + len₂, stack := v.toList ++ g.stack } := by
      refine e3.trans ?_
      rw [hf₂, State.calling_eq h.top, State.setFrames_setFrames, State.setTop_of_frames _ hr', hr]
      rfl
    have hsame : U.sameButNew ({ U with heap := s₂.heap, slotsUsed := s₂.slotsUsed } : State) L mc ms := by
      refine ⟨?_, q2, q3, q4, q5, q6⟩
      obtain ⟨t, ht, -⟩ := State.frames_cons hr
      show ({ U with heap := s₂.heap, slotsUsed := s₂.slotsUsed } : State) = { U.setFrames U.frames with heap := s₂.heap, slotsUsed := s₂.slotsUsed }
      rw [State.setFrames_self ht]
    subst hg
    refine Or.inl ⟨v, ⟨(({ U with heap := s₂.heap, slotsUsed := s₂.slotsUsed } : State).setVm s₂.vm), Ls ++ L, c0 + mc, s0 + ms⟩,
      ⟨X.admits, X.cas, X.clock, X.frames, X.room, X.hears, X.method, X.code, (X.here.setHeapUsed s₂.heap s₂.slotsUsed).setVm hW'.alike, X.tail, State.WarmedH.trans X.warmed hW', X.limits, X.bytes, X.same.trans (hsame.setVm s.vm)⟩,
      ⟨g, mk, s₂, L, rfl, rfl, hqc, rfl, hL, rfl, rfl⟩, ?_⟩
    show Steps p.tables e below _ ((({ U with heap := s₂.heap, slotsUsed := s₂.slotsUsed } : State).setVm s₂.vm).setTop { g with pc := g.pc + len₂, stack := v.toList ++ g.stack })
    rw [← hs₂]
    exact hsteps
  · obtain ⟨e2, q2, q3, q4, q5, q6⟩ := id hsm
    have e3 : s₂ = ({ (U.calling g mk a).setFrames s₂.frames with heap := s₂.heap, slotsUsed := s₂.slotsUsed } : State).setVm s₂.vm := by
      have : s₂ = ({ s₂ with vm := (U.calling g mk a).vm } : State).setVm s₂.vm := rfl
      rw [e2] at this
      exact this
    have hf₂ : s₂.frames = .throwing q :: .java g :: U.frames.tail := hend
    have hW' : U.WarmedH s₂.vm := hW₂
    have hs₂ : s₂ = ((({ U with heap := s₂.heap, slotsUsed := s₂.slotsUsed } : State).setVm s₂.vm).setTop g).pushFrame (.throwing q) := by
      refine e3.trans ?_
      rw [hf₂, State.calling_eq h.top, State.setFrames_setFrames, State.pushFrame, State.frames_setTop _ hr', State.setTop_of_frames _ hr', State.setFrames_setFrames, hr]
      rfl
    have hsame : U.sameButNew ({ U with heap := s₂.heap, slotsUsed := s₂.slotsUsed } : State) L mc ms := by
      refine ⟨?_, q2, q3, q4, q5, q6⟩
      obtain ⟨t, ht, -⟩ := State.frames_cons hr
      show ({ U with heap := s₂.heap, slotsUsed := s₂.slotsUsed } : State) = { U.setFrames U.frames with heap := s₂.heap, slotsUsed := s₂.slotsUsed }
      rw [State.setFrames_self ht]
    subst hg
    refine Or.inr ⟨q, ⟨(({ U with heap := s₂.heap, slotsUsed := s₂.slotsUsed } : State).setVm s₂.vm), Ls ++ L, c0 + mc, s0 + ms⟩,
      ⟨X.admits, X.cas, X.clock, X.frames, X.room, X.hears, X.method, X.code, (X.here.setHeapUsed s₂.heap s₂.slotsUsed).setVm hW'.alike, X.tail, State.WarmedH.trans X.warmed hW', X.limits, X.bytes, X.same.trans (hsame.setVm s.vm)⟩,
      ⟨g, mk, s₂, L, E, ce, rfl, rfl, hx, hce, hcv, hcl, rfl, hL, rfl, rfl⟩, ?_⟩
    show Steps p.tables e below _ (((({ U with heap := s₂.heap, slotsUsed := s₂.slotsUsed } : State).setVm s₂.vm).setTop g).pushFrame (.throwing q))
    rw [← hs₂]
    exact hsteps
end Payer
section Calls
variable {p : Program} {l : Launch} {e : Env} {R : Room} {s : State} {m : MethodId} {args : Array Value} {below : List Frame} {meth : Method} {c : Code} {T : State} {locs : List Loc} {cells slots : Nat}
theorem vx_callV (X : Stand p l e R s m args below meth c T locs cells slots) (hexec : p.tables.exec = Jvm.exec) {own C : String} {index : Nat} {y : MethodName} {bytes : ByteArray} {maxL : Nat} {ret : Option FieldType}
    (hown : s.vm.findClass own = some m.cls) (hlink : (Cond.methodLink own index y).before args s = true) (hinst : (Cond.instanceMethod y).before args s = true) (hsel : (Cond.selects C y y).before args s = true)
    (hcode : (Cond.code y bytes maxL ret).before args s = true) (hy : y.cls ≠ "java/lang/invoke/MethodHandle" ∧ y.cls ≠ "java/lang/invoke/VarHandle")
    {W9 : Nat} {Pre : Pt → Array Value → Prop} {Post : Pt → Array Value → Option Value → Pt → Prop} {PostX : Pt → Array Value → Addr → Pt → Prop} (hK : vx_Back l R p e below s args y 3 W9 Pre Post PostX)
    {b : Addr} {cellB : Cell} (hcell : T.heap[b]? = some cellB) (hobj : cellB.vm.isStatics = false) (hcls : s.vm.findClass C = some cellB.cls)
    {g : JFrame} (hg : g.method = m) (hsize : g.locals.size = c.maxLocals) {argsL rest : List Value} (hlen : ∀ sig, parseMethodDescriptor y.desc = some sig → argsL.length = sig.parameters.length)
    (hstack : g.stack = argsL.reverse ++ .ref b :: rest) (hW : 2 * g.monitorRoom + (rest.map fun v => v.category).sum ≤ W9) (hdg : decode c.code g.pc = .ok (.invokevirtual index, 3))
    (hpre : ∀ vm₁, s.WarmedH vm₁ → Pre ⟨T.setVm vm₁, locs, cells, slots⟩ (Value.ref b :: argsL).toArray) :
    (∃ (v : Option Value) (vm₁ : Vm) (B : Pt), s.WarmedH vm₁ ∧ Stand p l e R s m args below meth c B.U B.locs B.cells B.slots ∧ Post ⟨T.setVm vm₁, locs, cells, slots⟩ (Value.ref b :: argsL).toArray v B ∧
      ∀ target, Steps p.tables e below (B.U.setTop { g with pc := g.pc + 3, stack := v.toList ++ rest }) target → Steps p.tables e below (T.setTop g) target) ∨
    (∃ (q : Addr) (vm₁ : Vm) (B : Pt), s.WarmedH vm₁ ∧ Stand p l e R s m args below meth c B.U B.locs B.cells B.slots ∧ PostX ⟨T.setVm vm₁, locs, cells, slots⟩ (Value.ref b :: argsL).toArray q B ∧
      Steps p.tables e below (T.setTop g) ((B.U.setTop { g with stack := rest }).pushFrame (.throwing q))) := by
  obtain ⟨mk, methM, hnamed, hmethM, hstM, habM⟩ := Cond.instanceMethod_spec hinst
  obtain ⟨methM', cM, hmethM', -, -, -, -, -, -, hsigM⟩ := Cond.code_spec hnamed hcode
  cases hmethM.symm.trans hmethM'
  obtain ⟨c2, r2, m2, q1, q2, q3, q4, kP, hkP, hkPi⟩ := Cond.selects_spec hsel
  cases hcls.symm.trans q1
  cases (State.methodFound?_of_named hnamed hy).symm.trans q2
  cases hnamed.symm.trans q3
  have hselP : selectMethod e.platform s.vm cellB.cls mk = .method mk := by rw [Launch.admits_selectMethod X.admits]; exact q4
  obtain ⟨vm₁, X₁, hstep₁⟩ := X.invokevirtual hexec hown hlink hnamed hmethM hstM hkP hkPi hy (a := b) (cell := cellB) hcell
    (fun z h => by rw [h] at hobj; cases hobj) hselP hmethM habM hkP hkPi (g := g) hg (argsL := argsL) (rest := rest) (hlen _ hsigM) hstack hdg
  rcases hK m meth c ⟨T.setVm vm₁, locs, cells, slots⟩ { g with stack := rest } (.invokevirtual index) mk (Value.ref b :: argsL).toArray X₁ hg hsize hdg hW (X₁.named hnamed) (hpre vm₁ X₁.warmed) with ⟨v, B, X', hpost, hsteps⟩ | ⟨q, B, X', hpost, hsteps⟩
  · exact Or.inl ⟨v, vm₁, B, X₁.warmed, X', hpost, fun target h => hstep₁ _ fun acts => by rw [doInvoke_state]; exact hsteps.trans h⟩
  · exact Or.inr ⟨q, vm₁, B, X₁.warmed, X', hpost, hstep₁ _ fun acts => by rw [doInvoke_state]; exact hsteps⟩
theorem vx_callS (X : Stand p l e R s m args below meth c T locs cells slots) (hexec : p.tables.exec = Jvm.exec) {own : String} {index : Nat} {y : MethodName} {bytes : ByteArray} {maxL : Nat} {ret : Option FieldType}
    (hown : s.vm.findClass own = some m.cls) (hlink : (Cond.methodLink own index y).before args s = true) (hstat : (Cond.static y).before args s = true) (hinit : (Cond.initialized y.cls).before args s = true)
    (hcode : (Cond.code y bytes maxL ret).before args s = true) (hy : y.cls ≠ "java/lang/invoke/MethodHandle" ∧ y.cls ≠ "java/lang/invoke/VarHandle")
    {W9 : Nat} {Pre : Pt → Array Value → Prop} {Post : Pt → Array Value → Option Value → Pt → Prop} {PostX : Pt → Array Value → Addr → Pt → Prop} (hK : vx_Back l R p e below s args y 3 W9 Pre Post PostX)
    {g : JFrame} (hg : g.method = m) (hsize : g.locals.size = c.maxLocals) {argsL rest : List Value} (hlen : ∀ sig, parseMethodDescriptor y.desc = some sig → argsL.length = sig.parameters.length)
    (hstack : g.stack = argsL.reverse ++ rest) (hW : 2 * g.monitorRoom + (rest.map fun v => v.category).sum ≤ W9) (hdg : decode c.code g.pc = .ok (.invokestatic index, 3))
    (hpre : ∀ vm₁, s.WarmedH vm₁ → Pre ⟨T.setVm vm₁, locs, cells, slots⟩ argsL.toArray) :
    (∃ (v : Option Value) (vm₁ : Vm) (B : Pt), s.WarmedH vm₁ ∧ Stand p l e R s m args below meth c B.U B.locs B.cells B.slots ∧ Post ⟨T.setVm vm₁, locs, cells, slots⟩ argsL.toArray v B ∧
      ∀ target, Steps p.tables e below (B.U.setTop { g with pc := g.pc + 3, stack := v.toList ++ rest }) target → Steps p.tables e below (T.setTop g) target) ∨
    (∃ (q : Addr) (vm₁ : Vm) (B : Pt), s.WarmedH vm₁ ∧ Stand p l e R s m args below meth c B.U B.locs B.cells B.slots ∧ PostX ⟨T.setVm vm₁, locs, cells, slots⟩ argsL.toArray q B ∧
      Steps p.tables e below (T.setTop g) ((B.U.setTop { g with stack := rest }).pushFrame (.throwing q))) := by
  obtain ⟨mk, hnamed⟩ := Cond.code_named hcode
  obtain ⟨methM, cM, hmethM, -, -, -, -, -, -, hsigM⟩ := Cond.code_spec hnamed hcode
  have hstatic : methM.isStatic = true := Cond.static_spec hnamed hmethM hstat
  obtain ⟨kP, hkP, -⟩ := className_of_methodNamed hnamed
  have hinitP : kP.init = .initialized := Cond.initialized_spec (findClass_of_methodNamed hnamed) hkP hinit
  obtain ⟨vm₁, X₁, hstep₁⟩ := X.invokestatic hexec hown hlink hnamed hmethM hstatic hkP hinitP hy (g := g) hg (argsL := argsL) (rest := rest) (hlen _ hsigM) hstack hdg
  rcases hK m meth c ⟨T.setVm vm₁, locs, cells, slots⟩ { g with stack := rest } (.invokestatic index) mk argsL.toArray X₁ hg hsize hdg hW (X₁.named hnamed) (hpre vm₁ X₁.warmed) with ⟨v, B, X', hpost, hsteps⟩ | ⟨q, B, X', hpost, hsteps⟩
  · exact Or.inl ⟨v, vm₁, B, X₁.warmed, X', hpost, fun target h => hstep₁ _ fun acts => by rw [doInvoke_state]; exact hsteps.trans h⟩
  · exact Or.inr ⟨q, vm₁, B, X₁.warmed, X', hpost, hstep₁ _ fun acts => by rw [doInvoke_state]; exact hsteps⟩
end Calls
theorem vx_cls {s : State} {T : State} {vm₁ : Vm} {E : String} {k : ClassId} (hW : s.WarmedH vm₁) (h : (T.setVm vm₁).vm.findClass E = some k) : s.vm.findClass E = some k := by
  have h1 : vm₁.findClass E = some k := h
  rw [hW.alike.findClass] at h1
  exact h1
/-- the method's frame g, with q thrown over it -/
def vx_W (p : Program) (l : Launch) (e : Env) (R : Room) (s : State) (m : MethodId) (args : Array Value) (below : List Frame) (meth : Method) (c : Code) (H : Heap) (locs : List Loc) (cells slots : Nat) (Q : State → Prop) (g : JFrame) (q : Addr) : Prop :=
  ∀ T : State, T.heap = H → Stand p l e R s m args below meth c T locs cells slots → ∃ t, Steps p.tables e below ((T.setTop g).pushFrame (.throwing q)) t ∧ Q t
def vx_Run (p : Program) (l : Launch) (e : Env) (R : Room) (s : State) (m : MethodId) (args : Array Value) (below : List Frame) (meth : Method) (c : Code) (H : Heap) (locs : List Loc) (cells slots mc ms : Nat) (g : JFrame) (rest : List Value) (Qa : State → Outcome → State → Prop) (XC : String → State → State → Prop) (free : Addr → Prop) : Prop :=
  ∀ T : State, T.heap = H → Stand p l e R s m args below meth c T locs cells slots →
    (∃ (v : Option Value) (st₀ t T' : State) (L : List Loc), st₀.heap = H ∧ Stand p l e R s m args below meth c T' (locs ++ L) (cells + mc) (slots + ms) ∧ (∀ q ∈ L, free q.base) ∧ T'.heap = t.heap ∧ T'.vm = t.vm ∧ Qa st₀ (.returned v) t ∧
      Goes p e below T g T' { g with pc := g.pc + 3, stack := v.toList ++ rest }) ∨
    (∃ (q : Addr) (st₀ t T' : State) (L : List Loc) (E : String) (ce : Cell), st₀.heap = H ∧ Stand p l e R s m args below meth c T' (locs ++ L) (cells + mc) (slots + ms) ∧ (∀ z ∈ L, free z.base) ∧ T'.heap = t.heap ∧ T'.vm = t.vm ∧ XC E st₀ t ∧ t.heap[q]? = some ce ∧ ce.vm = .none ∧ s.vm.findClass E = some ce.cls ∧
      Steps p.tables e below (T.setTop g) ((T'.setTop { g with stack := rest }).pushFrame (.throwing q)))
def vx_X {S : Type} (px : S → Prop) (B : String → S → State → Prop) (A : Nat → Prop) : String → State → State → Prop := fun E st t => ∃ u : S, px u ∧ B E u t ∧ va_F A st t
section Runs
variable {p : Program} {l : Launch} {e : Env} {R : Room} {s : State} {m : MethodId} {args : Array Value} {below : List Frame} {meth : Method} {c : Code} {H : Heap} {locs : List Loc} {cells slots : Nat}
variable {y : MethodName} {bytes cc : ByteArray} {maxL nL mc ms n index : Nat} {ret : Option FieldType} {ws : List Cond} {rm : Room} {Pc : Array Value → State → Prop} {Qc : Array Value → State → Outcome → State → Prop} {XC : String → State → State → Prop} {free : Addr → Prop} {Ts : List Cond} {own C : String} {b : Addr} {As rest : List Value} {g : JFrame}
theorem vx_callBack (cb : CallB R s args own index y bytes maxL ret ws rm mc ms n) (hM : vx_Met l y ws rm Pc Qc XC mc ms free) (hbl : FrameBlind Pc) : vx_Back l R p e below s args y 3 8 (PreOf R mc ms Pc) (PostOf Qc mc ms free) (vx_Post XC mc ms free) := by
  obtain ⟨hrc, hrs, hfr, hlo, hws, hcw, -, hini, -⟩ := cb
  exact vx_back (bytes := bytes) (maxL := maxL) (ret := ret) hM hbl hrc hrs hfr hlo hws hcw (fun a' U hW => word_at hW (Or.inl (by first | rfl | simp [Cond.onTables, Cond.keeps, Cond.steady])) hini)
theorem vx_runV (S : CallFix p m c cc nL s args Ts own) (hM : vx_Met l y ws rm Pc Qc XC mc ms free) (cw : CallW R s args own C index y bytes maxL ret ws rm mc ms n) (hp : PreV s H C b Pc As)
    (hg : g.method = m) (hn : As.length = n) (hsize : g.locals.size = nL) (hstack : g.stack = As.reverse ++ .ref b :: rest) (hW : 2 * g.monitorRoom + (rest.map fun v => v.category).sum ≤ 8) (hdg : decode cc g.pc = .ok (.invokevirtual index, 3)) (hf : cells + mc ≤ R.cells ∧ slots + ms ≤ R.slots) :
    vx_Run p l e R s m args below meth c H locs cells slots mc ms g rest (Qc (Value.ref b :: As).toArray) XC free := by
  have hK : vx_Back l R p e below s args y 3 8 (PreOf R mc ms Pc) (PostOf Qc mc ms free) (vx_Post XC mc ms free) := vx_callBack cw.1 hM hp.1
  obtain ⟨⟨-, -, -, -, -, -, hcode, -, hy, hlen, hl⟩, hin, hse⟩ := cw
  obtain ⟨hx, hb, hml, ho, -⟩ := S
  obtain ⟨-, ⟨cellB, hcB, hoB, hclB⟩, hPc⟩ := hp
  intro T hT X
  rcases vx_callV X hx (C := C) (bytes := bytes) (maxL := maxL) (ret := ret) ho hl hin hse hcode hy hK (by rw [hT]; exact hcB) hoB hclB hg (hsize.trans hml.symm) (argsL := As) (rest := rest) (fun sig h => hn.trans (hlen sig h)) hstack hW (by rw [hb]; exact hdg)
    (fun vm₁ hW₁ => ⟨hf.1, hf.2, hPc (T.setVm vm₁) hT hW₁⟩) with ⟨v, vm₁, ⟨U', l2, c2, s2⟩, hW₁, X', ⟨g', mk, t, L, e1, e2, hq, h1, hL, h2, h3⟩, st⟩ | ⟨q, vm₁, ⟨U', l2, c2, s2⟩, hW₁, X', ⟨g', mk, t, L, E, ce, e1, e2, hq, hce, hcv, hcl, h1, hL, h2, h3⟩, st⟩
  · dsimp only [Pt.U, Pt.locs, Pt.cells, Pt.slots] at X' e1 e2 h1 h2 h3 st
    subst h1; subst h2; subst h3
    exact Or.inl ⟨v, (T.setVm vm₁).calling g' mk (Value.ref b :: As).toArray, t, U', L, hT, X', hL, e1, e2, hq, st⟩
  · dsimp only [Pt.U, Pt.locs, Pt.cells, Pt.slots] at X' e1 e2 h1 h2 h3 st hcl
    subst h1; subst h2; subst h3
    exact Or.inr ⟨q, (T.setVm vm₁).calling g' mk (Value.ref b :: As).toArray, t, U', L, E, ce, hT, X', hL, e1, e2, hq, hce, hcv, vx_cls hW₁ hcl, st⟩
theorem vx_runS (S : CallFix p m c cc nL s args Ts own) (hM : vx_Met l y ws rm Pc Qc XC mc ms free) (cw : CallB R s args own index y bytes maxL ret ws rm mc ms n ∧ (Cond.static y).before args s = true) (hp : PreS s H Pc As)
    (hg : g.method = m) (hn : As.length = n) (hsize : g.locals.size = nL) (hstack : g.stack = As.reverse ++ rest) (hW : 2 * g.monitorRoom + (rest.map fun v => v.category).sum ≤ 8) (hdg : decode cc g.pc = .ok (.invokestatic index, 3)) (hf : cells + mc ≤ R.cells ∧ slots + ms ≤ R.slots) :
    vx_Run p l e R s m args below meth c H locs cells slots mc ms g rest (Qc As.toArray) XC free := by
  have hK : vx_Back l R p e below s args y 3 8 (PreOf R mc ms Pc) (PostOf Qc mc ms free) (vx_Post XC mc ms free) := vx_callBack cw.1 hM hp.1
  obtain ⟨⟨-, -, -, -, -, -, hcode, hini, hy, hlen, hl⟩, hstt⟩ := cw
  obtain ⟨hx, hb, hml, ho, -⟩ := S
  intro T hT X
  rcases vx_callS X hx (bytes := bytes) (maxL := maxL) (ret := ret) ho hl hstt hini hcode hy hK hg (hsize.trans hml.symm) (argsL := As) (rest := rest) (fun sig h => hn.trans (hlen sig h)) hstack hW (by rw [hb]; exact hdg)
    (fun vm₁ hW₁ => ⟨hf.1, hf.2, hp.2 (T.setVm vm₁) hT hW₁⟩) with ⟨v, vm₁, ⟨U', l2, c2, s2⟩, hW₁, X', ⟨g', mk, t, L, e1, e2, hq, h1, hL, h2, h3⟩, st⟩ | ⟨q, vm₁, ⟨U', l2, c2, s2⟩, hW₁, X', ⟨g', mk, t, L, E, ce, e1, e2, hq, hce, hcv, hcl, h1, hL, h2, h3⟩, st⟩
  · dsimp only [Pt.U, Pt.locs, Pt.cells, Pt.slots] at X' e1 e2 h1 h2 h3 st
    subst h1; subst h2; subst h3
    exact Or.inl ⟨v, (T.setVm vm₁).calling g' mk As.toArray, t, U', L, hT, X', hL, e1, e2, hq, st⟩
  · dsimp only [Pt.U, Pt.locs, Pt.cells, Pt.slots] at X' e1 e2 h1 h2 h3 st hcl
    subst h1; subst h2; subst h3
    exact Or.inr ⟨q, (T.setVm vm₁).calling g' mk As.toArray, t, U', L, E, ce, hT, X', hL, e1, e2, hq, hce, hcv, vx_cls hW₁ hcl, st⟩
end Runs
section Rows
variable {p : Program} {l : Launch} {e : Env} {R : Room} {s : State} {m : MethodId} {args : Array Value} {below : List Frame} {meth : Method} {c : Code} {H : Heap} {locs : List Loc} {cells slots : Nat} {Q : State → Prop}
variable {mc ms : Nat} {free : Addr → Prop} {A0 A1 : Nat → Prop} {H0 : Heap} {a : Array Value} {pc : Nat} {ls : Array Slot} {st0 rest : List Value}
theorem vx_keep {st₀ t T' : State} {L : List Loc} (h0 : st₀.heap = H) (e1 : T'.heap = t.heap) (hS : va_S A0 H0 H locs) (hA : ∀ q, q < H.size → A1 q → A0 q) (hf : ∀ q, free q → A0 q) (hL : ∀ q ∈ L, free q.base) (hF : va_F A1 st₀ t) :
    H.size ≤ T'.heap.size ∧ (∀ q : Nat, q < H.size → ¬ A1 q → T'.heap[q]? = H[q]?) ∧ va_S A0 H0 T'.heap (locs ++ L) := by
  obtain ⟨hz, hk⟩ := hF
  rw [h0] at hz hk
  exact ⟨by rw [e1]; exact hz, fun q h1 h2 => by rw [e1]; exact hk q h1 h2,
    ⟨Nat.le_trans hS.1 (by rw [e1]; exact hz), fun q h1 h2 => by rw [e1, hk q (Nat.lt_of_lt_of_le h1 hS.1) (fun z => h2 (hA q (Nat.lt_of_lt_of_le h1 hS.1) z))]; exact hS.2.1 q h1 h2, fun q hq => by
      rcases List.mem_append.mp hq with h | h
      · exact hS.2.2 q h
      · exact hf _ (hL q h)⟩⟩
theorem vx_calli {S SX : Type} {post : Int32 → S → Prop} {px : SX → Prop} {B : S → State → Prop} {BX : String → SX → State → Prop} {AX : Nat → Prop} (hr : vx_Run p l e R s m args below meth c H locs cells slots mc ms (F0 m pc ls st0) rest (va_Qi post B A1 a) (vx_X px BX AX) free) (hS : va_S A0 H0 H locs) (hA : ∀ q, q < H.size → A1 q → A0 q) (hf : ∀ q, free q → A0 q) (hAX : ∀ q, q < H.size → AX q → A0 q)
    (kx : ∀ (E : String) (ce : Cell) (q9 : Addr) (u : SX) (t : State) (H1 : Heap) (locs1 : List Loc), t.heap = H1 → s.vm.Alike t.vm → px u → BX E u t → H.size ≤ H1.size → (∀ q : Nat, q < H.size → ¬ AX q → H1[q]? = H[q]?) → va_S A0 H0 H1 locs1 → H1[q9]? = some ce → ce.vm = .none → s.vm.findClass E = some ce.cls → vx_W p l e R s m args below meth c H1 locs1 (cells + mc) (slots + ms) Q (F0 m pc ls rest) q9)
    (kk : ∀ (r : Int32) (u : S) (t : State) (H1 : Heap) (locs1 : List Loc), t.heap = H1 → s.vm.Alike t.vm → post r u → B u t → H.size ≤ H1.size → (∀ q : Nat, q < H.size → ¬ A1 q → H1[q]? = H[q]?) → va_S A0 H0 H1 locs1 → W p l e R s m args below meth c H1 locs1 (cells + mc) (slots + ms) Q (F0 m (pc + 3) ls (.int r :: rest))) : W p l e R s m args below meth c H locs cells slots Q (F0 m pc ls st0) := by
  intro T hT X
  rcases hr T hT X with ⟨v, st₀, t, T', L, h0, X', hL, e1, e2, ⟨⟨r, u, hv, hp, hb⟩, hF⟩, st⟩ | ⟨q, st₀, t, T', L, E, ce, h0, X', hL, e1, e2, ⟨u, hp, hb, hF⟩, hce, hcv, hcl, st⟩
  · cases hv
    obtain ⟨k1, k2, k3⟩ := vx_keep h0 e1 hS hA hf hL hF
    obtain ⟨t2, a1, b1⟩ := kk r u t T'.heap (locs ++ L) e1.symm (by rw [← e2]; exact X'.warmed.alike) hp hb k1 k2 k3 T' rfl X'
    exact ⟨t2, st t2 a1, b1⟩
  · obtain ⟨k1, k2, k3⟩ := vx_keep h0 e1 hS hAX hf hL hF
    obtain ⟨t2, a1, b1⟩ := kx E ce q u t T'.heap (locs ++ L) e1.symm (by rw [← e2]; exact X'.warmed.alike) hp hb k1 k2 k3 (by rw [e1]; exact hce) hcv hcl T' rfl X'
    exact ⟨t2, st.trans a1, b1⟩
theorem vx_calll {S SX : Type} {post : Int64 → S → Prop} {px : SX → Prop} {B : S → State → Prop} {BX : String → SX → State → Prop} {AX : Nat → Prop} (hr : vx_Run p l e R s m args below meth c H locs cells slots mc ms (F0 m pc ls st0) rest (va_Ql post B A1 a) (vx_X px BX AX) free) (hS : va_S A0 H0 H locs) (hA : ∀ q, q < H.size → A1 q → A0 q) (hf : ∀ q, free q → A0 q) (hAX : ∀ q, q < H.size → AX q → A0 q)
    (kx : ∀ (E : String) (ce : Cell) (q9 : Addr) (u : SX) (t : State) (H1 : Heap) (locs1 : List Loc), t.heap = H1 → s.vm.Alike t.vm → px u → BX E u t → H.size ≤ H1.size → (∀ q : Nat, q < H.size → ¬ AX q → H1[q]? = H[q]?) → va_S A0 H0 H1 locs1 → H1[q9]? = some ce → ce.vm = .none → s.vm.findClass E = some ce.cls → vx_W p l e R s m args below meth c H1 locs1 (cells + mc) (slots + ms) Q (F0 m pc ls rest) q9)
    (kk : ∀ (r : Int64) (u : S) (t : State) (H1 : Heap) (locs1 : List Loc), t.heap = H1 → s.vm.Alike t.vm → post r u → B u t → H.size ≤ H1.size → (∀ q : Nat, q < H.size → ¬ A1 q → H1[q]? = H[q]?) → va_S A0 H0 H1 locs1 → W p l e R s m args below meth c H1 locs1 (cells + mc) (slots + ms) Q (F0 m (pc + 3) ls (.long r :: rest))) : W p l e R s m args below meth c H locs cells slots Q (F0 m pc ls st0) := by
  intro T hT X
  rcases hr T hT X with ⟨v, st₀, t, T', L, h0, X', hL, e1, e2, ⟨⟨r, u, hv, hp, hb⟩, hF⟩, st⟩ | ⟨q, st₀, t, T', L, E, ce, h0, X', hL, e1, e2, ⟨u, hp, hb, hF⟩, hce, hcv, hcl, st⟩
  · cases hv
    obtain ⟨k1, k2, k3⟩ := vx_keep h0 e1 hS hA hf hL hF
    obtain ⟨t2, a1, b1⟩ := kk r u t T'.heap (locs ++ L) e1.symm (by rw [← e2]; exact X'.warmed.alike) hp hb k1 k2 k3 T' rfl X'
    exact ⟨t2, st t2 a1, b1⟩
  · obtain ⟨k1, k2, k3⟩ := vx_keep h0 e1 hS hAX hf hL hF
    obtain ⟨t2, a1, b1⟩ := kx E ce q u t T'.heap (locs ++ L) e1.symm (by rw [← e2]; exact X'.warmed.alike) hp hb k1 k2 k3 (by rw [e1]; exact hce) hcv hcl T' rfl X'
    exact ⟨t2, st.trans a1, b1⟩
theorem vx_callf {S SX : Type} {post : UInt32 → S → Prop} {px : SX → Prop} {B : S → State → Prop} {BX : String → SX → State → Prop} {AX : Nat → Prop} (hr : vx_Run p l e R s m args below meth c H locs cells slots mc ms (F0 m pc ls st0) rest (va_Qf post B A1 a) (vx_X px BX AX) free) (hS : va_S A0 H0 H locs) (hA : ∀ q, q < H.size → A1 q → A0 q) (hf : ∀ q, free q → A0 q) (hAX : ∀ q, q < H.size → AX q → A0 q)
    (kx : ∀ (E : String) (ce : Cell) (q9 : Addr) (u : SX) (t : State) (H1 : Heap) (locs1 : List Loc), t.heap = H1 → s.vm.Alike t.vm → px u → BX E u t → H.size ≤ H1.size → (∀ q : Nat, q < H.size → ¬ AX q → H1[q]? = H[q]?) → va_S A0 H0 H1 locs1 → H1[q9]? = some ce → ce.vm = .none → s.vm.findClass E = some ce.cls → vx_W p l e R s m args below meth c H1 locs1 (cells + mc) (slots + ms) Q (F0 m pc ls rest) q9)
    (kk : ∀ (r : UInt32) (u : S) (t : State) (H1 : Heap) (locs1 : List Loc), t.heap = H1 → s.vm.Alike t.vm → post r u → B u t → H.size ≤ H1.size → (∀ q : Nat, q < H.size → ¬ A1 q → H1[q]? = H[q]?) → va_S A0 H0 H1 locs1 → W p l e R s m args below meth c H1 locs1 (cells + mc) (slots + ms) Q (F0 m (pc + 3) ls (.float r :: rest))) : W p l e R s m args below meth c H locs cells slots Q (F0 m pc ls st0) := by
  intro T hT X
  rcases hr T hT X with ⟨v, st₀, t, T', L, h0, X', hL, e1, e2, ⟨⟨r, u, hv, hp, hb⟩, hF⟩, st⟩ | ⟨q, st₀, t, T', L, E, ce, h0, X', hL, e1, e2, ⟨u, hp, hb, hF⟩, hce, hcv, hcl, st⟩
  · cases hv
    obtain ⟨k1, k2, k3⟩ := vx_keep h0 e1 hS hA hf hL hF
    obtain ⟨t2, a1, b1⟩ := kk r u t T'.heap (locs ++ L) e1.symm (by rw [← e2]; exact X'.warmed.alike) hp hb k1 k2 k3 T' rfl X'
    exact ⟨t2, st t2 a1, b1⟩
  · obtain ⟨k1, k2, k3⟩ := vx_keep h0 e1 hS hAX hf hL hF
    obtain ⟨t2, a1, b1⟩ := kx E ce q u t T'.heap (locs ++ L) e1.symm (by rw [← e2]; exact X'.warmed.alike) hp hb k1 k2 k3 (by rw [e1]; exact hce) hcv hcl T' rfl X'
    exact ⟨t2, st.trans a1, b1⟩
theorem vx_calld {S SX : Type} {post : UInt64 → S → Prop} {px : SX → Prop} {B : S → State → Prop} {BX : String → SX → State → Prop} {AX : Nat → Prop} (hr : vx_Run p l e R s m args below meth c H locs cells slots mc ms (F0 m pc ls st0) rest (va_Qd post B A1 a) (vx_X px BX AX) free) (hS : va_S A0 H0 H locs) (hA : ∀ q, q < H.size → A1 q → A0 q) (hf : ∀ q, free q → A0 q) (hAX : ∀ q, q < H.size → AX q → A0 q)
    (kx : ∀ (E : String) (ce : Cell) (q9 : Addr) (u : SX) (t : State) (H1 : Heap) (locs1 : List Loc), t.heap = H1 → s.vm.Alike t.vm → px u → BX E u t → H.size ≤ H1.size → (∀ q : Nat, q < H.size → ¬ AX q → H1[q]? = H[q]?) → va_S A0 H0 H1 locs1 → H1[q9]? = some ce → ce.vm = .none → s.vm.findClass E = some ce.cls → vx_W p l e R s m args below meth c H1 locs1 (cells + mc) (slots + ms) Q (F0 m pc ls rest) q9)
    (kk : ∀ (r : UInt64) (u : S) (t : State) (H1 : Heap) (locs1 : List Loc), t.heap = H1 → s.vm.Alike t.vm → post r u → B u t → H.size ≤ H1.size → (∀ q : Nat, q < H.size → ¬ A1 q → H1[q]? = H[q]?) → va_S A0 H0 H1 locs1 → W p l e R s m args below meth c H1 locs1 (cells + mc) (slots + ms) Q (F0 m (pc + 3) ls (.double r :: rest))) : W p l e R s m args below meth c H locs cells slots Q (F0 m pc ls st0) := by
  intro T hT X
  rcases hr T hT X with ⟨v, st₀, t, T', L, h0, X', hL, e1, e2, ⟨⟨r, u, hv, hp, hb⟩, hF⟩, st⟩ | ⟨q, st₀, t, T', L, E, ce, h0, X', hL, e1, e2, ⟨u, hp, hb, hF⟩, hce, hcv, hcl, st⟩
  · cases hv
    obtain ⟨k1, k2, k3⟩ := vx_keep h0 e1 hS hA hf hL hF
    obtain ⟨t2, a1, b1⟩ := kk r u t T'.heap (locs ++ L) e1.symm (by rw [← e2]; exact X'.warmed.alike) hp hb k1 k2 k3 T' rfl X'
    exact ⟨t2, st t2 a1, b1⟩
  · obtain ⟨k1, k2, k3⟩ := vx_keep h0 e1 hS hAX hf hL hF
    obtain ⟨t2, a1, b1⟩ := kx E ce q u t T'.heap (locs ++ L) e1.symm (by rw [← e2]; exact X'.warmed.alike) hp hb k1 k2 k3 (by rw [e1]; exact hce) hcv hcl T' rfl X'
    exact ⟨t2, st.trans a1, b1⟩
theorem vx_callv {S SX : Type} {post : S → Prop} {px : SX → Prop} {B : S → State → Prop} {BX : String → SX → State → Prop} {AX : Nat → Prop} (hr : vx_Run p l e R s m args below meth c H locs cells slots mc ms (F0 m pc ls st0) rest (va_Qv post B A1 a) (vx_X px BX AX) free) (hS : va_S A0 H0 H locs) (hA : ∀ q, q < H.size → A1 q → A0 q) (hf : ∀ q, free q → A0 q) (hAX : ∀ q, q < H.size → AX q → A0 q)
    (kx : ∀ (E : String) (ce : Cell) (q9 : Addr) (u : SX) (t : State) (H1 : Heap) (locs1 : List Loc), t.heap = H1 → s.vm.Alike t.vm → px u → BX E u t → H.size ≤ H1.size → (∀ q : Nat, q < H.size → ¬ AX q → H1[q]? = H[q]?) → va_S A0 H0 H1 locs1 → H1[q9]? = some ce → ce.vm = .none → s.vm.findClass E = some ce.cls → vx_W p l e R s m args below meth c H1 locs1 (cells + mc) (slots + ms) Q (F0 m pc ls rest) q9)
    (kk : ∀ (u : S) (t : State) (H1 : Heap) (locs1 : List Loc), t.heap = H1 → s.vm.Alike t.vm → post u → B u t → H.size ≤ H1.size → (∀ q : Nat, q < H.size → ¬ A1 q → H1[q]? = H[q]?) → va_S A0 H0 H1 locs1 → W p l e R s m args below meth c H1 locs1 (cells + mc) (slots + ms) Q (F0 m (pc + 3) ls (rest))) : W p l e R s m args below meth c H locs cells slots Q (F0 m pc ls st0) := by
  intro T hT X
  rcases hr T hT X with ⟨v, st₀, t, T', L, h0, X', hL, e1, e2, ⟨⟨u, hv, hp, hb⟩, hF⟩, st⟩ | ⟨q, st₀, t, T', L, E, ce, h0, X', hL, e1, e2, ⟨u, hp, hb, hF⟩, hce, hcv, hcl, st⟩
  · cases hv
    obtain ⟨k1, k2, k3⟩ := vx_keep h0 e1 hS hA hf hL hF
    obtain ⟨t2, a1, b1⟩ := kk u t T'.heap (locs ++ L) e1.symm (by rw [← e2]; exact X'.warmed.alike) hp hb k1 k2 k3 T' rfl X'
    exact ⟨t2, st t2 a1, b1⟩
  · obtain ⟨k1, k2, k3⟩ := vx_keep h0 e1 hS hAX hf hL hF
    obtain ⟨t2, a1, b1⟩ := kx E ce q u t T'.heap (locs ++ L) e1.symm (by rw [← e2]; exact X'.warmed.alike) hp hb k1 k2 k3 (by rw [e1]; exact hce) hcv hcl T' rfl X'
    exact ⟨t2, st.trans a1, b1⟩
/-- caught by the row x of this method's table; the rows ahead don't take it -/
theorem vx_catch {own name : String} {E : String} {ce : Cell} {q : Addr} (hown : s.vm.findClass own = some m.cls) (pre : List ExceptionTableEntry) (x : ExceptionTableEntry) (suf : List ExceptionTableEntry) (hsplit : c.exceptionTable.toList = pre ++ x :: suf)
    (hpass : ∀ z ∈ pre, covers z pc = false ∨ (z.catchType ≠ 0 ∧ ∃ nm : String, (Cond.classLink own z.catchType nm).before args s = true ∧ va_Nc E nm s)) (hx : covers x pc = true) (h0 : x.catchType ≠ 0)
    (hlink : (Cond.classLink own x.catchType name).before args s = true) (hcast : (Cond.castable E name).before args s = true) (hcell : H[q]? = some ce) (hv : ce.vm = .none) (hcl : s.vm.findClass E = some ce.cls)
    (kk : W p l e R s m args below meth c H locs cells slots Q (F0 m x.handlerPc ls [.ref q])) : vx_W p l e R s m args below meth c H locs cells slots Q (F0 m pc ls rest) q := by
  intro T hT X
  have hpl : e.platform.magicAccessors = ({} : Platform).magicAccessors := by rw [X.admits.platform]
  obtain ⟨c3, c4, hc3, hc4, hasg⟩ := Cond.castable_spec hcast
  cases Option.some.inj (hc3.symm.trans hcl)
  obtain ⟨c5, hc5, hcl5⟩ := Cond.classLink_spec hown hlink e.platform hpl
  cases Option.some.inj (hc4.symm.trans hc5)
  obtain ⟨vm', X', st⟩ := X.thenCaughtThrough q (g := F0 m pc ls rest) rfl (Steps.refl _) (by rw [hT]; exact hcell) (by rw [hv]; rfl) (by obtain ⟨k9, h9, -⟩ := Vm.findClass_spec hcl; exact ⟨k9, h9⟩) pre x suf hsplit
    (fun z hz => by
      rcases hpass z hz with h | ⟨hz0, nm, hl1, hn1⟩
      · exact Or.inl h
      · obtain ⟨c6, hc6, hcl6⟩ := Cond.classLink_spec hown hl1 e.platform hpl
        obtain ⟨a8, b8, h1, h2, h3⟩ := hn1
        cases Option.some.inj (h1.symm.trans hcl)
        cases Option.some.inj (h2.symm.trans hc6)
        exact Or.inr ⟨hz0, _, hcl6, h3⟩) hx (Or.inr ⟨h0, c4, hcl5, hasg⟩)
  obtain ⟨t, a1, b1⟩ := kk (T.setVm vm') hT X'
  exact ⟨t, st.trans a1, b1⟩
end Rows
section Ends
variable {p : Program} {l : Launch} {e : Env} {R : Room} {s : State} {m : MethodId} {args : Array Value} {below : List Frame} {meth : Method} {c : Code} {H : Heap} {locs : List Loc} {cells slots : Nat} {Q : State → Prop}
variable {mc ms : Nat} {free : Addr → Prop} {A0 A1 : Nat → Prop} {H0 : Heap} {a : Array Value} {ls : Array Slot} {st0 rest : List Value}
variable {Qc : Array Value → State → Outcome → State → Prop} {XC : String → State → State → Prop}
/-- what a body that may throw owes at its end -/
def vx_MQ (below : List Frame) (Qc : Array Value → State → Outcome → State → Prop) (XC : String → State → State → Prop) (a : Array Value) (s : State) (mc ms : Nat) (free : Addr → Prop) : State → Prop := fun t =>
  ∃ o, t.status = .running ∧ Ended t below o ∧ vx_Q Qc XC mc ms free a s o t
theorem vx_ret {g : JFrame} {mc ms : Nat} (k : W p l e R s m args below meth c H locs cells slots (MQ below Qc args s mc ms free) g) : W p l e R s m args below meth c H locs cells slots (vx_MQ below Qc XC args s mc ms free) g := by
  intro T hT X
  obtain ⟨t, a1, o, b1, b2, b3, b4⟩ := k T hT X
  exact ⟨t, a1, o, b1, b2, Or.inl ⟨b3, b4⟩⟩
/-- not caught here: it goes on to the caller -/
theorem vx_widen {g : JFrame} {q : Addr} {k n : Nat} (h1 : cells ≤ k) (h2 : slots ≤ n) (kk : vx_W p l e R s m args below meth c H locs k n Q g q) : vx_W p l e R s m args below meth c H locs cells slots Q g q := fun T hT X => kk T hT (stand_widen X h1 h2)
theorem vx_out {pc : Nat} {E : String} {ce : Cell} {q : Addr} {mc ms : Nat} (hout : ∀ x ∈ c.exceptionTable.toList, covers x pc = false) (hlocks : meth.locks = false) (hcell : H[q]? = some ce) (hv : ce.vm = .none) (hcl : s.vm.findClass E = some ce.cls)
    (hx : ∀ t : State, t.heap = H → s.vm.Alike t.vm → XC E s t) (hf : ∀ z ∈ locs, free z.base) (hc : cells ≤ mc) (hs : slots ≤ ms) :
    vx_W p l e R s m args below meth c H locs cells slots (vx_MQ below Qc XC args s mc ms free) (F0 m pc ls rest) q := by
  intro T hT X
  obtain ⟨st1, hrun, hend, hW, hsm⟩ := X.leaveThrown q (g := F0 m pc ls rest) rfl rfl rfl hout hlocks
  have hcell9 : (T.setFrames (.throwing q :: below)).heap[q]? = some ce := by
    show T.heap[q]? = some ce
    rw [hT]; exact hcell
  exact ⟨_, st1, .threw q, hrun, hend, Or.inr ⟨q, rfl, E, ce, locs, hx _ hT hW.alike, hcell9, hv, hcl, hW, hsm.mono hc hs, hf⟩⟩
theorem vx_frame {U : State} {k n : Nat} (h : s.sameButNew ({ U with vm := s.vm } : State) locs k n) : s.heap.size ≤ U.heap.size ∧ ∀ q : Nat, q < s.heap.size → (∀ z ∈ locs, z.base ≠ q) → U.heap[q]? = s.heap[q]? := by
  obtain ⟨-, h2, -, -, -, h6⟩ := h
  refine ⟨h2, fun q hq hz => ?_⟩
  obtain ⟨c9, e1, e2, e3, e4⟩ := h6 q _ (Array.getElem?_eq_getElem hq)
  have hs : c9.slots = (s.heap[q]).slots := Array.ext_getElem? fun i => e4 i fun hm => hz _ hm rfl
  have h9 : c9 = s.heap[q] := by
    rw [hs] at e2
    exact e2
  have e5 : U.heap[q]? = some c9 := e1
  rw [e5, h9, Array.getElem?_eq_getElem hq]
/-- the words of a throw but the four that speak of the heap -/
def vx_no (w : Cond) : Bool := decide (w ≠ .isRef (.static Bundle.tN "UNASSIGNED_STACK" Bundle.steD)) && decide (w ≠ .isRef (.static Bundle.tN "SUPPRESSED_SENTINEL" Bundle.listD)) && decide (w ≠ .laysStatic Bundle.tN "UNASSIGNED_STACK" Bundle.steD) && decide (w ≠ .laysStatic Bundle.tN "SUPPRESSED_SENTINEL" Bundle.listD)
def vx_at0 (own : String) (ic : Nat) (X : String) (names : List String) : List Cond := (Bundle.ownAtoms0 own ic X names).filter vx_no
def vx_atS (own : String) (ic : Nat) (X : String) (names : List String) : List Cond := (Bundle.ownAtoms own ic X names).filter vx_no
/-- a word that the tables alone decide, or a good one -/
def vx_ot (w : Cond) : Bool := w.onTables || goodWord w
theorem vx_ot_at {args a' : Array Value} {s U : State} {w : Cond} (hW : s.WarmedH U.vm) (hvm : s.vm = U.vm) (hg : vx_ot w = true) (h : w.before args s = true) : w.before a' U = true := by
  simp only [vx_ot, Bool.or_eq_true] at hg
  rcases hg with hg | hg
  · exact va_tabs hg hvm h
  · exact word_at hW (good_of_word hg) h
/-- a list's words: the good ones out of the method's own list, the others by premises of their own -/
theorem vx_hat {args : Array Value} {s : State} {L B : List Cond} (h1 : ∀ w ∈ L.filter goodWord, w.before args s = true) (h2 : ∀ w ∈ L.filter (fun w => !goodWord w), w ∈ B) (h3 : ∀ w ∈ B, w.before args s = true) : ∀ w ∈ L, w.before args s = true := by
  intro w hw
  by_cases g : goodWord w = true
  · exact h1 w (List.mem_filter.mpr ⟨hw, g⟩)
  · refine h3 w (h2 w (List.mem_filter.mpr ⟨hw, ?_⟩))
    show (!goodWord w) = true
    cases hgw : goodWord w
    · rfl
    · exact absurd hgw g
theorem vx_c {args : Array Value} {s : State} {w : Cond} {B : List Cond} (h : w.before args s = true) (t : ∀ w ∈ B, w.before args s = true) : ∀ w' ∈ w :: B, w'.before args s = true := fun w' h' => (List.mem_cons.mp h').elim (fun e => by rw [e]; exact h) (t w')
theorem vx_n {args : Array Value} {s : State} : ∀ w ∈ ([] : List Cond), w.before args s = true := fun _ h => nomatch h
theorem vx_own {args : Array Value} {s : State} {L : List Cond} (h1 : ∀ w ∈ L.filter vx_no, w.before args s = true)
    (hU : (Cond.isRef (.static Bundle.tN "UNASSIGNED_STACK" Bundle.steD)).before args s = true) (hN : (Cond.isRef (.static Bundle.tN "SUPPRESSED_SENTINEL" Bundle.listD)).before args s = true)
    (lU : (Cond.laysStatic Bundle.tN "UNASSIGNED_STACK" Bundle.steD).before args s = true) (lN : (Cond.laysStatic Bundle.tN "SUPPRESSED_SENTINEL" Bundle.listD).before args s = true) : ∀ w ∈ L, w.before args s = true := by
  intro w hw
  by_cases e1 : w = .isRef (.static Bundle.tN "UNASSIGNED_STACK" Bundle.steD)
  · rw [e1]; exact hU
  · by_cases e2 : w = .isRef (.static Bundle.tN "SUPPRESSED_SENTINEL" Bundle.listD)
    · rw [e2]; exact hN
    · by_cases e3 : w = .laysStatic Bundle.tN "UNASSIGNED_STACK" Bundle.steD
      · rw [e3]; exact lU
      · by_cases e4 : w = .laysStatic Bundle.tN "SUPPRESSED_SENTINEL" Bundle.listD
        · rw [e4]; exact lN
        · exact h1 w (List.mem_filter.mpr ⟨hw, by unfold vx_no; rw [decide_eq_true e1, decide_eq_true e2, decide_eq_true e3, decide_eq_true e4]; rfl⟩)
/-- where a static field lies, its class's statics cell in H -/
def vx_L (C n d : String) (A : Nat → Prop) (U : State) (H : Heap) : Prop := ∃ (c : ClassId) (k : Class) (i : Nat) (f : Field) (a : Nat) (cell : Cell), U.vm.findClass C = some c ∧ U.fieldFound? C n d = some (c, k, i, f) ∧ f.isStatic = true ∧ k.statics = some a ∧ H[a]? = some cell ∧ cell.vm.isStatics = true ∧ cell.cls = c ∧ f.slot < cell.slots.size ∧ k.staticTypes[f.slot]? = some f.type ∧ ¬ A a
theorem vx_L.moved {C n d : String} {A : Nat → Prop} {u U : State} {H : Heap} (hvm : u.vm.Alike U.vm) (h : vx_L C n d A u H) : vx_L C n d A U H := by
  obtain ⟨c, k, i, f, a, cell, h1, h2, h3, h4, h5, h6, h7, h8, h9, h10⟩ := h
  obtain ⟨k', hi', he⟩ := State.fieldFound?_setVm hvm h2
  exact ⟨c, k', i, f, a, cell, by rw [hvm.findClass]; exact h1, hi', h3, by rw [he]; exact h4, h5, h6, h7, h8, by rw [he]; exact h9, h10⟩
theorem vx_L.kept {C n d : String} {A : Nat → Prop} {U : State} {H H1 : Heap} (h : vx_L C n d A U H) (hq : ∀ a : Nat, a < H.size → ¬ A a → H1[a]? = H[a]?) : vx_L C n d A U H1 := by
  obtain ⟨c, k, i, f, a, cell, h1, h2, h3, h4, h5, h6, h7, h8, h9, h10⟩ := h
  exact ⟨c, k, i, f, a, cell, h1, h2, h3, h4, by rw [hq a (Array.getElem?_eq_some_iff.mp h5).1 h10]; exact h5, h6, h7, h8, h9, h10⟩
theorem vx_L.narrow {C n d : String} {A B : Nat → Prop} {U : State} {H : Heap} (h : vx_L C n d A U H) (hAB : ∀ q, B q → A q) : vx_L C n d B U H := by
  obtain ⟨c, k, i, f, a, cell, h1, h2, h3, h4, h5, h6, h7, h8, h9, h10⟩ := h
  exact ⟨c, k, i, f, a, cell, h1, h2, h3, h4, h5, h6, h7, h8, h9, fun z => h10 (hAB _ z)⟩
theorem vx_L.word {C n d : String} {A : Nat → Prop} {s : State} {args : Array Value} (h : vx_L C n d A s s.heap) : (Cond.laysStatic C n d).before args s = true := by
  obtain ⟨c, k, i, f, a, cell, h1, h2, h3, h4, h5, h6, h7, h8, h9, -⟩ := h
  show (Cond.laysStatic C n d).holds args s none s [] = true
  exact Cond.laysStatic_of h1 h2 h3 h4 h5 h6 h7 h8 h9
/-- .. and what it holds: null or some reference -/
def vx_Zq (C n d : String) (A : Nat → Prop) (U : State) (H : Heap) : Prop := va_Zq C n d A U H ∧ vx_L C n d A U H
theorem vx_Zq.moved {C n d : String} {A : Nat → Prop} {u U : State} {H : Heap} (hvm : u.vm.Alike U.vm) (h : vx_Zq C n d A u H) : vx_Zq C n d A U H := ⟨va_Zq.moved hvm h.1, vx_L.moved hvm h.2⟩
theorem vx_Zq.kept {C n d : String} {A : Nat → Prop} {U : State} {H H1 : Heap} (h : vx_Zq C n d A U H) (hq : ∀ a : Nat, a < H.size → ¬ A a → H1[a]? = H[a]?) : vx_Zq C n d A U H1 := ⟨va_Zq.kept h.1 hq, vx_L.kept h.2 hq⟩
theorem vx_Zq.narrow {C n d : String} {A B : Nat → Prop} {U : State} {H : Heap} (h : vx_Zq C n d A U H) (hAB : ∀ q, B q → A q) : vx_Zq C n d B U H := ⟨va_Zq.narrow h.1 hAB, vx_L.narrow h.2 hAB⟩
theorem vx_Zqof {args : Array Value} {s : State} {C n d : String} {A : Nat → Prop} (hl : (Cond.laysStatic C n d).before args s = true) (hini : (Cond.initialized C).before args s = true) (h : (Cond.isRef (.static C n d)).before args s = true) (hA : ∀ a : Nat, a < s.heap.size → ¬ A a) : vx_Zq C n d A s s.heap := by
  refine ⟨va_Zqof hl hini h hA, ?_⟩
  obtain ⟨c, k, i, f, a, cell, h1, h2, h3, h4, h5, h6, h7, h8, h9⟩ := Cond.laysStatic_spec hl
  exact ⟨c, k, i, f, a, cell, h1, h2, h3, h4, h5, h6, h7, h8, h9, hA a (Array.getElem?_eq_some_iff.mp h5).1⟩
theorem vx_isRef {C n d : String} {v : Value} {A : Nat → Prop} {s : State} {args : Array Value} (h : va_Z C n d v A s s.heap) (hv : v.isRef = true) : (Cond.isRef (.static C n d)).before args s = true := by
  obtain ⟨cf, kf, fi, f, a, cell, h1, h2, h3, h4, h5, h6, h7, -⟩ := h
  have he : (Term.static C n d).eval args s none [] s = some v := by
    simp [Term.eval, State.fieldNamed?, h1, h2, h4, h5, h6, h7]
  simp only [Cond.before, Cond.holds, Cond.value, he]
  cases v <;> simp_all [Value.isRef]
theorem vx_isRefq {C n d : String} {A : Nat → Prop} {s : State} {args : Array Value} (h : va_Zq C n d A s s.heap) : (Cond.isRef (.static C n d)).before args s = true := by
  rcases h with h | ⟨t, h⟩
  · exact vx_isRef h rfl
  · exact vx_isRef h rfl
/-- the same frame, seen from here: as if the method were called anew in this heap -/
theorem vx_rebase {T : State} (X : Stand p l e R s m args below meth c T locs cells slots) {R' : Room} (hf : R'.frames ≤ R.frames) (hl : R'.locals ≤ R.locals) (hc : cells + R'.cells ≤ R.cells) (hs : slots + R'.slots ≤ R.slots) :
    Stand p l e R' ((T.setVm s.vm).setFrames (.invoking m args :: below)) m args below meth c T [] 0 0 := by
  have htop : (T.setVm s.vm).topJava?.isSome := X.here.top
  have hF : ((T.setVm s.vm).setFrames (.invoking m args :: below)).frames = .invoking m args :: below := State.frames_setFrames _ (State.cur_lt_of_top htop)
  obtain ⟨g₀, hg0⟩ := Option.isSome_iff_exists.mp htop
  obtain ⟨r, hr⟩ := State.topJava?_eq_some.mp hg0
  have hl9 : e.platform.stackLimits (T.setVm s.vm).me = e.platform.stackLimits s.me := X.limits
  have hb9 : (T.setVm s.vm).me.stackBytes = s.me.stackBytes := X.bytes
  refine ⟨X.admits, X.cas, X.clock, hF, ?_, X.hears, X.method, X.code, X.here, X.tail, X.warmed, ?_, ?_, ?_⟩
  · have h := X.room
    have hU : ((T.setVm s.vm).setFrames (.invoking m args :: below)).localsInUse = s.localsInUse := by
      rw [State.localsInUse_invoking hF (meth := meth) (c := c) X.method X.code, State.localsInUse_invoking X.frames X.method X.code]
    simp only [State.hasRoom, Bool.and_eq_true, decide_eq_true_eq] at h ⊢
    obtain ⟨⟨⟨⟨h1, h2, h3, h4, h5, h6⟩, h7⟩, h8⟩, h9⟩ := h
    rw [X.frames, List.length_cons] at h2 h3
    have q1 := X.heapSize
    have q2 := X.used
    simp only [hF, hU, List.length_cons, State.stackLimits_setFrames, State.stackBytes_setFrames, hl9, hb9]
    refine ⟨⟨⟨⟨by omega, by omega, by omega, by omega, by omega, h6⟩, ?_⟩, ?_⟩, X.book⟩
    · show T.heap.size + R'.cells ≤ e.platform.maxCells
      omega
    · show T.slotsUsed + R'.slots ≤ e.platform.maxSlots
      omega
  · rw [State.stackLimits_setFrames]; rfl
  · rw [State.stackBytes_setFrames]; rfl
  · refine ⟨?_, Nat.le_refl _, Nat.le_refl _, ?_, ?_, fun a c9 h9 => ⟨c9, h9, rfl, rfl, fun _ _ => rfl⟩⟩
    · obtain ⟨t, ht, -⟩ := State.frames_cons hr
      show T.setVm s.vm = { ((T.setVm s.vm).setFrames (.invoking m args :: below)).setFrames (T.setVm s.vm).frames with heap := T.heap, slotsUsed := T.slotsUsed }
      rw [State.setFrames_setFrames, State.setFrames_self ht]
      rfl
    · show T.slotsUsed = T.slotsUsed + ((T.heap.toList.drop T.heap.size).map (·.slots.size)).sum
      rw [List.drop_eq_nil_of_le (Nat.le_of_eq Array.length_toList)]
      rfl
    · show ((T.heap.toList.drop T.heap.size).map (·.slots.size)).sum ≤ 0
      rw [List.drop_eq_nil_of_le (Nat.le_of_eq Array.length_toList)]
      exact Nat.le_refl _
/-- 'throw new E()': new; dup; invokespecial; athrow -/
theorem vx_throw0 {cc : ByteArray} {pc : Nat} (hexec : p.tables.exec = Jvm.exec) (hb : c.code = cc) (hl : l.stackTraces = false) {own cls : String} {names : List String} {ik ic mc ms : Nat} {A : Nat → Prop}
    (hown : s.vm.findClass own = some m.cls) (hcls : Bundle.fit cls = true) (hnames : ∀ n ∈ names, Bundle.fit n = true)
    (hk : (Cond.classLink own ik cls).before args s = true) (hini : (Cond.initialized cls).before args s = true) (hat : ∀ w ∈ vx_at0 own ic cls names, w.before args s = true)
    (hgood : ∀ w ∈ Cond.classLink own ik cls :: Cond.initialized cls :: vx_at0 own ic cls names, vx_ot w = true)
    (hU : vx_Zq Bundle.tN "UNASSIGNED_STACK" Bundle.steD A s s.heap) (hN : vx_Zq Bundle.tN "SUPPRESSED_SENTINEL" Bundle.listD A s s.heap) (hS : va_S A s.heap H locs) (hsize : ls.size = c.maxLocals)
    (d0 : decode cc pc = .ok (.new ik, 3)) (d3 : decode cc (pc + 3) = .ok (.dup, 1)) (d4 : decode cc (pc + 4) = .ok (.invokespecial ic, 3)) (d7 : decode cc (pc + 7) = .ok (.athrow, 1))
    (hout : ∀ x ∈ c.exceptionTable.toList, covers x (pc + 7) = false)
    (hRframes : names.length + 3 < R.frames) (hRlocals : (rest.map fun v => v.category).sum + (13 * (names.length + 1) + 42) ≤ R.locals) (hRcells : cells + 1 ≤ R.cells) (hRslots : slots + 6 ≤ R.slots) (hlocks : meth.locks = false)
    (hx : ∀ t : State, s.vm.Alike t.vm → H.size ≤ t.heap.size → (∀ q : Nat, q < H.size → t.heap[q]? = H[q]?) → XC cls s t)
    (hf : ∀ z ∈ locs, free z.base) (hc : cells + 1 ≤ mc) (hs : slots + 6 ≤ ms) :
    W p l e R s m args below meth c H locs cells slots (vx_MQ below Qc XC args s mc ms free) (F0 m pc ls rest) := by
  intro T hT X
  have htr : e.platform.stackTraces = false := (show e.platform.stackTraces = l.stackTraces by rw [X.admits.platform]).trans hl
  have Y := vx_rebase X (R' := { frames := R.frames, locals := R.locals, cells := 1, slots := 6 }) (Nat.le_refl _) (Nat.le_refl _) hRcells hRslots
  obtain ⟨s', hA⟩ : ∃ z, z = (T.setVm s.vm).setFrames (.invoking m args :: below) := ⟨_, rfl⟩
  rw [← hA] at Y
  have hvm : s'.vm = s.vm := by rw [hA]; rfl
  have hhp : s'.heap = H := by rw [hA]; exact hT
  have hW0 : s.WarmedH s'.vm := by rw [hvm]; exact State.WarmedH.refl s
  have hat' : ∀ w ∈ vx_at0 own ic cls names, w.before args s' = true := fun w hw => vx_ot_at hW0 hvm.symm (hgood w (List.mem_cons_of_mem _ (List.mem_cons_of_mem _ hw))) (hat w hw)
  have hk' : (Cond.classLink own ik cls).before args s' = true := vx_ot_at hW0 hvm.symm (hgood _ List.mem_cons_self) hk
  have hini' : (Cond.initialized cls).before args s' = true := vx_ot_at hW0 hvm.symm (hgood _ (List.mem_cons_of_mem _ List.mem_cons_self)) hini
  have hU' : vx_Zq Bundle.tN "UNASSIGNED_STACK" Bundle.steD A s' s'.heap := by rw [hhp]; exact vx_Zq.moved hW0.alike (hU.kept hS.2.1)
  have hN' : vx_Zq Bundle.tN "SUPPRESSED_SENTINEL" Bundle.listD A s' s'.heap := by rw [hhp]; exact vx_Zq.moved hW0.alike (hN.kept hS.2.1)
  have h : ∀ w ∈ Bundle.ownAtoms0 own ic cls names, w.before args s' = true := vx_own hat' (vx_isRefq hU'.1) (vx_isRefq hN'.1) hU'.2.word hN'.2.word
  have hown' : s'.vm.findClass own = some m.cls := by rw [hvm]; exact hown
  have hins : (Cond.instantiable cls 6).before args s' = true := h _ (by simp [Bundle.ownAtoms0])
  obtain ⟨vm₁, cX, kX, hfX, hkX, -, -, X₁, st1⟩ := Y.newCold hexec (own := own) (C := cls) (index := ik) (n := 6) hown' hk' hins hini'
    (g := F0 m pc ls rest) rfl (by rw [hb]; exact d0) (Nat.le_refl _) (Nat.le_refl _)
  generalize hT1 : (T.setVm vm₁).pushCell { cls := cX, slots := kX.instanceTypes.map defaultValue, vm := .none } = T1 at X₁ st1
  have hcat : (Value.ref T.heap.size).category = 1 := rfl
  have hcellA : T1.heap[T.heap.size]? = some (freshCell cX kX) := by rw [← hT1]; exact State.heap_pushCell_size _ _
  have d3' : decode c.code (pc + 3) = .ok (.dup, 1) := by rw [hb]; exact d3
  obtain ⟨U, hsteps, hrun, hend, hW, hsame, ce, hce, hO⟩ := X₁.ctorThrow0 hexec htr (own := own) (cls := cls) (names := names) (ic := ic) hown' hcls hnames h (fun x hx => nomatch hx) hfX hkX hcellA (by rw [hhp, hT]; exact Nat.le_refl _)
    (g := { method := m, pc := pc + 4, locals := ls, stack := .ref T.heap.size :: .ref T.heap.size :: rest, locked := none }) rfl hsize rfl rfl (rest := rest) rfl
    (by rw [hb]; exact d4) (by rw [hb]; exact d7) hout hRframes (by simp only [List.map_cons, List.sum_cons, hcat]; omega) hlocks
  obtain ⟨f1, f2⟩ := vx_frame hsame
  rw [hhp] at f1 f2
  have hWs : s.WarmedH U.vm := State.WarmedH.trans hW0 hW
  have hcl : s.vm.findClass cls = some ce.cls := by
    have h9 := hO.cls
    rw [hvm] at h9
    exact h9
  have hall : s.sameButNew ({ U with vm := s.vm } : State) locs mc ms := by
    subst hA
    obtain ⟨e1, e2⟩ := hsame
    rw [State.setFrames_setFrames] at e1
    have h2 : (T.setVm s.vm).sameButNew ({ U with vm := s.vm } : State) [] (0 + 1) (0 + 6) := ⟨e1, e2⟩
    have h3 := X.same.trans h2
    rw [List.append_nil] at h3
    exact h3.mono hc hs
  refine ⟨U, ?_, .threw T.heap.size, hrun, hend, Or.inr ⟨T.heap.size, rfl, cls, ce, locs, hx U hWs.alike f1 (fun q hq => f2 q hq (fun z hz => nomatch hz)), hce, hO.vm, hcl, hWs, hall, hf⟩⟩
  refine st1 _ ?_
  show Steps p.tables e below (T1.setTop { method := m, pc := pc + 3, locals := ls, stack := .ref T.heap.size :: rest, locked := none }) _
  jvm_step X₁.here [X₁.here.top, hexec, d3', Value.category]
  exact hsteps
/-- 'throw new E("text")': new; dup; ldc; invokespecial; athrow -/
theorem vx_throwS {cc : ByteArray} {pc : Nat} (hexec : p.tables.exec = Jvm.exec) (hb : c.code = cc) (hl : l.stackTraces = false) {own cls text : String} {names : List String} {ik is ic mc ms sa : Nat} {A : Nat → Prop}
    (hown : s.vm.findClass own = some m.cls) (hcls : Bundle.fit cls = true) (hnames : ∀ n ∈ names, Bundle.fit n = true)
    (hk : (Cond.classLink own ik cls).before args s = true) (hini : (Cond.initialized cls).before args s = true) (hstr : vk_R own is text sa s) (hat : ∀ w ∈ vx_atS own ic cls names, w.before args s = true)
    (hgood : ∀ w ∈ Cond.classLink own ik cls :: Cond.initialized cls :: vx_atS own ic cls names, vx_ot w = true)
    (hU : vx_Zq Bundle.tN "UNASSIGNED_STACK" Bundle.steD A s s.heap) (hN : vx_Zq Bundle.tN "SUPPRESSED_SENTINEL" Bundle.listD A s s.heap) (hS : va_S A s.heap H locs) (hsize : ls.size = c.maxLocals)
    (d0 : decode cc pc = .ok (.new ik, 3)) (d3 : decode cc (pc + 3) = .ok (.dup, 1)) (d4 : decode cc (pc + 4) = .ok (.ldc is, 2)) (d6 : decode cc (pc + 6) = .ok (.invokespecial ic, 3)) (d9 : decode cc (pc + 9) = .ok (.athrow, 1))
    (hout : ∀ x ∈ c.exceptionTable.toList, covers x (pc + 9) = false)
    (hRframes : names.length + 3 < R.frames) (hRlocals : (rest.map fun v => v.category).sum + (13 * (names.length + 1) + 43) ≤ R.locals) (hRcells : cells + 1 ≤ R.cells) (hRslots : slots + 6 ≤ R.slots) (hlocks : meth.locks = false)
    (hx : ∀ t : State, s.vm.Alike t.vm → H.size ≤ t.heap.size → (∀ q : Nat, q < H.size → t.heap[q]? = H[q]?) → XC cls s t)
    (hf : ∀ z ∈ locs, free z.base) (hc : cells + 1 ≤ mc) (hs : slots + 6 ≤ ms) :
    W p l e R s m args below meth c H locs cells slots (vx_MQ below Qc XC args s mc ms free) (F0 m pc ls rest) := by
  intro T hT X
  have htr : e.platform.stackTraces = false := (show e.platform.stackTraces = l.stackTraces by rw [X.admits.platform]).trans hl
  have Y := vx_rebase X (R' := { frames := R.frames, locals := R.locals, cells := 1, slots := 6 }) (Nat.le_refl _) (Nat.le_refl _) hRcells hRslots
  obtain ⟨s', hA⟩ : ∃ z, z = (T.setVm s.vm).setFrames (.invoking m args :: below) := ⟨_, rfl⟩
  rw [← hA] at Y
  have hvm : s'.vm = s.vm := by rw [hA]; rfl
  have hhp : s'.heap = H := by rw [hA]; exact hT
  have hW0 : s.WarmedH s'.vm := by rw [hvm]; exact State.WarmedH.refl s
  have hat' : ∀ w ∈ vx_atS own ic cls names, w.before args s' = true := fun w hw => vx_ot_at hW0 hvm.symm (hgood w (List.mem_cons_of_mem _ (List.mem_cons_of_mem _ hw))) (hat w hw)
  have hk' : (Cond.classLink own ik cls).before args s' = true := vx_ot_at hW0 hvm.symm (hgood _ List.mem_cons_self) hk
  have hini' : (Cond.initialized cls).before args s' = true := vx_ot_at hW0 hvm.symm (hgood _ (List.mem_cons_of_mem _ List.mem_cons_self)) hini
  have hU' : vx_Zq Bundle.tN "UNASSIGNED_STACK" Bundle.steD A s' s'.heap := by rw [hhp]; exact vx_Zq.moved hW0.alike (hU.kept hS.2.1)
  have hN' : vx_Zq Bundle.tN "SUPPRESSED_SENTINEL" Bundle.listD A s' s'.heap := by rw [hhp]; exact vx_Zq.moved hW0.alike (hN.kept hS.2.1)
  have h : ∀ w ∈ Bundle.ownAtoms own ic cls names, w.before args s' = true := vx_own hat' (vx_isRefq hU'.1) (vx_isRefq hN'.1) hU'.2.word hN'.2.word
  have hown' : s'.vm.findClass own = some m.cls := by rw [hvm]; exact hown
  have hins : (Cond.instantiable cls 6).before args s' = true := h _ (by simp [Bundle.ownAtoms])
  obtain ⟨vm₁, cX, kX, hfX, hkX, -, -, X₁, st1⟩ := Y.newCold hexec (own := own) (C := cls) (index := ik) (n := 6) hown' hk' hins hini'
    (g := F0 m pc ls rest) rfl (by rw [hb]; exact d0) (Nat.le_refl _) (Nat.le_refl _)
  generalize hT1 : (T.setVm vm₁).pushCell { cls := cX, slots := kX.instanceTypes.map defaultValue, vm := .none } = T1 at X₁ st1
  have hcat : (Value.ref T.heap.size).category = 1 := rfl
  have hcellA : T1.heap[T.heap.size]? = some (freshCell cX kX) := by rw [← hT1]; exact State.heap_pushCell_size _ _
  have d3' : decode c.code (pc + 3) = .ok (.dup, 1) := by rw [hb]; exact d3
  have d4' : decode c.code (pc + 4) = .ok (.ldc is, 2) := by rw [hb]; exact d4
  have hstr' : vk_R own is text sa s' := vk_R.warm hW0 hstr
  obtain ⟨U, hsteps, hrun, hend, hW, hsame, ce, hce, hO⟩ := X₁.ctorThrowS hexec htr (own := own) (cls := cls) (names := names) (ic := ic) hown' hcls hnames h (fun x hx => nomatch hx) hfX hkX hcellA (by rw [hhp, hT]; exact Nat.le_refl _) (msg := .ref sa) rfl
    (g := { method := m, pc := pc + 6, locals := ls, stack := .ref sa :: .ref T.heap.size :: .ref T.heap.size :: rest, locked := none }) rfl hsize rfl rfl (rest := rest) rfl
    (by rw [hb]; exact d6) (by rw [hb]; exact d9) hout hRframes (by simp only [List.map_cons, List.sum_cons, hcat]; omega) hlocks
  obtain ⟨f1, f2⟩ := vx_frame hsame
  rw [hhp] at f1 f2
  have hWs : s.WarmedH U.vm := State.WarmedH.trans hW0 hW
  have hcl : s.vm.findClass cls = some ce.cls := by
    have h9 := hO.cls
    rw [hvm] at h9
    exact h9
  have hall : s.sameButNew ({ U with vm := s.vm } : State) locs mc ms := by
    subst hA
    obtain ⟨e1, e2⟩ := hsame
    rw [State.setFrames_setFrames] at e1
    have h2 : (T.setVm s.vm).sameButNew ({ U with vm := s.vm } : State) [] (0 + 1) (0 + 6) := ⟨e1, e2⟩
    have h3 := X.same.trans h2
    rw [List.append_nil] at h3
    exact h3.mono hc hs
  refine ⟨U, ?_, .threw T.heap.size, hrun, hend, Or.inr ⟨T.heap.size, rfl, cls, ce, locs, hx U hWs.alike f1 (fun q hq => f2 q hq (fun z hz => nomatch hz)), hce, hO.vm, hcl, hWs, hall, hf⟩⟩
  refine st1 _ ?_
  show Steps p.tables e below (T1.setTop { method := m, pc := pc + 3, locals := ls, stack := .ref T.heap.size :: rest, locked := none }) _
  jvm_step X₁.here [X₁.here.top, hexec, d3', Value.category]
  exact X₁.ldcString hexec (own := own) (text := text) (index := is) (a := sa) hown' hstr'.1 hstr'.2
    (g := { method := m, pc := pc + 4, locals := ls, stack := .ref T.heap.size :: .ref T.heap.size :: rest, locked := none }) rfl d4' _ hsteps
/-- 'throw new E("text")', the text by a wide index -/
theorem vx_throwSW {cc : ByteArray} {pc : Nat} (hexec : p.tables.exec = Jvm.exec) (hb : c.code = cc) (hl : l.stackTraces = false) {own cls text : String} {names : List String} {ik is ic mc ms sa : Nat} {A : Nat → Prop}
    (hown : s.vm.findClass own = some m.cls) (hcls : Bundle.fit cls = true) (hnames : ∀ n ∈ names, Bundle.fit n = true)
    (hk : (Cond.classLink own ik cls).before args s = true) (hini : (Cond.initialized cls).before args s = true) (hstr : vk_R own is text sa s) (hat : ∀ w ∈ vx_atS own ic cls names, w.before args s = true)
    (hgood : ∀ w ∈ Cond.classLink own ik cls :: Cond.initialized cls :: vx_atS own ic cls names, vx_ot w = true)
    (hU : vx_Zq Bundle.tN "UNASSIGNED_STACK" Bundle.steD A s s.heap) (hN : vx_Zq Bundle.tN "SUPPRESSED_SENTINEL" Bundle.listD A s s.heap) (hS : va_S A s.heap H locs) (hsize : ls.size = c.maxLocals)
    (d0 : decode cc pc = .ok (.new ik, 3)) (d3 : decode cc (pc + 3) = .ok (.dup, 1)) (d4 : decode cc (pc + 4) = .ok (.ldc_w is, 3)) (d7 : decode cc (pc + 7) = .ok (.invokespecial ic, 3)) (d10 : decode cc (pc + 10) = .ok (.athrow, 1))
    (hout : ∀ x ∈ c.exceptionTable.toList, covers x (pc + 10) = false)
    (hRframes : names.length + 3 < R.frames) (hRlocals : (rest.map fun v => v.category).sum + (13 * (names.length + 1) + 43) ≤ R.locals) (hRcells : cells + 1 ≤ R.cells) (hRslots : slots + 6 ≤ R.slots) (hlocks : meth.locks = false)
    (hx : ∀ t : State, s.vm.Alike t.vm → H.size ≤ t.heap.size → (∀ q : Nat, q < H.size → t.heap[q]? = H[q]?) → XC cls s t)
    (hf : ∀ z ∈ locs, free z.base) (hc : cells + 1 ≤ mc) (hs : slots + 6 ≤ ms) :
    W p l e R s m args below meth c H locs cells slots (vx_MQ below Qc XC args s mc ms free) (F0 m pc ls rest) := by
  intro T hT X
  have htr : e.platform.stackTraces = false := (show e.platform.stackTraces = l.stackTraces by rw [X.admits.platform]).trans hl
  have Y := vx_rebase X (R' := { frames := R.frames, locals := R.locals, cells := 1, slots := 6 }) (Nat.le_refl _) (Nat.le_refl _) hRcells hRslots
  obtain ⟨s', hA⟩ : ∃ z, z = (T.setVm s.vm).setFrames (.invoking m args :: below) := ⟨_, rfl⟩
  rw [← hA] at Y
  have hvm : s'.vm = s.vm := by rw [hA]; rfl
  have hhp : s'.heap = H := by rw [hA]; exact hT
  have hW0 : s.WarmedH s'.vm := by rw [hvm]; exact State.WarmedH.refl s
  have hat' : ∀ w ∈ vx_atS own ic cls names, w.before args s' = true := fun w hw => vx_ot_at hW0 hvm.symm (hgood w (List.mem_cons_of_mem _ (List.mem_cons_of_mem _ hw))) (hat w hw)
  have hk' : (Cond.classLink own ik cls).before args s' = true := vx_ot_at hW0 hvm.symm (hgood _ List.mem_cons_self) hk
  have hini' : (Cond.initialized cls).before args s' = true := vx_ot_at hW0 hvm.symm (hgood _ (List.mem_cons_of_mem _ List.mem_cons_self)) hini
  have hU' : vx_Zq Bundle.tN "UNASSIGNED_STACK" Bundle.steD A s' s'.heap := by rw [hhp]; exact vx_Zq.moved hW0.alike (hU.kept hS.2.1)
  have hN' : vx_Zq Bundle.tN "SUPPRESSED_SENTINEL" Bundle.listD A s' s'.heap := by rw [hhp]; exact vx_Zq.moved hW0.alike (hN.kept hS.2.1)
  have h : ∀ w ∈ Bundle.ownAtoms own ic cls names, w.before args s' = true := vx_own hat' (vx_isRefq hU'.1) (vx_isRefq hN'.1) hU'.2.word hN'.2.word
  have hown' : s'.vm.findClass own = some m.cls := by rw [hvm]; exact hown
  have hins : (Cond.instantiable cls 6).before args s' = true := h _ (by simp [Bundle.ownAtoms])
  obtain ⟨vm₁, cX, kX, hfX, hkX, -, -, X₁, st1⟩ := Y.newCold hexec (own := own) (C := cls) (index := ik) (n := 6) hown' hk' hins hini'
    (g := F0 m pc ls rest) rfl (by rw [hb]; exact d0) (Nat.le_refl _) (Nat.le_refl _)
  generalize hT1 : (T.setVm vm₁).pushCell { cls := cX, slots := kX.instanceTypes.map defaultValue, vm := .none } = T1 at X₁ st1
  have hcat : (Value.ref T.heap.size).category = 1 := rfl
  have hcellA : T1.heap[T.heap.size]? = some (freshCell cX kX) := by rw [← hT1]; exact State.heap_pushCell_size _ _
  have d3' : decode c.code (pc + 3) = .ok (.dup, 1) := by rw [hb]; exact d3
  have d4' : decode c.code (pc + 4) = .ok (.ldc_w is, 3) := by rw [hb]; exact d4
  have hstr' : vk_R own is text sa s' := vk_R.warm hW0 hstr
  obtain ⟨U, hsteps, hrun, hend, hW, hsame, ce, hce, hO⟩ := X₁.ctorThrowS hexec htr (own := own) (cls := cls) (names := names) (ic := ic) hown' hcls hnames h (fun x hx => nomatch hx) hfX hkX hcellA (by rw [hhp, hT]; exact Nat.le_refl _) (msg := .ref sa) rfl
    (g := { method := m, pc := pc + 7, locals := ls, stack := .ref sa :: .ref T.heap.size :: .ref T.heap.size :: rest, locked := none }) rfl hsize rfl rfl (rest := rest) rfl
    (by rw [hb]; exact d7) (by rw [hb]; exact d10) hout hRframes (by simp only [List.map_cons, List.sum_cons, hcat]; omega) hlocks
  obtain ⟨f1, f2⟩ := vx_frame hsame
  rw [hhp] at f1 f2
  have hWs : s.WarmedH U.vm := State.WarmedH.trans hW0 hW
  have hcl : s.vm.findClass cls = some ce.cls := by
    have h9 := hO.cls
    rw [hvm] at h9
    exact h9
  have hall : s.sameButNew ({ U with vm := s.vm } : State) locs mc ms := by
    subst hA
    obtain ⟨e1, e2⟩ := hsame
    rw [State.setFrames_setFrames] at e1
    have h2 : (T.setVm s.vm).sameButNew ({ U with vm := s.vm } : State) [] (0 + 1) (0 + 6) := ⟨e1, e2⟩
    have h3 := X.same.trans h2
    rw [List.append_nil] at h3
    exact h3.mono hc hs
  refine ⟨U, ?_, .threw T.heap.size, hrun, hend, Or.inr ⟨T.heap.size, rfl, cls, ce, locs, hx U hWs.alike f1 (fun q hq => f2 q hq (fun z hz => nomatch hz)), hce, hO.vm, hcl, hWs, hall, hf⟩⟩
  refine st1 _ ?_
  show Steps p.tables e below (T1.setTop { method := m, pc := pc + 3, locals := ls, stack := .ref T.heap.size :: rest, locked := none }) _
  jvm_step X₁.here [X₁.here.top, hexec, d3', Value.category]
  exact X₁.ldcStringW hexec (own := own) (text := text) (index := is) (a := sa) hown' hstr'.1 hstr'.2
    (g := { method := m, pc := pc + 4, locals := ls, stack := .ref T.heap.size :: .ref T.heap.size :: rest, locked := none }) rfl d4' _ hsteps
end Ends
section Bodies
variable {l : Launch}
theorem vx_ofW {y : MethodName} {ws ws' : List Cond} {rm : Room} {Pc : Array Value → State → Prop} {Qc : Array Value → State → Outcome → State → Prop} {XC : String → State → State → Prop} {mc ms : Nat} {free : Addr → Prop} {cc : ByteArray} {maxL : Nat} {ret : Option FieldType}
    (hy : plainName y.cls = true) (hw : ws = Cond.code y cc maxL ret :: ws')
    (body : ∀ p e s m args below meth c s₁, BodyLoose p l y (headSpec ws rm) cc maxL ret e s m args below meth c s₁ → c.maxLocals = maxL → (∀ x ∈ c.exceptionTable.toList, False) → Pc args s →
      W p l e (headSpec ws rm).room s m args below meth c s.heap [] 0 0 (vx_MQ below Qc XC args s mc ms free) (entryFrame m args maxL)) : vx_Met l y ws rm Pc Qc XC mc ms free := by
  refine MetFree.of_bodyS (code := cc) (maxLocals := maxL) (ret := ret) hy ?_ ?_
  · intro args s m h hn
    obtain ⟨meth, c, h1, h2, h3, h4, h5, h6, -, -⟩ := Cond.code_spec hn (atoms_spec (ws := ws) h _ (by rw [hw]; exact List.mem_cons_self))
    exact ⟨meth, c, h1, h2, h3, h4, h5, h6⟩
  · intro p e s m args below meth c s₁ B hml hP _
    have hh0 : s₁.heap = s.heap := by rw [B.state]; rfl
    have ht : ∀ x ∈ c.exceptionTable.toList, False := by
      obtain ⟨meth9, c9, h1, h2, -, -, -, -, h7, -⟩ := Cond.code_spec B.named (atoms_spec (ws := ws) B.pre _ (by rw [hw]; exact List.mem_cons_self))
      cases Option.some.inj (h1.symm.trans B.method)
      cases Option.some.inj (h2.symm.trans (Stand.of_body B).code)
      intro x hx
      rw [Array.isEmpty_iff.mp h7] at hx
      cases hx
    obtain ⟨t, a1, o, b1, b2, b3⟩ := body p e s m args below meth c s₁ B hml ht hP s₁ hh0 (Stand.of_body B)
    exact ⟨t, o, a1, b1, b2, b3⟩
/-- the table of a body with handlers -/
theorem vx_table {p : Program} {x y : MethodName} {S : Spec} {cc bytes : ByteArray} {maxL maxL' : Nat} {ret ret' : Option FieldType} {e : Env} {s s₁ : State} {m : MethodId} {args : Array Value} {below : List Frame} {meth : Method} {c : Code} {hh : List (Nat × Nat × Nat × Nat)}
    (B : BodyLoose p l y S cc maxL ret e s m args below meth c s₁) (h : (Cond.codeWith y bytes maxL' ret' hh).before args s = true) : c.exceptionTable.toList = tableOf hh := by
  obtain ⟨m9, meth9, c9, hn9, h1, h2, -, -, h6, -⟩ := Cond.codeWith_spec h
  cases Option.some.inj (hn9.symm.trans B.named)
  cases Option.some.inj (h1.symm.trans B.method)
  cases Option.some.inj (h2.symm.trans (Stand.of_body B).code)
  rw [← h6, table_eq]
end Bodies
end VXA
/-! ===== END ===== -/
/-! ===== BEGIN a static call of a method with an exception table ===== -/
section VXS
variable {p : Program} {l : Launch} {e : Env} {R : Room} {s : State} {m : MethodId} {args : Array Value} {below : List Frame} {meth : Method} {c : Code} {T : State} {H : Heap} {locs : List Loc} {cells slots : Nat}
abbrev vx_CSW (R : Room) (s : State) (args : Array Value) (own : String) (index : Nat) (y : MethodName) (bytes : ByteArray) (maxL : Nat) (ret : Option FieldType) (hh : List (Nat × Nat × Nat × Nat)) (ws : List Cond) (rm : Room) (mc ms n : Nat) : Prop :=
  (rm.cells = mc ∧ rm.slots = ms ∧ rm.frames + 1 ≤ R.frames ∧ 8 + (maxL + 11) + rm.locals ≤ R.locals ∧ (∀ w ∈ ws, ∀ (a' : Array Value) (U : State), s.WarmedH U.vm → w.before a' U = true) ∧ Cond.codeWith y bytes maxL ret hh ∈ ws) ∧
  (Cond.codeWith y bytes maxL ret hh).before args s = true ∧ (Cond.initialized y.cls).before args s = true ∧ (y.cls ≠ "java/lang/invoke/MethodHandle" ∧ y.cls ≠ "java/lang/invoke/VarHandle") ∧
  (∀ sig, parseMethodDescriptor y.desc = some sig → n = sig.parameters.length) ∧ (Cond.methodLink own index y).before args s = true ∧ (Cond.static y).before args s = true
theorem vx_cwSW {own : String} {index maxL mc ms : Nat} {y : MethodName} {bytes : ByteArray} {ret : Option FieldType} {hh : List (Nat × Nat × Nat × Nat)} {Ts ws ws' : List Cond} {rm : Room} (n : Nat) (ht : ∀ w ∈ Ts, w.before args s = true) (hT : GoodIn Ts (va_wsS own index y ws)) (hw : ws = Cond.codeWith y bytes maxL ret hh :: ws') (hrc : rm.cells = mc) (hrs : rm.slots = ms)
    (hd : y.cls ≠ "java/lang/invoke/MethodHandle" ∧ y.cls ≠ "java/lang/invoke/VarHandle" ∧ (parseMethodDescriptor y.desc).map (fun d => d.parameters.length) = some n) (hR : rm.frames + 1 ≤ R.frames ∧ 8 + (maxL + 11) + rm.locals ≤ R.locals) :
    vx_CSW R s args own index y bytes maxL ret hh ws rm mc ms n := by
  have ok : ∀ w ∈ va_wsS own index y ws, w.before args s = true := fun w h => ht w (hT w h).1
  have hG : GoodIn Ts ws := fun w h => hT w (by unfold va_wsS; exact List.mem_append_right _ h)
  have hc : Cond.codeWith y bytes maxL ret hh ∈ ws := by rw [hw]; exact List.mem_cons_self
  refine ⟨⟨hrc, hrs, hR.1, hR.2, pay_in ht hG, hc⟩, ht _ (hG _ hc).1, ok _ (by simp [va_wsS]), ⟨hd.1, hd.2.1⟩, fun sig h => ?_, ok _ (by simp [va_wsS]), ok _ (by simp [va_wsS])⟩
  have h2 := hd.2.2
  rw [h] at h2
  exact (Option.some.inj h2).symm
theorem vx_callSW (X : Stand p l e R s m args below meth c T locs cells slots) (hexec : p.tables.exec = Jvm.exec) {own : String} {index : Nat} {y : MethodName} {bytes : ByteArray} {maxL : Nat} {ret : Option FieldType} {hh : List (Nat × Nat × Nat × Nat)}
    (hown : s.vm.findClass own = some m.cls) (hlink : (Cond.methodLink own index y).before args s = true) (hstat : (Cond.static y).before args s = true) (hinit : (Cond.initialized y.cls).before args s = true)
    (hcode : (Cond.codeWith y bytes maxL ret hh).before args s = true) (hy : y.cls ≠ "java/lang/invoke/MethodHandle" ∧ y.cls ≠ "java/lang/invoke/VarHandle")
    {W9 : Nat} {Pre : Pt → Array Value → Prop} {Post : Pt → Array Value → Option Value → Pt → Prop} (hK : Back l R p e below s args y 3 W9 Pre Post)
    {g : JFrame} (hg : g.method = m) (hsize : g.locals.size = c.maxLocals) {argsL rest : List Value} (hlen : ∀ sig, parseMethodDescriptor y.desc = some sig → argsL.length = sig.parameters.length)
    (hstack : g.stack = argsL.reverse ++ rest) (hW : 2 * g.monitorRoom + (rest.map fun v => v.category).sum ≤ W9) (hdg : decode c.code g.pc = .ok (.invokestatic index, 3))
    (hpre : ∀ vm₁, s.WarmedH vm₁ → Pre ⟨T.setVm vm₁, locs, cells, slots⟩ argsL.toArray) :
    ∃ (v : Option Value) (vm₁ : Vm) (B : Pt), s.WarmedH vm₁ ∧ Stand p l e R s m args below meth c B.U B.locs B.cells B.slots ∧ Post ⟨T.setVm vm₁, locs, cells, slots⟩ argsL.toArray v B ∧
      ∀ target, Steps p.tables e below (B.U.setTop { g with pc := g.pc + 3, stack := v.toList ++ rest }) target → Steps p.tables e below (T.setTop g) target := by
  obtain ⟨mk, methM, cM, hnamed, hmethM, -, -, -, -, -, -, hsigM⟩ := Cond.codeWith_spec hcode
  have hstatic : methM.isStatic = true := Cond.static_spec hnamed hmethM hstat
  obtain ⟨kP, hkP, -⟩ := className_of_methodNamed hnamed
  have hinitP : kP.init = .initialized := Cond.initialized_spec (findClass_of_methodNamed hnamed) hkP hinit
  obtain ⟨vm₁, X₁, hstep₁⟩ := X.invokestatic hexec hown hlink hnamed hmethM hstatic hkP hinitP hy (g := g) hg (argsL := argsL) (rest := rest) (hlen _ hsigM) hstack hdg
  obtain ⟨v, B, X', hpost, hsteps⟩ := hK m meth c ⟨T.setVm vm₁, locs, cells, slots⟩ { g with stack := rest } (.invokestatic index) mk argsL.toArray X₁ hg hsize hdg hW (X₁.named hnamed) (hpre vm₁ X₁.warmed)
  exact ⟨v, vm₁, B, X₁.warmed, X', hpost, fun target h => hstep₁ _ fun acts => by rw [doInvoke_state]; exact hsteps.trans h⟩
theorem vx_runSW {y : MethodName} {bytes cc : ByteArray} {maxL nL mc ms n index : Nat} {ret : Option FieldType} {hh : List (Nat × Nat × Nat × Nat)} {ws : List Cond} {rm : Room} {Pc : Array Value → State → Prop} {Qc : Array Value → State → Outcome → State → Prop} {free : Addr → Prop} {Ts : List Cond} {own : String} {As rest : List Value} {g : JFrame}
    (S : CallFix p m c cc nL s args Ts own) (hM : Met l y ws rm Pc Qc mc ms free) (cw : vx_CSW R s args own index y bytes maxL ret hh ws rm mc ms n) (hp : PreS s H Pc As)
    (hg : g.method = m) (hn : As.length = n) (hsize : g.locals.size = nL) (hstack : g.stack = As.reverse ++ rest) (hW : 2 * g.monitorRoom + (rest.map fun v => v.category).sum ≤ 8) (hdg : decode cc g.pc = .ok (.invokestatic index, 3)) (hf : cells + mc ≤ R.cells ∧ slots + ms ≤ R.slots) :
    va_Run p l e R s m args below meth c H locs cells slots mc ms g rest (Qc As.toArray) (free) := by
  obtain ⟨⟨hrc, hrs, hfr, hlo, hws, hcw⟩, hcode, hini, hy, hlen, hl, hstt⟩ := cw
  have hK : Back l R p e below s args y 3 8 (PreOf R mc ms Pc) (PostOf Qc mc ms free) := va_backW (hh := hh) (bytes := bytes) (maxL := maxL) (ret := ret) hM hp.1 hrc hrs hfr hlo hws hcw (fun a' U hW => word_at hW (Or.inl (by first | rfl | simp [Cond.onTables, Cond.keeps, Cond.steady])) hini)
  obtain ⟨hx, hb, hml, ho, -⟩ := S
  intro T hT X
  obtain ⟨v, vm₁, ⟨U', l2, c2, s2⟩, hW₁, X', ⟨g', mk, t, L, e1, e2, hq, h1, hL, h2, h3⟩, st⟩ := vx_callSW X hx (hh := hh) (bytes := bytes) (maxL := maxL) (ret := ret) ho hl hstt hini hcode hy hK hg (hsize.trans hml.symm) (argsL := As) (rest := rest) (fun sig h => hn.trans (hlen sig h)) hstack hW (by rw [hb]; exact hdg)
    (fun vm₁ hW₁ => ⟨hf.1, hf.2, hp.2 (T.setVm vm₁) hT hW₁⟩)
  dsimp only [Pt.U, Pt.locs, Pt.cells, Pt.slots] at X' e1 e2 h1 h2 h3 st
  subst h1; subst h2; subst h3
  exact ⟨v, (T.setVm vm₁).calling g' mk As.toArray, t, U', L, hT, X', hL, e1, e2, hq, st⟩
/-- not caught here, past rows that name other classes: it goes on to the caller -/
theorem vx_outP {p : Program} {l : Launch} {e : Env} {R : Room} {s : State} {m : MethodId} {args : Array Value} {below : List Frame} {meth : Method} {c : Code} {H : Heap} {locs : List Loc} {cells slots : Nat} {free : Addr → Prop} {ls : Array Slot} {rest : List Value} {Qc : Array Value → State → Outcome → State → Prop} {XC : String → State → State → Prop}
    {pc : Nat} {own E : String} {ce : Cell} {q : Addr} {mc ms : Nat} (hown : s.vm.findClass own = some m.cls) (hlocks : meth.locks = false)
    (hpass : ∀ z ∈ c.exceptionTable.toList, covers z pc = false ∨ (z.catchType ≠ 0 ∧ ∃ nm : String, (Cond.classLink own z.catchType nm).before args s = true ∧ va_Nc E nm s)) (hcell : H[q]? = some ce) (hv : ce.vm = .none) (hcl : s.vm.findClass E = some ce.cls)
    (hx : ∀ t : State, t.heap = H → s.vm.Alike t.vm → XC E s t) (hf : ∀ z ∈ locs, free z.base) (hc : cells ≤ mc) (hs : slots ≤ ms) :
    vx_W p l e R s m args below meth c H locs cells slots (vx_MQ below Qc XC args s mc ms free) (F0 m pc ls rest) q := by
  intro T hT X
  have hpl : e.platform.magicAccessors = ({} : Platform).magicAccessors := by rw [X.admits.platform]
  obtain ⟨vm', hW', X', st⟩ := X.outThrough hlocks q (g := F0 m pc ls rest) rfl rfl rfl (cell := ce) (by rw [hT]; exact hcell) (by rw [hv]; rfl)
    (by obtain ⟨k9, h9, -⟩ := Vm.findClass_spec hcl; exact ⟨k9, h9⟩) (fun z hz => by
      rcases hpass z hz with h | ⟨hz0, nm, hl1, hn1⟩
      · exact Or.inl h
      · obtain ⟨c6, hc6, hcl6⟩ := Cond.classLink_spec hown hl1 e.platform hpl
        obtain ⟨a8, b8, h1, h2, h3⟩ := hn1
        cases Option.some.inj (h1.symm.trans hcl)
        cases Option.some.inj (h2.symm.trans hc6)
        exact Or.inr ⟨hz0, _, hcl6, h3⟩)
  obtain ⟨g₀, hfr⟩ := X'.frames_eq
  have hcell9 : ((T.setVm vm').setFrames (.throwing q :: below)).heap[q]? = some ce := by
    show T.heap[q]? = some ce
    rw [hT]; exact hcell
  have hend : Ended ((T.setVm vm').setFrames (.throwing q :: below)) below (.threw q) := State.frames_setFrames _ (State.cur_lt_of_frames hfr)
  refine ⟨(T.setVm vm').setFrames (.throwing q :: below), ?_, .threw q, X'.here.running, hend, Or.inr ⟨q, rfl, E, ce, locs, hx _ hT (X'.ends _).1.alike, hcell9, hv, hcl, (X'.ends _).1, (X'.ends _).2.mono hc hs, hf⟩⟩
  rw [X.pushThrowing_eq]
  exact st
/-- a thing of a world lies in the heap -/
theorem vx_lt {D : va_G} {cl : List vw_C} {ws : va_W} {H1 : Heap} (h : va_P D cl ws H1) {k : Nat} {q : Nat × va_E} (hk : ws[k]? = some q) : q.1 < H1.size := (h k q hk).lt
end VXS
/-! ===== END ===== -/
/-! ===== BEGIN methods with a table of their own: called by a name, returning or throwing ===== -/
section VXH
/-! vx_backW, vx_callVX, vx_callSX, vx_callVW, vx_runVW, vx_runVX, vx_runSX, vx_ofWH follow the same proofs as their sisters above (Free/Laws.lean, Shelf42/LK1.lean); vx_outP calls Shelf42/NT130.lean (outThrough). -/
section
variable {l : Launch} {R : Room} {p : Program} {e : Env} {below : List Frame} {s : State} {sargs : Array Value} {y : MethodName} {len W9 : Nat}
theorem vx_backW {ws : List Cond} {rm : Room} {Pc : Array Value → State → Prop} {Qc : Array Value → State → Outcome → State → Prop} {XC : String → State → State → Prop} {mc ms : Nat} {free : Addr → Prop} {bytes : ByteArray} {maxL : Nat} {ret : Option FieldType} {hh : List (Nat × Nat × Nat × Nat)}
    (hM : vx_Met l y ws rm Pc Qc XC mc ms free) (hblind : FrameBlind Pc) (hrc : rm.cells = mc) (hrs : rm.slots = ms)
    (hframes : rm.frames + 1 ≤ R.frames) (hlocals : W9 + (maxL + 11) + rm.locals ≤ R.locals)
    (hws : ∀ w ∈ ws, ∀ a' U, s.WarmedH U.vm → w.before a' U = true) (hcode : Cond.codeWith y bytes maxL ret hh ∈ ws) (hinit : ∀ a' U, s.WarmedH U.vm → (Cond.initialized y.cls).before a' U = true) :
    vx_Back l R p e below s sargs y len W9 (PreOf R mc ms Pc) (PostOf Qc mc ms free) (vx_Post XC mc ms free) := by
  intro m meth c A g ig mk a X hg hsize hdg hW hn hp
  have h1 : (headSpec ws rm).pre.before a A.U = true := atoms_intro fun w hw => hws w hw _ _ X.warmed
  have h2 : (Cond.codeWith y bytes maxL ret hh).before a A.U = true := hws _ hcode _ _ X.warmed
  have h3 : (Cond.initialized y.cls).before a A.U = true := hinit _ _ X.warmed
  have h4 : A.cells + (headSpec ws rm).room.cells ≤ R.cells := by rw [show (headSpec ws rm).room.cells = mc from hrc]; exact hp.1
  have h5 : A.slots + (headSpec ws rm).room.slots ≤ R.slots := by rw [show (headSpec ws rm).room.slots = ms from hrs]; exact hp.2.1
  have hPc : Pc a (A.U.calling g mk a) := hblind _ _ _ _ hp.2.2
  obtain ⟨U, Ls, c0, s0⟩ := A
  dsimp only [Pt.U, Pt.locs, Pt.cells, Pt.slots] at h1 h2 h3 h4 h5 X hn hPc ⊢
  obtain ⟨m9, methY, cY, hn9, hmY, hcY, -, hlY, -⟩ := Cond.codeWith_spec h2
  cases Option.some.inj (hn9.symm.trans hn)
  obtain ⟨kY, hkY, -⟩ := className_of_methodNamed hn
  have hinitY : kY.init = .initialized := Cond.initialized_spec (findClass_of_methodNamed hn) hkY h3
  have h : At U g.method c below := by rw [hg]; exact X.here
  have hlocals9 : W9 + (maxL + 11) + (headSpec ws rm).room.locals ≤ R.locals := hlocals
  have happ : (headSpec ws rm).appliesLoose y e.platform (U.calling g mk a) = true :=
    Spec.appliesLoose_calling (g := g) h hdg hn hkY hinitY
      (X.room_calling (g := g) (R' := (headSpec ws rm).room) hsize hmY hcY hframes (by rw [hlY]; omega) h4 h5) h1
  obtain ⟨mid, hmid⟩ := h.above
  have hfr : (U.setTop g).frames = (.java g :: mid) ++ below := by rw [State.frames_setTop' g h.top, hmid]; rfl
  obtain ⟨o, s₂, hsteps, -, hend, hq⟩ := Steps.callFree hM p X.admits X.cas X.clock (acts := []) hfr happ hPc trivial
  have hq' : vx_Q Qc XC mc ms free a (U.calling g mk a) o s₂ := hq
  rw [State.frames_setTop' g h.top] at hend
  obtain ⟨g₀, hg0⟩ := Option.isSome_iff_exists.mp h.top
  obtain ⟨r, hr⟩ := State.topJava?_eq_some.mp hg0
  have hr' : (({ U with heap := s₂.heap, slotsUsed := s₂.slotsUsed } : State).setVm s₂.vm).frames = .java g₀ :: r := hr
  rcases hq' with ⟨hqc, L, hfe, hL⟩ | ⟨q, rfl, E, ce, L, hx, hce, hcv, hcl, hW₂, hsm, hL⟩
  · obtain ⟨⟨v, rfl⟩, hW₂, e2, q2, q3, q4, q5, q6⟩ := id hfe
    have e3 : s₂ = ({ (U.calling g mk a).setFrames s₂.frames with heap := s₂.heap, slotsUsed := s₂.slotsUsed } : State).setVm s₂.vm := by
      have : s₂ = ({ s₂ with vm := (U.calling g mk a).vm } : State).setVm s₂.vm := rfl
      rw [e2] at this
      exact this
    obtain ⟨c₂, i₂, len₂, hc₂, hd₂, hf₂⟩ := hend
    have hW' : U.WarmedH s₂.vm := hW₂
    have hcc : c₂ = c := by
      have h1 : s₂.code? g.method = U.code? g.method := by
        rw [State.code?_eq, State.code?_eq, hW'.alike.method?]
      exact Option.some.inj (hc₂.symm.trans (h1.trans h.code))
    subst hcc
    have hlen : len₂ = len := by rw [hdg] at hd₂; cases hd₂; rfl
    subst hlen
    have hs₂ : s₂ = (({ U with heap := s₂.heap, slotsUsed := s₂.slotsUsed } : State).setVm s₂.vm).setTop { g with pc := g.pc + len₂, stack := v.toList ++ g.stack } := by
      refine e3.trans ?_
      rw [hf₂, State.calling_eq h.top, State.setFrames_setFrames, State.setTop_of_frames _ hr', hr]
      rfl
    have hsame : U.sameButNew ({ U with heap := s₂.heap, slotsUsed := s₂.slotsUsed } : State) L mc ms := by
      refine ⟨?_, q2, q3, q4, q5, q6⟩
      obtain ⟨t, ht, -⟩ := State.frames_cons hr
      show ({ U with heap := s₂.heap, slotsUsed := s₂.slotsUsed } : State) = { U.setFrames U.frames with heap := s₂.heap, slotsUsed := s₂.slotsUsed }
      rw [State.setFrames_self ht]
    subst hg
    refine Or.inl ⟨v, ⟨(({ U with heap := s₂.heap, slotsUsed := s₂.slotsUsed } : State).setVm s₂.vm), Ls ++ L, c0 + mc, s0 + ms⟩,
      ⟨X.admits, X.cas, X.clock, X.frames, X.room, X.hears, X.method, X.code, (X.here.setHeapUsed s₂.heap s₂.slotsUsed).setVm hW'.alike, X.tail, State.WarmedH.trans X.warmed hW', X.limits, X.bytes, X.same.trans (hsame.setVm s.vm)⟩,
      ⟨g, mk, s₂, L, rfl, rfl, hqc, rfl, hL, rfl, rfl⟩, ?_⟩
    show Steps p.tables e below _ ((({ U with heap := s₂.heap, slotsUsed := s₂.slotsUsed } : State).setVm s₂.vm).setTop { g with pc := g.pc + len₂, stack := v.toList ++ g.stack })
    rw [← hs₂]
    exact hsteps
  · obtain ⟨e2, q2, q3, q4, q5, q6⟩ := id hsm
    have e3 : s₂ = ({ (U.calling g mk a).setFrames s₂.frames with heap := s₂.heap, slotsUsed := s₂.slotsUsed } : State).setVm s₂.vm := by
      have : s₂ = ({ s₂ with vm := (U.calling g mk a).vm } : State).setVm s₂.vm := rfl
      rw [e2] at this
      exact this
    have hf₂ : s₂.frames = .throwing q :: .java g :: U.frames.tail := hend
    have hW' : U.WarmedH s₂.vm := hW₂
    have hs₂ : s₂ = ((({ U with heap := s₂.heap, slotsUsed := s₂.slotsUsed } : State).setVm s₂.vm).setTop g).pushFrame (.throwing q) := by
      refine e3.trans ?_
      rw [hf₂, State.calling_eq h.top, State.setFrames_setFrames, State.pushFrame, State.frames_setTop _ hr', State.setTop_of_frames _ hr', State.setFrames_setFrames, hr]
      rfl
    have hsame : U.sameButNew ({ U with heap := s₂.heap, slotsUsed := s₂.slotsUsed } : State) L mc ms := by
      refine ⟨?_, q2, q3, q4, q5, q6⟩
      obtain ⟨t, ht, -⟩ := State.frames_cons hr
      show ({ U with heap := s₂.heap, slotsUsed := s₂.slotsUsed } : State) = { U.setFrames U.frames with heap := s₂.heap, slotsUsed := s₂.slotsUsed }
      rw [State.setFrames_self ht]
    subst hg
    refine Or.inr ⟨q, ⟨(({ U with heap := s₂.heap, slotsUsed := s₂.slotsUsed } : State).setVm s₂.vm), Ls ++ L, c0 + mc, s0 + ms⟩,
      ⟨X.admits, X.cas, X.clock, X.frames, X.room, X.hears, X.method, X.code, (X.here.setHeapUsed s₂.heap s₂.slotsUsed).setVm hW'.alike, X.tail, State.WarmedH.trans X.warmed hW', X.limits, X.bytes, X.same.trans (hsame.setVm s.vm)⟩,
      ⟨g, mk, s₂, L, E, ce, rfl, rfl, hx, hce, hcv, hcl, rfl, hL, rfl, rfl⟩, ?_⟩
    show Steps p.tables e below _ (((({ U with heap := s₂.heap, slotsUsed := s₂.slotsUsed } : State).setVm s₂.vm).setTop g).pushFrame (.throwing q))
    rw [← hs₂]
    exact hsteps
end
variable {p : Program} {l : Launch} {e : Env} {R : Room} {s : State} {m : MethodId} {args : Array Value} {below : List Frame} {meth : Method} {c : Code} {T : State} {H : Heap} {locs : List Loc} {cells slots : Nat}
theorem vx_callVX (X : Stand p l e R s m args below meth c T locs cells slots) (hexec : p.tables.exec = Jvm.exec) {own C : String} {index : Nat} {y : MethodName} {bytes : ByteArray} {maxL : Nat} {ret : Option FieldType} {hh : List (Nat × Nat × Nat × Nat)}
    (hown : s.vm.findClass own = some m.cls) (hlink : (Cond.methodLink own index y).before args s = true) (hinst : (Cond.instanceMethod y).before args s = true) (hsel : (Cond.selects C y y).before args s = true)
    (hcode : (Cond.codeWith y bytes maxL ret hh).before args s = true) (hy : y.cls ≠ "java/lang/invoke/MethodHandle" ∧ y.cls ≠ "java/lang/invoke/VarHandle")
    {W9 : Nat} {Pre : Pt → Array Value → Prop} {Post : Pt → Array Value → Option Value → Pt → Prop} {PostX : Pt → Array Value → Addr → Pt → Prop} (hK : vx_Back l R p e below s args y 3 W9 Pre Post PostX)
    {b : Addr} {cellB : Cell} (hcell : T.heap[b]? = some cellB) (hobj : cellB.vm.isStatics = false) (hcls : s.vm.findClass C = some cellB.cls)
    {g : JFrame} (hg : g.method = m) (hsize : g.locals.size = c.maxLocals) {argsL rest : List Value} (hlen : ∀ sig, parseMethodDescriptor y.desc = some sig → argsL.length = sig.parameters.length)
    (hstack : g.stack = argsL.reverse ++ .ref b :: rest) (hW : 2 * g.monitorRoom + (rest.map fun v => v.category).sum ≤ W9) (hdg : decode c.code g.pc = .ok (.invokevirtual index, 3))
    (hpre : ∀ vm₁, s.WarmedH vm₁ → Pre ⟨T.setVm vm₁, locs, cells, slots⟩ (Value.ref b :: argsL).toArray) :
    (∃ (v : Option Value) (vm₁ : Vm) (B : Pt), s.WarmedH vm₁ ∧ Stand p l e R s m args below meth c B.U B.locs B.cells B.slots ∧ Post ⟨T.setVm vm₁, locs, cells, slots⟩ (Value.ref b :: argsL).toArray v B ∧
      ∀ target, Steps p.tables e below (B.U.setTop { g with pc := g.pc + 3, stack := v.toList ++ rest }) target → Steps p.tables e below (T.setTop g) target) ∨
    (∃ (q : Addr) (vm₁ : Vm) (B : Pt), s.WarmedH vm₁ ∧ Stand p l e R s m args below meth c B.U B.locs B.cells B.slots ∧ PostX ⟨T.setVm vm₁, locs, cells, slots⟩ (Value.ref b :: argsL).toArray q B ∧
      Steps p.tables e below (T.setTop g) ((B.U.setTop { g with stack := rest }).pushFrame (.throwing q))) := by
  obtain ⟨mk, methM, hnamed, hmethM, hstM, habM⟩ := Cond.instanceMethod_spec hinst
  obtain ⟨m8, methM', cM, hn8, hmethM', -, -, -, -, -, -, hsigM⟩ := Cond.codeWith_spec hcode
  cases Option.some.inj (hn8.symm.trans hnamed)
  cases hmethM.symm.trans hmethM'
  obtain ⟨c2, r2, m2, q1, q2, q3, q4, kP, hkP, hkPi⟩ := Cond.selects_spec hsel
  cases hcls.symm.trans q1
  cases (State.methodFound?_of_named hnamed hy).symm.trans q2
  cases hnamed.symm.trans q3
  have hselP : selectMethod e.platform s.vm cellB.cls mk = .method mk := by rw [Launch.admits_selectMethod X.admits]; exact q4
  obtain ⟨vm₁, X₁, hstep₁⟩ := X.invokevirtual hexec hown hlink hnamed hmethM hstM hkP hkPi hy (a := b) (cell := cellB) hcell
    (fun z h => by rw [h] at hobj; cases hobj) hselP hmethM habM hkP hkPi (g := g) hg (argsL := argsL) (rest := rest) (hlen _ hsigM) hstack hdg
  rcases hK m meth c ⟨T.setVm vm₁, locs, cells, slots⟩ { g with stack := rest } (.invokevirtual index) mk (Value.ref b :: argsL).toArray X₁ hg hsize hdg hW (X₁.named hnamed) (hpre vm₁ X₁.warmed) with ⟨v, B, X', hpost, hsteps⟩ | ⟨q, B, X', hpost, hsteps⟩
  · exact Or.inl ⟨v, vm₁, B, X₁.warmed, X', hpost, fun target h => hstep₁ _ fun acts => by rw [doInvoke_state]; exact hsteps.trans h⟩
  · exact Or.inr ⟨q, vm₁, B, X₁.warmed, X', hpost, hstep₁ _ fun acts => by rw [doInvoke_state]; exact hsteps⟩
theorem vx_callSX (X : Stand p l e R s m args below meth c T locs cells slots) (hexec : p.tables.exec = Jvm.exec) {own : String} {index : Nat} {y : MethodName} {bytes : ByteArray} {maxL : Nat} {ret : Option FieldType} {hh : List (Nat × Nat × Nat × Nat)}
    (hown : s.vm.findClass own = some m.cls) (hlink : (Cond.methodLink own index y).before args s = true) (hstat : (Cond.static y).before args s = true) (hinit : (Cond.initialized y.cls).before args s = true)
    (hcode : (Cond.codeWith y bytes maxL ret hh).before args s = true) (hy : y.cls ≠ "java/lang/invoke/MethodHandle" ∧ y.cls ≠ "java/lang/invoke/VarHandle")
    {W9 : Nat} {Pre : Pt → Array Value → Prop} {Post : Pt → Array Value → Option Value → Pt → Prop} {PostX : Pt → Array Value → Addr → Pt → Prop} (hK : vx_Back l R p e below s args y 3 W9 Pre Post PostX)
    {g : JFrame} (hg : g.method = m) (hsize : g.locals.size = c.maxLocals) {argsL rest : List Value} (hlen : ∀ sig, parseMethodDescriptor y.desc = some sig → argsL.length = sig.parameters.length)
    (hstack : g.stack = argsL.reverse ++ rest) (hW : 2 * g.monitorRoom + (rest.map fun v => v.category).sum ≤ W9) (hdg : decode c.code g.pc = .ok (.invokestatic index, 3))
    (hpre : ∀ vm₁, s.WarmedH vm₁ → Pre ⟨T.setVm vm₁, locs, cells, slots⟩ argsL.toArray) :
    (∃ (v : Option Value) (vm₁ : Vm) (B : Pt), s.WarmedH vm₁ ∧ Stand p l e R s m args below meth c B.U B.locs B.cells B.slots ∧ Post ⟨T.setVm vm₁, locs, cells, slots⟩ argsL.toArray v B ∧
      ∀ target, Steps p.tables e below (B.U.setTop { g with pc := g.pc + 3, stack := v.toList ++ rest }) target → Steps p.tables e below (T.setTop g) target) ∨
    (∃ (q : Addr) (vm₁ : Vm) (B : Pt), s.WarmedH vm₁ ∧ Stand p l e R s m args below meth c B.U B.locs B.cells B.slots ∧ PostX ⟨T.setVm vm₁, locs, cells, slots⟩ argsL.toArray q B ∧
      Steps p.tables e below (T.setTop g) ((B.U.setTop { g with stack := rest }).pushFrame (.throwing q))) := by
  obtain ⟨mk, methM, cM, hnamed, hmethM, -, -, -, -, -, -, hsigM⟩ := Cond.codeWith_spec hcode
  have hstatic : methM.isStatic = true := Cond.static_spec hnamed hmethM hstat
  obtain ⟨kP, hkP, -⟩ := className_of_methodNamed hnamed
  have hinitP : kP.init = .initialized := Cond.initialized_spec (findClass_of_methodNamed hnamed) hkP hinit
  obtain ⟨vm₁, X₁, hstep₁⟩ := X.invokestatic hexec hown hlink hnamed hmethM hstatic hkP hinitP hy (g := g) hg (argsL := argsL) (rest := rest) (hlen _ hsigM) hstack hdg
  rcases hK m meth c ⟨T.setVm vm₁, locs, cells, slots⟩ { g with stack := rest } (.invokestatic index) mk argsL.toArray X₁ hg hsize hdg hW (X₁.named hnamed) (hpre vm₁ X₁.warmed) with ⟨v, B, X', hpost, hsteps⟩ | ⟨q, B, X', hpost, hsteps⟩
  · exact Or.inl ⟨v, vm₁, B, X₁.warmed, X', hpost, fun target h => hstep₁ _ fun acts => by rw [doInvoke_state]; exact hsteps.trans h⟩
  · exact Or.inr ⟨q, vm₁, B, X₁.warmed, X', hpost, hstep₁ _ fun acts => by rw [doInvoke_state]; exact hsteps⟩
theorem vx_callVW (X : Stand p l e R s m args below meth c T locs cells slots) (hexec : p.tables.exec = Jvm.exec) {own C : String} {index : Nat} {y : MethodName} {bytes : ByteArray} {maxL : Nat} {ret : Option FieldType} {hh : List (Nat × Nat × Nat × Nat)}
    (hown : s.vm.findClass own = some m.cls) (hlink : (Cond.methodLink own index y).before args s = true) (hinst : (Cond.instanceMethod y).before args s = true) (hsel : (Cond.selects C y y).before args s = true)
    (hcode : (Cond.codeWith y bytes maxL ret hh).before args s = true) (hy : y.cls ≠ "java/lang/invoke/MethodHandle" ∧ y.cls ≠ "java/lang/invoke/VarHandle")
    {W9 : Nat} {Pre : Pt → Array Value → Prop} {Post : Pt → Array Value → Option Value → Pt → Prop} (hK : Back l R p e below s args y 3 W9 Pre Post)
    {b : Addr} {cellB : Cell} (hcell : T.heap[b]? = some cellB) (hobj : cellB.vm.isStatics = false) (hcls : s.vm.findClass C = some cellB.cls)
    {g : JFrame} (hg : g.method = m) (hsize : g.locals.size = c.maxLocals) {argsL rest : List Value} (hlen : ∀ sig, parseMethodDescriptor y.desc = some sig → argsL.length = sig.parameters.length)
    (hstack : g.stack = argsL.reverse ++ .ref b :: rest) (hW : 2 * g.monitorRoom + (rest.map fun v => v.category).sum ≤ W9) (hdg : decode c.code g.pc = .ok (.invokevirtual index, 3))
    (hpre : ∀ vm₁, s.WarmedH vm₁ → Pre ⟨T.setVm vm₁, locs, cells, slots⟩ (Value.ref b :: argsL).toArray) :
    ∃ (v : Option Value) (vm₁ : Vm) (B : Pt), s.WarmedH vm₁ ∧ Stand p l e R s m args below meth c B.U B.locs B.cells B.slots ∧ Post ⟨T.setVm vm₁, locs, cells, slots⟩ (Value.ref b :: argsL).toArray v B ∧
      ∀ target, Steps p.tables e below (B.U.setTop { g with pc := g.pc + 3, stack := v.toList ++ rest }) target → Steps p.tables e below (T.setTop g) target := by
  obtain ⟨mk, methM, hnamed, hmethM, hstM, habM⟩ := Cond.instanceMethod_spec hinst
  obtain ⟨m8, methM', cM, hn8, hmethM', -, -, -, -, -, -, hsigM⟩ := Cond.codeWith_spec hcode
  cases Option.some.inj (hn8.symm.trans hnamed)
  cases hmethM.symm.trans hmethM'
  obtain ⟨c2, r2, m2, q1, q2, q3, q4, kP, hkP, hkPi⟩ := Cond.selects_spec hsel
  cases hcls.symm.trans q1
  cases (State.methodFound?_of_named hnamed hy).symm.trans q2
  cases hnamed.symm.trans q3
  have hselP : selectMethod e.platform s.vm cellB.cls mk = .method mk := by rw [Launch.admits_selectMethod X.admits]; exact q4
  obtain ⟨vm₁, X₁, hstep₁⟩ := X.invokevirtual hexec hown hlink hnamed hmethM hstM hkP hkPi hy (a := b) (cell := cellB) hcell
    (fun z h => by rw [h] at hobj; cases hobj) hselP hmethM habM hkP hkPi (g := g) hg (argsL := argsL) (rest := rest) (hlen _ hsigM) hstack hdg
  obtain ⟨v, B, X', hpost, hsteps⟩ := hK m meth c ⟨T.setVm vm₁, locs, cells, slots⟩ { g with stack := rest } (.invokevirtual index) mk (Value.ref b :: argsL).toArray X₁ hg hsize hdg hW (X₁.named hnamed) (hpre vm₁ X₁.warmed)
  exact ⟨v, vm₁, B, X₁.warmed, X', hpost, fun target h => hstep₁ _ fun acts => by rw [doInvoke_state]; exact hsteps.trans h⟩
abbrev vx_CVW (R : Room) (s : State) (args : Array Value) (own C : String) (index : Nat) (y : MethodName) (bytes : ByteArray) (maxL : Nat) (ret : Option FieldType) (hh : List (Nat × Nat × Nat × Nat)) (ws : List Cond) (rm : Room) (mc ms n : Nat) : Prop :=
  (rm.cells = mc ∧ rm.slots = ms ∧ rm.frames + 1 ≤ R.frames ∧ 8 + (maxL + 11) + rm.locals ≤ R.locals ∧ (∀ w ∈ ws, ∀ (a' : Array Value) (U : State), s.WarmedH U.vm → w.before a' U = true) ∧ Cond.codeWith y bytes maxL ret hh ∈ ws) ∧
  (Cond.codeWith y bytes maxL ret hh).before args s = true ∧ (Cond.initialized y.cls).before args s = true ∧ (y.cls ≠ "java/lang/invoke/MethodHandle" ∧ y.cls ≠ "java/lang/invoke/VarHandle") ∧
  (∀ sig, parseMethodDescriptor y.desc = some sig → n = sig.parameters.length) ∧ (Cond.methodLink own index y).before args s = true ∧ (Cond.instanceMethod y).before args s = true ∧ (Cond.selects C y y).before args s = true
theorem vx_cwVW {own C : String} {index maxL mc ms : Nat} {y : MethodName} {bytes : ByteArray} {ret : Option FieldType} {hh : List (Nat × Nat × Nat × Nat)} {Ts ws ws' : List Cond} {rm : Room} (n : Nat) (ht : ∀ w ∈ Ts, w.before args s = true) (hT : GoodIn Ts (wsV own index C y ws)) (hw : ws = Cond.codeWith y bytes maxL ret hh :: ws') (hrc : rm.cells = mc) (hrs : rm.slots = ms)
    (hd : y.cls = C ∧ y.cls ≠ "java/lang/invoke/MethodHandle" ∧ y.cls ≠ "java/lang/invoke/VarHandle" ∧ (parseMethodDescriptor y.desc).map (fun d => d.parameters.length) = some n) (hR : rm.frames + 1 ≤ R.frames ∧ 8 + (maxL + 11) + rm.locals ≤ R.locals) :
    vx_CVW R s args own C index y bytes maxL ret hh ws rm mc ms n := by
  obtain ⟨hC, hd⟩ := hd
  subst hC
  have ok : ∀ w ∈ wsV own index y.cls y ws, w.before args s = true := fun w h => ht w (hT w h).1
  have hG : GoodIn Ts ws := fun w h => hT w (by unfold wsV; exact List.mem_append_right _ h)
  have hc : Cond.codeWith y bytes maxL ret hh ∈ ws := by rw [hw]; exact List.mem_cons_self
  refine ⟨⟨hrc, hrs, hR.1, hR.2, pay_in ht hG, hc⟩, ht _ (hG _ hc).1, ok _ (by simp [wsV]), ⟨hd.1, hd.2.1⟩, fun sig h => ?_, ok _ (by simp [wsV]), ok _ (by simp [wsV]), ok _ (by simp [wsV])⟩
  have h2 := hd.2.2
  rw [h] at h2
  exact (Option.some.inj h2).symm
theorem vx_runVW {y : MethodName} {bytes cc : ByteArray} {maxL nL mc ms n index : Nat} {ret : Option FieldType} {hh : List (Nat × Nat × Nat × Nat)} {ws : List Cond} {rm : Room} {Pc : Array Value → State → Prop} {Qc : Array Value → State → Outcome → State → Prop} {free : Addr → Prop} {Ts : List Cond} {own C : String} {b : Addr} {As rest : List Value} {g : JFrame}
    (S : CallFix p m c cc nL s args Ts own) (hM : Met l y ws rm Pc Qc mc ms free) (cw : vx_CVW R s args own C index y bytes maxL ret hh ws rm mc ms n) (hp : PreV s H C b Pc As)
    (hg : g.method = m) (hn : As.length = n) (hsize : g.locals.size = nL) (hstack : g.stack = As.reverse ++ .ref b :: rest) (hW : 2 * g.monitorRoom + (rest.map fun v => v.category).sum ≤ 8) (hdg : decode cc g.pc = .ok (.invokevirtual index, 3)) (hf : cells + mc ≤ R.cells ∧ slots + ms ≤ R.slots) :
    va_Run p l e R s m args below meth c H locs cells slots mc ms g rest (Qc (Value.ref b :: As).toArray) free := by
  obtain ⟨⟨hrc, hrs, hfr, hlo, hws, hcw⟩, hcode, hini, hy, hlen, hl, hin, hse⟩ := cw
  have hK : Back l R p e below s args y 3 8 (PreOf R mc ms Pc) (PostOf Qc mc ms free) := va_backW (hh := hh) (bytes := bytes) (maxL := maxL) (ret := ret) hM hp.1 hrc hrs hfr hlo hws hcw (fun a' U hW => word_at hW (Or.inl (by first | rfl | simp [Cond.onTables, Cond.keeps, Cond.steady])) hini)
  obtain ⟨hx, hb, hml, ho, -⟩ := S
  obtain ⟨-, ⟨cellB, hcB, hoB, hclB⟩, hPc⟩ := hp
  intro T hT X
  obtain ⟨v, vm₁, ⟨U', l2, c2, s2⟩, hW₁, X', ⟨g', mk, t, L, e1, e2, hq, h1, hL, h2, h3⟩, st⟩ := vx_callVW X hx (C := C) (hh := hh) (bytes := bytes) (maxL := maxL) (ret := ret) ho hl hin hse hcode hy hK (by rw [hT]; exact hcB) hoB hclB hg (hsize.trans hml.symm) (argsL := As) (rest := rest) (fun sig h => hn.trans (hlen sig h)) hstack hW (by rw [hb]; exact hdg)
    (fun vm₁ hW₁ => ⟨hf.1, hf.2, hPc (T.setVm vm₁) hT hW₁⟩)
  dsimp only [Pt.U, Pt.locs, Pt.cells, Pt.slots] at X' e1 e2 h1 h2 h3 st
  subst h1; subst h2; subst h3
  exact ⟨v, (T.setVm vm₁).calling g' mk (Value.ref b :: As).toArray, t, U', L, hT, X', hL, e1, e2, hq, st⟩
section
variable {y : MethodName} {bytes cc : ByteArray} {maxL nL mc ms n index : Nat} {ret : Option FieldType} {ws : List Cond} {rm : Room} {Pc : Array Value → State → Prop} {Qc : Array Value → State → Outcome → State → Prop} {XC : String → State → State → Prop} {free : Addr → Prop} {Ts : List Cond} {own C : String} {b : Addr} {As rest : List Value} {g : JFrame}
theorem vx_runVX {hh : List (Nat × Nat × Nat × Nat)} (S : CallFix p m c cc nL s args Ts own) (hM : vx_Met l y ws rm Pc Qc XC mc ms free) (cw : vx_CVW R s args own C index y bytes maxL ret hh ws rm mc ms n) (hp : PreV s H C b Pc As)
    (hg : g.method = m) (hn : As.length = n) (hsize : g.locals.size = nL) (hstack : g.stack = As.reverse ++ .ref b :: rest) (hW : 2 * g.monitorRoom + (rest.map fun v => v.category).sum ≤ 8) (hdg : decode cc g.pc = .ok (.invokevirtual index, 3)) (hf : cells + mc ≤ R.cells ∧ slots + ms ≤ R.slots) :
    vx_Run p l e R s m args below meth c H locs cells slots mc ms g rest (Qc (Value.ref b :: As).toArray) XC free := by
  obtain ⟨⟨hrc, hrs, hfr, hlo, hws, hcw⟩, hcode, hini, hy, hlen, hl, hin, hse⟩ := cw
  have hK : vx_Back l R p e below s args y 3 8 (PreOf R mc ms Pc) (PostOf Qc mc ms free) (vx_Post XC mc ms free) := vx_backW (hh := hh) (bytes := bytes) (maxL := maxL) (ret := ret) hM hp.1 hrc hrs hfr hlo hws hcw (fun a' U hW => word_at hW (Or.inl (by first | rfl | simp [Cond.onTables, Cond.keeps, Cond.steady])) hini)
  obtain ⟨hx, hb, hml, ho, -⟩ := S
  obtain ⟨-, ⟨cellB, hcB, hoB, hclB⟩, hPc⟩ := hp
  intro T hT X
  rcases vx_callVX X hx (C := C) (hh := hh) (bytes := bytes) (maxL := maxL) (ret := ret) ho hl hin hse hcode hy hK (by rw [hT]; exact hcB) hoB hclB hg (hsize.trans hml.symm) (argsL := As) (rest := rest) (fun sig h => hn.trans (hlen sig h)) hstack hW (by rw [hb]; exact hdg)
    (fun vm₁ hW₁ => ⟨hf.1, hf.2, hPc (T.setVm vm₁) hT hW₁⟩) with ⟨v, vm₁, ⟨U', l2, c2, s2⟩, hW₁, X', ⟨g', mk, t, L, e1, e2, hq, h1, hL, h2, h3⟩, st⟩ | ⟨q, vm₁, ⟨U', l2, c2, s2⟩, hW₁, X', ⟨g', mk, t, L, E, ce, e1, e2, hq, hce, hcv, hcl, h1, hL, h2, h3⟩, st⟩
  · dsimp only [Pt.U, Pt.locs, Pt.cells, Pt.slots] at X' e1 e2 h1 h2 h3 st
    subst h1; subst h2; subst h3
    exact Or.inl ⟨v, (T.setVm vm₁).calling g' mk (Value.ref b :: As).toArray, t, U', L, hT, X', hL, e1, e2, hq, st⟩
  · dsimp only [Pt.U, Pt.locs, Pt.cells, Pt.slots] at X' e1 e2 h1 h2 h3 st hcl
    subst h1; subst h2; subst h3
    exact Or.inr ⟨q, (T.setVm vm₁).calling g' mk (Value.ref b :: As).toArray, t, U', L, E, ce, hT, X', hL, e1, e2, hq, hce, hcv, vx_cls hW₁ hcl, st⟩
theorem vx_runSX {hh : List (Nat × Nat × Nat × Nat)} (S : CallFix p m c cc nL s args Ts own) (hM : vx_Met l y ws rm Pc Qc XC mc ms free) (cw : vx_CSW R s args own index y bytes maxL ret hh ws rm mc ms n) (hp : PreS s H Pc As)
    (hg : g.method = m) (hn : As.length = n) (hsize : g.locals.size = nL) (hstack : g.stack = As.reverse ++ rest) (hW : 2 * g.monitorRoom + (rest.map fun v => v.category).sum ≤ 8) (hdg : decode cc g.pc = .ok (.invokestatic index, 3)) (hf : cells + mc ≤ R.cells ∧ slots + ms ≤ R.slots) :
    vx_Run p l e R s m args below meth c H locs cells slots mc ms g rest (Qc As.toArray) XC free := by
  obtain ⟨⟨hrc, hrs, hfr, hlo, hws, hcw⟩, hcode, hini, hy, hlen, hl, hstt⟩ := cw
  have hK : vx_Back l R p e below s args y 3 8 (PreOf R mc ms Pc) (PostOf Qc mc ms free) (vx_Post XC mc ms free) := vx_backW (hh := hh) (bytes := bytes) (maxL := maxL) (ret := ret) hM hp.1 hrc hrs hfr hlo hws hcw (fun a' U hW => word_at hW (Or.inl (by first | rfl | simp [Cond.onTables, Cond.keeps, Cond.steady])) hini)
  obtain ⟨hx, hb, hml, ho, -⟩ := S
  intro T hT X
  rcases vx_callSX X hx (hh := hh) (bytes := bytes) (maxL := maxL) (ret := ret) ho hl hstt hini hcode hy hK hg (hsize.trans hml.symm) (argsL := As) (rest := rest) (fun sig h => hn.trans (hlen sig h)) hstack hW (by rw [hb]; exact hdg)
    (fun vm₁ hW₁ => ⟨hf.1, hf.2, hp.2 (T.setVm vm₁) hT hW₁⟩) with ⟨v, vm₁, ⟨U', l2, c2, s2⟩, hW₁, X', ⟨g', mk, t, L, e1, e2, hq, h1, hL, h2, h3⟩, st⟩ | ⟨q, vm₁, ⟨U', l2, c2, s2⟩, hW₁, X', ⟨g', mk, t, L, E, ce, e1, e2, hq, hce, hcv, hcl, h1, hL, h2, h3⟩, st⟩
  · dsimp only [Pt.U, Pt.locs, Pt.cells, Pt.slots] at X' e1 e2 h1 h2 h3 st
    subst h1; subst h2; subst h3
    exact Or.inl ⟨v, (T.setVm vm₁).calling g' mk As.toArray, t, U', L, hT, X', hL, e1, e2, hq, st⟩
  · dsimp only [Pt.U, Pt.locs, Pt.cells, Pt.slots] at X' e1 e2 h1 h2 h3 st hcl
    subst h1; subst h2; subst h3
    exact Or.inr ⟨q, (T.setVm vm₁).calling g' mk As.toArray, t, U', L, E, ce, hT, X', hL, e1, e2, hq, hce, hcv, vx_cls hW₁ hcl, st⟩
end
end VXH
theorem vx_ofWH {l : Launch} {y : MethodName} {ws ws' : List Cond} {rm : Room} {Pc : Array Value → State → Prop} {Qc : Array Value → State → Outcome → State → Prop} {XC : String → State → State → Prop} {mc ms : Nat} {free : Addr → Prop} {cc : ByteArray} {maxL : Nat} {ret : Option FieldType} {hh : List (Nat × Nat × Nat × Nat)}
    (hy : plainName y.cls = true) (hw : ws = Cond.codeWith y cc maxL ret hh :: ws')
    (body : ∀ p e s m args below meth c s₁, BodyLoose p l y (headSpec ws rm) cc maxL ret e s m args below meth c s₁ → c.maxLocals = maxL → Pc args s →
      W p l e (headSpec ws rm).room s m args below meth c s.heap [] 0 0 (vx_MQ below Qc XC args s mc ms free) (entryFrame m args maxL)) : vx_Met l y ws rm Pc Qc XC mc ms free := by
  refine MetFree.of_bodyS (code := cc) (maxLocals := maxL) (ret := ret) hy ?_ ?_
  · intro args s m h hn
    obtain ⟨m9, meth, c, hn9, h1, h2, h3, h4, -, h5, h6, -⟩ := Cond.codeWith_spec (atoms_spec (ws := ws) h _ (by rw [hw]; exact List.mem_cons_self))
    cases hn.symm.trans hn9
    exact ⟨meth, c, h1, h2, h3, h4, h5, h6⟩
  · intro p e s m args below meth c s₁ B hml hP _
    have hh0 : s₁.heap = s.heap := by rw [B.state]; rfl
    obtain ⟨t, a1, o, b1, b2, b3⟩ := body p e s m args below meth c s₁ B hml hP s₁ hh0 (Stand.of_body B)
    exact ⟨t, o, a1, b1, b2, b3⟩
/-! ===== END ===== -/
end
section
/-! the tables' words that a method may rest on -/
def g_nest (w : Cond) : Bool := match w with
  | .fieldLinkNest _ _ _ _ _ _ => true
  | .methodLinkNest _ _ _ _ => true
  | .castable _ _ => true
  | .declares _ => true
  | _ => false
def g_GW : List Cond := lw_tbl.filter goodWord
def g_NW : List Cond := lw_tbl.filter g_nest
theorem g_mem {i : Nat} {w : Cond} (h : lw_tbl[i]? = some w) (hg : goodWord w = true) : w ∈ g_GW := List.mem_filter.mpr ⟨List.mem_of_getElem? h, hg⟩
theorem g_memN {i : Nat} {w : Cond} (h : lw_tbl[i]? = some w) (hg : g_nest w = true) : w ∈ g_NW := List.mem_filter.mpr ⟨List.mem_of_getElem? h, hg⟩
theorem g_goodIn {c : Cond} (h : c ∈ g_GW) : GoodIn g_GW (c :: g_GW) := by
  have hall : ∀ w ∈ g_GW, goodWord w = true := fun w hw => (List.mem_filter.mp hw).2
  intro w hw
  rcases List.mem_cons.mp hw with rfl | hw
  · exact ⟨h, good_of_word (hall _ h)⟩
  · exact ⟨hw, good_of_word (hall _ hw)⟩
def RX0 : String := "Quasigrove$Filling"
def TX0 : u_T := fun k => match k with
  | _ => ("", "", "", false)
def tyX0 : Nat → FieldType := fun k => match k with
  | _ => .int
theorem nmX0 : ∀ a, a < 0 → ∀ b, b < 0 → a ≠ b → (TX0 a).2.1 ≠ (TX0 b).2.1 := by decide +kernel
theorem tyX0_ok : ∀ k, k < 0 → parseFieldDescriptor (TX0 k).2.2.1 = some (tyX0 k) := by decide +kernel
abbrev cX0_firstForced : ByteArray := prog_2_method_7_code
def yX0_firstForced : MethodName := ⟨RX0, "firstForced", "(LQuasigrove$Grid;)I"⟩
abbrev cX0_fillForced : ByteArray := prog_2_method_8_code
def yX0_fillForced : MethodName := ⟨RX0, "fillForced", "(LQuasigrove$Grid;)I"⟩
abbrev cX0_isForced : ByteArray := prog_2_method_9_code
def yX0_isForced : MethodName := ⟨RX0, "isForced", "(LQuasigrove$Grid;III)Z"⟩
abbrev cX0_isAloneInRow : ByteArray := prog_2_method_10_code
def yX0_isAloneInRow : MethodName := ⟨RX0, "isAloneInRow", "(LQuasigrove$Grid;III)Z"⟩
abbrev cX0_isAloneInColumn : ByteArray := prog_2_method_11_code
def yX0_isAloneInColumn : MethodName := ⟨RX0, "isAloneInColumn", "(LQuasigrove$Grid;III)Z"⟩
def RX1 : String := "Quasigrove$Game"
def TX1 : u_T := fun k => match k with
  | _ => ("", "", "", false)
def tyX1 : Nat → FieldType := fun k => match k with
  | _ => .int
theorem nmX1 : ∀ a, a < 0 → ∀ b, b < 0 → a ≠ b → (TX1 a).2.1 ≠ (TX1 b).2.1 := by decide +kernel
theorem tyX1_ok : ∀ k, k < 0 → parseFieldDescriptor (TX1 k).2.2.1 = some (tyX1 k) := by decide +kernel
def RX2 : String := "Quasigrove$Grid"
def TX2 : u_T := fun k => match k with
  | 0 => ("Quasigrove$Grid", "signs", "[I", true)
  | 1 => ("Quasigrove$Grid", "rowSets", "[I", true)
  | 2 => ("Quasigrove$Grid", "columnSets", "[I", true)
  | 3 => ("Quasigrove$Grid", "order", "I", false)
  | _ => ("Quasigrove$Grid", "filled", "I", false)
def tyX2 : Nat → FieldType := fun k => match k with
  | 0 => .array .int
  | 1 => .array .int
  | 2 => .array .int
  | 3 => .int
  | _ => .int
theorem nmX2 : ∀ a, a < 5 → ∀ b, b < 5 → a ≠ b → (TX2 a).2.1 ≠ (TX2 b).2.1 := by decide +kernel
theorem tyX2_ok : ∀ k, k < 5 → parseFieldDescriptor (TX2 k).2.2.1 = some (tyX2 k) := by decide +kernel
abbrev cX2_init : ByteArray := prog_4_method_1_code
def yX2_init : MethodName := ⟨RX2, "<init>", "()V"⟩
abbrev cX2_clear : ByteArray := prog_4_method_2_code
def yX2_clear : MethodName := ⟨RX2, "clear", "(I)V"⟩
abbrev cX2_copy : ByteArray := prog_4_method_3_code
def yX2_copy : MethodName := ⟨RX2, "copy", "(LQuasigrove$Grid;)V"⟩
abbrev cX2_has : ByteArray := prog_4_method_4_code
def yX2_has : MethodName := ⟨RX2, "has", "(II)Z"⟩
abbrev cX2_isLine : ByteArray := prog_4_method_5_code
def yX2_isLine : MethodName := ⟨RX2, "isLine", "(I)Z"⟩
abbrev cX2_signAt : ByteArray := prog_4_method_6_code
def yX2_signAt : MethodName := ⟨RX2, "signAt", "(II)I"⟩
abbrev cX2_columnOf : ByteArray := prog_4_method_7_code
def yX2_columnOf : MethodName := ⟨RX2, "columnOf", "(II)I"⟩
abbrev cX2_allSigns : ByteArray := prog_4_method_8_code
def yX2_allSigns : MethodName := ⟨RX2, "allSigns", "()I"⟩
abbrev cX2_optionsAt : ByteArray := prog_4_method_9_code
def yX2_optionsAt : MethodName := ⟨RX2, "optionsAt", "(II)I"⟩
abbrev cX2_hasInLines : ByteArray := prog_4_method_10_code
def yX2_hasInLines : MethodName := ⟨RX2, "hasInLines", "(III)Z"⟩
abbrev cX2_set : ByteArray := prog_4_method_11_code
def yX2_set : MethodName := ⟨RX2, "set", "(III)V"⟩
abbrev cX2_isRowFull : ByteArray := prog_4_method_14_code
def yX2_isRowFull : MethodName := ⟨RX2, "isRowFull", "(I)Z"⟩
abbrev cX2_deadCells : ByteArray := prog_4_method_15_code
def yX2_deadCells : MethodName := ⟨RX2, "deadCells", "()I"⟩
abbrev cX2_turnRows : ByteArray := prog_4_method_16_code
def yX2_turnRows : MethodName := ⟨RX2, "turnRows", "(III)I"⟩
abbrev cX2_exchange : ByteArray := prog_4_method_17_code
def yX2_exchange : MethodName := ⟨RX2, "exchange", "(III)V"⟩
def RX3 : String := "Quasigrove$Laws"
def TX3 : u_T := fun k => match k with
  | _ => ("", "", "", false)
def tyX3 : Nat → FieldType := fun k => match k with
  | _ => .int
theorem nmX3 : ∀ a, a < 0 → ∀ b, b < 0 → a ≠ b → (TX3 a).2.1 ≠ (TX3 b).2.1 := by decide +kernel
theorem tyX3_ok : ∀ k, k < 0 → parseFieldDescriptor (TX3 k).2.2.1 = some (tyX3 k) := by decide +kernel
def RX4 : String := "Quasigrove$Maps"
def TX4 : u_T := fun k => match k with
  | 0 => ("Quasigrove$Maps", "images", "[I", true)
  | 1 => ("Quasigrove$Maps", "pairs", "[I", true)
  | _ => ("Quasigrove$Maps", "draft", "[I", true)
def tyX4 : Nat → FieldType := fun k => match k with
  | 0 => .array .int
  | 1 => .array .int
  | _ => .array .int
theorem nmX4 : ∀ a, a < 3 → ∀ b, b < 3 → a ≠ b → (TX4 a).2.1 ≠ (TX4 b).2.1 := by decide +kernel
theorem tyX4_ok : ∀ k, k < 3 → parseFieldDescriptor (TX4 k).2.2.1 = some (tyX4 k) := by decide +kernel
abbrev cX4_init : ByteArray := prog_6_method_1_code
def yX4_init : MethodName := ⟨RX4, "<init>", "()V"⟩
abbrev cX4_arrange : ByteArray := prog_6_method_2_code
def yX4_arrange : MethodName := ⟨RX4, "arrange", "(I)V"⟩
def RX5 : String := "Quasigrove$Mating"
def TX5 : u_T := fun k => match k with
  | 0 => ("Quasigrove$Mating", "maps", "LQuasigrove$Maps;", true)
  | 1 => ("Quasigrove$Mating", "transversals", "[I", true)
  | 2 => ("Quasigrove$Mating", "chosen", "[I", true)
  | 3 => ("Quasigrove$Mating", "draft", "LQuasigrove$Grid;", true)
  | 4 => ("Quasigrove$Mating", "lowest", "LQuasigrove$Grid;", true)
  | 5 => ("Quasigrove$Mating", "found", "I", false)
  | _ => ("Quasigrove$Mating", "laid", "I", false)
def tyX5 : Nat → FieldType := fun k => match k with
  | 0 => .object "Quasigrove$Maps"
  | 1 => .array .int
  | 2 => .array .int
  | 3 => .object "Quasigrove$Grid"
  | 4 => .object "Quasigrove$Grid"
  | 5 => .int
  | _ => .int
theorem nmX5 : ∀ a, a < 7 → ∀ b, b < 7 → a ≠ b → (TX5 a).2.1 ≠ (TX5 b).2.1 := by decide +kernel
theorem tyX5_ok : ∀ k, k < 7 → parseFieldDescriptor (TX5 k).2.2.1 = some (tyX5 k) := by decide +kernel
abbrev cX5_init : ByteArray := prog_7_method_1_code
def yX5_init : MethodName := ⟨RX5, "<init>", "(LQuasigrove$Maps;)V"⟩
def RX6 : String := "Quasigrove$Move"
def TX6 : u_T := fun k => match k with
  | _ => ("", "", "", false)
def tyX6 : Nat → FieldType := fun k => match k with
  | _ => .int
theorem nmX6 : ∀ a, a < 0 → ∀ b, b < 0 → a ≠ b → (TX6 a).2.1 ≠ (TX6 b).2.1 := by decide +kernel
theorem tyX6_ok : ∀ k, k < 0 → parseFieldDescriptor (TX6 k).2.2.1 = some (tyX6 k) := by decide +kernel
abbrev cX6_packed : ByteArray := prog_8_method_2_code
def yX6_packed : MethodName := ⟨RX6, "packed", "(III)I"⟩
abbrev cX6_row : ByteArray := prog_8_method_3_code
def yX6_row : MethodName := ⟨RX6, "row", "(I)I"⟩
abbrev cX6_column : ByteArray := prog_8_method_4_code
def yX6_column : MethodName := ⟨RX6, "column", "(I)I"⟩
abbrev cX6_sign : ByteArray := prog_8_method_5_code
def yX6_sign : MethodName := ⟨RX6, "sign", "(I)I"⟩
abbrev cX6_told : ByteArray := prog_8_method_6_code
def yX6_told : MethodName := ⟨RX6, "told", "(II)I"⟩
def RX7 : String := "Quasigrove$RowFilling"
def TX7 : u_T := fun k => match k with
  | 0 => ("Quasigrove$RowFilling", "maps", "LQuasigrove$Maps;", true)
  | _ => ("Quasigrove$RowFilling", "allowed", "[I", true)
def tyX7 : Nat → FieldType := fun k => match k with
  | 0 => .object "Quasigrove$Maps"
  | _ => .array .int
theorem nmX7 : ∀ a, a < 2 → ∀ b, b < 2 → a ≠ b → (TX7 a).2.1 ≠ (TX7 b).2.1 := by decide +kernel
theorem tyX7_ok : ∀ k, k < 2 → parseFieldDescriptor (TX7 k).2.2.1 = some (tyX7 k) := by decide +kernel
abbrev cX7_init : ByteArray := prog_9_method_1_code
def yX7_init : MethodName := ⟨RX7, "<init>", "(LQuasigrove$Maps;)V"⟩
def RX8 : String := "Quasigrove$Symmetry"
def TX8 : u_T := fun k => match k with
  | 0 => ("Quasigrove$Symmetry", "maps", "LQuasigrove$Maps;", true)
  | 1 => ("Quasigrove$Symmetry", "makers", "[I", true)
  | 2 => ("Quasigrove$Symmetry", "members", "[I", true)
  | 3 => ("Quasigrove$Symmetry", "isMember", "[Z", true)
  | 4 => ("Quasigrove$Symmetry", "signMap", "[I", true)
  | 5 => ("Quasigrove$Symmetry", "makerCount", "I", false)
  | _ => ("Quasigrove$Symmetry", "memberCount", "I", false)
def tyX8 : Nat → FieldType := fun k => match k with
  | 0 => .object "Quasigrove$Maps"
  | 1 => .array .int
  | 2 => .array .int
  | 3 => .array .boolean
  | 4 => .array .int
  | 5 => .int
  | _ => .int
theorem nmX8 : ∀ a, a < 7 → ∀ b, b < 7 → a ≠ b → (TX8 a).2.1 ≠ (TX8 b).2.1 := by decide +kernel
theorem tyX8_ok : ∀ k, k < 7 → parseFieldDescriptor (TX8 k).2.2.1 = some (tyX8 k) := by decide +kernel
abbrev cX8_init : ByteArray := prog_10_method_1_code
def yX8_init : MethodName := ⟨RX8, "<init>", "(LQuasigrove$Maps;)V"⟩
def RX9 : String := "Quasigrove$Tape"
def TX9 : u_T := fun k => match k with
  | 0 => ("Quasigrove$Tape", "characters", "[I", true)
  | 1 => ("Quasigrove$Tape", "wordsAt", "[I", true)
  | 2 => ("Quasigrove$Tape", "values", "[I", true)
  | _ => ("Quasigrove$Tape", "length", "I", false)
def tyX9 : Nat → FieldType := fun k => match k with
  | 0 => .array .int
  | 1 => .array .int
  | 2 => .array .int
  | _ => .int
theorem nmX9 : ∀ a, a < 4 → ∀ b, b < 4 → a ≠ b → (TX9 a).2.1 ≠ (TX9 b).2.1 := by decide +kernel
theorem tyX9_ok : ∀ k, k < 4 → parseFieldDescriptor (TX9 k).2.2.1 = some (tyX9 k) := by decide +kernel
abbrev cX9_init : ByteArray := prog_11_method_1_code
def yX9_init : MethodName := ⟨RX9, "<init>", "()V"⟩
def RX10 : String := "Quasigrove$Telling"
def TX10 : u_T := fun k => match k with
  | 0 => ("Quasigrove$Telling", "maps", "LQuasigrove$Maps;", true)
  | 1 => ("Quasigrove$Telling", "trades", "[I", true)
  | _ => ("Quasigrove$Telling", "kept", "I", false)
def tyX10 : Nat → FieldType := fun k => match k with
  | 0 => .object "Quasigrove$Maps"
  | 1 => .array .int
  | _ => .int
theorem nmX10 : ∀ a, a < 3 → ∀ b, b < 3 → a ≠ b → (TX10 a).2.1 ≠ (TX10 b).2.1 := by decide +kernel
theorem tyX10_ok : ∀ k, k < 3 → parseFieldDescriptor (TX10 k).2.2.1 = some (tyX10 k) := by decide +kernel
abbrev cX10_init : ByteArray := prog_12_method_1_code
def yX10_init : MethodName := ⟨RX10, "<init>", "(LQuasigrove$Maps;)V"⟩
def RX11 : String := "Quasigrove"
def TX11 : u_T := fun k => match k with
  | 0 => ("Quasigrove", "grids", "[LQuasigrove$Grid;", true)
  | 1 => ("Quasigrove", "work", "LQuasigrove$Grid;", true)
  | 2 => ("Quasigrove", "maps", "LQuasigrove$Maps;", true)
  | 3 => ("Quasigrove", "tape", "LQuasigrove$Tape;", true)
  | 4 => ("Quasigrove", "rowFilling", "LQuasigrove$RowFilling;", true)
  | 5 => ("Quasigrove", "telling", "LQuasigrove$Telling;", true)
  | 6 => ("Quasigrove", "symmetry", "LQuasigrove$Symmetry;", true)
  | 7 => ("Quasigrove", "mating", "LQuasigrove$Mating;", true)
  | _ => ("Quasigrove", "made", "I", false)
def tyX11 : Nat → FieldType := fun k => match k with
  | 0 => .array (.object "Quasigrove$Grid")
  | 1 => .object "Quasigrove$Grid"
  | 2 => .object "Quasigrove$Maps"
  | 3 => .object "Quasigrove$Tape"
  | 4 => .object "Quasigrove$RowFilling"
  | 5 => .object "Quasigrove$Telling"
  | 6 => .object "Quasigrove$Symmetry"
  | 7 => .object "Quasigrove$Mating"
  | _ => .int
theorem nmX11 : ∀ a, a < 9 → ∀ b, b < 9 → a ≠ b → (TX11 a).2.1 ≠ (TX11 b).2.1 := by decide +kernel
theorem tyX11_ok : ∀ k, k < 9 → parseFieldDescriptor (TX11 k).2.2.1 = some (tyX11 k) := by decide +kernel
abbrev cX11_init : ByteArray := prog_1_method_1_code
def yX11_init : MethodName := ⟨RX11, "<init>", "()V"⟩
abbrev cX11_grid : ByteArray := prog_1_method_2_code
def yX11_grid : MethodName := ⟨RX11, "grid", "(I)I"⟩
abbrev cX11_linear : ByteArray := prog_1_method_3_code
def yX11_linear : MethodName := ⟨RX11, "linear", "(IIII)I"⟩
abbrev cX11_put : ByteArray := prog_1_method_4_code
def yX11_put : MethodName := ⟨RX11, "put", "(IIII)I"⟩
abbrev cX11_conjugate : ByteArray := prog_1_method_6_code
def yX11_conjugate : MethodName := ⟨RX11, "conjugate", "(II)I"⟩
abbrev cX11_cell : ByteArray := prog_1_method_7_code
def yX11_cell : MethodName := ⟨RX11, "cell", "(III)I"⟩
abbrev cX11_of : ByteArray := prog_1_method_8_code
def yX11_of : MethodName := ⟨RX11, "of", "(II)I"⟩
abbrev cX11_distance : ByteArray := prog_1_method_9_code
def yX11_distance : MethodName := ⟨RX11, "distance", "(II)I"⟩
abbrev cX11_turn : ByteArray := prog_1_method_10_code
def yX11_turn : MethodName := ⟨RX11, "turn", "(IIII)I"⟩
abbrev cX11_can : ByteArray := prog_1_method_12_code
def yX11_can : MethodName := ⟨RX11, "can", "(III)I"⟩
abbrev cX11_forced : ByteArray := prog_1_method_16_code
def yX11_forced : MethodName := ⟨RX11, "forced", "(I)I"⟩
abbrev cX11_logic : ByteArray := prog_1_method_17_code
def yX11_logic : MethodName := ⟨RX11, "logic", "(I)I"⟩
abbrev cX11_gridAt : ByteArray := prog_1_method_34_code
def yX11_gridAt : MethodName := ⟨RX11, "gridAt", "(I)LQuasigrove$Grid;"⟩
abbrev cX11_newGrid : ByteArray := prog_1_method_35_code
def yX11_newGrid : MethodName := ⟨RX11, "newGrid", "(I)LQuasigrove$Grid;"⟩
abbrev cX11_needCell : ByteArray := prog_1_method_36_code
def yX11_needCell : MethodName := ⟨RX11, "needCell", "(LQuasigrove$Grid;II)V"⟩
abbrev cX11_needArgument : ByteArray := prog_1_method_37_code
def yX11_needArgument : MethodName := ⟨RX11, "needArgument", "(Z)V"⟩
abbrev cX11_needState : ByteArray := prog_1_method_38_code
def yX11_needState : MethodName := ⟨RX11, "needState", "(Z)V"⟩
abbrev cX11_isFrom : ByteArray := prog_1_method_39_code
def yX11_isFrom : MethodName := ⟨RX11, "isFrom", "(III)Z"⟩
abbrev cX11_isIn : ByteArray := prog_1_method_40_code
def yX11_isIn : MethodName := ⟨RX11, "isIn", "(II)Z"⟩
abbrev cX11_remainder : ByteArray := prog_1_method_41_code
def yX11_remainder : MethodName := ⟨RX11, "remainder", "(II)I"⟩
abbrev cX11_reachesAll : ByteArray := prog_1_method_42_code
def yX11_reachesAll : MethodName := ⟨RX11, "reachesAll", "(II)Z"⟩
abbrev cX11_setConjugate : ByteArray := prog_1_method_43_code
def yX11_setConjugate : MethodName := ⟨RX11, "setConjugate", "(LQuasigrove$Grid;IIII)V"⟩
def RX12 : String := "QuasigroveModel"
def TX12 : u_T := fun k => match k with
  | _ => ("", "", "", false)
def tyX12 : Nat → FieldType := fun k => match k with
  | _ => .int
theorem nmX12 : ∀ a, a < 0 → ∀ b, b < 0 → a ≠ b → (TX12 a).2.1 ≠ (TX12 b).2.1 := by decide +kernel
theorem tyX12_ok : ∀ k, k < 0 → parseFieldDescriptor (TX12 k).2.2.1 = some (tyX12 k) := by decide +kernel
def RJ9 : String := "java/lang/Math"
abbrev cJ9_max_7cf53 : ByteArray := prog_19_method_65_code
def yJ9_max_7cf53 : MethodName := ⟨RJ9, "max", "(II)I"⟩
abbrev cJ9_min_7cf53 : ByteArray := prog_19_method_69_code
def yJ9_min_7cf53 : MethodName := ⟨RJ9, "min", "(II)I"⟩
def RJ0 : String := "java/lang/String"
def RL : String := "QuasigroveLaw"
abbrev cL_up : ByteArray := method_2_code
def yL_up : MethodName := ⟨RL, "up", "(II)I"⟩
abbrev cL_cell : ByteArray := method_3_code
def yL_cell : MethodName := ⟨RL, "cell", "([II)I"⟩
abbrev cL_told : ByteArray := method_4_code
def yL_told : MethodName := ⟨RL, "told", "(LQuasigrove;IIIII)I"⟩
abbrev cL_act : ByteArray := method_5_code
def yL_act : MethodName := ⟨RL, "act", "(LQuasigrove;IIIII)I"⟩
abbrev cL_set : ByteArray := method_6_code
def yL_set : MethodName := ⟨RL, "set", "([III)I"⟩
abbrev cL_forced : ByteArray := method_7_code
def yL_forced : MethodName := ⟨RL, "forced", "([II)I"⟩
abbrev cL_law : ByteArray := code
def yL_law : MethodName := ⟨RL, "law", "([I)Z"⟩
abbrev vwCl : List vw_C := [(RX2, TX2, 5), (RX4, TX4, 3), (RX5, TX5, 7), (RX7, TX7, 2), (RX8, TX8, 7), (RX9, TX9, 4), (RX10, TX10, 3), (RX11, TX11, 9)]
end
section
/-! The G layer: abstract states (a table of shapes, numbers in them) over the kit's worlds. -/
abbrev St : Type := Nat → Nat → Int32
abbrev LV : Type := List (Option Value)
abbrev Shp : Type := (Nat × List (Option (Option Nat))) ⊕ ((Nat × Nat) ⊕ List (Option Nat))
abbrev Wd : Type := List Shp × (Nat → Nat)
def wr (σ : St) (k j : Nat) (v : Int32) : St := fun a => if a = k then upd (σ k) j v else σ a
def g_fv (ad : Nat → Nat) (f : Nat → Int32) (j : Nat) (o : Option (Option Nat)) : Value := match o with
  | none => .int (f j)
  | some none => .null
  | some (some t) => .ref (ad t)
def g_ent (cA : Nat → ClassId) (ad : Nat → Nat) (f : Nat → Int32) (x : Shp) : va_E := match x with
  | .inl (ci, fl) => .inr (ci, fl.mapIdx (fun j o => g_fv ad f j o))
  | .inr (.inl (kd, n)) => if kd = 2 then .inl (cA 2, n, .inr (.inl fun j => (f j).toInt64)) else .inl (cA kd, n, .inl f)
  | .inr (.inr ts) => .inl (cA 3, ts.length, .inr (.inr (.inr (.inr fun j => (ts.getD j none).map ad))))
def g_ws (cA : Nat → ClassId) (w : Wd) (σ : St) : va_W := w.1.mapIdx (fun k sh => (w.2 k, g_ent cA w.2 (σ k) sh))
theorem wr_same {σ : St} {k j : Nat} {v : Int32} : wr σ k j v k = upd (σ k) j v := by simp [wr]
theorem wr_ne {σ : St} {k j k' : Nat} {v : Int32} (h : k' ≠ k) : wr σ k j v k' = σ k' := by simp [wr, h]
theorem g_get {cA : Nat → ClassId} {w : Wd} {σ : St} {k : Nat} {sh : Shp} (h : w.1[k]? = some sh) : (g_ws cA w σ)[k]? = some (w.2 k, g_ent cA w.2 (σ k) sh) := by
  simp [g_ws, List.getElem?_mapIdx, h]
theorem g_getI {cA : Nat → ClassId} {w : Wd} {σ : St} {k n : Nat} (h : w.1[k]? = some (.inr (.inl (0, n)))) : (g_ws cA w σ)[k]? = some (w.2 k, .inl (cA 0, n, .inl (σ k))) := g_get h
theorem g_getZ {cA : Nat → ClassId} {w : Wd} {σ : St} {k n : Nat} (h : w.1[k]? = some (.inr (.inl (1, n)))) : (g_ws cA w σ)[k]? = some (w.2 k, .inl (cA 1, n, .inl (σ k))) := g_get h
theorem g_getJ {cA : Nat → ClassId} {w : Wd} {σ : St} {k n : Nat} (h : w.1[k]? = some (.inr (.inl (2, n)))) : (g_ws cA w σ)[k]? = some (w.2 k, .inl (cA 2, n, .inr (.inl fun j => (σ k j).toInt64))) := g_get h
theorem g_getQ {cA : Nat → ClassId} {w : Wd} {σ : St} {k : Nat} {ts : List (Option Nat)} (h : w.1[k]? = some (.inr (.inr ts))) : (g_ws cA w σ)[k]? = some (w.2 k, .inl (cA 3, ts.length, .inr (.inr (.inr (.inr fun j => (ts.getD j none).map w.2))))) := g_get h
theorem g_getO {cA : Nat → ClassId} {w : Wd} {σ : St} {k ci : Nat} {fl : List (Option (Option Nat))} (h : w.1[k]? = some (.inl (ci, fl))) : (g_ws cA w σ)[k]? = some (w.2 k, .inr (ci, fl.mapIdx (fun j o => g_fv w.2 (σ k) j o))) := g_get h
theorem g_setAt {cA : Nat → ClassId} {w : Wd} {σ : St} {k j : Nat} {v : Int32} {sh : Shp} {e : va_E} (h : w.1[k]? = some sh) (he : g_ent cA w.2 (upd (σ k) j v) sh = e) : (g_ws cA w σ).set k (w.2 k, e) = g_ws cA w (wr σ k j v) := by
  apply List.ext_getElem?
  intro i
  rw [List.getElem?_set]
  by_cases hi : k = i
  · subst hi
    have hlt : k < (g_ws cA w σ).length := by
      have := g_get (cA := cA) (σ := σ) h
      exact (List.getElem?_eq_some_iff.mp this).1
    rw [if_pos rfl, if_pos hlt, g_get h, wr_same, he]
  · rw [if_neg hi]
    have hw : wr σ k j v i = σ i := wr_ne (Ne.symm hi)
    simp [g_ws, List.getElem?_mapIdx, hw]
theorem g_setI {cA : Nat → ClassId} {w : Wd} {σ : St} {k n i : Nat} {v : Int32} (h : w.1[k]? = some (.inr (.inl (0, n)))) : (g_ws cA w σ).set k (w.2 k, .inl (cA 0, n, .inl (upd (σ k) i v))) = g_ws cA w (wr σ k i v) := g_setAt h rfl
theorem g_setZ {cA : Nat → ClassId} {w : Wd} {σ : St} {k n i : Nat} {v : Int32} (h : w.1[k]? = some (.inr (.inl (1, n)))) : (g_ws cA w σ).set k (w.2 k, .inl (cA 1, n, .inl (upd (σ k) i v))) = g_ws cA w (wr σ k i v) := g_setAt h rfl
theorem g_updL {f : Nat → Int32} {i : Nat} {v : Int32} : (vp_updL (fun j => (f j).toInt64) i v.toInt64) = fun j => (upd f i v j).toInt64 := by
  funext j
  by_cases h : j = i <;> simp [vp_updL, upd, h]
theorem g_setJ {cA : Nat → ClassId} {w : Wd} {σ : St} {k n i : Nat} {v : Int32} (h : w.1[k]? = some (.inr (.inl (2, n)))) : (g_ws cA w σ).set k (w.2 k, .inl (cA 2, n, .inr (.inl (vp_updL (fun j => (σ k j).toInt64) i v.toInt64)))) = g_ws cA w (wr σ k i v) := by
  rw [g_updL]
  exact g_setAt h rfl
theorem g_setO {cA : Nat → ClassId} {w : Wd} {σ : St} {k ci j : Nat} {fl : List (Option (Option Nat))} {v : Int32} (h : w.1[k]? = some (.inl (ci, fl))) (hf : fl[j]? = some none) : (g_ws cA w σ).set k (w.2 k, .inr (ci, (fl.mapIdx (fun j o => g_fv w.2 (σ k) j o)).set j (.int v))) = g_ws cA w (wr σ k j v) := by
  refine g_setAt h ?_
  show (Sum.inr (ci, _) : va_E) = Sum.inr (ci, _)
  congr 2
  apply List.ext_getElem?
  intro i
  rw [List.getElem?_set]
  by_cases hi : j = i
  · subst hi
    have hlt : j < fl.length := (List.getElem?_eq_some_iff.mp hf).1
    simp [List.getElem?_mapIdx, hf, hlt]
    simp [List.getElem?_eq_some_iff.mp hf |>.2, g_fv, upd]
  · simp only [List.getElem?_mapIdx, if_neg hi]
    cases fl[i]? with
    | none => rfl
    | some a => rcases a with _ | _ | a <;> simp [g_fv, upd, Ne.symm hi]

/-! locals: a list, by their places -/
def LH (ls : Array Slot) (nL : Nat) (L : LV) : Prop := ls.size = nL ∧ lv_wf ls ∧ ∀ (i : Nat) (v : Value), L[i]? = some (some v) → ls[i]? = some (.val v)
def g_pairs (L : LV) : List (Nat × Value) := (L.zipIdx).filterMap (fun q => q.1.map (fun v => (q.2, v)))
theorem g_pairs_mem {L : LV} {i : Nat} {v : Value} : (i, v) ∈ g_pairs L ↔ L[i]? = some (some v) := by
  simp only [g_pairs, List.mem_filterMap, Option.map_eq_some_iff]
  constructor
  · rintro ⟨⟨o, j⟩, h1, v', h2, h3⟩
    have h4 := List.mk_mem_zipIdx_iff_getElem?.mp h1
    cases h3
    simp only at h2
    rw [h4, h2]
  · intro h
    exact ⟨(some v, i), List.mk_mem_zipIdx_iff_getElem?.mpr h, v, rfl, rfl⟩
theorem LH.lv {ls : Array Slot} {nL : Nat} {L : LV} (h : LH ls nL L) : lv_has ls nL (g_pairs L) := ⟨h.1, h.2.1, fun q hq => h.2.2 q.1 q.2 (g_pairs_mem.mp hq)⟩
theorem LH.at {ls : Array Slot} {nL : Nat} {L : LV} (h : LH ls nL L) {i : Nat} {v : Value} (hi : L[i]? = some (some v)) : ls[i]? = some (.val v) := h.2.2 i v hi
/-- no long lies below a place -/
def okSt (L : LV) (i : Nat) : Bool := match i with
  | 0 => true
  | j + 1 => match L[j]? with
    | some (some (.long _)) => false
    | some (some (.double _)) => false
    | _ => true
theorem okSt_cat {L : LV} {j : Nat} {v : Value} (h : okSt L (j + 1) = true) (hj : L[j]? = some (some v)) : (v.category == 2) = false := by
  simp only [okSt, hj] at h
  cases v <;> first | rfl | simp at h
theorem LH.set1 {ls : Array Slot} {nL : Nat} {L : LV} {i : Nat} {x : Value} (ok : okSt L i = true) (h : lv_has ls nL ((i, x) :: (g_pairs L).filter (fun q => !(q.1 == i) && !(q.1 + 1 == i && q.2.category == 2)))) : LH ls nL (L.set i (some x)) := by
  refine ⟨h.1, h.2.1, fun j v hj => ?_⟩
  rw [List.getElem?_set] at hj
  by_cases hij : i = j
  · subst hij
    rw [if_pos rfl] at hj
    split at hj
    · cases hj
      exact h.2.2 (i, x) List.mem_cons_self
    · cases hj
  · rw [if_neg hij] at hj
    refine h.2.2 (j, v) (List.mem_cons_of_mem _ (List.mem_filter.mpr ⟨g_pairs_mem.mpr hj, ?_⟩))
    have h1 : (j == i) = false := by simp [Ne.symm hij]
    simp only [h1, Bool.not_false, Bool.true_and]
    by_cases hji : j + 1 = i
    · subst hji
      rw [okSt_cat ok hj]; simp
    · simp [hji]
theorem LH.set2 {ls : Array Slot} {nL : Nat} {L : LV} {i : Nat} {x : Value} (ok : okSt L i = true) (h : lv_has ls nL ((i, x) :: (g_pairs L).filter (fun q => !(q.1 == i) && (!(q.1 == i + 1) && !(q.1 + 1 == i && q.2.category == 2))))) : LH ls nL ((L.set i (some x)).set (i + 1) none) := by
  refine ⟨h.1, h.2.1, fun j v hj => ?_⟩
  rw [List.getElem?_set] at hj
  by_cases hij1 : i + 1 = j
  · subst hij1
    rw [if_pos rfl] at hj
    split at hj <;> cases hj
  · rw [if_neg hij1, List.getElem?_set] at hj
    by_cases hij : i = j
    · subst hij
      rw [if_pos rfl] at hj
      split at hj
      · cases hj
        exact h.2.2 (i, x) List.mem_cons_self
      · cases hj
    · rw [if_neg hij] at hj
      refine h.2.2 (j, v) (List.mem_cons_of_mem _ (List.mem_filter.mpr ⟨g_pairs_mem.mpr hj, ?_⟩))
      have h1 : (j == i) = false := by simp [Ne.symm hij]
      have h2 : (j == i + 1) = false := by simp [Ne.symm hij1]
      simp only [h1, h2, Bool.not_false, Bool.true_and]
      by_cases hji : j + 1 = i
      · subst hji
        rw [okSt_cat ok hj]; simp
      · simp [hji]
/-- L' tells no more than L -/
def lsub (L' L : LV) : Prop := match L', L with
  | [], _ => True
  | none :: a, [] => lsub a []
  | none :: a, _ :: b => lsub a b
  | some _ :: _, [] => False
  | some v :: a, x :: b => x = some v ∧ lsub a b
theorem lsub.get : ∀ {L' L : LV} (_ : lsub L' L) {i : Nat} {v : Value} (_ : L'[i]? = some (some v)), L[i]? = some (some v)
  | [], _, _, i, v, h => by simp at h
  | none :: a, [], hs, i, v, h => by
    cases i with
    | zero => simp at h
    | succ i => exact absurd (lsub.get (L' := a) (L := []) hs (i := i) (v := v) (by simpa using h)) (by simp)
  | none :: a, _ :: b, hs, i, v, h => by
    cases i with
    | zero => simp at h
    | succ i => simpa using lsub.get (L' := a) (L := b) hs (i := i) (v := v) (by simpa using h)
  | some w :: a, [], hs, i, v, h => hs.elim
  | some w :: a, x :: b, hs, i, v, h => by
    obtain ⟨h1, h2⟩ := hs
    cases i with
    | zero => subst h1; simpa using h
    | succ i => simpa using lsub.get (L' := a) (L := b) h2 (i := i) (v := v) (by simpa using h)
theorem LH.sub {ls : Array Slot} {nL : Nat} {L L' : LV} (h : LH ls nL L) (hs : lsub L' L) : LH ls nL L' := ⟨h.1, h.2.1, fun _ _ hi => h.2.2 _ _ (hs.get hi)⟩
theorem LH.entry (vs : List Value) {n : Nat} {L : LV} (h : (lg_sl vs).length ≤ n) (hL : g_pairs L = lv_args 0 vs) : LH ((lg_sl vs ++ List.replicate (n - (lg_sl vs).length) Slot.unset).toArray) n L := by
  have h1 := lv_entry vs h
  refine ⟨h1.1, h1.2.1, fun i v hi => ?_⟩
  exact h1.2.2 (i, v) (by rw [← hL]; exact g_pairs_mem.mpr hi)

/-! the machine's part of a method's walk -/
abbrev Th : Type := Program × Launch × Env × Room × State × MethodId × Array Value × List Frame × Method × Code × (Nat → Prop) × va_G × (Nat → ClassId) × (State → Prop)
def g_tys (cA : Nat → ClassId) : List (ClassId × FieldType) := [(cA 0, .int), (cA 1, .boolean), (cA 2, .int), (cA 3, .object "Quasigrove$Grid")]
def g_strs : List (String × Nat × String) := [("Quasigrove", 256, "there is no such grid"), ("Quasigrove", 263, "there are 12 grids"), ("Quasigrove", 272, "there is no such row or column"), ("Quasigrove", 276, "an argument does not fit"), ("Quasigrove", 279, "the grove does not allow it")]
def Zx (A : Nat → Prop) (U : State) (H : Heap) : Prop :=
  vx_Zq Bundle.tN "UNASSIGNED_STACK" Bundle.steD A U H ∧ vx_Zq Bundle.tN "SUPPRESSED_SENTINEL" Bundle.listD A U H
def g_SR (q : String × Nat × String) (U : State) : Prop := ∃ sa : Nat, vk_R q.1 q.2.1 q.2.2 sa U
def Kx (D : va_G) (cA : Nat → ClassId) (strs : List (String × Nat × String)) (A : Nat → Prop) (U : State) (H : Heap) : Prop :=
  va_K D vwCl (g_tys cA) U ∧ (∀ w ∈ g_NW, va_Nw w U) ∧ Zx A U H ∧ ∀ q ∈ strs, g_SR q U
theorem Zx.to {A : Nat → Prop} {s U : State} {H H1 : Heap} (hvm : s.vm.Alike U.vm) (h : Zx A s H) (hq : ∀ a : Nat, a < H.size → ¬ A a → H1[a]? = H[a]?) : Zx A U H1 := ⟨vx_Zq.moved hvm (h.1.kept hq), vx_Zq.moved hvm (h.2.kept hq)⟩
theorem g_nw_cases {w : Cond} (h : w ∈ g_NW) : (∃ a i b n d h', w = .fieldLinkNest a i b n d h') ∨ (∃ a i x h', w = .methodLinkNest a i x h') ∨ (∃ a b, w = .castable a b) ∨ ∃ x, w = .declares x := by
  have h1 := (List.mem_filter.mp h).2
  cases w <;> simp [g_nest] at h1 ⊢
theorem Kx.warm {D : va_G} {cA : Nat → ClassId} {strs : List (String × Nat × String)} {A : Nat → Prop} {s U : State} {H H1 : Heap} (hW : s.WarmedH U.vm) (h : Kx D cA strs A s H) (hq : ∀ a : Nat, a < H.size → ¬ A a → H1[a]? = H[a]?) : Kx D cA strs A U H1 := by
  obtain ⟨h1, h2, h3, h4⟩ := h
  refine ⟨va_K.moved hW.alike h1, fun w hw => ?_, h3.to hW.alike hq, fun q hq => ?_⟩
  · rcases g_nw_cases hw with ⟨a, i, b, n, d, h', rfl⟩ | ⟨a, i, x, h', rfl⟩ | ⟨a, b, rfl⟩ | ⟨x, rfl⟩
    · exact va_Nw.warmF hW (h2 _ hw)
    · exact va_Nw.warmM hW (h2 _ hw)
    · exact va_Nw.warmC hW (h2 _ hw)
    · exact va_Nw.warmD hW (h2 _ hw)
  · obtain ⟨sa, hs⟩ := h4 q hq
    exact ⟨sa, vk_R.warm hW hs⟩
theorem Kx.same {D : va_G} {cA : Nat → ClassId} {strs : List (String × Nat × String)} {A : Nat → Prop} {s U : State} {H : Heap} (hv : s.vm = U.vm) (h : Kx D cA strs A s H) : Kx D cA strs A U H := by
  obtain ⟨h1, h2, h3, h4⟩ := h
  have ha : s.vm.Alike U.vm := by rw [hv]; exact Vm.Alike.refl _
  refine ⟨va_K.moved ha h1, fun w hw => ?_, h3.to ha (fun _ _ _ => rfl), fun q hq => ?_⟩
  · rcases g_nw_cases hw with ⟨a, i, b, n, d, h', rfl⟩ | ⟨a, i, x, h', rfl⟩ | ⟨a, b, rfl⟩ | ⟨x, rfl⟩ <;> exact va_Nw.same rfl hv (h2 _ hw)
  · obtain ⟨sa, hs⟩ := h4 q hq
    exact ⟨sa, vk_R.same hv.symm hs⟩
/-- the goal at an abstract state -/
def G (θ : Th) (cs : Nat × Nat) (w : Wd) (σ : St) (pc : Nat) (L : LV) (S : List Value) : Prop := match θ with
  | (p, l, e, R, s, m, args, below, meth, c, A, D, cA, Q) => ∀ (H : Heap) (locs : List Loc) (ls : Array Slot), LH ls c.maxLocals L → va_P D vwCl (g_ws cA w σ) H → va_D A (g_ws cA w σ) → va_S A s.heap H locs →
    W p l e R s m args below meth c H locs cs.1 cs.2 Q (F0 m pc ls S)
/-- what holds all along a method's walk -/
def Cx (θ : Th) (strs : List (String × Nat × String)) (cc : ByteArray) (nL : Nat) (own : String) (fr lo : Nat) : Prop := match θ with
  | (p, l, e, R, s, m, args, below, meth, c, A, D, cA, Q) => p.tables.exec = Jvm.exec ∧ c.code = cc ∧ c.maxLocals = nL ∧ s.vm.findClass own = some m.cls ∧ (∀ w ∈ g_GW, w.before args s = true) ∧ meth.locks = false ∧ (∀ q, s.heap.size ≤ q → A q) ∧ Kx D cA strs A s s.heap ∧ fr ≤ R.frames ∧ lo ≤ R.locals
def g_B (D : va_G) (cA : Nat → ClassId) (strs : List (String × Nat × String)) (A : Nat → Prop) (w : Wd) (σ : St) (sz : Nat) (U : State) : Prop :=
  U.heap.size = sz ∧ va_P D vwCl (g_ws cA w σ) U.heap ∧ va_D A (g_ws cA w σ) ∧ Kx D cA strs A U U.heap
def g_Qc (D : va_G) (cA : Nat → ClassId) (A : Nat → Prop) (w : Wd) (v : Option Value) (σ : St) : Array Value → State → Outcome → State → Prop := fun _ st oc t =>
  oc = .returned v ∧ va_P D vwCl (g_ws cA w σ) t.heap ∧ va_F A st t
/-- method y, from σ on the arguments av: returns v, and leaves σ' -/
def Rt (l : Launch) (strs : List (String × Nat × String)) (y : MethodName) (cc : ByteArray) (maxL : Nat) (ret : Option FieldType) (fr lo : Nat) (w : Wd) (av : List Value) (σ : St) (v : Option Value) (σ' : St) : Prop :=
  ∀ (A : Nat → Prop) (D : va_G) (cA : Nat → ClassId) (sz : Nat), (∀ q, sz ≤ q → A q) →
    Met l y (Cond.code y cc maxL ret :: g_GW) { frames := fr, cells := 0, slots := 0, locals := lo } (va_Pc av (g_B D cA strs A w σ sz)) (g_Qc D cA A w v σ') 0 0 A
/-- the end that a returning walk owes -/
def Rq (θ : Th) (w : Wd) (ret : Option FieldType) (v : Option Value) (σ : St) : Prop := match θ with
  | (p, l, e, R, s, m, args, below, meth, c, A, D, cA, Q) => meth.sig.returnType = ret ∧ Q = MQ below (g_Qc D cA A w v σ) args s 0 0 A
theorem g_blind {D : va_G} {cA : Nat → ClassId} {strs : List (String × Nat × String)} {A : Nat → Prop} {w : Wd} {σ : St} {sz : Nat} {av : List Value} : FrameBlind (va_Pc av (g_B D cA strs A w σ sz)) := by
  intro a U g mk h
  obtain ⟨h0, h1, h2, h3, h4⟩ := h
  exact ⟨h0, h1, h2, h3, Kx.same (s := U) (U := U.calling g mk a) rfl h4⟩
theorem g_D {A : Nat → Prop} {cA : Nat → ClassId} {w : Wd} {σ σ' : St} (h : va_D A (g_ws cA w σ)) : va_D A (g_ws cA w σ') := by
  have key : ∀ (i : Nat) (p : Nat × va_E), (g_ws cA w σ')[i]? = some p → ∃ p', (g_ws cA w σ)[i]? = some p' ∧ p'.1 = p.1 := by
    intro i p hp
    simp only [g_ws, List.getElem?_mapIdx, Option.map_eq_some_iff] at hp ⊢
    obtain ⟨sh, h1, h2⟩ := hp
    exact ⟨_, ⟨sh, h1, rfl⟩, by rw [← h2]⟩
  refine ⟨fun i j p q hp hq hpq => ?_, fun k q hq => ?_⟩
  · obtain ⟨p', hp', ep⟩ := key i p hp
    obtain ⟨q', hq', eq⟩ := key j q hq
    exact h.1 i j p' q' hp' hq' (by rw [ep, eq, hpq])
  · obtain ⟨q', hq', eq⟩ := key k q hq
    rw [← eq]
    exact h.2 k q' hq'
theorem Rt.intro {l : Launch} {strs : List (String × Nat × String)} {y : MethodName} {cc : ByteArray} {maxL : Nat} {ret : Option FieldType} {fr lo : Nat} {w : Wd} {av : List Value} {σ : St} {v : Option Value} {σ' : St} {L : LV}
    (hy : plainName y.cls = true) (hn : (lg_sl av).length ≤ maxL) (hL : g_pairs L = lv_args 0 av)
    (body : ∀ θ : Th, θ.2.1 = l → Cx θ strs cc maxL y.cls fr lo → Rq θ w ret v σ' → G θ (0, 0) w σ 0 L []) : Rt l strs y cc maxL ret fr lo w av σ v σ' := by
  intro A D cA sz hA
  refine Met.ofW (cc := cc) (maxL := maxL) (ret := ret) hy rfl ?_
  intro p e s m args below meth c s₁ B hml hv
  obtain ⟨rfl, hsz, hP, hD, hK⟩ := hv
  have hts := atoms_spec (ws := Cond.code y cc maxL ret :: g_GW) B.pre
  have hown : s.vm.findClass y.cls = some m.cls := findClass_of_methodNamed B.named
  subst hsz
  have hb := body (p, l, e, (headSpec (Cond.code y cc maxL ret :: g_GW) { frames := fr, cells := 0, slots := 0, locals := lo }).room, s, m, av.toArray, below, meth, c, A, D, cA, MQ below (g_Qc D cA A w v σ') av.toArray s 0 0 A) rfl
    ⟨B.exec, B.bytes, hml, hown, fun w hw => hts w (List.mem_cons_of_mem _ hw), B.notSynchronized, hA, hK, Nat.le_refl _, Nat.le_refl _⟩ ⟨B.returns, rfl⟩
  rw [lg_entry_eq]
  exact hb s.heap [] _ (by rw [hml]; exact LH.entry av hn hL) hP hD va_S.rf
end
section
section GR
variable {θ : Th} {cs : Nat × Nat} {w : Wd} {σ : St} {pc : Nat} {L : LV} {S : List Value} {strs : List (String × Nat × String)} {cc : ByteArray} {nL : Nat} {own : String} {fr lo : Nat}
theorem G_weak {L' : LV} (hs : lsub L' L) (k : G θ cs w σ pc L' S) : G θ cs w σ pc L S := by
  obtain ⟨p, l, e, R, s, m, args, below, meth, c, A, D, cA, Q⟩ := θ
  intro H locs ls hl hP hD hS
  exact k H locs ls (hl.sub hs) hP hD hS
/-! function words -/
def lt1 {α β : Type} (e : α) (f : α → β) : β := f e
def jn {α β : Type} (k : α) (f : α → β) : β := f k
def inb (i : Int32) (n : Nat) : Bool := decide (0 ≤ i) && decide (i.toNatClampNeg < n)
def ix (i : Int32) : Nat := i.toNatClampNeg
def ald {β : Type} (σ : St) (k n : Nat) (i : Int32) (f : Int32 → Option β) : Option β := if inb i n = true then f (σ k (ix i)) else none
def ast {β : Type} (σ : St) (k n : Nat) (i v : Int32) (f : St → Option β) : Option β := if inb i n = true then f (wr σ k (ix i) v) else none
def asz {β : Type} (σ : St) (k n : Nat) (i v : Int32) (f : St → Option β) : Option β := if inb i n = true then f (wr σ k (ix i) (vp_nar .boolean v)) else none
def sto {β : Type} (σ : St) (k j : Nat) (v : Int32) (f : St → β) : β := f (wr σ k j v)
def dvi {β : Type} (x y : Int32) (f : Int32 → Option β) : Option β := if y = 0 then none else f (x / y)
def rmi {β : Type} (x y : Int32) (f : Int32 → Option β) : Option β := if y = 0 then none else f (x - x / y * y)
def dvl {β : Type} (x y : Int64) (f : Int64 → Option β) : Option β := if y = 0 then none else f (x / y)
def rml {β : Type} (x y : Int64) (f : Int64 → Option β) : Option β := if y = 0 then none else f (x - x / y * y)
def cal {α β : Type} (o : Option (α × St)) (f : α → St → Option β) : Option β := match o with
  | none => none
  | some (v, σ) => f v σ
def cap {α β : Type} (o : Option α) (f : α → Option β) : Option β := match o with
  | none => none
  | some v => f v
def zb (v : Int32) : Int32 := vp_nar .boolean v
theorem inb_vp {i : Int32} {n : Nat} (h : inb i n = true) : vp_in i n := by
  simp only [inb, Bool.and_eq_true, decide_eq_true_eq] at h
  rintro (h1 | h1)
  · exact absurd h.1 (Int32.not_le.mpr h1)
  · omega
theorem jn_go {α β : Type} {k : α} {f : α → β} {r : β} {C : Prop} (P : α → Prop) (h : jn k f = r) (hP : P k) (hc : ∀ j, P j → f j = r → C) : C := hc k hP h
theorem cal_go {α β : Type} {o : Option (α × St)} {f : α → St → Option β} {r : β} (h : cal o f = some r) : ∃ v σ, o = some (v, σ) ∧ f v σ = some r := by
  cases o with
  | none => cases h
  | some q => exact ⟨q.1, q.2, rfl, h⟩
theorem cap_go {α β : Type} {o : Option α} {f : α → Option β} {r : β} (h : cap o f = some r) : ∃ v, o = some v ∧ f v = some r := by
  cases o with
  | none => cases h
  | some q => exact ⟨q, rfl, h⟩
theorem if_go {α : Type} {c : Prop} [Decidable c] {a b r : α} {C : Prop} (h : (if c then a else b) = r) (kt : c → a = r → C) (kf : ¬ c → b = r → C) : C := by
  by_cases hc : c
  · exact kt hc (by rw [if_pos hc] at h; exact h)
  · exact kf hc (by rw [if_neg hc] at h; exact h)

theorem G_iconst {n : Int} (v : Int32) (X : Cx θ strs cc nL own fr lo) (hd : decode cc pc = .ok (.iconst n, 1)) (hv : Int32.ofInt n = v) (k : G θ cs w σ (pc + 1) L (.int v :: S)) : G θ cs w σ pc L S := by
  obtain ⟨p, l, e, R, s, m, args, below, meth, c, A, D, cA, Q⟩ := θ
  obtain ⟨hx, hb, hml, hown, hts, hlk, hA, hK, hfr, hlo⟩ := X
  intro H locs ls hl hP hD hS
  exact lv_iconst hx hb hd hv (k H locs ls hl hP hD hS)
theorem G_bipush {n : Int} (v : Int32) (X : Cx θ strs cc nL own fr lo) (hd : decode cc pc = .ok (.bipush n, 2)) (hv : (Int8.ofInt n).toInt32 = v) (k : G θ cs w σ (pc + 2) L (.int v :: S)) : G θ cs w σ pc L S := by
  obtain ⟨p, l, e, R, s, m, args, below, meth, c, A, D, cA, Q⟩ := θ
  obtain ⟨hx, hb, hml, hown, hts, hlk, hA, hK, hfr, hlo⟩ := X
  intro H locs ls hl hP hD hS
  exact lv_bipush hx hb hd hv (k H locs ls hl hP hD hS)
theorem G_sipush {n : Int} (v : Int32) (X : Cx θ strs cc nL own fr lo) (hd : decode cc pc = .ok (.sipush n, 3)) (hv : (Int16.ofInt n).toInt32 = v) (k : G θ cs w σ (pc + 3) L (.int v :: S)) : G θ cs w σ pc L S := by
  obtain ⟨p, l, e, R, s, m, args, below, meth, c, A, D, cA, Q⟩ := θ
  obtain ⟨hx, hb, hml, hown, hts, hlk, hA, hK, hfr, hlo⟩ := X
  intro H locs ls hl hP hD hS
  exact lv_sipush hx hb hd hv (k H locs ls hl hP hD hS)
theorem G_lconst {n : Fin 2} (v : Int64) (X : Cx θ strs cc nL own fr lo) (hd : decode cc pc = .ok (.lconst n, 1)) (hv : Int64.ofNat (n : Nat) = v) (k : G θ cs w σ (pc + 1) L (.long v :: S)) : G θ cs w σ pc L S := by
  obtain ⟨p, l, e, R, s, m, args, below, meth, c, A, D, cA, Q⟩ := θ
  obtain ⟨hx, hb, hml, hown, hts, hlk, hA, hK, hfr, hlo⟩ := X
  intro H locs ls hl hP hD hS
  exact lv_lconst hx hb hd hv (k H locs ls hl hP hD hS)
theorem G_ldc {i : Nat} {v : Int32} (X : Cx θ strs cc nL own fr lo) (hd : decode cc pc = .ok (.ldc i, 2)) (hc : Cond.constant own i v ∈ g_GW) (k : G θ cs w σ (pc + 2) L (.int v :: S)) : G θ cs w σ pc L S := by
  obtain ⟨p, l, e, R, s, m, args, below, meth, c, A, D, cA, Q⟩ := θ
  obtain ⟨hx, hb, hml, hown, hts, hlk, hA, hK, hfr, hlo⟩ := X
  intro H locs ls hl hP hD hS
  exact lv_ldc hx hb hown (hts _ hc) hd (k H locs ls hl hP hD hS)
theorem G_ldcw {i : Nat} {v : Int32} (X : Cx θ strs cc nL own fr lo) (hd : decode cc pc = .ok (.ldc_w i, 3)) (hc : Cond.constant own i v ∈ g_GW) (k : G θ cs w σ (pc + 3) L (.int v :: S)) : G θ cs w σ pc L S := by
  obtain ⟨p, l, e, R, s, m, args, below, meth, c, A, D, cA, Q⟩ := θ
  obtain ⟨hx, hb, hml, hown, hts, hlk, hA, hK, hfr, hlo⟩ := X
  intro H locs ls hl hP hD hS
  exact lv_ldcw hx hb hown (hts _ hc) hd (k H locs ls hl hP hD hS)
theorem G_ldc2 {i : Nat} {v : Int64} (X : Cx θ strs cc nL own fr lo) (hd : decode cc pc = .ok (.ldc2_w i, 3)) (hc : Cond.constantLong own i v ∈ g_GW) (k : G θ cs w σ (pc + 3) L (.long v :: S)) : G θ cs w σ pc L S := by
  obtain ⟨p, l, e, R, s, m, args, below, meth, c, A, D, cA, Q⟩ := θ
  obtain ⟨hx, hb, hml, hown, hts, hlk, hA, hK, hfr, hlo⟩ := X
  intro H locs ls hl hP hD hS
  exact lv_ldc2 hx hb hown (hts _ hc) hd (k H locs ls hl hP hD hS)

theorem G_iload_n {k4 : Fin 4} (i : Nat) {x : Int32} (X : Cx θ strs cc nL own fr lo) (hd : decode cc pc = .ok (.iload_n k4, 1)) (hi : (k4 : Nat) = i) (hl' : L[i]? = some (some (.int x))) (k : G θ cs w σ (pc + 1) L (.int x :: S)) : G θ cs w σ pc L S := by
  obtain ⟨p, l, e, R, s, m, args, below, meth, c, A, D, cA, Q⟩ := θ
  obtain ⟨hx, hb, hml, hown, hts, hlk, hA, hK, hfr, hlo⟩ := X
  intro H locs ls hl hP hD hS
  exact lv_iload_n hx hb hd hi (hl.at hl') (k H locs ls hl hP hD hS)
theorem G_iload {i : Nat} {x : Int32} (X : Cx θ strs cc nL own fr lo) (hd : decode cc pc = .ok (.iload i, 2)) (hl' : L[i]? = some (some (.int x))) (k : G θ cs w σ (pc + 2) L (.int x :: S)) : G θ cs w σ pc L S := by
  obtain ⟨p, l, e, R, s, m, args, below, meth, c, A, D, cA, Q⟩ := θ
  obtain ⟨hx, hb, hml, hown, hts, hlk, hA, hK, hfr, hlo⟩ := X
  intro H locs ls hl hP hD hS
  exact lv_iload hx hb hd (hl.at hl') (k H locs ls hl hP hD hS)

theorem G_lload_n {k4 : Fin 4} (i : Nat) {x : Int64} (X : Cx θ strs cc nL own fr lo) (hd : decode cc pc = .ok (.lload_n k4, 1)) (hi : (k4 : Nat) = i) (hl' : L[i]? = some (some (.long x))) (k : G θ cs w σ (pc + 1) L (.long x :: S)) : G θ cs w σ pc L S := by
  obtain ⟨p, l, e, R, s, m, args, below, meth, c, A, D, cA, Q⟩ := θ
  obtain ⟨hx, hb, hml, hown, hts, hlk, hA, hK, hfr, hlo⟩ := X
  intro H locs ls hl hP hD hS
  exact lv_lload_n hx hb hd hi (hl.at hl') (k H locs ls hl hP hD hS)
theorem G_lload {i : Nat} {x : Int64} (X : Cx θ strs cc nL own fr lo) (hd : decode cc pc = .ok (.lload i, 2)) (hl' : L[i]? = some (some (.long x))) (k : G θ cs w σ (pc + 2) L (.long x :: S)) : G θ cs w σ pc L S := by
  obtain ⟨p, l, e, R, s, m, args, below, meth, c, A, D, cA, Q⟩ := θ
  obtain ⟨hx, hb, hml, hown, hts, hlk, hA, hK, hfr, hlo⟩ := X
  intro H locs ls hl hP hD hS
  exact lv_lload hx hb hd (hl.at hl') (k H locs ls hl hP hD hS)

theorem G_aload_n {k4 : Fin 4} (i : Nat) {x : Nat} (X : Cx θ strs cc nL own fr lo) (hd : decode cc pc = .ok (.aload_n k4, 1)) (hi : (k4 : Nat) = i) (hl' : L[i]? = some (some (.ref x))) (k : G θ cs w σ (pc + 1) L (.ref x :: S)) : G θ cs w σ pc L S := by
  obtain ⟨p, l, e, R, s, m, args, below, meth, c, A, D, cA, Q⟩ := θ
  obtain ⟨hx, hb, hml, hown, hts, hlk, hA, hK, hfr, hlo⟩ := X
  intro H locs ls hl hP hD hS
  exact lv_aload_n hx hb hd hi (hl.at hl') (k H locs ls hl hP hD hS)
theorem G_aload {i : Nat} {x : Nat} (X : Cx θ strs cc nL own fr lo) (hd : decode cc pc = .ok (.aload i, 2)) (hl' : L[i]? = some (some (.ref x))) (k : G θ cs w σ (pc + 2) L (.ref x :: S)) : G θ cs w σ pc L S := by
  obtain ⟨p, l, e, R, s, m, args, below, meth, c, A, D, cA, Q⟩ := θ
  obtain ⟨hx, hb, hml, hown, hts, hlk, hA, hK, hfr, hlo⟩ := X
  intro H locs ls hl hP hD hS
  exact lv_aload hx hb hd (hl.at hl') (k H locs ls hl hP hD hS)

theorem G_istore_n {k4 : Fin 4} (i : Nat) {x : Int32} (X : Cx θ strs cc nL own fr lo) (hd : decode cc pc = .ok (.istore_n k4, 1)) (hi : (k4 : Nat) = i) (hn : i < nL) (ok : okSt L i = true) (k : G θ cs w σ (pc + 1) (L.set i (some (.int x))) S) : G θ cs w σ pc L (.int x :: S) := by
  obtain ⟨p, l, e, R, s, m, args, below, meth, c, A, D, cA, Q⟩ := θ
  obtain ⟨hx, hb, hml, hown, hts, hlk, hA, hK, hfr, hlo⟩ := X
  intro H locs ls hl hP hD hS
  exact lv_istore_n hx hb hd hi hl.lv (by rw [hml]; exact hn) rfl (fun ls' h' => k H locs ls' (LH.set1 ok h') hP hD hS)
theorem G_istore {i : Nat} {x : Int32} (X : Cx θ strs cc nL own fr lo) (hd : decode cc pc = .ok (.istore i, 2)) (hn : i < nL) (ok : okSt L i = true) (k : G θ cs w σ (pc + 2) (L.set i (some (.int x))) S) : G θ cs w σ pc L (.int x :: S) := by
  obtain ⟨p, l, e, R, s, m, args, below, meth, c, A, D, cA, Q⟩ := θ
  obtain ⟨hx, hb, hml, hown, hts, hlk, hA, hK, hfr, hlo⟩ := X
  intro H locs ls hl hP hD hS
  exact lv_istore hx hb hd hl.lv (by rw [hml]; exact hn) rfl (fun ls' h' => k H locs ls' (LH.set1 ok h') hP hD hS)

theorem G_astore_n {k4 : Fin 4} (i : Nat) {x : Nat} (X : Cx θ strs cc nL own fr lo) (hd : decode cc pc = .ok (.astore_n k4, 1)) (hi : (k4 : Nat) = i) (hn : i < nL) (ok : okSt L i = true) (k : G θ cs w σ (pc + 1) (L.set i (some (.ref x))) S) : G θ cs w σ pc L (.ref x :: S) := by
  obtain ⟨p, l, e, R, s, m, args, below, meth, c, A, D, cA, Q⟩ := θ
  obtain ⟨hx, hb, hml, hown, hts, hlk, hA, hK, hfr, hlo⟩ := X
  intro H locs ls hl hP hD hS
  exact lv_astore_n hx hb hd hi hl.lv (by rw [hml]; exact hn) rfl (fun ls' h' => k H locs ls' (LH.set1 ok h') hP hD hS)
theorem G_astore {i : Nat} {x : Nat} (X : Cx θ strs cc nL own fr lo) (hd : decode cc pc = .ok (.astore i, 2)) (hn : i < nL) (ok : okSt L i = true) (k : G θ cs w σ (pc + 2) (L.set i (some (.ref x))) S) : G θ cs w σ pc L (.ref x :: S) := by
  obtain ⟨p, l, e, R, s, m, args, below, meth, c, A, D, cA, Q⟩ := θ
  obtain ⟨hx, hb, hml, hown, hts, hlk, hA, hK, hfr, hlo⟩ := X
  intro H locs ls hl hP hD hS
  exact lv_astore hx hb hd hl.lv (by rw [hml]; exact hn) rfl (fun ls' h' => k H locs ls' (LH.set1 ok h') hP hD hS)

theorem G_lstore_n {k4 : Fin 4} (i : Nat) {x : Int64} (X : Cx θ strs cc nL own fr lo) (hd : decode cc pc = .ok (.lstore_n k4, 1)) (hi : (k4 : Nat) = i) (hn : i + 1 < nL) (ok : okSt L i = true) (k : G θ cs w σ (pc + 1) ((L.set i (some (.long x))).set (i + 1) none) S) : G θ cs w σ pc L (.long x :: S) := by
  obtain ⟨p, l, e, R, s, m, args, below, meth, c, A, D, cA, Q⟩ := θ
  obtain ⟨hx, hb, hml, hown, hts, hlk, hA, hK, hfr, hlo⟩ := X
  intro H locs ls hl hP hD hS
  exact lv_lstore_n hx hb hd hi hl.lv (by rw [hml]; exact hn) rfl (fun ls' h' => k H locs ls' (LH.set2 ok h') hP hD hS)
theorem G_lstore {i : Nat} {x : Int64} (X : Cx θ strs cc nL own fr lo) (hd : decode cc pc = .ok (.lstore i, 2)) (hn : i + 1 < nL) (ok : okSt L i = true) (k : G θ cs w σ (pc + 2) ((L.set i (some (.long x))).set (i + 1) none) S) : G θ cs w σ pc L (.long x :: S) := by
  obtain ⟨p, l, e, R, s, m, args, below, meth, c, A, D, cA, Q⟩ := θ
  obtain ⟨hx, hb, hml, hown, hts, hlk, hA, hK, hfr, hlo⟩ := X
  intro H locs ls hl hP hD hS
  exact lv_lstore hx hb hd hl.lv (by rw [hml]; exact hn) rfl (fun ls' h' => k H locs ls' (LH.set2 ok h') hP hD hS)
theorem G_iinc {i : Nat} {n : Int} (v : Int32) {x : Int32} (X : Cx θ strs cc nL own fr lo) (hd : decode cc pc = .ok (.iinc i n, 3)) (hl' : L[i]? = some (some (.int x))) (hn : i < nL) (ok : okSt L i = true) (hv : x + Int32.ofInt n = v) (k : G θ cs w σ (pc + 3) (L.set i (some (.int v))) S) : G θ cs w σ pc L S := by
  obtain ⟨p, l, e, R, s, m, args, below, meth, c, A, D, cA, Q⟩ := θ
  obtain ⟨hx, hb, hml, hown, hts, hlk, hA, hK, hfr, hlo⟩ := X
  intro H locs ls hl hP hD hS
  obtain ⟨j, hj⟩ := List.getElem?_of_mem (g_pairs_mem.mpr hl')
  exact lv_iinc hx hb hd hl.lv hj hv (by rw [hml]; exact hn) rfl (fun ls' h' => k H locs ls' (LH.set1 ok h') hP hD hS)

theorem G_iadd {x y : Int32} (X : Cx θ strs cc nL own fr lo) (hd : decode cc pc = .ok (.iadd, 1)) (k : G θ cs w σ (pc + 1) L (.int (x + y) :: S)) : G θ cs w σ pc L (.int y :: .int x :: S) := by
  obtain ⟨p, l, e, R, s, m, args, below, meth, c, A, D, cA, Q⟩ := θ
  obtain ⟨hx, hb, hml, hown, hts, hlk, hA, hK, hfr, hlo⟩ := X
  intro H locs ls hl hP hD hS
  exact lv_iadd hx hb hd (k H locs ls hl hP hD hS)

theorem G_isub {x y : Int32} (X : Cx θ strs cc nL own fr lo) (hd : decode cc pc = .ok (.isub, 1)) (k : G θ cs w σ (pc + 1) L (.int (x - y) :: S)) : G θ cs w σ pc L (.int y :: .int x :: S) := by
  obtain ⟨p, l, e, R, s, m, args, below, meth, c, A, D, cA, Q⟩ := θ
  obtain ⟨hx, hb, hml, hown, hts, hlk, hA, hK, hfr, hlo⟩ := X
  intro H locs ls hl hP hD hS
  exact lv_isub hx hb hd (k H locs ls hl hP hD hS)

theorem G_imul {x y : Int32} (X : Cx θ strs cc nL own fr lo) (hd : decode cc pc = .ok (.imul, 1)) (k : G θ cs w σ (pc + 1) L (.int (x * y) :: S)) : G θ cs w σ pc L (.int y :: .int x :: S) := by
  obtain ⟨p, l, e, R, s, m, args, below, meth, c, A, D, cA, Q⟩ := θ
  obtain ⟨hx, hb, hml, hown, hts, hlk, hA, hK, hfr, hlo⟩ := X
  intro H locs ls hl hP hD hS
  exact lv_imul hx hb hd (k H locs ls hl hP hD hS)

theorem G_iand {x y : Int32} (X : Cx θ strs cc nL own fr lo) (hd : decode cc pc = .ok (.iand, 1)) (k : G θ cs w σ (pc + 1) L (.int (x &&& y) :: S)) : G θ cs w σ pc L (.int y :: .int x :: S) := by
  obtain ⟨p, l, e, R, s, m, args, below, meth, c, A, D, cA, Q⟩ := θ
  obtain ⟨hx, hb, hml, hown, hts, hlk, hA, hK, hfr, hlo⟩ := X
  intro H locs ls hl hP hD hS
  exact lv_iand hx hb hd (k H locs ls hl hP hD hS)

theorem G_ior {x y : Int32} (X : Cx θ strs cc nL own fr lo) (hd : decode cc pc = .ok (.ior, 1)) (k : G θ cs w σ (pc + 1) L (.int (x ||| y) :: S)) : G θ cs w σ pc L (.int y :: .int x :: S) := by
  obtain ⟨p, l, e, R, s, m, args, below, meth, c, A, D, cA, Q⟩ := θ
  obtain ⟨hx, hb, hml, hown, hts, hlk, hA, hK, hfr, hlo⟩ := X
  intro H locs ls hl hP hD hS
  exact lv_ior hx hb hd (k H locs ls hl hP hD hS)

theorem G_ixor {x y : Int32} (X : Cx θ strs cc nL own fr lo) (hd : decode cc pc = .ok (.ixor, 1)) (k : G θ cs w σ (pc + 1) L (.int (x ^^^ y) :: S)) : G θ cs w σ pc L (.int y :: .int x :: S) := by
  obtain ⟨p, l, e, R, s, m, args, below, meth, c, A, D, cA, Q⟩ := θ
  obtain ⟨hx, hb, hml, hown, hts, hlk, hA, hK, hfr, hlo⟩ := X
  intro H locs ls hl hP hD hS
  exact lv_ixor hx hb hd (k H locs ls hl hP hD hS)

theorem G_ishl {x y : Int32} (X : Cx θ strs cc nL own fr lo) (hd : decode cc pc = .ok (.ishl, 1)) (k : G θ cs w σ (pc + 1) L (.int (x <<< (y &&& 31)) :: S)) : G θ cs w σ pc L (.int y :: .int x :: S) := by
  obtain ⟨p, l, e, R, s, m, args, below, meth, c, A, D, cA, Q⟩ := θ
  obtain ⟨hx, hb, hml, hown, hts, hlk, hA, hK, hfr, hlo⟩ := X
  intro H locs ls hl hP hD hS
  exact lv_ishl hx hb hd (k H locs ls hl hP hD hS)

theorem G_ishr {x y : Int32} (X : Cx θ strs cc nL own fr lo) (hd : decode cc pc = .ok (.ishr, 1)) (k : G θ cs w σ (pc + 1) L (.int (x >>> (y &&& 31)) :: S)) : G θ cs w σ pc L (.int y :: .int x :: S) := by
  obtain ⟨p, l, e, R, s, m, args, below, meth, c, A, D, cA, Q⟩ := θ
  obtain ⟨hx, hb, hml, hown, hts, hlk, hA, hK, hfr, hlo⟩ := X
  intro H locs ls hl hP hD hS
  exact lv_ishr hx hb hd (k H locs ls hl hP hD hS)

theorem G_ladd {x y : Int64} (X : Cx θ strs cc nL own fr lo) (hd : decode cc pc = .ok (.ladd, 1)) (k : G θ cs w σ (pc + 1) L (.long (x + y) :: S)) : G θ cs w σ pc L (.long y :: .long x :: S) := by
  obtain ⟨p, l, e, R, s, m, args, below, meth, c, A, D, cA, Q⟩ := θ
  obtain ⟨hx, hb, hml, hown, hts, hlk, hA, hK, hfr, hlo⟩ := X
  intro H locs ls hl hP hD hS
  exact lv_ladd hx hb hd (k H locs ls hl hP hD hS)

theorem G_lmul {x y : Int64} (X : Cx θ strs cc nL own fr lo) (hd : decode cc pc = .ok (.lmul, 1)) (k : G θ cs w σ (pc + 1) L (.long (x * y) :: S)) : G θ cs w σ pc L (.long y :: .long x :: S) := by
  obtain ⟨p, l, e, R, s, m, args, below, meth, c, A, D, cA, Q⟩ := θ
  obtain ⟨hx, hb, hml, hown, hts, hlk, hA, hK, hfr, hlo⟩ := X
  intro H locs ls hl hP hD hS
  exact lv_lmul hx hb hd (k H locs ls hl hP hD hS)

theorem G_land {x y : Int64} (X : Cx θ strs cc nL own fr lo) (hd : decode cc pc = .ok (.land, 1)) (k : G θ cs w σ (pc + 1) L (.long (x &&& y) :: S)) : G θ cs w σ pc L (.long y :: .long x :: S) := by
  obtain ⟨p, l, e, R, s, m, args, below, meth, c, A, D, cA, Q⟩ := θ
  obtain ⟨hx, hb, hml, hown, hts, hlk, hA, hK, hfr, hlo⟩ := X
  intro H locs ls hl hP hD hS
  exact lv_land hx hb hd (k H locs ls hl hP hD hS)

theorem G_lor {x y : Int64} (X : Cx θ strs cc nL own fr lo) (hd : decode cc pc = .ok (.lor, 1)) (k : G θ cs w σ (pc + 1) L (.long (x ||| y) :: S)) : G θ cs w σ pc L (.long y :: .long x :: S) := by
  obtain ⟨p, l, e, R, s, m, args, below, meth, c, A, D, cA, Q⟩ := θ
  obtain ⟨hx, hb, hml, hown, hts, hlk, hA, hK, hfr, hlo⟩ := X
  intro H locs ls hl hP hD hS
  exact lv_lor hx hb hd (k H locs ls hl hP hD hS)

theorem G_idiv {β : Type} {x y : Int32} {f : Int32 → Option β} {r : β} (X : Cx θ strs cc nL own fr lo) (hd : decode cc pc = .ok (.idiv, 1)) (h : dvi x y f = some r) (k : ∀ v, f v = some r → G θ cs w σ (pc + 1) L (.int v :: S)) : G θ cs w σ pc L (.int y :: .int x :: S) := by
  obtain ⟨p, l, e, R, s, m, args, below, meth, c, A, D, cA, Q⟩ := θ
  obtain ⟨hx, hb, hml, hown, hts, hlk, hA, hK, hfr, hlo⟩ := X
  intro H locs ls hl hP hD hS
  unfold dvi at h
  by_cases hy : y = 0
  · rw [if_pos hy] at h; cases h
  · rw [if_neg hy] at h
    exact lv_idiv hx hb hd hy (k _ h H locs ls hl hP hD hS)

theorem G_irem {β : Type} {x y : Int32} {f : Int32 → Option β} {r : β} (X : Cx θ strs cc nL own fr lo) (hd : decode cc pc = .ok (.irem, 1)) (h : rmi x y f = some r) (k : ∀ v, f v = some r → G θ cs w σ (pc + 1) L (.int v :: S)) : G θ cs w σ pc L (.int y :: .int x :: S) := by
  obtain ⟨p, l, e, R, s, m, args, below, meth, c, A, D, cA, Q⟩ := θ
  obtain ⟨hx, hb, hml, hown, hts, hlk, hA, hK, hfr, hlo⟩ := X
  intro H locs ls hl hP hD hS
  unfold rmi at h
  by_cases hy : y = 0
  · rw [if_pos hy] at h; cases h
  · rw [if_neg hy] at h
    exact lv_irem hx hb hd hy (k _ h H locs ls hl hP hD hS)

theorem G_ldiv {β : Type} {x y : Int64} {f : Int64 → Option β} {r : β} (X : Cx θ strs cc nL own fr lo) (hd : decode cc pc = .ok (.ldiv, 1)) (h : dvl x y f = some r) (k : ∀ v, f v = some r → G θ cs w σ (pc + 1) L (.long v :: S)) : G θ cs w σ pc L (.long y :: .long x :: S) := by
  obtain ⟨p, l, e, R, s, m, args, below, meth, c, A, D, cA, Q⟩ := θ
  obtain ⟨hx, hb, hml, hown, hts, hlk, hA, hK, hfr, hlo⟩ := X
  intro H locs ls hl hP hD hS
  unfold dvl at h
  by_cases hy : y = 0
  · rw [if_pos hy] at h; cases h
  · rw [if_neg hy] at h
    exact lv_ldiv hx hb hd hy (k _ h H locs ls hl hP hD hS)

theorem G_lrem {β : Type} {x y : Int64} {f : Int64 → Option β} {r : β} (X : Cx θ strs cc nL own fr lo) (hd : decode cc pc = .ok (.lrem, 1)) (h : rml x y f = some r) (k : ∀ v, f v = some r → G θ cs w σ (pc + 1) L (.long v :: S)) : G θ cs w σ pc L (.long y :: .long x :: S) := by
  obtain ⟨p, l, e, R, s, m, args, below, meth, c, A, D, cA, Q⟩ := θ
  obtain ⟨hx, hb, hml, hown, hts, hlk, hA, hK, hfr, hlo⟩ := X
  intro H locs ls hl hP hD hS
  unfold rml at h
  by_cases hy : y = 0
  · rw [if_pos hy] at h; cases h
  · rw [if_neg hy] at h
    exact lv_lrem hx hb hd hy (k _ h H locs ls hl hP hD hS)

theorem G_lshl {x : Int64} {y : Int32} (X : Cx θ strs cc nL own fr lo) (hd : decode cc pc = .ok (.lshl, 1)) (k : G θ cs w σ (pc + 1) L (.long (x <<< (y.toInt64 &&& 63)) :: S)) : G θ cs w σ pc L (.int y :: .long x :: S) := by
  obtain ⟨p, l, e, R, s, m, args, below, meth, c, A, D, cA, Q⟩ := θ
  obtain ⟨hx, hb, hml, hown, hts, hlk, hA, hK, hfr, hlo⟩ := X
  intro H locs ls hl hP hD hS
  exact lv_lshl hx hb hd rfl (k H locs ls hl hP hD hS)

theorem G_lshr {x : Int64} {y : Int32} (X : Cx θ strs cc nL own fr lo) (hd : decode cc pc = .ok (.lshr, 1)) (k : G θ cs w σ (pc + 1) L (.long (x >>> (y.toInt64 &&& 63)) :: S)) : G θ cs w σ pc L (.int y :: .long x :: S) := by
  obtain ⟨p, l, e, R, s, m, args, below, meth, c, A, D, cA, Q⟩ := θ
  obtain ⟨hx, hb, hml, hown, hts, hlk, hA, hK, hfr, hlo⟩ := X
  intro H locs ls hl hP hD hS
  exact lv_lshr hx hb hd rfl (k H locs ls hl hP hD hS)

theorem G_lushr {x : Int64} {y : Int32} (X : Cx θ strs cc nL own fr lo) (hd : decode cc pc = .ok (.lushr, 1)) (k : G θ cs w σ (pc + 1) L (.long ((x.toUInt64 >>> (y.toInt64.toUInt64 &&& Int64.toUInt64 63)).toInt64) :: S)) : G θ cs w σ pc L (.int y :: .long x :: S) := by
  obtain ⟨p, l, e, R, s, m, args, below, meth, c, A, D, cA, Q⟩ := θ
  obtain ⟨hx, hb, hml, hown, hts, hlk, hA, hK, hfr, hlo⟩ := X
  intro H locs ls hl hP hD hS
  exact lv_lushr hx hb hd rfl (k H locs ls hl hP hD hS)

theorem G_iushr {x y : Int32} (X : Cx θ strs cc nL own fr lo) (hd : decode cc pc = .ok (.iushr, 1)) (k : G θ cs w σ (pc + 1) L (.int (x.toUInt32 >>> (y.toUInt32 &&& Int32.toUInt32 31)).toInt32 :: S)) : G θ cs w σ pc L (.int y :: .int x :: S) := by
  obtain ⟨p, l, e, R, s, m, args, below, meth, c, A, D, cA, Q⟩ := θ
  obtain ⟨hx, hb, hml, hown, hts, hlk, hA, hK, hfr, hlo⟩ := X
  intro H locs ls hl hP hD hS
  exact lv_iushr hx hb hd rfl (k H locs ls hl hP hD hS)
theorem G_i2l {x : Int32} (X : Cx θ strs cc nL own fr lo) (hd : decode cc pc = .ok (.i2l, 1)) (k : G θ cs w σ (pc + 1) L (.long x.toInt64 :: S)) : G θ cs w σ pc L (.int x :: S) := by
  obtain ⟨p, l, e, R, s, m, args, below, meth, c, A, D, cA, Q⟩ := θ
  obtain ⟨hx, hb, hml, hown, hts, hlk, hA, hK, hfr, hlo⟩ := X
  intro H locs ls hl hP hD hS
  exact lv_i2l hx hb hd rfl (k H locs ls hl hP hD hS)
theorem G_l2i {x : Int64} (X : Cx θ strs cc nL own fr lo) (hd : decode cc pc = .ok (.l2i, 1)) (k : G θ cs w σ (pc + 1) L (.int x.toInt32 :: S)) : G θ cs w σ pc L (.long x :: S) := by
  obtain ⟨p, l, e, R, s, m, args, below, meth, c, A, D, cA, Q⟩ := θ
  obtain ⟨hx, hb, hml, hown, hts, hlk, hA, hK, hfr, hlo⟩ := X
  intro H locs ls hl hP hD hS
  exact lv_l2i hx hb hd rfl (k H locs ls hl hP hD hS)
theorem G_dup {v : Value} (X : Cx θ strs cc nL own fr lo) (hd : decode cc pc = .ok (.dup, 1)) (hv : v.category = 1) (k : G θ cs w σ (pc + 1) L (v :: v :: S)) : G θ cs w σ pc L (v :: S) := by
  obtain ⟨p, l, e, R, s, m, args, below, meth, c, A, D, cA, Q⟩ := θ
  obtain ⟨hx, hb, hml, hown, hts, hlk, hA, hK, hfr, hlo⟩ := X
  intro H locs ls hl hP hD hS
  exact lv_dup hx hb hd hv (k H locs ls hl hP hD hS)
theorem G_pop {v : Value} (X : Cx θ strs cc nL own fr lo) (hd : decode cc pc = .ok (.pop, 1)) (hv : v.category = 1) (k : G θ cs w σ (pc + 1) L S) : G θ cs w σ pc L (v :: S) := by
  obtain ⟨p, l, e, R, s, m, args, below, meth, c, A, D, cA, Q⟩ := θ
  obtain ⟨hx, hb, hml, hown, hts, hlk, hA, hK, hfr, hlo⟩ := X
  intro H locs ls hl hP hD hS
  exact lv_pop hx hb hd hv (k H locs ls hl hP hD hS)
theorem G_dup2 {u v : Value} (X : Cx θ strs cc nL own fr lo) (hd : decode cc pc = .ok (.dup2, 1)) (hu : u.category = 1) (hv : v.category = 1) (k : G θ cs w σ (pc + 1) L (u :: v :: u :: v :: S)) : G θ cs w σ pc L (u :: v :: S) := by
  obtain ⟨p, l, e, R, s, m, args, below, meth, c, A, D, cA, Q⟩ := θ
  obtain ⟨hx, hb, hml, hown, hts, hlk, hA, hK, hfr, hlo⟩ := X
  intro H locs ls hl hP hD hS
  exact lv_dup2_11 hx hb hd hu hv (k H locs ls hl hP hD hS)
theorem G_goto {off : Int} (tgt : Nat) (X : Cx θ strs cc nL own fr lo) (hd : decode cc pc = .ok (.goto off, 3)) (ht : (pc : Int) + off = (tgt : Int)) (k : G θ cs w σ tgt L S) : G θ cs w σ pc L S := by
  obtain ⟨p, l, e, R, s, m, args, below, meth, c, A, D, cA, Q⟩ := θ
  obtain ⟨hx, hb, hml, hown, hts, hlk, hA, hK, hfr, hlo⟩ := X
  intro H locs ls hl hP hD hS
  exact lv_goto hx hb hd ht (k H locs ls hl hP hD hS)
theorem G_ifnonnull {x : Nat} {off : Int} (tgt : Nat) (X : Cx θ strs cc nL own fr lo) (hd : decode cc pc = .ok (.ifnonnull off, 3)) (ht : (pc : Int) + off = (tgt : Int)) (k : G θ cs w σ tgt L S) : G θ cs w σ pc L (.ref x :: S) := by
  obtain ⟨p, l, e, R, s, m, args, below, meth, c, A, D, cA, Q⟩ := θ
  obtain ⟨hx, hb, hml, hown, hts, hlk, hA, hK, hfr, hlo⟩ := X
  intro H locs ls hl hP hD hS
  exact lv_ifnonnull hx hb hd ht (k H locs ls hl hP hD hS)

theorem G_if_eq {α : Type} {a b r : α} {x : Int32} {off : Int} (tgt : Nat) (X : Cx θ strs cc nL own fr lo) (hd : decode cc pc = .ok (.ifCond .eq off, 3)) (ht : (pc : Int) + off = (tgt : Int)) (h : (if x = 0 then a else b) = r) (kt : a = r → G θ cs w σ tgt L S) (kf : b = r → G θ cs w σ (pc + 3) L S) : G θ cs w σ pc L (.int x :: S) := by
  obtain ⟨p, l, e, R, s, m, args, below, meth, c, A, D, cA, Q⟩ := θ
  obtain ⟨hx, hb, hml, hown, hts, hlk, hA, hK, hfr, hlo⟩ := X
  intro H locs ls hl hP hD hS
  exact lv_if_eq hx hb hd ht (fun q => kt (by rw [if_pos q] at h; exact h) H locs ls hl hP hD hS) (fun q => kf (by rw [if_neg q] at h; exact h) H locs ls hl hP hD hS)
theorem G_icmp_eq {α : Type} {a b r : α} {x y : Int32} {off : Int} (tgt : Nat) (X : Cx θ strs cc nL own fr lo) (hd : decode cc pc = .ok (.if_icmp .eq off, 3)) (ht : (pc : Int) + off = (tgt : Int)) (h : (if x = y then a else b) = r) (kt : a = r → G θ cs w σ tgt L S) (kf : b = r → G θ cs w σ (pc + 3) L S) : G θ cs w σ pc L (.int y :: .int x :: S) := by
  obtain ⟨p, l, e, R, s, m, args, below, meth, c, A, D, cA, Q⟩ := θ
  obtain ⟨hx, hb, hml, hown, hts, hlk, hA, hK, hfr, hlo⟩ := X
  intro H locs ls hl hP hD hS
  exact lv_icmp_eq hx hb hd ht (fun q => kt (by rw [if_pos q] at h; exact h) H locs ls hl hP hD hS) (fun q => kf (by rw [if_neg q] at h; exact h) H locs ls hl hP hD hS)

theorem G_if_ne {α : Type} {a b r : α} {x : Int32} {off : Int} (tgt : Nat) (X : Cx θ strs cc nL own fr lo) (hd : decode cc pc = .ok (.ifCond .ne off, 3)) (ht : (pc : Int) + off = (tgt : Int)) (h : (if x = 0 then b else a) = r) (kt : a = r → G θ cs w σ tgt L S) (kf : b = r → G θ cs w σ (pc + 3) L S) : G θ cs w σ pc L (.int x :: S) := by
  obtain ⟨p, l, e, R, s, m, args, below, meth, c, A, D, cA, Q⟩ := θ
  obtain ⟨hx, hb, hml, hown, hts, hlk, hA, hK, hfr, hlo⟩ := X
  intro H locs ls hl hP hD hS
  exact lv_if_ne hx hb hd ht (fun q => kt (by rw [if_neg q] at h; exact h) H locs ls hl hP hD hS) (fun q => kf (by rw [if_pos q] at h; exact h) H locs ls hl hP hD hS)
theorem G_icmp_ne {α : Type} {a b r : α} {x y : Int32} {off : Int} (tgt : Nat) (X : Cx θ strs cc nL own fr lo) (hd : decode cc pc = .ok (.if_icmp .ne off, 3)) (ht : (pc : Int) + off = (tgt : Int)) (h : (if x = y then b else a) = r) (kt : a = r → G θ cs w σ tgt L S) (kf : b = r → G θ cs w σ (pc + 3) L S) : G θ cs w σ pc L (.int y :: .int x :: S) := by
  obtain ⟨p, l, e, R, s, m, args, below, meth, c, A, D, cA, Q⟩ := θ
  obtain ⟨hx, hb, hml, hown, hts, hlk, hA, hK, hfr, hlo⟩ := X
  intro H locs ls hl hP hD hS
  exact lv_icmp_ne hx hb hd ht (fun q => kt (by rw [if_neg q] at h; exact h) H locs ls hl hP hD hS) (fun q => kf (by rw [if_pos q] at h; exact h) H locs ls hl hP hD hS)

theorem G_if_lt {α : Type} {a b r : α} {x : Int32} {off : Int} (tgt : Nat) (X : Cx θ strs cc nL own fr lo) (hd : decode cc pc = .ok (.ifCond .lt off, 3)) (ht : (pc : Int) + off = (tgt : Int)) (h : (if x < 0 then a else b) = r) (kt : a = r → G θ cs w σ tgt L S) (kf : b = r → G θ cs w σ (pc + 3) L S) : G θ cs w σ pc L (.int x :: S) := by
  obtain ⟨p, l, e, R, s, m, args, below, meth, c, A, D, cA, Q⟩ := θ
  obtain ⟨hx, hb, hml, hown, hts, hlk, hA, hK, hfr, hlo⟩ := X
  intro H locs ls hl hP hD hS
  exact lv_if_lt hx hb hd ht (fun q => kt (by rw [if_pos q] at h; exact h) H locs ls hl hP hD hS) (fun q => kf (by rw [if_neg q] at h; exact h) H locs ls hl hP hD hS)
theorem G_icmp_lt {α : Type} {a b r : α} {x y : Int32} {off : Int} (tgt : Nat) (X : Cx θ strs cc nL own fr lo) (hd : decode cc pc = .ok (.if_icmp .lt off, 3)) (ht : (pc : Int) + off = (tgt : Int)) (h : (if x < y then a else b) = r) (kt : a = r → G θ cs w σ tgt L S) (kf : b = r → G θ cs w σ (pc + 3) L S) : G θ cs w σ pc L (.int y :: .int x :: S) := by
  obtain ⟨p, l, e, R, s, m, args, below, meth, c, A, D, cA, Q⟩ := θ
  obtain ⟨hx, hb, hml, hown, hts, hlk, hA, hK, hfr, hlo⟩ := X
  intro H locs ls hl hP hD hS
  exact lv_icmp_lt hx hb hd ht (fun q => kt (by rw [if_pos q] at h; exact h) H locs ls hl hP hD hS) (fun q => kf (by rw [if_neg q] at h; exact h) H locs ls hl hP hD hS)

theorem G_if_ge {α : Type} {a b r : α} {x : Int32} {off : Int} (tgt : Nat) (X : Cx θ strs cc nL own fr lo) (hd : decode cc pc = .ok (.ifCond .ge off, 3)) (ht : (pc : Int) + off = (tgt : Int)) (h : (if x < 0 then b else a) = r) (kt : a = r → G θ cs w σ tgt L S) (kf : b = r → G θ cs w σ (pc + 3) L S) : G θ cs w σ pc L (.int x :: S) := by
  obtain ⟨p, l, e, R, s, m, args, below, meth, c, A, D, cA, Q⟩ := θ
  obtain ⟨hx, hb, hml, hown, hts, hlk, hA, hK, hfr, hlo⟩ := X
  intro H locs ls hl hP hD hS
  exact lv_if_ge hx hb hd ht (fun q => kt (by rw [if_neg (Int32.not_lt.mpr q)] at h; exact h) H locs ls hl hP hD hS) (fun q => kf (by rw [if_pos (Int32.not_le.mp q)] at h; exact h) H locs ls hl hP hD hS)
theorem G_icmp_ge {α : Type} {a b r : α} {x y : Int32} {off : Int} (tgt : Nat) (X : Cx θ strs cc nL own fr lo) (hd : decode cc pc = .ok (.if_icmp .ge off, 3)) (ht : (pc : Int) + off = (tgt : Int)) (h : (if x < y then b else a) = r) (kt : a = r → G θ cs w σ tgt L S) (kf : b = r → G θ cs w σ (pc + 3) L S) : G θ cs w σ pc L (.int y :: .int x :: S) := by
  obtain ⟨p, l, e, R, s, m, args, below, meth, c, A, D, cA, Q⟩ := θ
  obtain ⟨hx, hb, hml, hown, hts, hlk, hA, hK, hfr, hlo⟩ := X
  intro H locs ls hl hP hD hS
  exact lv_icmp_ge hx hb hd ht (fun q => kt (by rw [if_neg (Int32.not_lt.mpr q)] at h; exact h) H locs ls hl hP hD hS) (fun q => kf (by rw [if_pos (Int32.not_le.mp q)] at h; exact h) H locs ls hl hP hD hS)

theorem G_if_gt {α : Type} {a b r : α} {x : Int32} {off : Int} (tgt : Nat) (X : Cx θ strs cc nL own fr lo) (hd : decode cc pc = .ok (.ifCond .gt off, 3)) (ht : (pc : Int) + off = (tgt : Int)) (h : (if x ≤ 0 then b else a) = r) (kt : a = r → G θ cs w σ tgt L S) (kf : b = r → G θ cs w σ (pc + 3) L S) : G θ cs w σ pc L (.int x :: S) := by
  obtain ⟨p, l, e, R, s, m, args, below, meth, c, A, D, cA, Q⟩ := θ
  obtain ⟨hx, hb, hml, hown, hts, hlk, hA, hK, hfr, hlo⟩ := X
  intro H locs ls hl hP hD hS
  exact lv_if_gt hx hb hd ht (fun q => kt (by rw [if_neg (Int32.not_le.mpr q)] at h; exact h) H locs ls hl hP hD hS) (fun q => kf (by rw [if_pos (Int32.not_lt.mp q)] at h; exact h) H locs ls hl hP hD hS)
theorem G_icmp_gt {α : Type} {a b r : α} {x y : Int32} {off : Int} (tgt : Nat) (X : Cx θ strs cc nL own fr lo) (hd : decode cc pc = .ok (.if_icmp .gt off, 3)) (ht : (pc : Int) + off = (tgt : Int)) (h : (if x ≤ y then b else a) = r) (kt : a = r → G θ cs w σ tgt L S) (kf : b = r → G θ cs w σ (pc + 3) L S) : G θ cs w σ pc L (.int y :: .int x :: S) := by
  obtain ⟨p, l, e, R, s, m, args, below, meth, c, A, D, cA, Q⟩ := θ
  obtain ⟨hx, hb, hml, hown, hts, hlk, hA, hK, hfr, hlo⟩ := X
  intro H locs ls hl hP hD hS
  exact lv_icmp_gt hx hb hd ht (fun q => kt (by rw [if_neg (Int32.not_le.mpr q)] at h; exact h) H locs ls hl hP hD hS) (fun q => kf (by rw [if_pos (Int32.not_lt.mp q)] at h; exact h) H locs ls hl hP hD hS)

theorem G_if_le {α : Type} {a b r : α} {x : Int32} {off : Int} (tgt : Nat) (X : Cx θ strs cc nL own fr lo) (hd : decode cc pc = .ok (.ifCond .le off, 3)) (ht : (pc : Int) + off = (tgt : Int)) (h : (if x ≤ 0 then a else b) = r) (kt : a = r → G θ cs w σ tgt L S) (kf : b = r → G θ cs w σ (pc + 3) L S) : G θ cs w σ pc L (.int x :: S) := by
  obtain ⟨p, l, e, R, s, m, args, below, meth, c, A, D, cA, Q⟩ := θ
  obtain ⟨hx, hb, hml, hown, hts, hlk, hA, hK, hfr, hlo⟩ := X
  intro H locs ls hl hP hD hS
  exact lv_if_le hx hb hd ht (fun q => kt (by rw [if_pos q] at h; exact h) H locs ls hl hP hD hS) (fun q => kf (by rw [if_neg q] at h; exact h) H locs ls hl hP hD hS)
theorem G_icmp_le {α : Type} {a b r : α} {x y : Int32} {off : Int} (tgt : Nat) (X : Cx θ strs cc nL own fr lo) (hd : decode cc pc = .ok (.if_icmp .le off, 3)) (ht : (pc : Int) + off = (tgt : Int)) (h : (if x ≤ y then a else b) = r) (kt : a = r → G θ cs w σ tgt L S) (kf : b = r → G θ cs w σ (pc + 3) L S) : G θ cs w σ pc L (.int y :: .int x :: S) := by
  obtain ⟨p, l, e, R, s, m, args, below, meth, c, A, D, cA, Q⟩ := θ
  obtain ⟨hx, hb, hml, hown, hts, hlk, hA, hK, hfr, hlo⟩ := X
  intro H locs ls hl hP hD hS
  exact lv_icmp_le hx hb hd ht (fun q => kt (by rw [if_pos q] at h; exact h) H locs ls hl hP hD hS) (fun q => kf (by rw [if_neg q] at h; exact h) H locs ls hl hP hD hS)

end GR
end
section
section GH
variable {θ : Th} {cs : Nat × Nat} {w : Wd} {σ : St} {pc : Nat} {L : LV} {S : List Value} {strs : List (String × Nat × String)} {cc : ByteArray} {nL : Nat} {own : String} {fr lo : Nat}
/-- a class of the tables -/
def FC (ci : Nat) (C : String) (T : u_T) (N : Nat) (ty : Nat → FieldType) : Prop := vwCl[ci]? = some (C, T, N) ∧ (∀ w ∈ u_ws C T N, w ∈ g_GW) ∧ (∀ k, k < N → parseFieldDescriptor (T k).2.2.1 = some (ty k)) ∧ ∀ a, a < N → ∀ b, b < N → a ≠ b → (T a).2.1 ≠ (T b).2.1
theorem g_nw {s : State} {args : Array Value} {w : Cond} (h : ∀ w ∈ g_NW, va_Nw w s) (hw : w ∈ g_NW) : w.before args s = true := by
  rcases g_nw_cases hw with ⟨a, i, b, n, d, h', rfl⟩ | ⟨a, i, x, h', rfl⟩ | ⟨a, b, rfl⟩ | ⟨x, rfl⟩ <;> exact va_Nw.use rfl (h _ hw)
theorem G_get {ci N idx k : Nat} {C : String} {T : u_T} {ty : Nat → FieldType} {fl : List (Option (Option Nat))} {o : Option (Option Nat)} (j : Nat) (X : Cx θ strs cc nL own fr lo) (hd : decode cc pc = .ok (.getfield idx, 3)) (hF : FC ci C T N ty) (hl : Cond.fieldLink own idx C (T j).2.1 (T j).2.2.1 ∈ g_GW) (hT : (T j).1 = C) (hj : j < N) (hs : w.1[k]? = some (.inl (ci, fl))) (hf : fl[j]? = some o)
    (kk : G θ cs w σ (pc + 3) L (g_fv w.2 (σ k) j o :: S)) : G θ cs w σ pc L (.ref (w.2 k) :: S) := by
  obtain ⟨p, l, e, R, s, m, args, below, meth, c, A, D, cA, Q⟩ := θ
  obtain ⟨hx, hb, hml, hown, hts, hlk, hA, hK, hfr, hlo⟩ := X
  intro H locs ls hl' hP hD hS
  obtain ⟨f1, f2, f3, f4⟩ := hF
  exact va_get (D := D) (ci := ci) (ref := C) (v := g_fv w.2 (σ k) j o) hx hb hts f2 hown hK.1 hP k (g_getO hs) f1 j hj (hts _ hl) (fun _ h => by rw [hT] at h; exact h) (by simp [List.getElem?_mapIdx, hf]) hd (kk H locs ls hl' hP hD hS)
theorem G_getN {ci N idx k : Nat} {C host : String} {T : u_T} {ty : Nat → FieldType} {fl : List (Option (Option Nat))} {o : Option (Option Nat)} (j : Nat) (X : Cx θ strs cc nL own fr lo) (hd : decode cc pc = .ok (.getfield idx, 3)) (hF : FC ci C T N ty) (hl : Cond.fieldLinkNest own idx C (T j).2.1 (T j).2.2.1 host ∈ g_NW) (hT : (T j).1 = C) (hj : j < N) (hs : w.1[k]? = some (.inl (ci, fl))) (hf : fl[j]? = some o)
    (kk : G θ cs w σ (pc + 3) L (g_fv w.2 (σ k) j o :: S)) : G θ cs w σ pc L (.ref (w.2 k) :: S) := by
  obtain ⟨p, l, e, R, s, m, args, below, meth, c, A, D, cA, Q⟩ := θ
  obtain ⟨hx, hb, hml, hown, hts, hlk, hA, hK, hfr, hlo⟩ := X
  intro H locs ls hl' hP hD hS
  obtain ⟨f1, f2, f3, f4⟩ := hF
  exact va_getN (D := D) (ci := ci) (ref := C) (v := g_fv w.2 (σ k) j o) hx hb hts f2 hown hK.1 hP k (g_getO hs) f1 j hj (g_nw hK.2.1 hl) (fun _ h => by rw [hT] at h; exact h) (by simp [List.getElem?_mapIdx, hf]) hd (kk H locs ls hl' hP hD hS)
theorem G_put {β : Type} {f : St → β} {r : β} {ci N idx k : Nat} {C : String} {T : u_T} {ty : Nat → FieldType} {fl : List (Option (Option Nat))} {v : Int32} (j : Nat) (X : Cx θ strs cc nL own fr lo) (hd : decode cc pc = .ok (.putfield idx, 3)) (hF : FC ci C T N ty) (hl : Cond.fieldLink own idx C (T j).2.1 (T j).2.2.1 ∈ g_GW) (hT : (T j).1 = C) (hj : j < N) (hfin : (T j).2.2.2 = false) (hty : ty j = .int) (hs : w.1[k]? = some (.inl (ci, fl))) (hf : fl[j]? = some none)
    (h : sto σ k j v f = r) (kk : ∀ σ', f σ' = r → G θ cs w σ' (pc + 3) L S) : G θ cs w σ pc L (.int v :: .ref (w.2 k) :: S) := by
  obtain ⟨p, l, e, R, s, m, args, below, meth, c, A, D, cA, Q⟩ := θ
  obtain ⟨hx, hb, hml, hown, hts, hlk, hA, hK, hfr, hlo⟩ := X
  intro H locs ls hl' hP hD hS
  obtain ⟨f1, f2, f3, f4⟩ := hF
  refine va_put (D := D) (ci := ci) (ref := C) (v := .int v) (ty := .int) hx hb hts f2 ty f3 f4 hown hK.1 hP hD hS k (g_getO hs) f1 j hj (hts _ hl) (fun _ h => by rw [hT] at h; exact h) hfin (by rw [f3 j hj, hty]) rfl rfl (by simpa using (List.getElem?_eq_some_iff.mp hf).1) hd (fun H1 locs1 hP1 hD1 hS1 => ?_)
  rw [g_setO hs hf] at hP1 hD1
  exact kk _ h H1 locs1 ls hl' hP1 hD1 hS1
theorem G_putN {β : Type} {f : St → β} {r : β} {ci N idx k : Nat} {C host : String} {T : u_T} {ty : Nat → FieldType} {fl : List (Option (Option Nat))} {v : Int32} (j : Nat) (X : Cx θ strs cc nL own fr lo) (hd : decode cc pc = .ok (.putfield idx, 3)) (hF : FC ci C T N ty) (hl : Cond.fieldLinkNest own idx C (T j).2.1 (T j).2.2.1 host ∈ g_NW) (hT : (T j).1 = C) (hj : j < N) (hfin : (T j).2.2.2 = false) (hty : ty j = .int) (hs : w.1[k]? = some (.inl (ci, fl))) (hf : fl[j]? = some none)
    (h : sto σ k j v f = r) (kk : ∀ σ', f σ' = r → G θ cs w σ' (pc + 3) L S) : G θ cs w σ pc L (.int v :: .ref (w.2 k) :: S) := by
  obtain ⟨p, l, e, R, s, m, args, below, meth, c, A, D, cA, Q⟩ := θ
  obtain ⟨hx, hb, hml, hown, hts, hlk, hA, hK, hfr, hlo⟩ := X
  intro H locs ls hl' hP hD hS
  obtain ⟨f1, f2, f3, f4⟩ := hF
  refine va_putN (D := D) (ci := ci) (ref := C) (v := .int v) (ty := .int) hx hb hts f2 ty f3 f4 hown hK.1 hP hD hS k (g_getO hs) f1 j hj (g_nw hK.2.1 hl) (fun _ h => by rw [hT] at h; exact h) hfin (by rw [f3 j hj, hty]) rfl rfl (by simpa using (List.getElem?_eq_some_iff.mp hf).1) hd (fun H1 locs1 hP1 hD1 hS1 => ?_)
  rw [g_setO hs hf] at hP1 hD1
  exact kk _ h H1 locs1 ls hl' hP1 hD1 hS1
theorem G_iald {β : Type} {f : Int32 → Option β} {r : β} {k n : Nat} {i : Int32} (X : Cx θ strs cc nL own fr lo) (hd : decode cc pc = .ok (.iaload, 1)) (hs : w.1[k]? = some (.inr (.inl (0, n)))) (h : ald σ k n i f = some r) (kk : ∀ v, f v = some r → G θ cs w σ (pc + 1) L (.int v :: S)) : G θ cs w σ pc L (.int i :: .ref (w.2 k) :: S) := by
  obtain ⟨p, l, e, R, s, m, args, below, meth, c, A, D, cA, Q⟩ := θ
  obtain ⟨hx, hb, hml, hown, hts, hlk, hA, hK, hfr, hlo⟩ := X
  intro H locs ls hl' hP hD hS
  unfold ald at h
  split at h
  next hin => exact va_iald (tys := g_tys cA) (t0 := 0) hx hb hK.1 hP k (g_getI hs) rfl (inb_vp hin) hd (kk _ h H locs ls hl' hP hD hS)
  next => cases h
theorem G_zald {β : Type} {f : Int32 → Option β} {r : β} {k n : Nat} {i : Int32} (X : Cx θ strs cc nL own fr lo) (hd : decode cc pc = .ok (.baload, 1)) (hs : w.1[k]? = some (.inr (.inl (1, n)))) (h : ald σ k n i f = some r) (kk : ∀ v, f v = some r → G θ cs w σ (pc + 1) L (.int v :: S)) : G θ cs w σ pc L (.int i :: .ref (w.2 k) :: S) := by
  obtain ⟨p, l, e, R, s, m, args, below, meth, c, A, D, cA, Q⟩ := θ
  obtain ⟨hx, hb, hml, hown, hts, hlk, hA, hK, hfr, hlo⟩ := X
  intro H locs ls hl' hP hD hS
  unfold ald at h
  split at h
  next hin => exact va_zald (tys := g_tys cA) (t0 := 1) hx hb hK.1 hP k (g_getZ hs) rfl (inb_vp hin) hd (kk _ h H locs ls hl' hP hD hS)
  next => cases h
theorem G_iast {β : Type} {f : St → Option β} {r : β} {k n : Nat} {i v : Int32} (X : Cx θ strs cc nL own fr lo) (hd : decode cc pc = .ok (.iastore, 1)) (hs : w.1[k]? = some (.inr (.inl (0, n)))) (h : ast σ k n i v f = some r) (kk : ∀ σ', f σ' = some r → G θ cs w σ' (pc + 1) L S) : G θ cs w σ pc L (.int v :: .int i :: .ref (w.2 k) :: S) := by
  obtain ⟨p, l, e, R, s, m, args, below, meth, c, A, D, cA, Q⟩ := θ
  obtain ⟨hx, hb, hml, hown, hts, hlk, hA, hK, hfr, hlo⟩ := X
  intro H locs ls hl' hP hD hS
  unfold ast at h
  split at h
  next hin =>
    refine va_iast (tys := g_tys cA) (t0 := 0) hx hb hK.1 hP hD hS k (g_getI hs) rfl (inb_vp hin) hd (fun H1 locs1 hP1 hD1 hS1 => ?_)
    rw [g_setI hs] at hP1 hD1
    exact kk _ h H1 locs1 ls hl' hP1 hD1 hS1
  next => cases h
theorem G_zast {β : Type} {f : St → Option β} {r : β} {k n : Nat} {i v : Int32} (X : Cx θ strs cc nL own fr lo) (hd : decode cc pc = .ok (.bastore, 1)) (hs : w.1[k]? = some (.inr (.inl (1, n)))) (h : asz σ k n i v f = some r) (kk : ∀ σ', f σ' = some r → G θ cs w σ' (pc + 1) L S) : G θ cs w σ pc L (.int v :: .int i :: .ref (w.2 k) :: S) := by
  obtain ⟨p, l, e, R, s, m, args, below, meth, c, A, D, cA, Q⟩ := θ
  obtain ⟨hx, hb, hml, hown, hts, hlk, hA, hK, hfr, hlo⟩ := X
  intro H locs ls hl' hP hD hS
  unfold asz at h
  split at h
  next hin =>
    refine va_zast (tys := g_tys cA) (t0 := 1) hx hb hK.1 hP hD hS k (g_getZ hs) rfl (inb_vp hin) hd (fun H1 locs1 hP1 hD1 hS1 => ?_)
    rw [g_setZ hs] at hP1 hD1
    exact kk _ h H1 locs1 ls hl' hP1 hD1 hS1
  next => cases h
theorem G_aald {k t : Nat} {ts : List (Option Nat)} {i : Int32} (X : Cx θ strs cc nL own fr lo) (hd : decode cc pc = .ok (.aaload, 1)) (hs : w.1[k]? = some (.inr (.inr ts))) (hin : inb i ts.length = true) (ht : ts[ix i]? = some (some t)) (kk : G θ cs w σ (pc + 1) L (.ref (w.2 t) :: S)) : G θ cs w σ pc L (.int i :: .ref (w.2 k) :: S) := by
  obtain ⟨p, l, e, R, s, m, args, below, meth, c, A, D, cA, Q⟩ := θ
  obtain ⟨hx, hb, hml, hown, hts, hlk, hA, hK, hfr, hlo⟩ := X
  intro H locs ls hl' hP hD hS
  refine va_aldq (tys := g_tys cA) (t0 := 3) (C := "Quasigrove$Grid") hx hb hK.1 hP k (g_getQ hs) rfl (inb_vp hin) hd ?_
  have hg : va_rf ((ts.getD i.toNatClampNeg none).map w.2) = .ref (w.2 t) := by
    have : ts.getD i.toNatClampNeg none = some t := by rw [List.getD_eq_getElem?_getD]; rw [show ts[i.toNatClampNeg]? = some (some t) from ht]; rfl
    rw [this]; rfl
  rw [hg]
  exact kk H locs ls hl' hP hD hS
theorem G_alen {k n kd : Nat} (v : Int32) (X : Cx θ strs cc nL own fr lo) (hd : decode cc pc = .ok (.arraylength, 1)) (hs : w.1[k]? = some (.inr (.inl (kd, n)))) (hkd : kd < 2) (hv : Int32.ofNat n = v) (kk : G θ cs w σ (pc + 1) L (.int v :: S)) : G θ cs w σ pc L (.ref (w.2 k) :: S) := by
  obtain ⟨p, l, e, R, s, m, args, below, meth, c, A, D, cA, Q⟩ := θ
  obtain ⟨hx, hb, hml, hown, hts, hlk, hA, hK, hfr, hlo⟩ := X
  intro H locs ls hl' hP hD hS
  match kd, hkd with
  | 0, _ => exact va_alen (tys := g_tys cA) (t0 := 0) (ty := .int) (x := (n, .inl (σ k))) hx hb hK.1 hP k (g_getI hs) rfl hv hd (kk H locs ls hl' hP hD hS)
  | 1, _ => exact va_alen (tys := g_tys cA) (t0 := 1) (ty := .boolean) (x := (n, .inl (σ k))) hx hb hK.1 hP k (g_getZ hs) rfl hv hd (kk H locs ls hl' hP hD hS)
theorem G_alenQ {k : Nat} {ts : List (Option Nat)} (v : Int32) (X : Cx θ strs cc nL own fr lo) (hd : decode cc pc = .ok (.arraylength, 1)) (hs : w.1[k]? = some (.inr (.inr ts))) (hv : Int32.ofNat ts.length = v) (kk : G θ cs w σ (pc + 1) L (.int v :: S)) : G θ cs w σ pc L (.ref (w.2 k) :: S) := by
  obtain ⟨p, l, e, R, s, m, args, below, meth, c, A, D, cA, Q⟩ := θ
  obtain ⟨hx, hb, hml, hown, hts, hlk, hA, hK, hfr, hlo⟩ := X
  intro H locs ls hl' hP hD hS
  exact va_alen (tys := g_tys cA) (t0 := 3) (ty := .object "Quasigrove$Grid") hx hb hK.1 hP k (g_getQ hs) rfl hv hd (kk H locs ls hl' hP hD hS)
/-! the end of a walk -/
theorem G_iret {r : Int32} {σ' : St} {v : Int32} (X : Cx θ strs cc nL own fr lo) (hq : Rq θ w (some .int) (some (.int r)) σ') (hd : decode cc pc = .ok (.ireturn, 1)) (h : some (v, σ) = some (r, σ')) : G θ (0, 0) w σ pc L [.int v] := by
  obtain ⟨p, l, e, R, s, m, args, below, meth, c, A, D, cA, Q⟩ := θ
  obtain ⟨hx, hb, hml, hown, hts, hlk, hA, hK, hfr, hlo⟩ := X
  obtain ⟨hr, rfl⟩ := hq
  intro H locs ls hl' hP hD hS
  cases h
  exact W.iret hx hb hr (fun t ht hW => ⟨rfl, by rw [ht]; exact hP, hS.F ht⟩) hS.2.2 hd
theorem G_iretp {r : Int32} {v : Int32} (X : Cx θ strs cc nL own fr lo) (hq : Rq θ w (some .int) (some (.int r)) σ) (hd : decode cc pc = .ok (.ireturn, 1)) (h : some v = some r) : G θ (0, 0) w σ pc L [.int v] := by
  cases h
  exact G_iret X hq hd rfl
theorem W.zret' {p : Program} {l : Launch} {e : Env} {R : Room} {s : State} {m : MethodId} {args : Array Value} {below : List Frame} {meth : Method} {c : Code} {H : Heap} {locs : List Loc} {cells slots : Nat} {cc : ByteArray} {Qc : Array Value → State → Outcome → State → Prop} {free : Addr → Prop} {v v' : Int32} {ty : FieldType} (hexec : p.tables.exec = Jvm.exec) (hb : c.code = cc) (hr : meth.sig.returnType = some ty) (hn : narrow ty (.int v) = .int v')
    (hq : ∀ t : State, t.heap = H → s.WarmedH t.vm → Qc args s (.returned (some (.int v'))) t) (hf : ∀ q ∈ locs, free q.base)
    {pc : Nat} {ls : Array Slot} (hdg : decode cc pc = .ok (.ireturn, 1)) (hlocks : meth.locks = false) : W p l e R s m args below meth c H locs cells slots (MQ below Qc args s cells slots free) (F0 m pc ls [.int v]) := by
  intro T hT X
  obtain ⟨fs, hret, hrun, hended, hW, hframe⟩ := X.leave (v := some (.int v')) (fun h => by rw [hr] at h; cases h)
  have hmeth' : T.vm.method? m = some meth := X.method'
  refine ⟨T.setFrames fs, ?_, .returned (some (.int v')), hrun, hended, hq _ hT hW, locs, ⟨⟨_, rfl⟩, hW, hframe⟩, hf⟩
  jvm_step X.here [X.here.top, hexec, hb, hdg, hmeth', hr, hn]
  (try refine ⟨rfl, ?_⟩); (try refine ⟨rfl, ?_⟩)
  first | (intro acts; rw [hret _ acts rfl rfl rfl]) | rw [hret _ _ rfl rfl rfl]
  exact Steps.refl _
theorem zb_nar (v : Int32) : narrow .boolean (.int v) = .int (zb v) := by
  simp only [zb, vp_nar]
  cases h : narrow .boolean (.int v) <;> simp [narrow] at h ⊢
theorem G_zret {r : Int32} {σ' : St} {v : Int32} (X : Cx θ strs cc nL own fr lo) (hq : Rq θ w (some .boolean) (some (.int r)) σ') (hd : decode cc pc = .ok (.ireturn, 1)) (h : some (zb v, σ) = some (r, σ')) : G θ (0, 0) w σ pc L [.int v] := by
  obtain ⟨p, l, e, R, s, m, args, below, meth, c, A, D, cA, Q⟩ := θ
  obtain ⟨hx, hb, hml, hown, hts, hlk, hA, hK, hfr, hlo⟩ := X
  obtain ⟨hr, rfl⟩ := hq
  intro H locs ls hl' hP hD hS
  cases h
  exact W.zret' hx hb hr (zb_nar v) (fun t ht hW => ⟨rfl, by rw [ht]; exact hP, hS.F ht⟩) hS.2.2 hd hlk
theorem G_zretp {r : Int32} {v : Int32} (X : Cx θ strs cc nL own fr lo) (hq : Rq θ w (some .boolean) (some (.int r)) σ) (hd : decode cc pc = .ok (.ireturn, 1)) (h : some (zb v) = some r) : G θ (0, 0) w σ pc L [.int v] := by
  cases h
  exact G_zret X hq hd rfl
theorem G_vret {σ' : St} (X : Cx θ strs cc nL own fr lo) (hq : Rq θ w none none σ') (hd : decode cc pc = .ok (.return_, 1)) (h : some ((), σ) = some ((), σ')) : G θ (0, 0) w σ pc L [] := by
  obtain ⟨p, l, e, R, s, m, args, below, meth, c, A, D, cA, Q⟩ := θ
  obtain ⟨hx, hb, hml, hown, hts, hlk, hA, hK, hfr, hlo⟩ := X
  obtain ⟨hr, rfl⟩ := hq
  intro H locs ls hl' hP hD hS
  cases h
  exact W.vret hx hb hr (fun t ht hW => ⟨rfl, by rw [ht]; exact hP, hS.F ht⟩) hS.2.2 hd
theorem G_aret {k k' : Nat} {C : String} {σ' : St} (X : Cx θ strs cc nL own fr lo) (hq : Rq θ w (some (.object C)) (some (.ref (w.2 k'))) σ') (hd : decode cc pc = .ok (.areturn, 1)) (h : some (k, σ) = some (k', σ')) : G θ (0, 0) w σ pc L [.ref (w.2 k)] := by
  obtain ⟨p, l, e, R, s, m, args, below, meth, c, A, D, cA, Q⟩ := θ
  obtain ⟨hx, hb, hml, hown, hts, hlk, hA, hK, hfr, hlo⟩ := X
  obtain ⟨hr, rfl⟩ := hq
  intro H locs ls hl' hP hD hS
  cases h
  exact W.aret hx hb hr (Or.inl ⟨C, rfl⟩) (Or.inr ⟨_, rfl⟩) (fun t ht hW => ⟨rfl, by rw [ht]; exact hP, hS.F ht⟩) hS.2.2 hd
end GH
end
section
section GC
variable {θ : Th} {cs : Nat × Nat} {w : Wd} {σ σ1 : St} {pc : Nat} {L : LV} {S : List Value} {strs strs' : List (String × Nat × String)} {cc : ByteArray} {nL : Nat} {own : String} {fr lo : Nat}
theorem g_go {p : Program} {l : Launch} {e : Env} {R : Room} {s : State} {m : MethodId} {args : Array Value} {below : List Frame} {meth : Method} {c : Code} {H : Heap} {locs : List Loc} {cells slots : Nat} {Q : State → Prop} {D : va_G} {cA : Nat → ClassId} {A : Nat → Prop} {v : Option Value} {a : Array Value} {ls : Array Slot} {st0 rest : List Value}
    (hr : va_Run p l e R s m args below meth c H locs cells slots 0 0 (F0 m pc ls st0) rest (g_Qc D cA A w v σ1 a) A) (hS : va_S A s.heap H locs)
    (kk : ∀ (H1 : Heap) (locs1 : List Loc), va_P D vwCl (g_ws cA w σ1) H1 → va_S A s.heap H1 locs1 → W p l e R s m args below meth c H1 locs1 cells slots Q (F0 m (pc + 3) ls (v.toList ++ rest))) : W p l e R s m args below meth c H locs cells slots Q (F0 m pc ls st0) := by
  intro T hT X
  obtain ⟨v', st₀, t, T', L9, h0, X', hL, e1, e2, ⟨hv, hp, hz, hk⟩, st⟩ := hr T hT X
  cases hv
  rw [h0] at hz hk
  obtain ⟨t2, a1, b1⟩ := kk T'.heap (locs ++ L9) (by rw [e1]; exact hp)
    ⟨Nat.le_trans hS.1 (by rw [e1]; exact hz), fun q h1 h2 => by rw [e1, hk q (Nat.lt_of_lt_of_le h1 hS.1) h2]; exact hS.2.1 q h1 h2, fun q hq => by
      rcases List.mem_append.mp hq with h | h
      · exact hS.2.2 q h
      · exact hL q h⟩ T' rfl X'
  exact ⟨t2, st t2 a1, b1⟩
/-- a callee: its words -/
def CBd (y : MethodName) (cy : ByteArray) (maxL : Nat) (ret : Option FieldType) (n : Nat) : Prop := Cond.code y cy maxL ret ∈ g_GW ∧ Cond.initialized y.cls ∈ g_GW ∧ (y.cls ≠ "java/lang/invoke/MethodHandle" ∧ y.cls ≠ "java/lang/invoke/VarHandle" ∧ (parseMethodDescriptor y.desc).map (fun d => d.parameters.length) = some n)
def CBv (y : MethodName) : Prop := Cond.instanceMethod y ∈ g_GW ∧ Cond.selects y.cls y y ∈ g_GW
def Rc (θ : Th) (cs : Nat × Nat) : Prop := match θ with
  | (p, l, e, R, s, m, args, below, meth, c, A, D, cA, Q) => cs.1 ≤ R.cells ∧ cs.2 ≤ R.slots
theorem Rc0 {θ : Th} : Rc θ (0, 0) := by
  obtain ⟨p, l, e, R, s, m, args, below, meth, c, A, D, cA, Q⟩ := θ
  exact ⟨Nat.zero_le _, Nat.zero_le _⟩
theorem Kx.less {D : va_G} {cA : Nat → ClassId} {A : Nat → Prop} {U : State} {H : Heap} (hsub : ∀ q ∈ strs', q ∈ strs) (h : Kx D cA strs A U H) : Kx D cA strs' A U H := ⟨h.1, h.2.1, h.2.2.1, fun q hq => h.2.2.2 q (hsub q hq)⟩
theorem g_pre {D : va_G} {cA : Nat → ClassId} {A : Nat → Prop} {s U : State} {H : Heap} {locs : List Loc} (hsub : ∀ q ∈ strs', q ∈ strs) (hK : Kx D cA strs A s s.heap) (hP : va_P D vwCl (g_ws cA w σ) H) (hD : va_D A (g_ws cA w σ)) (hS : va_S A s.heap H locs) (hU : U.heap = H) (hW : s.WarmedH U.vm) : g_B D cA strs' A w σ H.size U := by
  refine ⟨by rw [hU], by rw [hU]; exact hP, hD, ?_⟩
  rw [hU]
  exact Kx.warm hW (Kx.less hsub hK) (fun a ha hna => hS.2.1 a ha hna)
theorem G_callV {y : MethodName} {cy : ByteArray} {maxL : Nat} {ret : Option FieldType} {idx n fr' lo' k ci N : Nat} {fl : List (Option (Option Nat))} {T : u_T} {v : Option Value} (As : List Value) (hsub : ∀ q ∈ strs', q ∈ strs) (X : Cx θ strs cc nL own fr lo) (hd : decode cc pc = .ok (.invokevirtual idx, 3)) (hc : CBd y cy maxL ret n) (hv : CBv y) (hl : Cond.methodLink own idx y ∈ g_GW)
    (hR : Rt θ.2.1 strs' y cy maxL ret fr' lo' w (.ref (w.2 k) :: As) σ v σ1) (hn : As.length = n) (hroom : fr' + 1 ≤ fr ∧ 8 + (maxL + 11) + lo' ≤ lo) (hs : w.1[k]? = some (.inl (ci, fl))) (hC : vwCl[ci]? = some (y.cls, T, N)) (hS8 : (S.map fun v => v.category).sum ≤ 8) (hcs : Rc θ cs)
    (kk : G θ cs w σ1 (pc + 3) L (v.toList ++ S)) : G θ cs w σ pc L (As.reverse ++ .ref (w.2 k) :: S) := by
  obtain ⟨p, l, e, R, s, m, args, below, meth, c, A, D, cA, Q⟩ := θ
  obtain ⟨hx, hb, hml, hown, hts, hlk, hA, hK, hfr, hlo⟩ := X
  obtain ⟨c1, c2, c3⟩ := hc
  intro H locs ls hl' hP hD hS
  have hcw : CallW R s args own y.cls idx y cy maxL ret (Cond.code y cy maxL ret :: g_GW) { frames := fr', cells := 0, slots := 0, locals := lo' } 0 0 n :=
    ⟨callB_of n hts (g_goodIn c1) rfl rfl rfl (hts _ c2) (hts _ hl) c3 ⟨Nat.le_trans hroom.1 hfr, Nat.le_trans hroom.2 hlo⟩, hts _ hv.1, hts _ hv.2⟩
  refine g_go (a := (Value.ref (w.2 k) :: As).toArray) (va_runV (As := As) (rest := S) ⟨hx, hb, hml, hown, hts⟩ (hR A D cA H.size (fun q hq => hA q (Nat.le_trans hS.1 hq))) hcw ⟨g_blind, va_recv hK.1 hP hC (g_getO hs), fun U hU hW => ⟨rfl, g_pre hsub hK hP hD hS hU hW⟩⟩ rfl hn (by rw [← hml]; exact hl'.1) rfl (lv_room hS8) hd ⟨hcs.1, hcs.2⟩) hS (fun H1 locs1 hP1 hS1 => ?_)
  exact kk H1 locs1 ls hl' hP1 (g_D hD) hS1
theorem G_callVN {y : MethodName} {host : String} {cy : ByteArray} {maxL : Nat} {ret : Option FieldType} {idx n fr' lo' k ci N : Nat} {fl : List (Option (Option Nat))} {T : u_T} {v : Option Value} (As : List Value) (hsub : ∀ q ∈ strs', q ∈ strs) (X : Cx θ strs cc nL own fr lo) (hd : decode cc pc = .ok (.invokevirtual idx, 3)) (hc : CBd y cy maxL ret n) (hv : CBv y) (hl : Cond.methodLinkNest own idx y host ∈ g_NW)
    (hR : Rt θ.2.1 strs' y cy maxL ret fr' lo' w (.ref (w.2 k) :: As) σ v σ1) (hn : As.length = n) (hroom : fr' + 1 ≤ fr ∧ 8 + (maxL + 11) + lo' ≤ lo) (hs : w.1[k]? = some (.inl (ci, fl))) (hC : vwCl[ci]? = some (y.cls, T, N)) (hS8 : (S.map fun v => v.category).sum ≤ 8) (hcs : Rc θ cs)
    (kk : G θ cs w σ1 (pc + 3) L (v.toList ++ S)) : G θ cs w σ pc L (As.reverse ++ .ref (w.2 k) :: S) := by
  obtain ⟨p, l, e, R, s, m, args, below, meth, c, A, D, cA, Q⟩ := θ
  obtain ⟨hx, hb, hml, hown, hts, hlk, hA, hK, hfr, hlo⟩ := X
  obtain ⟨c1, c2, c3⟩ := hc
  intro H locs ls hl' hP hD hS
  have hcw : va_CN R s args own idx y host cy maxL ret (Cond.code y cy maxL ret :: g_GW) { frames := fr', cells := 0, slots := 0, locals := lo' } 0 0 n ∧ (Cond.instanceMethod y).before args s = true ∧ (Cond.selects y.cls y y).before args s = true :=
    ⟨va_cnB n hts (g_goodIn c1) rfl rfl rfl (hK.2.1 _ hl) (hts _ c2) c3 ⟨Nat.le_trans hroom.1 hfr, Nat.le_trans hroom.2 hlo⟩, hts _ hv.1, hts _ hv.2⟩
  refine g_go (a := (Value.ref (w.2 k) :: As).toArray) (va_runVN (As := As) (rest := S) ⟨hx, hb, hml, hown, hts⟩ (hR A D cA H.size (fun q hq => hA q (Nat.le_trans hS.1 hq))) hcw ⟨g_blind, va_recv hK.1 hP hC (g_getO hs), fun U hU hW => ⟨rfl, g_pre hsub hK hP hD hS hU hW⟩⟩ rfl hn (by rw [← hml]; exact hl'.1) rfl (lv_room hS8) hd ⟨hcs.1, hcs.2⟩) hS (fun H1 locs1 hP1 hS1 => ?_)
  exact kk H1 locs1 ls hl' hP1 (g_D hD) hS1
theorem G_callS {y : MethodName} {cy : ByteArray} {maxL : Nat} {ret : Option FieldType} {idx n fr' lo' : Nat} {v : Option Value} (As : List Value) (hsub : ∀ q ∈ strs', q ∈ strs) (X : Cx θ strs cc nL own fr lo) (hd : decode cc pc = .ok (.invokestatic idx, 3)) (hc : CBd y cy maxL ret n) (hv : Cond.static y ∈ g_GW) (hl : Cond.methodLink own idx y ∈ g_GW)
    (hR : Rt θ.2.1 strs' y cy maxL ret fr' lo' w As σ v σ1) (hn : As.length = n) (hroom : fr' + 1 ≤ fr ∧ 8 + (maxL + 11) + lo' ≤ lo) (hS8 : (S.map fun v => v.category).sum ≤ 8) (hcs : Rc θ cs)
    (kk : G θ cs w σ1 (pc + 3) L (v.toList ++ S)) : G θ cs w σ pc L (As.reverse ++ S) := by
  obtain ⟨p, l, e, R, s, m, args, below, meth, c, A, D, cA, Q⟩ := θ
  obtain ⟨hx, hb, hml, hown, hts, hlk, hA, hK, hfr, hlo⟩ := X
  obtain ⟨c1, c2, c3⟩ := hc
  intro H locs ls hl' hP hD hS
  have hcw : CallB R s args own idx y cy maxL ret (Cond.code y cy maxL ret :: g_GW) { frames := fr', cells := 0, slots := 0, locals := lo' } 0 0 n ∧ (Cond.static y).before args s = true :=
    ⟨callB_of n hts (g_goodIn c1) rfl rfl rfl (hts _ c2) (hts _ hl) c3 ⟨Nat.le_trans hroom.1 hfr, Nat.le_trans hroom.2 hlo⟩, hts _ hv⟩
  refine g_go (a := As.toArray) (va_runS (As := As) (rest := S) ⟨hx, hb, hml, hown, hts⟩ (hR A D cA H.size (fun q hq => hA q (Nat.le_trans hS.1 hq))) hcw ⟨g_blind, fun U hU hW => ⟨rfl, g_pre hsub hK hP hD hS hU hW⟩⟩ rfl hn (by rw [← hml]; exact hl'.1) rfl (lv_room hS8) hd ⟨hcs.1, hcs.2⟩) hS (fun H1 locs1 hP1 hS1 => ?_)
  exact kk H1 locs1 ls hl' hP1 (g_D hD) hS1
theorem G_callSN {y : MethodName} {host : String} {cy : ByteArray} {maxL : Nat} {ret : Option FieldType} {idx n fr' lo' : Nat} {v : Option Value} (As : List Value) (hsub : ∀ q ∈ strs', q ∈ strs) (X : Cx θ strs cc nL own fr lo) (hd : decode cc pc = .ok (.invokestatic idx, 3)) (hc : CBd y cy maxL ret n) (hv : Cond.static y ∈ g_GW) (hl : Cond.methodLinkNest own idx y host ∈ g_NW)
    (hR : Rt θ.2.1 strs' y cy maxL ret fr' lo' w As σ v σ1) (hn : As.length = n) (hroom : fr' + 1 ≤ fr ∧ 8 + (maxL + 11) + lo' ≤ lo) (hS8 : (S.map fun v => v.category).sum ≤ 8) (hcs : Rc θ cs)
    (kk : G θ cs w σ1 (pc + 3) L (v.toList ++ S)) : G θ cs w σ pc L (As.reverse ++ S) := by
  obtain ⟨p, l, e, R, s, m, args, below, meth, c, A, D, cA, Q⟩ := θ
  obtain ⟨hx, hb, hml, hown, hts, hlk, hA, hK, hfr, hlo⟩ := X
  obtain ⟨c1, c2, c3⟩ := hc
  intro H locs ls hl' hP hD hS
  have hcw : va_CN R s args own idx y host cy maxL ret (Cond.code y cy maxL ret :: g_GW) { frames := fr', cells := 0, slots := 0, locals := lo' } 0 0 n ∧ (Cond.static y).before args s = true ∧ True :=
    ⟨va_cnB n hts (g_goodIn c1) rfl rfl rfl (hK.2.1 _ hl) (hts _ c2) c3 ⟨Nat.le_trans hroom.1 hfr, Nat.le_trans hroom.2 hlo⟩, hts _ hv, trivial⟩
  refine g_go (a := As.toArray) (va_runSN (As := As) (rest := S) ⟨hx, hb, hml, hown, hts⟩ (hR A D cA H.size (fun q hq => hA q (Nat.le_trans hS.1 hq))) hcw ⟨g_blind, fun U hU hW => ⟨rfl, g_pre hsub hK hP hD hS hU hW⟩⟩ rfl hn (by rw [← hml]; exact hl'.1) rfl (lv_room hS8) hd ⟨hcs.1, hcs.2⟩) hS (fun H1 locs1 hP1 hS1 => ?_)
  exact kk H1 locs1 ls hl' hP1 (g_D hD) hS1
end GC
end
section
/-! methods that throw -/
def g_xn (e : Nat) : String := match e with
  | 1 => "java/lang/IndexOutOfBoundsException"
  | 2 => "java/lang/IllegalArgumentException"
  | _ => "java/lang/IllegalStateException"
def g_XC (D : va_G) (cA : Nat → ClassId) (A : Nat → Prop) (w : Wd) (x : String) (σ : St) : String → State → State → Prop := fun E st t => E = x ∧ va_P D vwCl (g_ws cA w σ) t.heap ∧ va_F A st t
def g_no : Array Value → State → Outcome → State → Prop := fun _ _ _ _ => False
/-- method y, from σ on the arguments av: throws x, and leaves σ' -/
def Tx (l : Launch) (strs : List (String × Nat × String)) (y : MethodName) (cc : ByteArray) (maxL : Nat) (ret : Option FieldType) (fr lo : Nat) (w : Wd) (av : List Value) (σ : St) (x : String) (σ' : St) : Prop :=
  ∀ (A : Nat → Prop) (D : va_G) (cA : Nat → ClassId) (sz : Nat), (∀ q, sz ≤ q → A q) →
    vx_Met l y (Cond.code y cc maxL ret :: g_GW) { frames := fr, cells := 1, slots := 6, locals := lo } (va_Pc av (g_B D cA strs A w σ sz)) g_no (g_XC D cA A w x σ') 1 6 A
def Tq (θ : Th) (w : Wd) (x : String) (σ : St) : Prop := match θ with
  | (p, l, e, R, s, m, args, below, meth, c, A, D, cA, Q) => l.stackTraces = false ∧ 1 ≤ R.cells ∧ 6 ≤ R.slots ∧ (∀ x ∈ c.exceptionTable.toList, False) ∧ Q = vx_MQ below g_no (g_XC D cA A w x σ) args s 1 6 A
theorem Tx.intro {l : Launch} {strs : List (String × Nat × String)} {y : MethodName} {cc : ByteArray} {maxL : Nat} {ret : Option FieldType} {fr lo : Nat} {w : Wd} {av : List Value} {σ : St} {x : String} {σ' : St} {L : LV} (htr : l.stackTraces = false)
    (hy : plainName y.cls = true) (hn : (lg_sl av).length ≤ maxL) (hL : g_pairs L = lv_args 0 av)
    (body : ∀ θ : Th, θ.2.1 = l → Cx θ strs cc maxL y.cls fr lo → Tq θ w x σ' → G θ (0, 0) w σ 0 L []) : Tx l strs y cc maxL ret fr lo w av σ x σ' := by
  intro A D cA sz hA
  refine vx_ofW (cc := cc) (maxL := maxL) (ret := ret) hy rfl ?_
  intro p e s m args below meth c s₁ B hml htab hv
  obtain ⟨rfl, hsz, hP, hD, hK⟩ := hv
  have hts := atoms_spec (ws := Cond.code y cc maxL ret :: g_GW) B.pre
  have hown : s.vm.findClass y.cls = some m.cls := findClass_of_methodNamed B.named
  subst hsz
  have hb := body (p, l, e, (headSpec (Cond.code y cc maxL ret :: g_GW) { frames := fr, cells := 1, slots := 6, locals := lo }).room, s, m, av.toArray, below, meth, c, A, D, cA, vx_MQ below g_no (g_XC D cA A w x σ') av.toArray s 1 6 A) rfl
    ⟨B.exec, B.bytes, hml, hown, fun w hw => hts w (List.mem_cons_of_mem _ hw), B.notSynchronized, hA, hK, Nat.le_refl _, Nat.le_refl _⟩ ⟨htr, Nat.le_refl _, Nat.le_refl _, htab, rfl⟩
  rw [lg_entry_eq]
  exact hb s.heap [] _ (by rw [hml]; exact LH.entry av hn hL) hP hD va_S.rf
section GT
variable {θ : Th} {cs : Nat × Nat} {w : Wd} {σ σ1 : St} {pc : Nat} {L : LV} {S : List Value} {strs strs' : List (String × Nat × String)} {cc : ByteArray} {nL : Nat} {own : String} {fr lo : Nat}
/-- the words of a throw statement -/
def TW (own cls : String) (ik ic : Nat) (names : List String) : Prop := Bundle.fit cls = true ∧ (∀ n ∈ names, Bundle.fit n = true) ∧ Cond.classLink own ik cls ∈ g_GW ∧ Cond.initialized cls ∈ g_GW ∧ (vx_atS own ic cls names).all (fun w => decide (w ∈ g_GW) || decide (w ∈ g_NW)) = true ∧ (Cond.classLink own ik cls :: Cond.initialized cls :: vx_atS own ic cls names).all vx_ot = true
theorem G_throw {cls text : String} {names : List String} {ik is ic : Nat} (X : Cx θ strs cc nL own fr lo) (hq : Tq θ w cls σ) (tw : TW own cls ik ic names) (hstr : (own, is, text) ∈ strs)
    (d0 : decode cc pc = .ok (.new ik, 3)) (d3 : decode cc (pc + 3) = .ok (.dup, 1)) (d4 : decode cc (pc + 4) = .ok (.ldc_w is, 3)) (d7 : decode cc (pc + 7) = .ok (.invokespecial ic, 3)) (d10 : decode cc (pc + 10) = .ok (.athrow, 1))
    (hRf : names.length + 3 < fr) (hRl : (S.map fun v => v.category).sum + (13 * (names.length + 1) + 43) ≤ lo) : G θ (0, 0) w σ pc L S := by
  obtain ⟨p, l, e, R, s, m, args, below, meth, c, A, D, cA, Q⟩ := θ
  obtain ⟨hx, hb, hml, hown, hts, hlk, hA, hK, hfr, hlo⟩ := X
  obtain ⟨htr, hR1, hR2, htab, rfl⟩ := hq
  obtain ⟨t1, t2, t3, t4, t5, t6⟩ := tw
  intro H locs ls hl' hP hD hS
  obtain ⟨sa, hsa⟩ := hK.2.2.2 _ hstr
  refine vx_throwSW hx hb htr hown t1 t2 (hts _ t3) (hts _ t4) hsa ?_ (fun w hw => List.all_eq_true.mp t6 w hw) hK.2.2.1.1 hK.2.2.1.2 hS hl'.1 d0 d3 d4 d7 d10 (fun x hx => (htab x hx).elim) (Nat.lt_of_lt_of_le hRf hfr) (Nat.le_trans hRl hlo) hR1 hR2 hlk ?_ hS.2.2 (Nat.le_refl _) (Nat.le_refl _)
  · intro w hw
    have := List.all_eq_true.mp t5 w hw
    simp only [Bool.or_eq_true, decide_eq_true_eq] at this
    rcases this with h | h
    · exact hts _ h
    · exact g_nw hK.2.1 h
  · intro t hvm hsz hkeep
    refine ⟨rfl, ?_, ?_⟩
    · intro k q hk
      exact (hP k q hk).kept (hkeep _ (hP k q hk).lt)
    · refine ⟨Nat.le_trans hS.1 hsz, fun q h1 h2 => ?_⟩
      rw [hkeep q (Nat.lt_of_lt_of_le h1 hS.1)]
      exact hS.2.1 q h1 h2
theorem g_thrown {p : Program} {l : Launch} {e : Env} {R : Room} {s : State} {m : MethodId} {args : Array Value} {below : List Frame} {meth : Method} {c : Code} {H : Heap} {locs : List Loc} {D : va_G} {cA : Nat → ClassId} {A : Nat → Prop} {a : Array Value} {ls : Array Slot} {st0 rest : List Value} {x : String} (htab : ∀ x ∈ c.exceptionTable.toList, False) (hlk : meth.locks = false)
    (hr : vx_Run p l e R s m args below meth c H locs 0 0 1 6 (F0 m pc ls st0) rest (g_no a) (g_XC D cA A w x σ1) A) (hS : va_S A s.heap H locs) : W p l e R s m args below meth c H locs 0 0 (vx_MQ below g_no (g_XC D cA A w x σ1) args s 1 6 A) (F0 m pc ls st0) := by
  intro T hT X
  rcases hr T hT X with ⟨v, st₀, t, T', L9, h0, X', hL, e1, e2, hno, st⟩ | ⟨q, st₀, t, T', L9, E, ce, h0, X', hL, e1, e2, ⟨hE, hp, hF⟩, hce, hcv, hcl, st⟩
  · exact hno.elim
  · obtain ⟨k1, k2, k3⟩ := vx_keep h0 e1 hS (fun _ _ h => h) (fun _ h => h) hL hF
    obtain ⟨t2, a1, b1⟩ := vx_out (Qc := g_no) (XC := g_XC D cA A w x σ1) (args := args) (below := below) (rest := rest) (ls := ls) (pc := pc) (m := m) (mc := 1) (ms := 6) (free := A) (fun x hx => (htab x hx).elim) hlk (H := T'.heap) (by rw [e1]; exact hce) hcv hcl
      (fun t' ht' _ => ⟨hE, by rw [ht', e1]; exact hp, ⟨by rw [ht']; exact k3.1, fun q h1 h2 => by rw [ht']; exact k3.2.1 q h1 h2⟩⟩) k3.2.2 (Nat.le_refl _) (Nat.le_refl _) T' rfl X'
    exact ⟨t2, st.trans a1, b1⟩
theorem G_callSX {y : MethodName} {cy : ByteArray} {maxL : Nat} {ret : Option FieldType} {idx n fr' lo' : Nat} {x : String} (As : List Value) (hsub : ∀ q ∈ strs', q ∈ strs) (X : Cx θ strs cc nL own fr lo) (hq : Tq θ w x σ1) (hd : decode cc pc = .ok (.invokestatic idx, 3)) (hc : CBd y cy maxL ret n) (hv : Cond.static y ∈ g_GW) (hl : Cond.methodLink own idx y ∈ g_GW)
    (hR : Tx θ.2.1 strs' y cy maxL ret fr' lo' w As σ x σ1) (hn : As.length = n) (hroom : fr' + 1 ≤ fr ∧ 8 + (maxL + 11) + lo' ≤ lo) (hS8 : (S.map fun v => v.category).sum ≤ 8) : G θ (0, 0) w σ pc L (As.reverse ++ S) := by
  obtain ⟨p, l, e, R, s, m, args, below, meth, c, A, D, cA, Q⟩ := θ
  obtain ⟨hx, hb, hml, hown, hts, hlk, hA, hK, hfr, hlo⟩ := X
  obtain ⟨htr, hR1, hR2, htab, rfl⟩ := hq
  obtain ⟨c1, c2, c3⟩ := hc
  intro H locs ls hl' hP hD hS
  have hcw : CallB R s args own idx y cy maxL ret (Cond.code y cy maxL ret :: g_GW) { frames := fr', cells := 1, slots := 6, locals := lo' } 1 6 n ∧ (Cond.static y).before args s = true :=
    ⟨callB_of n hts (g_goodIn c1) rfl rfl rfl (hts _ c2) (hts _ hl) c3 ⟨Nat.le_trans hroom.1 hfr, Nat.le_trans hroom.2 hlo⟩, hts _ hv⟩
  exact g_thrown (a := As.toArray) htab hlk (vx_runS (As := As) (rest := S) ⟨hx, hb, hml, hown, hts⟩ (hR A D cA H.size (fun q hq => hA q (Nat.le_trans hS.1 hq))) hcw ⟨g_blind, fun U hU hW => ⟨rfl, g_pre hsub hK hP hD hS hU hW⟩⟩ rfl hn (by rw [← hml]; exact hl'.1) rfl (lv_room hS8) hd ⟨hR1, hR2⟩) hS
theorem G_callVX {y : MethodName} {cy : ByteArray} {maxL : Nat} {ret : Option FieldType} {idx n fr' lo' k ci N : Nat} {fl : List (Option (Option Nat))} {T : u_T} {x : String} (As : List Value) (hsub : ∀ q ∈ strs', q ∈ strs) (X : Cx θ strs cc nL own fr lo) (hq : Tq θ w x σ1) (hd : decode cc pc = .ok (.invokevirtual idx, 3)) (hc : CBd y cy maxL ret n) (hv : CBv y) (hl : Cond.methodLink own idx y ∈ g_GW)
    (hR : Tx θ.2.1 strs' y cy maxL ret fr' lo' w (.ref (w.2 k) :: As) σ x σ1) (hn : As.length = n) (hroom : fr' + 1 ≤ fr ∧ 8 + (maxL + 11) + lo' ≤ lo) (hs : w.1[k]? = some (.inl (ci, fl))) (hC : vwCl[ci]? = some (y.cls, T, N)) (hS8 : (S.map fun v => v.category).sum ≤ 8) : G θ (0, 0) w σ pc L (As.reverse ++ .ref (w.2 k) :: S) := by
  obtain ⟨p, l, e, R, s, m, args, below, meth, c, A, D, cA, Q⟩ := θ
  obtain ⟨hx, hb, hml, hown, hts, hlk, hA, hK, hfr, hlo⟩ := X
  obtain ⟨htr, hR1, hR2, htab, rfl⟩ := hq
  obtain ⟨c1, c2, c3⟩ := hc
  intro H locs ls hl' hP hD hS
  have hcw : CallW R s args own y.cls idx y cy maxL ret (Cond.code y cy maxL ret :: g_GW) { frames := fr', cells := 1, slots := 6, locals := lo' } 1 6 n :=
    ⟨callB_of n hts (g_goodIn c1) rfl rfl rfl (hts _ c2) (hts _ hl) c3 ⟨Nat.le_trans hroom.1 hfr, Nat.le_trans hroom.2 hlo⟩, hts _ hv.1, hts _ hv.2⟩
  exact g_thrown (a := (Value.ref (w.2 k) :: As).toArray) htab hlk (vx_runV (As := As) (rest := S) ⟨hx, hb, hml, hown, hts⟩ (hR A D cA H.size (fun q hq => hA q (Nat.le_trans hS.1 hq))) hcw ⟨g_blind, va_recv hK.1 hP hC (g_getO hs), fun U hU hW => ⟨rfl, g_pre hsub hK hP hD hS hU hW⟩⟩ rfl hn (by rw [← hml]; exact hl'.1) rfl (lv_room hS8) hd ⟨hR1, hR2⟩) hS
/-! both ends in one -/
def cax {α β : Type} (o : Option (Except Nat α × St)) (f : α → St → Option (Except Nat β × St)) : Option (Except Nat β × St) := match o with
  | none => none
  | some (.error e, σ) => some (.error e, σ)
  | some (.ok v, σ) => f v σ
def Xq (θ : Th) (w : Wd) (ret : Option FieldType) (x : Except Nat (Option Value)) (σ : St) : Prop := match x with
  | .ok v => Rq θ w ret v σ
  | .error e => Tq θ w (g_xn e) σ
def RX (l : Launch) (strs : List (String × Nat × String)) (y : MethodName) (cc : ByteArray) (maxL : Nat) (ret : Option FieldType) (fr lo : Nat) (w : Wd) (av : List Value) (σ : St) (x : Except Nat (Option Value)) (σ' : St) : Prop := match x with
  | .ok v => Rt l strs y cc maxL ret fr lo w av σ v σ'
  | .error e => Tx l strs y cc maxL ret fr lo w av σ (g_xn e) σ'
theorem RX.intro {l : Launch} {strs : List (String × Nat × String)} {y : MethodName} {cc : ByteArray} {maxL : Nat} {ret : Option FieldType} {fr lo : Nat} {w : Wd} {av : List Value} {σ : St} {x : Except Nat (Option Value)} {σ' : St} {L : LV} (htr : l.stackTraces = false)
    (hy : plainName y.cls = true) (hn : (lg_sl av).length ≤ maxL) (hL : g_pairs L = lv_args 0 av)
    (body : ∀ θ : Th, θ.2.1 = l → Cx θ strs cc maxL y.cls fr lo → Xq θ w ret x σ' → G θ (0, 0) w σ 0 L []) : RX l strs y cc maxL ret fr lo w av σ x σ' := by
  cases x with
  | ok v => exact Rt.intro hy hn hL body
  | error e => exact Tx.intro htr hy hn hL body
theorem cax_go {α β : Type} {o : Option (Except Nat α × St)} {f : α → St → Option (Except Nat β × St)} {x : Except Nat β} {σ' : St} {C : Prop} (h : cax o f = some (x, σ')) (ke : ∀ e, o = some (.error e, σ') → x = .error e → C) (kk : ∀ v σ1, o = some (.ok v, σ1) → f v σ1 = some (x, σ') → C) : C := by
  cases o with
  | none => cases h
  | some q =>
    obtain ⟨x', σ1⟩ := q
    cases x' with
    | error e => cases h; exact ke e rfl rfl
    | ok v => exact kk v σ1 rfl h
end GT
end
section
/-! further rules, of one piece with the functions that a program prints -/
def FU : Nat := 1000000000000000000000000000000000000000000000000
def DP : Nat := 40
def decAll (cc : ByteArray) (T : List (Nat × Instr × Nat)) : Prop := ∀ q ∈ T, decode cc q.1 = .ok (q.2.1, q.2.2)
theorem dg {cc : ByteArray} {T : List (Nat × Instr × Nat)} (h : decAll cc T) (i : Nat) {pc n : Nat} {j : Instr} (hi : T[i]? = some (pc, j, n)) : decode cc pc = .ok (j, n) := h (pc, j, n) (List.mem_of_getElem? hi)
def gid (i : Nat) : Nat := 34 + 4 * i
def gok (k : Nat) : Prop := k = 2 ∨ k = 26 ∨ k = 30 ∨ ∃ i, i < 12 ∧ k = gid i
def gld {β : Type} (i : Int32) (f : Nat → Option β) : Option β := if inb i 12 = true then f (gid (ix i)) else none
def xi (x : Except Nat Int32) : Except Nat (Option Value) := match x with
  | .ok v => .ok (some (.int v))
  | .error e => .error e
def xv (x : Except Nat Unit) : Except Nat (Option Value) := match x with
  | .ok _ => .ok none
  | .error e => .error e
def xr (ad : Nat → Nat) (x : Except Nat Nat) : Except Nat (Option Value) := match x with
  | .ok k => .ok (some (.ref (ad k)))
  | .error e => .error e
theorem nosub {strs : List (String × Nat × String)} : ∀ q ∈ ([] : List (String × Nat × String)), q ∈ strs := fun _ h => absurd h List.not_mem_nil
section GM
variable {θ : Th} {cs : Nat × Nat} {w : Wd} {σ : St} {pc : Nat} {L : LV} {S : List Value} {strs : List (String × Nat × String)} {cc : ByteArray} {nL : Nat} {own : String} {fr lo : Nat}
theorem G_getI {ci N idx k : Nat} {C : String} {T : u_T} {ty : Nat → FieldType} {fl : List (Option (Option Nat))} (j : Nat) (X : Cx θ strs cc nL own fr lo) (hd : decode cc pc = .ok (.getfield idx, 3)) (hF : FC ci C T N ty) (hl : Cond.fieldLink own idx C (T j).2.1 (T j).2.2.1 ∈ g_GW) (hT : (T j).1 = C) (hj : j < N) (hs : w.1[k]? = some (.inl (ci, fl))) (hf : fl[j]? = some none)
    (kk : G θ cs w σ (pc + 3) L (.int (σ k j) :: S)) : G θ cs w σ pc L (.ref (w.2 k) :: S) := G_get j X hd hF hl hT hj hs hf kk
theorem G_getR {ci N idx k t : Nat} {C : String} {T : u_T} {ty : Nat → FieldType} {fl : List (Option (Option Nat))} (j : Nat) (X : Cx θ strs cc nL own fr lo) (hd : decode cc pc = .ok (.getfield idx, 3)) (hF : FC ci C T N ty) (hl : Cond.fieldLink own idx C (T j).2.1 (T j).2.2.1 ∈ g_GW) (hT : (T j).1 = C) (hj : j < N) (hs : w.1[k]? = some (.inl (ci, fl))) (hf : fl[j]? = some (some (some t)))
    (kk : G θ cs w σ (pc + 3) L (.ref (w.2 t) :: S)) : G θ cs w σ pc L (.ref (w.2 k) :: S) := G_get j X hd hF hl hT hj hs hf kk
theorem G_getIN {ci N idx k : Nat} {C host : String} {T : u_T} {ty : Nat → FieldType} {fl : List (Option (Option Nat))} (j : Nat) (X : Cx θ strs cc nL own fr lo) (hd : decode cc pc = .ok (.getfield idx, 3)) (hF : FC ci C T N ty) (hl : Cond.fieldLinkNest own idx C (T j).2.1 (T j).2.2.1 host ∈ g_NW) (hT : (T j).1 = C) (hj : j < N) (hs : w.1[k]? = some (.inl (ci, fl))) (hf : fl[j]? = some none)
    (kk : G θ cs w σ (pc + 3) L (.int (σ k j) :: S)) : G θ cs w σ pc L (.ref (w.2 k) :: S) := G_getN j X hd hF hl hT hj hs hf kk
theorem G_getRN {ci N idx k t : Nat} {C host : String} {T : u_T} {ty : Nat → FieldType} {fl : List (Option (Option Nat))} (j : Nat) (X : Cx θ strs cc nL own fr lo) (hd : decode cc pc = .ok (.getfield idx, 3)) (hF : FC ci C T N ty) (hl : Cond.fieldLinkNest own idx C (T j).2.1 (T j).2.2.1 host ∈ g_NW) (hT : (T j).1 = C) (hj : j < N) (hs : w.1[k]? = some (.inl (ci, fl))) (hf : fl[j]? = some (some (some t)))
    (kk : G θ cs w σ (pc + 3) L (.ref (w.2 t) :: S)) : G θ cs w σ pc L (.ref (w.2 k) :: S) := G_getN j X hd hF hl hT hj hs hf kk
theorem G_wk {L' : LV} (k : G θ cs w σ pc L' S) (hs : lsub L' L) : G θ cs w σ pc L S := G_weak hs k
theorem G_istore_n_lt {β : Type} {f : Int32 → β} {r : β} {k4 : Fin 4} (i : Nat) {x : Int32} (X : Cx θ strs cc nL own fr lo) (hd : decode cc pc = .ok (.istore_n k4, 1)) (hi : (k4 : Nat) = i) (hn : i < nL) (ok : okSt L i = true) (h : lt1 x f = r) (k : ∀ y, f y = r → G θ cs w σ (pc + 1) (L.set i (some (.int y))) S) : G θ cs w σ pc L (.int x :: S) := G_istore_n i X hd hi hn ok (k x h)
theorem G_istore_lt {β : Type} {f : Int32 → β} {r : β} {i : Nat} {x : Int32} (X : Cx θ strs cc nL own fr lo) (hd : decode cc pc = .ok (.istore i, 2)) (hn : i < nL) (ok : okSt L i = true) (h : lt1 x f = r) (k : ∀ y, f y = r → G θ cs w σ (pc + 2) (L.set i (some (.int y))) S) : G θ cs w σ pc L (.int x :: S) := G_istore X hd hn ok (k x h)
theorem G_lstore_n_lt {β : Type} {f : Int64 → β} {r : β} {k4 : Fin 4} (i : Nat) {x : Int64} (X : Cx θ strs cc nL own fr lo) (hd : decode cc pc = .ok (.lstore_n k4, 1)) (hi : (k4 : Nat) = i) (hn : i + 1 < nL) (ok : okSt L i = true) (h : lt1 x f = r) (k : ∀ y, f y = r → G θ cs w σ (pc + 1) ((L.set i (some (.long y))).set (i + 1) none) S) : G θ cs w σ pc L (.long x :: S) := G_lstore_n i X hd hi hn ok (k x h)
theorem G_lstore_lt {β : Type} {f : Int64 → β} {r : β} {i : Nat} {x : Int64} (X : Cx θ strs cc nL own fr lo) (hd : decode cc pc = .ok (.lstore i, 2)) (hn : i + 1 < nL) (ok : okSt L i = true) (h : lt1 x f = r) (k : ∀ y, f y = r → G θ cs w σ (pc + 2) ((L.set i (some (.long y))).set (i + 1) none) S) : G θ cs w σ pc L (.long x :: S) := G_lstore X hd hn ok (k x h)
theorem G_zretl {r : Int32} {σ' : St} {v : Int32} (X : Cx θ strs cc nL own fr lo) (hq : Rq θ w (some .boolean) (some (.int r)) σ') (hd : decode cc pc = .ok (.ireturn, 1)) (hz : zb v = v) (h : some (v, σ) = some (r, σ')) : G θ (0, 0) w σ pc L [.int v] := G_zret X hq hd (by rw [hz]; exact h)
theorem G_zretlp {r : Int32} {v : Int32} (X : Cx θ strs cc nL own fr lo) (hq : Rq θ w (some .boolean) (some (.int r)) σ) (hd : decode cc pc = .ok (.ireturn, 1)) (hz : zb v = v) (h : some v = some r) : G θ (0, 0) w σ pc L [.int v] := G_zretp X hq hd (by rw [hz]; exact h)
theorem G_vretp {r : Unit} (X : Cx θ strs cc nL own fr lo) (hq : Rq θ w none none σ) (hd : decode cc pc = .ok (.return_, 1)) (_ : some () = some r) : G θ (0, 0) w σ pc L [] := G_vret X hq hd rfl
theorem G_xiret {x : Except Nat Int32} {σ' : St} {v : Int32} (X : Cx θ strs cc nL own fr lo) (hq : Xq θ w (some .int) (xi x) σ') (hd : decode cc pc = .ok (.ireturn, 1)) (h : some (Except.ok v, σ) = some (x, σ')) : G θ (0, 0) w σ pc L [.int v] := by
  cases h
  exact G_iret X hq hd rfl
theorem G_xzret {x : Except Nat Int32} {σ' : St} {v : Int32} (X : Cx θ strs cc nL own fr lo) (hq : Xq θ w (some .boolean) (xi x) σ') (hd : decode cc pc = .ok (.ireturn, 1)) (h : some (Except.ok (zb v), σ) = some (x, σ')) : G θ (0, 0) w σ pc L [.int v] := by
  cases h
  exact G_zret X hq hd rfl
theorem G_xzretl {x : Except Nat Int32} {σ' : St} {v : Int32} (X : Cx θ strs cc nL own fr lo) (hq : Xq θ w (some .boolean) (xi x) σ') (hd : decode cc pc = .ok (.ireturn, 1)) (hz : zb v = v) (h : some (Except.ok v, σ) = some (x, σ')) : G θ (0, 0) w σ pc L [.int v] := by
  cases h
  exact G_zretl X hq hd hz rfl
theorem G_xvret {x : Except Nat Unit} {σ' : St} (X : Cx θ strs cc nL own fr lo) (hq : Xq θ w none (xv x) σ') (hd : decode cc pc = .ok (.return_, 1)) (h : some (Except.ok (), σ) = some (x, σ')) : G θ (0, 0) w σ pc L [] := by
  cases h
  exact G_vret X hq hd rfl
theorem G_xaret {C : String} {x : Except Nat Nat} {σ' : St} {k : Nat} (X : Cx θ strs cc nL own fr lo) (hq : Xq θ w (some (.object C)) (xr w.2 x) σ') (hd : decode cc pc = .ok (.areturn, 1)) (h : some (Except.ok k, σ) = some (x, σ')) : G θ (0, 0) w σ pc L [.ref (w.2 k)] := by
  cases h
  exact G_aret X hq hd rfl
theorem G_xthrow {α : Type} {f : Except Nat α → Except Nat (Option Value)} {text : String} {names : List String} {ik is ic e : Nat} {ret : Option FieldType} {x : Except Nat α} {σ' : St} (X : Cx θ strs cc nL own fr lo) (hq : Xq θ w ret (f x) σ') (tw : TW own (g_xn e) ik ic names) (hstr : (own, is, text) ∈ strs)
    (d0 : decode cc pc = .ok (.new ik, 3)) (d3 : decode cc (pc + 3) = .ok (.dup, 1)) (d4 : decode cc (pc + 4) = .ok (.ldc_w is, 3)) (d7 : decode cc (pc + 7) = .ok (.invokespecial ic, 3)) (d10 : decode cc (pc + 10) = .ok (.athrow, 1))
    (h : some (Except.error e, σ) = some (x, σ')) (hRf : names.length + 3 < fr) (hRl : (S.map fun v => v.category).sum + (13 * (names.length + 1) + 43) ≤ lo) (hfe : f (.error e) = .error e := by rfl) : G θ (0, 0) w σ pc L S := by
  cases h
  rw [hfe] at hq
  exact G_throw X hq tw hstr d0 d3 d4 d7 d10 hRf hRl
theorem i32_ne {x k : Int32} {p : Int} (e : k.toInt = p) (h : ¬ x = k) : ¬ p = x.toInt := fun q => h (Int32.toInt_inj.mp (by rw [e, ← q]))
theorem G_lookup2 {α : Type} {a1 a2 d r : α} {x k1 k2 : Int32} {p1 p2 o1 o2 dflt : Int} {len : Nat} (t1 t2 t3 : Nat) (X : Cx θ strs cc nL own fr lo) (hd : decode cc pc = .ok (.lookupswitch dflt #[(p1, o1), (p2, o2)], len)) (hp : p1 < p2) (e1 : k1.toInt = p1) (e2 : k2.toInt = p2) (g1 : (pc : Int) + o1 = (t1 : Int)) (g2 : (pc : Int) + o2 = (t2 : Int)) (g3 : (pc : Int) + dflt = (t3 : Int))
    (h : (if x = k1 then a1 else if x = k2 then a2 else d) = r) (c1 : a1 = r → G θ cs w σ t1 L S) (c2 : a2 = r → G θ cs w σ t2 L S) (c3 : d = r → G θ cs w σ t3 L S) : G θ cs w σ pc L (.int x :: S) := by
  have hps : ((#[(p1, o1), (p2, o2)] : Array (Int × Int)).toList.zip ((#[(p1, o1), (p2, o2)] : Array (Int × Int)).toList.drop 1)).all (fun (a, next) => a.1 < next.1) = true := by simp [hp]
  obtain ⟨p, l, e, R, s, m, args, below, meth, c, A, D, cA, Q⟩ := θ
  obtain ⟨hx, hb, hml, hown, hts, hlk, hA, hK, hfr, hlo⟩ := X
  intro H locs ls hl hP hD hS
  by_cases h1 : x = k1
  · rw [if_pos h1] at h
    exact lv_lookup hx hb hd hps (off := o1) (by subst h1; simp [Op.lookupswitch.offset, e1]) g1 (c1 h H locs ls hl hP hD hS)
  · rw [if_neg h1] at h
    have n1 := i32_ne e1 h1
    by_cases h2 : x = k2
    · rw [if_pos h2] at h
      exact lv_lookup hx hb hd hps (off := o2) (by subst h2; rw [e2] at n1; simp [Op.lookupswitch.offset, e2, n1]) g2 (c2 h H locs ls hl hP hD hS)
    · rw [if_neg h2] at h
      have n2 := i32_ne e2 h2
      exact lv_lookup hx hb hd hps (off := dflt) (by simp [Op.lookupswitch.offset, n1, n2]) g3 (c3 h H locs ls hl hP hD hS)
theorem G_table3 {α : Type} {a0 a1 a2 d r : α} {x : Int32} {o0 o1 o2 dflt hi : Int} {len : Nat} (t0 t1 t2 td : Nat) (X : Cx θ strs cc nL own fr lo) (hd : decode cc pc = .ok (.tableswitch dflt 0 hi #[o0, o1, o2], len)) (hhi : hi = 2) (g0 : (pc : Int) + o0 = (t0 : Int)) (g1 : (pc : Int) + o1 = (t1 : Int)) (g2 : (pc : Int) + o2 = (t2 : Int)) (gd : (pc : Int) + dflt = (td : Int))
    (h : (if x = 0 then a0 else if x = 1 then a1 else if x = 2 then a2 else d) = r) (c0 : a0 = r → G θ cs w σ t0 L S) (c1 : a1 = r → G θ cs w σ t1 L S) (c2 : a2 = r → G θ cs w σ t2 L S) (cd : d = r → G θ cs w σ td L S) : G θ cs w σ pc L (.int x :: S) := by
  obtain ⟨p, l, e, R, s, m, args, below, meth, c, A, D, cA, Q⟩ := θ
  obtain ⟨hx, hb, hml, hown, hts, hlk, hA, hK, hfr, hlo⟩ := X
  intro H locs ls hl hP hD hS
  subst hhi
  by_cases h0 : x = 0
  · rw [if_pos h0] at h
    exact lv_tableIn hx hb hd (off := o0) (by subst h0; decide) (by subst h0; decide) (by subst h0; rfl) g0 (c0 h H locs ls hl hP hD hS)
  · rw [if_neg h0] at h
    have n0 := i32_ne (x := x) (k := 0) (p := 0) (by decide) h0
    by_cases h1 : x = 1
    · rw [if_pos h1] at h
      exact lv_tableIn hx hb hd (off := o1) (by subst h1; decide) (by subst h1; decide) (by subst h1; rfl) g1 (c1 h H locs ls hl hP hD hS)
    · rw [if_neg h1] at h
      have n1 := i32_ne (x := x) (k := 1) (p := 1) (by decide) h1
      by_cases h2 : x = 2
      · rw [if_pos h2] at h
        exact lv_tableIn hx hb hd (off := o2) (by subst h2; decide) (by subst h2; decide) (by subst h2; rfl) g2 (c2 h H locs ls hl hP hD hS)
      · rw [if_neg h2] at h
        have n2 := i32_ne (x := x) (k := 2) (p := 2) (by decide) h2
        exact lv_tableOut hx hb hd (by omega) gd (cd h H locs ls hl hP hD hS)
theorem G_table4 {α : Type} {a0 a1 a2 a3 d r : α} {x : Int32} {o0 o1 o2 o3 dflt hi : Int} {len : Nat} (t0 t1 t2 t3 td : Nat) (X : Cx θ strs cc nL own fr lo) (hd : decode cc pc = .ok (.tableswitch dflt 0 hi #[o0, o1, o2, o3], len)) (hhi : hi = 3) (g0 : (pc : Int) + o0 = (t0 : Int)) (g1 : (pc : Int) + o1 = (t1 : Int)) (g2 : (pc : Int) + o2 = (t2 : Int)) (g3 : (pc : Int) + o3 = (t3 : Int)) (gd : (pc : Int) + dflt = (td : Int))
    (h : (if x = 0 then a0 else if x = 1 then a1 else if x = 2 then a2 else if x = 3 then a3 else d) = r) (c0 : a0 = r → G θ cs w σ t0 L S) (c1 : a1 = r → G θ cs w σ t1 L S) (c2 : a2 = r → G θ cs w σ t2 L S) (c3 : a3 = r → G θ cs w σ t3 L S) (cd : d = r → G θ cs w σ td L S) : G θ cs w σ pc L (.int x :: S) := by
  obtain ⟨p, l, e, R, s, m, args, below, meth, c, A, D, cA, Q⟩ := θ
  obtain ⟨hx, hb, hml, hown, hts, hlk, hA, hK, hfr, hlo⟩ := X
  intro H locs ls hl hP hD hS
  subst hhi
  by_cases h0 : x = 0
  · rw [if_pos h0] at h
    exact lv_tableIn hx hb hd (off := o0) (by subst h0; decide) (by subst h0; decide) (by subst h0; rfl) g0 (c0 h H locs ls hl hP hD hS)
  · rw [if_neg h0] at h
    have n0 := i32_ne (x := x) (k := 0) (p := 0) (by decide) h0
    by_cases h1 : x = 1
    · rw [if_pos h1] at h
      exact lv_tableIn hx hb hd (off := o1) (by subst h1; decide) (by subst h1; decide) (by subst h1; rfl) g1 (c1 h H locs ls hl hP hD hS)
    · rw [if_neg h1] at h
      have n1 := i32_ne (x := x) (k := 1) (p := 1) (by decide) h1
      by_cases h2 : x = 2
      · rw [if_pos h2] at h
        exact lv_tableIn hx hb hd (off := o2) (by subst h2; decide) (by subst h2; decide) (by subst h2; rfl) g2 (c2 h H locs ls hl hP hD hS)
      · rw [if_neg h2] at h
        have n2 := i32_ne (x := x) (k := 2) (p := 2) (by decide) h2
        by_cases h3 : x = 3
        · rw [if_pos h3] at h
          exact lv_tableIn hx hb hd (off := o3) (by subst h3; decide) (by subst h3; decide) (by subst h3; rfl) g3 (c3 h H locs ls hl hP hD hS)
        · rw [if_neg h3] at h
          have n3 := i32_ne (x := x) (k := 3) (p := 3) (by decide) h3
          exact lv_tableOut hx hb hd (by omega) gd (cd h H locs ls hl hP hD hS)
theorem G_table5 {α : Type} {a0 a1 a2 a3 a4 d r : α} {x : Int32} {o0 o1 o2 o3 o4 dflt hi : Int} {len : Nat} (t0 t1 t2 t3 t4 td : Nat) (X : Cx θ strs cc nL own fr lo) (hd : decode cc pc = .ok (.tableswitch dflt 0 hi #[o0, o1, o2, o3, o4], len)) (hhi : hi = 4) (g0 : (pc : Int) + o0 = (t0 : Int)) (g1 : (pc : Int) + o1 = (t1 : Int)) (g2 : (pc : Int) + o2 = (t2 : Int)) (g3 : (pc : Int) + o3 = (t3 : Int)) (g4 : (pc : Int) + o4 = (t4 : Int)) (gd : (pc : Int) + dflt = (td : Int))
    (h : (if x = 0 then a0 else if x = 1 then a1 else if x = 2 then a2 else if x = 3 then a3 else if x = 4 then a4 else d) = r) (c0 : a0 = r → G θ cs w σ t0 L S) (c1 : a1 = r → G θ cs w σ t1 L S) (c2 : a2 = r → G θ cs w σ t2 L S) (c3 : a3 = r → G θ cs w σ t3 L S) (c4 : a4 = r → G θ cs w σ t4 L S) (cd : d = r → G θ cs w σ td L S) : G θ cs w σ pc L (.int x :: S) := by
  obtain ⟨p, l, e, R, s, m, args, below, meth, c, A, D, cA, Q⟩ := θ
  obtain ⟨hx, hb, hml, hown, hts, hlk, hA, hK, hfr, hlo⟩ := X
  intro H locs ls hl hP hD hS
  subst hhi
  by_cases h0 : x = 0
  · rw [if_pos h0] at h
    exact lv_tableIn hx hb hd (off := o0) (by subst h0; decide) (by subst h0; decide) (by subst h0; rfl) g0 (c0 h H locs ls hl hP hD hS)
  · rw [if_neg h0] at h
    have n0 := i32_ne (x := x) (k := 0) (p := 0) (by decide) h0
    by_cases h1 : x = 1
    · rw [if_pos h1] at h
      exact lv_tableIn hx hb hd (off := o1) (by subst h1; decide) (by subst h1; decide) (by subst h1; rfl) g1 (c1 h H locs ls hl hP hD hS)
    · rw [if_neg h1] at h
      have n1 := i32_ne (x := x) (k := 1) (p := 1) (by decide) h1
      by_cases h2 : x = 2
      · rw [if_pos h2] at h
        exact lv_tableIn hx hb hd (off := o2) (by subst h2; decide) (by subst h2; decide) (by subst h2; rfl) g2 (c2 h H locs ls hl hP hD hS)
      · rw [if_neg h2] at h
        have n2 := i32_ne (x := x) (k := 2) (p := 2) (by decide) h2
        by_cases h3 : x = 3
        · rw [if_pos h3] at h
          exact lv_tableIn hx hb hd (off := o3) (by subst h3; decide) (by subst h3; decide) (by subst h3; rfl) g3 (c3 h H locs ls hl hP hD hS)
        · rw [if_neg h3] at h
          have n3 := i32_ne (x := x) (k := 3) (p := 3) (by decide) h3
          by_cases h4 : x = 4
          · rw [if_pos h4] at h
            exact lv_tableIn hx hb hd (off := o4) (by subst h4; decide) (by subst h4; decide) (by subst h4; rfl) g4 (c4 h H locs ls hl hP hD hS)
          · rw [if_neg h4] at h
            have n4 := i32_ne (x := x) (k := 4) (p := 4) (by decide) h4
            exact lv_tableOut hx hb hd (by omega) gd (cd h H locs ls hl hP hD hS)
def mmax (x y : Int32) : Int32 := if x < y then y else x
def mmin (x y : Int32) : Int32 := if y < x then y else x
theorem G_mmax {idx : Nat} {x y : Int32} (X : Cx θ strs cc nL own fr lo) (hd : decode cc pc = .ok (.invokestatic idx, 3)) (hl : Cond.methodLink own idx Lib.Math.max.name ∈ g_GW) (h2 : Cond.static Lib.Math.max.name ∈ g_GW) (h3 : Cond.initialized "java/lang/Math" ∈ g_GW) (h4 : Cond.code Lib.Math.max.name Lib.Math.max.code 2 (some .int) ∈ g_GW) (hfr' : 1 ≤ fr) (hlo' : (S.map fun v => v.category).sum + 13 ≤ lo) (hcs : Rc θ cs) (k : G θ cs w σ (pc + 3) L (.int (mmax x y) :: S)) : G θ cs w σ pc L (.int y :: .int x :: S) := by
  obtain ⟨p, l, e, R, s, m, args, below, meth, c, A, D, cA, Q⟩ := θ
  obtain ⟨hx, hb, hml, hown, hts, hlk, hA, hK, hfr, hlo⟩ := X
  intro H locs ls hl' hP hD hS
  exact va_mmax hx hb hl'.1.symm hown (hts _ hl) (hts _ h2) (hts _ h3) (hts _ h4) (Nat.le_trans hfr' hfr) (Nat.le_trans hlo' hlo) hcs.1 hcs.2 hd (k H locs ls hl' hP hD hS)
theorem G_mmin {idx : Nat} {x y : Int32} (X : Cx θ strs cc nL own fr lo) (hd : decode cc pc = .ok (.invokestatic idx, 3)) (hl : Cond.methodLink own idx Lib.Math.min.name ∈ g_GW) (h2 : Cond.static Lib.Math.min.name ∈ g_GW) (h3 : Cond.initialized "java/lang/Math" ∈ g_GW) (h4 : Cond.code Lib.Math.min.name Lib.Math.min.code 2 (some .int) ∈ g_GW) (hfr' : 1 ≤ fr) (hlo' : (S.map fun v => v.category).sum + 13 ≤ lo) (hcs : Rc θ cs) (k : G θ cs w σ (pc + 3) L (.int (mmin x y) :: S)) : G θ cs w σ pc L (.int y :: .int x :: S) := by
  obtain ⟨p, l, e, R, s, m, args, below, meth, c, A, D, cA, Q⟩ := θ
  obtain ⟨hx, hb, hml, hown, hts, hlk, hA, hK, hfr, hlo⟩ := X
  intro H locs ls hl' hP hD hS
  exact va_mmin hx hb hl'.1.symm hown (hts _ hl) (hts _ h2) (hts _ h3) (hts _ h4) (Nat.le_trans hfr' hfr) (Nat.le_trans hlo' hlo) hcs.1 hcs.2 hd (k H locs ls hl' hP hD hS)
end GM
end
section
/-! the world: shapes of its cells -/
def g_SH : List Shp := [.inl (7, [some (some 1), some (some 2), some (some 6), some (some 10), some (some 14), some (some 16), some (some 18), some (some 23), none]),
  .inr (.inr [some 34, some 38, some 42, some 46, some 50, some 54, some 58, some 62, some 66, some 70, some 74, some 78]),
  .inl (0, [some (some 3), some (some 4), some (some 5), none, none]),
  .inr (.inl (0, 25)),
  .inr (.inl (0, 5)),
  .inr (.inl (0, 5)),
  .inl (1, [some (some 7), some (some 8), some (some 9)]),
  .inr (.inl (0, 600)),
  .inr (.inl (0, 120)),
  .inr (.inl (0, 5)),
  .inl (5, [some (some 11), some (some 12), some (some 13), none]),
  .inr (.inl (0, 40)),
  .inr (.inl (0, 41)),
  .inr (.inl (0, 40)),
  .inl (3, [some (some 6), some (some 15)]),
  .inr (.inl (0, 5)),
  .inl (6, [some (some 6), some (some 17), none]),
  .inr (.inl (0, 576)),
  .inl (4, [some (some 6), some (some 19), some (some 20), some (some 21), some (some 22), none, none]),
  .inr (.inl (0, 10)),
  .inr (.inl (0, 120)),
  .inr (.inl (1, 120)),
  .inr (.inl (0, 5)),
  .inl (2, [some (some 6), some (some 24), some (some 25), some (some 26), some (some 30), none, none]),
  .inr (.inl (0, 120)),
  .inr (.inl (0, 5)),
  .inl (0, [some (some 27), some (some 28), some (some 29), none, none]),
  .inr (.inl (0, 25)),
  .inr (.inl (0, 5)),
  .inr (.inl (0, 5)),
  .inl (0, [some (some 31), some (some 32), some (some 33), none, none]),
  .inr (.inl (0, 25)),
  .inr (.inl (0, 5)),
  .inr (.inl (0, 5)),
  .inl (0, [some (some 35), some (some 36), some (some 37), none, none]),
  .inr (.inl (0, 25)),
  .inr (.inl (0, 5)),
  .inr (.inl (0, 5)),
  .inl (0, [some (some 39), some (some 40), some (some 41), none, none]),
  .inr (.inl (0, 25)),
  .inr (.inl (0, 5)),
  .inr (.inl (0, 5)),
  .inl (0, [some (some 43), some (some 44), some (some 45), none, none]),
  .inr (.inl (0, 25)),
  .inr (.inl (0, 5)),
  .inr (.inl (0, 5)),
  .inl (0, [some (some 47), some (some 48), some (some 49), none, none]),
  .inr (.inl (0, 25)),
  .inr (.inl (0, 5)),
  .inr (.inl (0, 5)),
  .inl (0, [some (some 51), some (some 52), some (some 53), none, none]),
  .inr (.inl (0, 25)),
  .inr (.inl (0, 5)),
  .inr (.inl (0, 5)),
  .inl (0, [some (some 55), some (some 56), some (some 57), none, none]),
  .inr (.inl (0, 25)),
  .inr (.inl (0, 5)),
  .inr (.inl (0, 5)),
  .inl (0, [some (some 59), some (some 60), some (some 61), none, none]),
  .inr (.inl (0, 25)),
  .inr (.inl (0, 5)),
  .inr (.inl (0, 5)),
  .inl (0, [some (some 63), some (some 64), some (some 65), none, none]),
  .inr (.inl (0, 25)),
  .inr (.inl (0, 5)),
  .inr (.inl (0, 5)),
  .inl (0, [some (some 67), some (some 68), some (some 69), none, none]),
  .inr (.inl (0, 25)),
  .inr (.inl (0, 5)),
  .inr (.inl (0, 5)),
  .inl (0, [some (some 71), some (some 72), some (some 73), none, none]),
  .inr (.inl (0, 25)),
  .inr (.inl (0, 5)),
  .inr (.inl (0, 5)),
  .inl (0, [some (some 75), some (some 76), some (some 77), none, none]),
  .inr (.inl (0, 25)),
  .inr (.inl (0, 5)),
  .inr (.inl (0, 5)),
  .inl (0, [some (some 79), some (some 80), some (some 81), none, none]),
  .inr (.inl (0, 25)),
  .inr (.inl (0, 5)),
  .inr (.inl (0, 5)),
  .inr (.inl (0, 25)),
  .inr (.inl (0, 25)),
  .inr (.inl (0, 25))]
theorem sh_0 : g_SH[0]? = some (.inl (7, [some (some 1), some (some 2), some (some 6), some (some 10), some (some 14), some (some 16), some (some 18), some (some 23), none])) := rfl
theorem sh_1 : g_SH[1]? = some (.inr (.inr [some 34, some 38, some 42, some 46, some 50, some 54, some 58, some 62, some 66, some 70, some 74, some 78])) := rfl
theorem sh_2 : g_SH[2]? = some (.inl (0, [some (some 3), some (some 4), some (some 5), none, none])) := rfl
theorem sh_3 : g_SH[3]? = some (.inr (.inl (0, 25))) := rfl
theorem sh_4 : g_SH[4]? = some (.inr (.inl (0, 5))) := rfl
theorem sh_5 : g_SH[5]? = some (.inr (.inl (0, 5))) := rfl
theorem sh_6 : g_SH[6]? = some (.inl (1, [some (some 7), some (some 8), some (some 9)])) := rfl
theorem sh_7 : g_SH[7]? = some (.inr (.inl (0, 600))) := rfl
theorem sh_8 : g_SH[8]? = some (.inr (.inl (0, 120))) := rfl
theorem sh_9 : g_SH[9]? = some (.inr (.inl (0, 5))) := rfl
theorem sh_10 : g_SH[10]? = some (.inl (5, [some (some 11), some (some 12), some (some 13), none])) := rfl
theorem sh_11 : g_SH[11]? = some (.inr (.inl (0, 40))) := rfl
theorem sh_12 : g_SH[12]? = some (.inr (.inl (0, 41))) := rfl
theorem sh_13 : g_SH[13]? = some (.inr (.inl (0, 40))) := rfl
theorem sh_14 : g_SH[14]? = some (.inl (3, [some (some 6), some (some 15)])) := rfl
theorem sh_15 : g_SH[15]? = some (.inr (.inl (0, 5))) := rfl
theorem sh_16 : g_SH[16]? = some (.inl (6, [some (some 6), some (some 17), none])) := rfl
theorem sh_17 : g_SH[17]? = some (.inr (.inl (0, 576))) := rfl
theorem sh_18 : g_SH[18]? = some (.inl (4, [some (some 6), some (some 19), some (some 20), some (some 21), some (some 22), none, none])) := rfl
theorem sh_19 : g_SH[19]? = some (.inr (.inl (0, 10))) := rfl
theorem sh_20 : g_SH[20]? = some (.inr (.inl (0, 120))) := rfl
theorem sh_21 : g_SH[21]? = some (.inr (.inl (1, 120))) := rfl
theorem sh_22 : g_SH[22]? = some (.inr (.inl (0, 5))) := rfl
theorem sh_23 : g_SH[23]? = some (.inl (2, [some (some 6), some (some 24), some (some 25), some (some 26), some (some 30), none, none])) := rfl
theorem sh_24 : g_SH[24]? = some (.inr (.inl (0, 120))) := rfl
theorem sh_25 : g_SH[25]? = some (.inr (.inl (0, 5))) := rfl
theorem sh_26 : g_SH[26]? = some (.inl (0, [some (some 27), some (some 28), some (some 29), none, none])) := rfl
theorem sh_27 : g_SH[27]? = some (.inr (.inl (0, 25))) := rfl
theorem sh_28 : g_SH[28]? = some (.inr (.inl (0, 5))) := rfl
theorem sh_29 : g_SH[29]? = some (.inr (.inl (0, 5))) := rfl
theorem sh_30 : g_SH[30]? = some (.inl (0, [some (some 31), some (some 32), some (some 33), none, none])) := rfl
theorem sh_31 : g_SH[31]? = some (.inr (.inl (0, 25))) := rfl
theorem sh_32 : g_SH[32]? = some (.inr (.inl (0, 5))) := rfl
theorem sh_33 : g_SH[33]? = some (.inr (.inl (0, 5))) := rfl
theorem sh_34 : g_SH[34]? = some (.inl (0, [some (some 35), some (some 36), some (some 37), none, none])) := rfl
theorem sh_35 : g_SH[35]? = some (.inr (.inl (0, 25))) := rfl
theorem sh_36 : g_SH[36]? = some (.inr (.inl (0, 5))) := rfl
theorem sh_37 : g_SH[37]? = some (.inr (.inl (0, 5))) := rfl
theorem sh_38 : g_SH[38]? = some (.inl (0, [some (some 39), some (some 40), some (some 41), none, none])) := rfl
theorem sh_39 : g_SH[39]? = some (.inr (.inl (0, 25))) := rfl
theorem sh_40 : g_SH[40]? = some (.inr (.inl (0, 5))) := rfl
theorem sh_41 : g_SH[41]? = some (.inr (.inl (0, 5))) := rfl
theorem sh_42 : g_SH[42]? = some (.inl (0, [some (some 43), some (some 44), some (some 45), none, none])) := rfl
theorem sh_43 : g_SH[43]? = some (.inr (.inl (0, 25))) := rfl
theorem sh_44 : g_SH[44]? = some (.inr (.inl (0, 5))) := rfl
theorem sh_45 : g_SH[45]? = some (.inr (.inl (0, 5))) := rfl
theorem sh_46 : g_SH[46]? = some (.inl (0, [some (some 47), some (some 48), some (some 49), none, none])) := rfl
theorem sh_47 : g_SH[47]? = some (.inr (.inl (0, 25))) := rfl
theorem sh_48 : g_SH[48]? = some (.inr (.inl (0, 5))) := rfl
theorem sh_49 : g_SH[49]? = some (.inr (.inl (0, 5))) := rfl
theorem sh_50 : g_SH[50]? = some (.inl (0, [some (some 51), some (some 52), some (some 53), none, none])) := rfl
theorem sh_51 : g_SH[51]? = some (.inr (.inl (0, 25))) := rfl
theorem sh_52 : g_SH[52]? = some (.inr (.inl (0, 5))) := rfl
theorem sh_53 : g_SH[53]? = some (.inr (.inl (0, 5))) := rfl
theorem sh_54 : g_SH[54]? = some (.inl (0, [some (some 55), some (some 56), some (some 57), none, none])) := rfl
theorem sh_55 : g_SH[55]? = some (.inr (.inl (0, 25))) := rfl
theorem sh_56 : g_SH[56]? = some (.inr (.inl (0, 5))) := rfl
theorem sh_57 : g_SH[57]? = some (.inr (.inl (0, 5))) := rfl
theorem sh_58 : g_SH[58]? = some (.inl (0, [some (some 59), some (some 60), some (some 61), none, none])) := rfl
theorem sh_59 : g_SH[59]? = some (.inr (.inl (0, 25))) := rfl
theorem sh_60 : g_SH[60]? = some (.inr (.inl (0, 5))) := rfl
theorem sh_61 : g_SH[61]? = some (.inr (.inl (0, 5))) := rfl
theorem sh_62 : g_SH[62]? = some (.inl (0, [some (some 63), some (some 64), some (some 65), none, none])) := rfl
theorem sh_63 : g_SH[63]? = some (.inr (.inl (0, 25))) := rfl
theorem sh_64 : g_SH[64]? = some (.inr (.inl (0, 5))) := rfl
theorem sh_65 : g_SH[65]? = some (.inr (.inl (0, 5))) := rfl
theorem sh_66 : g_SH[66]? = some (.inl (0, [some (some 67), some (some 68), some (some 69), none, none])) := rfl
theorem sh_67 : g_SH[67]? = some (.inr (.inl (0, 25))) := rfl
theorem sh_68 : g_SH[68]? = some (.inr (.inl (0, 5))) := rfl
theorem sh_69 : g_SH[69]? = some (.inr (.inl (0, 5))) := rfl
theorem sh_70 : g_SH[70]? = some (.inl (0, [some (some 71), some (some 72), some (some 73), none, none])) := rfl
theorem sh_71 : g_SH[71]? = some (.inr (.inl (0, 25))) := rfl
theorem sh_72 : g_SH[72]? = some (.inr (.inl (0, 5))) := rfl
theorem sh_73 : g_SH[73]? = some (.inr (.inl (0, 5))) := rfl
theorem sh_74 : g_SH[74]? = some (.inl (0, [some (some 75), some (some 76), some (some 77), none, none])) := rfl
theorem sh_75 : g_SH[75]? = some (.inr (.inl (0, 25))) := rfl
theorem sh_76 : g_SH[76]? = some (.inr (.inl (0, 5))) := rfl
theorem sh_77 : g_SH[77]? = some (.inr (.inl (0, 5))) := rfl
theorem sh_78 : g_SH[78]? = some (.inl (0, [some (some 79), some (some 80), some (some 81), none, none])) := rfl
theorem sh_79 : g_SH[79]? = some (.inr (.inl (0, 25))) := rfl
theorem sh_80 : g_SH[80]? = some (.inr (.inl (0, 5))) := rfl
theorem sh_81 : g_SH[81]? = some (.inr (.inl (0, 5))) := rfl
theorem sh_82 : g_SH[82]? = some (.inr (.inl (0, 25))) := rfl
theorem sh_83 : g_SH[83]? = some (.inr (.inl (0, 25))) := rfl
theorem sh_84 : g_SH[84]? = some (.inr (.inl (0, 25))) := rfl
theorem gk_2 : gok 2 := Or.inl rfl
theorem gk_26 : gok 26 := Or.inr (Or.inl rfl)
theorem gk_30 : gok 30 := Or.inr (Or.inr (Or.inl rfl))
theorem gk_gid {i : Nat} (h : i < 12) : gok (gid i) := Or.inr (Or.inr (Or.inr ⟨i, h, rfl⟩))
def aok (k : Nat) : Prop := k = 82 ∨ k = 83 ∨ k = 84
theorem gk_82 : aok 82 := Or.inl rfl
theorem gk_83 : aok 83 := Or.inr (Or.inl rfl)
theorem gk_84 : aok 84 := Or.inr (Or.inr rfl)
theorem sh_a {k : Nat} (h : aok k) : g_SH[k]? = some (.inr (.inl (0, 25))) := by
  rcases h with rfl | rfl | rfl <;> rfl
theorem gok_ind {P : Nat → Prop} {k : Nat} (h : gok k) (h2 : P 2) (h26 : P 26) (h30 : P 30) (hi : ∀ i : Fin 12, P (gid i)) : P k := by
  rcases h with rfl | rfl | rfl | ⟨i, hi2, rfl⟩
  · exact h2
  · exact h26
  · exact h30
  · exact hi ⟨i, hi2⟩
theorem sh_g {k : Nat} (h : gok k) : g_SH[k]? = some (.inl (0, [some (some (k + 1)), some (some (k + 2)), some (some (k + 3)), none, none])) := gok_ind (P := fun k => g_SH[k]? = some (.inl (0, [some (some (k + 1)), some (some (k + 2)), some (some (k + 3)), none, none]))) h rfl rfl rfl (fun i => match i with | 0 => rfl | 1 => rfl | 2 => rfl | 3 => rfl | 4 => rfl | 5 => rfl | 6 => rfl | 7 => rfl | 8 => rfl | 9 => rfl | 10 => rfl | 11 => rfl)
theorem sh_g1 {k : Nat} (h : gok k) : g_SH[k + 1]? = some (.inr (.inl (0, 25))) := gok_ind (P := fun k => g_SH[k + 1]? = some (.inr (.inl (0, 25)))) h rfl rfl rfl (fun i => match i with | 0 => rfl | 1 => rfl | 2 => rfl | 3 => rfl | 4 => rfl | 5 => rfl | 6 => rfl | 7 => rfl | 8 => rfl | 9 => rfl | 10 => rfl | 11 => rfl)
theorem sh_g2 {k : Nat} (h : gok k) : g_SH[k + 2]? = some (.inr (.inl (0, 5))) := gok_ind (P := fun k => g_SH[k + 2]? = some (.inr (.inl (0, 5)))) h rfl rfl rfl (fun i => match i with | 0 => rfl | 1 => rfl | 2 => rfl | 3 => rfl | 4 => rfl | 5 => rfl | 6 => rfl | 7 => rfl | 8 => rfl | 9 => rfl | 10 => rfl | 11 => rfl)
theorem sh_g3 {k : Nat} (h : gok k) : g_SH[k + 3]? = some (.inr (.inl (0, 5))) := gok_ind (P := fun k => g_SH[k + 3]? = some (.inr (.inl (0, 5)))) h rfl rfl rfl (fun i => match i with | 0 => rfl | 1 => rfl | 2 => rfl | 3 => rfl | 4 => rfl | 5 => rfl | 6 => rfl | 7 => rfl | 8 => rfl | 9 => rfl | 10 => rfl | 11 => rfl)
theorem fi_0 : ∀ w ∈ u_ws RX2 TX2 5, w ∈ g_GW := by decide +kernel
theorem fc_0 : FC 0 RX2 TX2 5 tyX2 := ⟨rfl, fi_0, tyX2_ok, nmX2⟩
theorem fi_1 : ∀ w ∈ u_ws RX4 TX4 3, w ∈ g_GW := by decide +kernel
theorem fc_1 : FC 1 RX4 TX4 3 tyX4 := ⟨rfl, fi_1, tyX4_ok, nmX4⟩
theorem fi_2 : ∀ w ∈ u_ws RX5 TX5 7, w ∈ g_GW := by decide +kernel
theorem fc_2 : FC 2 RX5 TX5 7 tyX5 := ⟨rfl, fi_2, tyX5_ok, nmX5⟩
theorem fi_3 : ∀ w ∈ u_ws RX7 TX7 2, w ∈ g_GW := by decide +kernel
theorem fc_3 : FC 3 RX7 TX7 2 tyX7 := ⟨rfl, fi_3, tyX7_ok, nmX7⟩
theorem fi_4 : ∀ w ∈ u_ws RX8 TX8 7, w ∈ g_GW := by decide +kernel
theorem fc_4 : FC 4 RX8 TX8 7 tyX8 := ⟨rfl, fi_4, tyX8_ok, nmX8⟩
theorem fi_5 : ∀ w ∈ u_ws RX9 TX9 4, w ∈ g_GW := by decide +kernel
theorem fc_5 : FC 5 RX9 TX9 4 tyX9 := ⟨rfl, fi_5, tyX9_ok, nmX9⟩
theorem fi_6 : ∀ w ∈ u_ws RX10 TX10 3, w ∈ g_GW := by decide +kernel
theorem fc_6 : FC 6 RX10 TX10 3 tyX10 := ⟨rfl, fi_6, tyX10_ok, nmX10⟩
theorem fi_7 : ∀ w ∈ u_ws RX11 TX11 9, w ∈ g_GW := by decide +kernel
theorem fc_7 : FC 7 RX11 TX11 9 tyX11 := ⟨rfl, fi_7, tyX11_ok, nmX11⟩
section
variable {θ : Th} {cs : Nat × Nat} {ad : Nat → Nat} {σ : St} {pc : Nat} {L : LV} {S : List Value} {strs : List (String × Nat × String)} {cc : ByteArray} {nL : Nat} {own : String} {fr lo : Nat}
theorem gld_ts (i : Int32) (h : inb i 12 = true) : ([some 34, some 38, some 42, some 46, some 50, some 54, some 58, some 62, some 66, some 70, some 74, some 78] : List (Option Nat))[ix i]? = some (some (gid (ix i))) := by
  simp only [inb, Bool.and_eq_true, decide_eq_true_eq] at h
  have h2 : ix i < 12 := h.2
  generalize ix i = j at h2 ⊢
  revert j
  decide
theorem G_gld {β : Type} {f : Nat → Option β} {r : β} {i : Int32} (X : Cx θ strs cc nL own fr lo) (hd : decode cc pc = .ok (.aaload, 1)) (h : gld i f = some r) (kk : ∀ t, gok t → f t = some r → G θ cs (g_SH, ad) σ (pc + 1) L (.ref (ad t) :: S)) : G θ cs (g_SH, ad) σ pc L (.int i :: .ref (ad 1) :: S) := by
  unfold gld at h
  split at h
  next hin =>
    have hlt : ix i < 12 := by
      simp only [inb, Bool.and_eq_true, decide_eq_true_eq] at hin
      exact hin.2
    exact G_aald (w := (g_SH, ad)) (k := 1) X hd sh_1 hin (gld_ts i hin) (kk _ (gk_gid hlt) h)
  next => cases h
end
end
section
theorem w_0 : Cond.selects "Quasigrove$Maps" yX4_arrange yX4_arrange ∈ g_GW := g_mem (i := 0) (by decide +kernel) rfl
theorem w_2 : Cond.selects "Quasigrove" yX11_newGrid yX11_newGrid ∈ g_GW := g_mem (i := 2) (by decide +kernel) rfl
theorem w_3 : Cond.selects "Quasigrove$Grid" yX2_isLine yX2_isLine ∈ g_GW := g_mem (i := 3) (by decide +kernel) rfl
theorem w_4 : Cond.selects "Quasigrove" yX11_gridAt yX11_gridAt ∈ g_GW := g_mem (i := 4) (by decide +kernel) rfl
theorem w_5 : Cond.selects "Quasigrove$Grid" yX2_exchange yX2_exchange ∈ g_GW := g_mem (i := 5) (by decide +kernel) rfl
theorem w_6 : Cond.initialized "QuasigroveLaw" ∈ g_GW := g_mem (i := 6) (by decide +kernel) rfl
theorem w_7 : Cond.initialized "Quasigrove" ∈ g_GW := g_mem (i := 7) (by decide +kernel) rfl
theorem w_8 : Cond.initialized "Quasigrove$Grid" ∈ g_GW := g_mem (i := 8) (by decide +kernel) rfl
theorem w_9 : Cond.initialized "Quasigrove$Maps" ∈ g_GW := g_mem (i := 9) (by decide +kernel) rfl
theorem w_18 : Cond.initialized "java/lang/IllegalArgumentException" ∈ g_GW := g_mem (i := 18) (by decide +kernel) rfl
theorem w_19 : Cond.initialized "java/lang/IllegalStateException" ∈ g_GW := g_mem (i := 19) (by decide +kernel) rfl
theorem w_20 : Cond.initialized "java/lang/Math" ∈ g_GW := g_mem (i := 20) (by decide +kernel) rfl
theorem w_21 : Cond.initialized "java/lang/IndexOutOfBoundsException" ∈ g_GW := g_mem (i := 21) (by decide +kernel) rfl
theorem w_22 : Cond.initialized "Quasigrove$Filling" ∈ g_GW := g_mem (i := 22) (by decide +kernel) rfl
theorem w_23 : Cond.initialized "Quasigrove$Move" ∈ g_GW := g_mem (i := 23) (by decide +kernel) rfl
theorem w_39 : Cond.fieldLink "Quasigrove$Grid" 9 "Quasigrove$Grid" "signs" "[I" ∈ g_GW := g_mem (i := 39) (by decide +kernel) rfl
theorem w_40 : Cond.fieldLink "Quasigrove$Grid" 15 "Quasigrove$Grid" "rowSets" "[I" ∈ g_GW := g_mem (i := 40) (by decide +kernel) rfl
theorem w_41 : Cond.fieldLink "Quasigrove$Grid" 18 "Quasigrove$Grid" "columnSets" "[I" ∈ g_GW := g_mem (i := 41) (by decide +kernel) rfl
theorem w_42 : Cond.fieldLink "Quasigrove$Grid" 21 "Quasigrove$Grid" "order" "I" ∈ g_GW := g_mem (i := 42) (by decide +kernel) rfl
theorem w_43 : Cond.fieldLinkNest "Quasigrove" 99 "Quasigrove$Grid" "order" "I" "Quasigrove" ∈ g_NW := g_memN (i := 43) (by decide +kernel) rfl
theorem w_44 : Cond.fieldLinkNest "Quasigrove$Filling" 15 "Quasigrove$Grid" "order" "I" "Quasigrove" ∈ g_NW := g_memN (i := 44) (by decide +kernel) rfl
theorem w_45 : Cond.fieldLink "Quasigrove$Grid" 25 "Quasigrove$Grid" "filled" "I" ∈ g_GW := g_mem (i := 45) (by decide +kernel) rfl
theorem w_46 : Cond.fieldLinkNest "Quasigrove" 121 "Quasigrove$Grid" "filled" "I" "Quasigrove" ∈ g_NW := g_memN (i := 46) (by decide +kernel) rfl
theorem w_67 : Cond.instanceMethod yX4_arrange ∈ g_GW := g_mem (i := 67) (by decide +kernel) rfl
theorem w_68 : Cond.code yX4_arrange cX4_arrange 8 none ∈ g_GW := g_mem (i := 68) (by decide +kernel) rfl
theorem w_69 : Cond.fieldLink "Quasigrove$Maps" 9 "Quasigrove$Maps" "images" "[I" ∈ g_GW := g_mem (i := 69) (by decide +kernel) rfl
theorem w_186 : Cond.fieldLink "Quasigrove" 11 "Quasigrove" "grids" "[LQuasigrove$Grid;" ∈ g_GW := g_mem (i := 186) (by decide +kernel) rfl
theorem w_187 : Cond.fieldLink "Quasigrove" 16 "Quasigrove" "work" "LQuasigrove$Grid;" ∈ g_GW := g_mem (i := 187) (by decide +kernel) rfl
theorem w_194 : Cond.fieldLink "Quasigrove" 64 "Quasigrove" "made" "I" ∈ g_GW := g_mem (i := 194) (by decide +kernel) rfl
theorem w_215 : Cond.instanceMethod yX11_grid ∈ g_GW := g_mem (i := 215) (by decide +kernel) rfl
theorem w_216 : Cond.selects "Quasigrove" yX11_grid yX11_grid ∈ g_GW := g_mem (i := 216) (by decide +kernel) rfl
theorem w_217 : Cond.code yX11_grid cX11_grid 2 (some .int) ∈ g_GW := g_mem (i := 217) (by decide +kernel) rfl
theorem w_218 : Cond.methodLink "Quasigrove" 68 yX11_isFrom ∈ g_GW := g_mem (i := 218) (by decide +kernel) rfl
theorem w_219 : Cond.static yX11_isFrom ∈ g_GW := g_mem (i := 219) (by decide +kernel) rfl
theorem w_220 : Cond.code yX11_isFrom cX11_isFrom 3 (some .boolean) ∈ g_GW := g_mem (i := 220) (by decide +kernel) rfl
theorem w_221 : Cond.methodLink "Quasigrove" 72 yX11_needArgument ∈ g_GW := g_mem (i := 221) (by decide +kernel) rfl
theorem w_222 : Cond.static yX11_needArgument ∈ g_GW := g_mem (i := 222) (by decide +kernel) rfl
theorem w_223 : Cond.code yX11_needArgument cX11_needArgument 1 none ∈ g_GW := g_mem (i := 223) (by decide +kernel) rfl
theorem w_224 : Cond.classLink "Quasigrove" 274 "java/lang/IllegalArgumentException" ∈ g_GW := g_mem (i := 224) (by decide +kernel) rfl
theorem w_292 : Cond.methodLink "Quasigrove" 76 yX11_newGrid ∈ g_GW := g_mem (i := 292) (by decide +kernel) rfl
theorem w_294 : Cond.instanceMethod yX11_newGrid ∈ g_GW := g_mem (i := 294) (by decide +kernel) rfl
theorem w_295 : Cond.code yX11_newGrid cX11_newGrid 3 (some (.object "Quasigrove$Grid")) ∈ g_GW := g_mem (i := 295) (by decide +kernel) rfl
theorem w_296 : Cond.classLink "Quasigrove" 261 "java/lang/IllegalStateException" ∈ g_GW := g_mem (i := 296) (by decide +kernel) rfl
theorem w_312 : Cond.methodLink "Quasigrove" 266 yX2_clear ∈ g_GW := g_mem (i := 312) (by decide +kernel) rfl
theorem w_313 : Cond.instanceMethod yX2_clear ∈ g_GW := g_mem (i := 313) (by decide +kernel) rfl
theorem w_314 : Cond.selects "Quasigrove$Grid" yX2_clear yX2_clear ∈ g_GW := g_mem (i := 314) (by decide +kernel) rfl
theorem w_315 : Cond.code yX2_clear cX2_clear 3 none ∈ g_GW := g_mem (i := 315) (by decide +kernel) rfl
theorem w_316 : Cond.methodLink "Quasigrove$Grid" 28 yJ9_min_7cf53 ∈ g_GW := g_mem (i := 316) (by decide +kernel) rfl
theorem w_317 : Cond.static yJ9_min_7cf53 ∈ g_GW := g_mem (i := 317) (by decide +kernel) rfl
theorem w_318 : Cond.code yJ9_min_7cf53 cJ9_min_7cf53 2 (some .int) ∈ g_GW := g_mem (i := 318) (by decide +kernel) rfl
theorem w_319 : Cond.methodLink "Quasigrove$Grid" 34 yJ9_max_7cf53 ∈ g_GW := g_mem (i := 319) (by decide +kernel) rfl
theorem w_320 : Cond.static yJ9_max_7cf53 ∈ g_GW := g_mem (i := 320) (by decide +kernel) rfl
theorem w_321 : Cond.code yJ9_max_7cf53 cJ9_max_7cf53 2 (some .int) ∈ g_GW := g_mem (i := 321) (by decide +kernel) rfl
theorem w_323 : Cond.instanceMethod yX11_linear ∈ g_GW := g_mem (i := 323) (by decide +kernel) rfl
theorem w_324 : Cond.selects "Quasigrove" yX11_linear yX11_linear ∈ g_GW := g_mem (i := 324) (by decide +kernel) rfl
theorem w_325 : Cond.code yX11_linear cX11_linear 8 (some .int) ∈ g_GW := g_mem (i := 325) (by decide +kernel) rfl
theorem w_326 : Cond.methodLink "Quasigrove" 80 yX11_reachesAll ∈ g_GW := g_mem (i := 326) (by decide +kernel) rfl
theorem w_327 : Cond.static yX11_reachesAll ∈ g_GW := g_mem (i := 327) (by decide +kernel) rfl
theorem w_328 : Cond.code yX11_reachesAll cX11_reachesAll 4 (some .boolean) ∈ g_GW := g_mem (i := 328) (by decide +kernel) rfl
theorem w_329 : Cond.methodLink "Quasigrove" 84 yX11_remainder ∈ g_GW := g_mem (i := 329) (by decide +kernel) rfl
theorem w_330 : Cond.static yX11_remainder ∈ g_GW := g_mem (i := 330) (by decide +kernel) rfl
theorem w_331 : Cond.code yX11_remainder cX11_remainder 2 (some .int) ∈ g_GW := g_mem (i := 331) (by decide +kernel) rfl
theorem w_332 : Cond.methodLink "Quasigrove" 88 yX2_set ∈ g_GW := g_mem (i := 332) (by decide +kernel) rfl
theorem w_333 : Cond.instanceMethod yX2_set ∈ g_GW := g_mem (i := 333) (by decide +kernel) rfl
theorem w_334 : Cond.selects "Quasigrove$Grid" yX2_set yX2_set ∈ g_GW := g_mem (i := 334) (by decide +kernel) rfl
theorem w_335 : Cond.code yX2_set cX2_set 5 none ∈ g_GW := g_mem (i := 335) (by decide +kernel) rfl
theorem w_336 : Cond.methodLink "Quasigrove$Grid" 41 yX2_has ∈ g_GW := g_mem (i := 336) (by decide +kernel) rfl
theorem w_337 : Cond.instanceMethod yX2_has ∈ g_GW := g_mem (i := 337) (by decide +kernel) rfl
theorem w_338 : Cond.selects "Quasigrove$Grid" yX2_has yX2_has ∈ g_GW := g_mem (i := 338) (by decide +kernel) rfl
theorem w_339 : Cond.code yX2_has cX2_has 3 (some .boolean) ∈ g_GW := g_mem (i := 339) (by decide +kernel) rfl
theorem w_340 : Cond.methodLink "Quasigrove$Grid" 37 yX2_isLine ∈ g_GW := g_mem (i := 340) (by decide +kernel) rfl
theorem w_342 : Cond.instanceMethod yX2_isLine ∈ g_GW := g_mem (i := 342) (by decide +kernel) rfl
theorem w_343 : Cond.code yX2_isLine cX2_isLine 2 (some .boolean) ∈ g_GW := g_mem (i := 343) (by decide +kernel) rfl
theorem w_345 : Cond.instanceMethod yX11_conjugate ∈ g_GW := g_mem (i := 345) (by decide +kernel) rfl
theorem w_346 : Cond.selects "Quasigrove" yX11_conjugate yX11_conjugate ∈ g_GW := g_mem (i := 346) (by decide +kernel) rfl
theorem w_347 : Cond.code yX11_conjugate cX11_conjugate 8 (some .int) ∈ g_GW := g_mem (i := 347) (by decide +kernel) rfl
theorem w_348 : Cond.methodLink "Quasigrove" 92 yX11_gridAt ∈ g_GW := g_mem (i := 348) (by decide +kernel) rfl
theorem w_350 : Cond.instanceMethod yX11_gridAt ∈ g_GW := g_mem (i := 350) (by decide +kernel) rfl
theorem w_351 : Cond.code yX11_gridAt cX11_gridAt 2 (some (.object "Quasigrove$Grid")) ∈ g_GW := g_mem (i := 351) (by decide +kernel) rfl
theorem w_352 : Cond.classLink "Quasigrove" 254 "java/lang/IndexOutOfBoundsException" ∈ g_GW := g_mem (i := 352) (by decide +kernel) rfl
theorem w_368 : Cond.methodLink "Quasigrove" 102 yX2_signAt ∈ g_GW := g_mem (i := 368) (by decide +kernel) rfl
theorem w_369 : Cond.instanceMethod yX2_signAt ∈ g_GW := g_mem (i := 369) (by decide +kernel) rfl
theorem w_370 : Cond.selects "Quasigrove$Grid" yX2_signAt yX2_signAt ∈ g_GW := g_mem (i := 370) (by decide +kernel) rfl
theorem w_371 : Cond.code yX2_signAt cX2_signAt 3 (some .int) ∈ g_GW := g_mem (i := 371) (by decide +kernel) rfl
theorem w_372 : Cond.methodLink "Quasigrove" 117 yX11_setConjugate ∈ g_GW := g_mem (i := 372) (by decide +kernel) rfl
theorem w_373 : Cond.static yX11_setConjugate ∈ g_GW := g_mem (i := 373) (by decide +kernel) rfl
theorem w_374 : Cond.code yX11_setConjugate cX11_setConjugate 5 none ∈ g_GW := g_mem (i := 374) (by decide +kernel) rfl
theorem w_376 : Cond.instanceMethod yX11_cell ∈ g_GW := g_mem (i := 376) (by decide +kernel) rfl
theorem w_377 : Cond.selects "Quasigrove" yX11_cell yX11_cell ∈ g_GW := g_mem (i := 377) (by decide +kernel) rfl
theorem w_378 : Cond.code yX11_cell cX11_cell 5 (some .int) ∈ g_GW := g_mem (i := 378) (by decide +kernel) rfl
theorem w_379 : Cond.methodLink "Quasigrove" 95 yX11_needCell ∈ g_GW := g_mem (i := 379) (by decide +kernel) rfl
theorem w_380 : Cond.static yX11_needCell ∈ g_GW := g_mem (i := 380) (by decide +kernel) rfl
theorem w_381 : Cond.code yX11_needCell cX11_needCell 3 none ∈ g_GW := g_mem (i := 381) (by decide +kernel) rfl
theorem w_382 : Cond.methodLink "Quasigrove" 269 yX2_has ∈ g_GW := g_mem (i := 382) (by decide +kernel) rfl
theorem w_385 : Cond.instanceMethod yX11_of ∈ g_GW := g_mem (i := 385) (by decide +kernel) rfl
theorem w_386 : Cond.selects "Quasigrove" yX11_of yX11_of ∈ g_GW := g_mem (i := 386) (by decide +kernel) rfl
theorem w_387 : Cond.code yX11_of cX11_of 4 (some .int) ∈ g_GW := g_mem (i := 387) (by decide +kernel) rfl
theorem w_388 : Cond.methodLink "Quasigrove" 124 yX2_deadCells ∈ g_GW := g_mem (i := 388) (by decide +kernel) rfl
theorem w_389 : Cond.instanceMethod yX2_deadCells ∈ g_GW := g_mem (i := 389) (by decide +kernel) rfl
theorem w_390 : Cond.selects "Quasigrove$Grid" yX2_deadCells yX2_deadCells ∈ g_GW := g_mem (i := 390) (by decide +kernel) rfl
theorem w_391 : Cond.code yX2_deadCells cX2_deadCells 4 (some .int) ∈ g_GW := g_mem (i := 391) (by decide +kernel) rfl
theorem w_392 : Cond.methodLink "Quasigrove$Grid" 45 yX2_signAt ∈ g_GW := g_mem (i := 392) (by decide +kernel) rfl
theorem w_393 : Cond.methodLink "Quasigrove$Grid" 58 yX2_optionsAt ∈ g_GW := g_mem (i := 393) (by decide +kernel) rfl
theorem w_394 : Cond.instanceMethod yX2_optionsAt ∈ g_GW := g_mem (i := 394) (by decide +kernel) rfl
theorem w_395 : Cond.selects "Quasigrove$Grid" yX2_optionsAt yX2_optionsAt ∈ g_GW := g_mem (i := 395) (by decide +kernel) rfl
theorem w_396 : Cond.code yX2_optionsAt cX2_optionsAt 3 (some .int) ∈ g_GW := g_mem (i := 396) (by decide +kernel) rfl
theorem w_397 : Cond.methodLink "Quasigrove$Grid" 48 yX2_allSigns ∈ g_GW := g_mem (i := 397) (by decide +kernel) rfl
theorem w_398 : Cond.instanceMethod yX2_allSigns ∈ g_GW := g_mem (i := 398) (by decide +kernel) rfl
theorem w_399 : Cond.selects "Quasigrove$Grid" yX2_allSigns yX2_allSigns ∈ g_GW := g_mem (i := 399) (by decide +kernel) rfl
theorem w_400 : Cond.code yX2_allSigns cX2_allSigns 1 (some .int) ∈ g_GW := g_mem (i := 400) (by decide +kernel) rfl
theorem w_402 : Cond.instanceMethod yX11_distance ∈ g_GW := g_mem (i := 402) (by decide +kernel) rfl
theorem w_403 : Cond.selects "Quasigrove" yX11_distance yX11_distance ∈ g_GW := g_mem (i := 403) (by decide +kernel) rfl
theorem w_404 : Cond.code yX11_distance cX11_distance 8 (some .int) ∈ g_GW := g_mem (i := 404) (by decide +kernel) rfl
theorem w_406 : Cond.instanceMethod yX11_can ∈ g_GW := g_mem (i := 406) (by decide +kernel) rfl
theorem w_407 : Cond.selects "Quasigrove" yX11_can yX11_can ∈ g_GW := g_mem (i := 407) (by decide +kernel) rfl
theorem w_408 : Cond.code yX11_can cX11_can 5 (some .int) ∈ g_GW := g_mem (i := 408) (by decide +kernel) rfl
theorem w_409 : Cond.methodLink "Quasigrove" 150 yX2_optionsAt ∈ g_GW := g_mem (i := 409) (by decide +kernel) rfl
theorem w_411 : Cond.instanceMethod yX11_forced ∈ g_GW := g_mem (i := 411) (by decide +kernel) rfl
theorem w_412 : Cond.selects "Quasigrove" yX11_forced yX11_forced ∈ g_GW := g_mem (i := 412) (by decide +kernel) rfl
theorem w_413 : Cond.code yX11_forced cX11_forced 3 (some .int) ∈ g_GW := g_mem (i := 413) (by decide +kernel) rfl
theorem w_414 : Cond.methodLink "Quasigrove" 170 yX0_firstForced ∈ g_GW := g_mem (i := 414) (by decide +kernel) rfl
theorem w_415 : Cond.static yX0_firstForced ∈ g_GW := g_mem (i := 415) (by decide +kernel) rfl
theorem w_416 : Cond.code yX0_firstForced cX0_firstForced 4 (some .int) ∈ g_GW := g_mem (i := 416) (by decide +kernel) rfl
theorem w_417 : Cond.methodLink "Quasigrove$Filling" 50 yX0_isForced ∈ g_GW := g_mem (i := 417) (by decide +kernel) rfl
theorem w_418 : Cond.static yX0_isForced ∈ g_GW := g_mem (i := 418) (by decide +kernel) rfl
theorem w_419 : Cond.code yX0_isForced cX0_isForced 5 (some .boolean) ∈ g_GW := g_mem (i := 419) (by decide +kernel) rfl
theorem w_420 : Cond.methodLink "Quasigrove$Filling" 25 yX2_optionsAt ∈ g_GW := g_mem (i := 420) (by decide +kernel) rfl
theorem w_421 : Cond.methodLinkNest "Quasigrove$Filling" 29 yX11_isIn "Quasigrove" ∈ g_NW := g_memN (i := 421) (by decide +kernel) rfl
theorem w_422 : Cond.static yX11_isIn ∈ g_GW := g_mem (i := 422) (by decide +kernel) rfl
theorem w_423 : Cond.code yX11_isIn cX11_isIn 2 (some .boolean) ∈ g_GW := g_mem (i := 423) (by decide +kernel) rfl
theorem w_424 : Cond.methodLink "Quasigrove$Filling" 72 yX0_isAloneInRow ∈ g_GW := g_mem (i := 424) (by decide +kernel) rfl
theorem w_425 : Cond.static yX0_isAloneInRow ∈ g_GW := g_mem (i := 425) (by decide +kernel) rfl
theorem w_426 : Cond.code yX0_isAloneInRow cX0_isAloneInRow 5 (some .boolean) ∈ g_GW := g_mem (i := 426) (by decide +kernel) rfl
theorem w_427 : Cond.methodLink "Quasigrove$Filling" 75 yX0_isAloneInColumn ∈ g_GW := g_mem (i := 427) (by decide +kernel) rfl
theorem w_428 : Cond.static yX0_isAloneInColumn ∈ g_GW := g_mem (i := 428) (by decide +kernel) rfl
theorem w_429 : Cond.code yX0_isAloneInColumn cX0_isAloneInColumn 5 (some .boolean) ∈ g_GW := g_mem (i := 429) (by decide +kernel) rfl
theorem w_430 : Cond.methodLink "Quasigrove$Filling" 54 yX6_packed ∈ g_GW := g_mem (i := 430) (by decide +kernel) rfl
theorem w_431 : Cond.static yX6_packed ∈ g_GW := g_mem (i := 431) (by decide +kernel) rfl
theorem w_432 : Cond.code yX6_packed cX6_packed 3 (some .int) ∈ g_GW := g_mem (i := 432) (by decide +kernel) rfl
theorem w_433 : Cond.methodLink "Quasigrove" 174 yX6_told ∈ g_GW := g_mem (i := 433) (by decide +kernel) rfl
theorem w_434 : Cond.static yX6_told ∈ g_GW := g_mem (i := 434) (by decide +kernel) rfl
theorem w_435 : Cond.code yX6_told cX6_told 2 (some .int) ∈ g_GW := g_mem (i := 435) (by decide +kernel) rfl
theorem w_436 : Cond.methodLink "Quasigrove$Move" 9 yX6_row ∈ g_GW := g_mem (i := 436) (by decide +kernel) rfl
theorem w_437 : Cond.static yX6_row ∈ g_GW := g_mem (i := 437) (by decide +kernel) rfl
theorem w_438 : Cond.code yX6_row cX6_row 1 (some .int) ∈ g_GW := g_mem (i := 438) (by decide +kernel) rfl
theorem w_439 : Cond.methodLink "Quasigrove$Move" 15 yX6_column ∈ g_GW := g_mem (i := 439) (by decide +kernel) rfl
theorem w_440 : Cond.static yX6_column ∈ g_GW := g_mem (i := 440) (by decide +kernel) rfl
theorem w_441 : Cond.code yX6_column cX6_column 1 (some .int) ∈ g_GW := g_mem (i := 441) (by decide +kernel) rfl
theorem w_442 : Cond.methodLink "Quasigrove$Move" 18 yX6_sign ∈ g_GW := g_mem (i := 442) (by decide +kernel) rfl
theorem w_443 : Cond.static yX6_sign ∈ g_GW := g_mem (i := 443) (by decide +kernel) rfl
theorem w_444 : Cond.code yX6_sign cX6_sign 1 (some .int) ∈ g_GW := g_mem (i := 444) (by decide +kernel) rfl
theorem w_446 : Cond.instanceMethod yX11_logic ∈ g_GW := g_mem (i := 446) (by decide +kernel) rfl
theorem w_447 : Cond.selects "Quasigrove" yX11_logic yX11_logic ∈ g_GW := g_mem (i := 447) (by decide +kernel) rfl
theorem w_448 : Cond.code yX11_logic cX11_logic 2 (some .int) ∈ g_GW := g_mem (i := 448) (by decide +kernel) rfl
theorem w_449 : Cond.methodLink "Quasigrove" 153 yX2_copy ∈ g_GW := g_mem (i := 449) (by decide +kernel) rfl
theorem w_450 : Cond.instanceMethod yX2_copy ∈ g_GW := g_mem (i := 450) (by decide +kernel) rfl
theorem w_451 : Cond.selects "Quasigrove$Grid" yX2_copy yX2_copy ∈ g_GW := g_mem (i := 451) (by decide +kernel) rfl
theorem w_452 : Cond.code yX2_copy cX2_copy 3 none ∈ g_GW := g_mem (i := 452) (by decide +kernel) rfl
theorem w_453 : Cond.methodLink "Quasigrove" 179 yX0_fillForced ∈ g_GW := g_mem (i := 453) (by decide +kernel) rfl
theorem w_454 : Cond.static yX0_fillForced ∈ g_GW := g_mem (i := 454) (by decide +kernel) rfl
theorem w_455 : Cond.code yX0_fillForced cX0_fillForced 3 (some .int) ∈ g_GW := g_mem (i := 455) (by decide +kernel) rfl
theorem w_456 : Cond.methodLink "Quasigrove$Filling" 60 yX0_firstForced ∈ g_GW := g_mem (i := 456) (by decide +kernel) rfl
theorem w_457 : Cond.methodLink "Quasigrove$Filling" 63 yX6_row ∈ g_GW := g_mem (i := 457) (by decide +kernel) rfl
theorem w_458 : Cond.methodLink "Quasigrove$Filling" 66 yX6_column ∈ g_GW := g_mem (i := 458) (by decide +kernel) rfl
theorem w_459 : Cond.methodLink "Quasigrove$Filling" 69 yX6_sign ∈ g_GW := g_mem (i := 459) (by decide +kernel) rfl
theorem w_460 : Cond.methodLink "Quasigrove$Filling" 33 yX2_set ∈ g_GW := g_mem (i := 460) (by decide +kernel) rfl
theorem w_462 : Cond.static yL_up ∈ g_GW := g_mem (i := 462) (by decide +kernel) rfl
theorem w_463 : Cond.code yL_up cL_up 2 (some .int) ∈ g_GW := g_mem (i := 463) (by decide +kernel) rfl
theorem w_473 : Cond.static yL_told ∈ g_GW := g_mem (i := 473) (by decide +kernel) rfl
theorem w_474 : Cond.code yL_told cL_told 6 (some .int) ∈ g_GW := g_mem (i := 474) (by decide +kernel) rfl
theorem w_475 : Cond.methodLink "QuasigroveLaw" 7 yX11_put ∈ g_GW := g_mem (i := 475) (by decide +kernel) rfl
theorem w_476 : Cond.instanceMethod yX11_put ∈ g_GW := g_mem (i := 476) (by decide +kernel) rfl
theorem w_477 : Cond.selects "Quasigrove" yX11_put yX11_put ∈ g_GW := g_mem (i := 477) (by decide +kernel) rfl
theorem w_478 : Cond.code yX11_put cX11_put 7 (some .int) ∈ g_GW := g_mem (i := 478) (by decide +kernel) rfl
theorem w_479 : Cond.methodLink "Quasigrove" 105 yX2_hasInLines ∈ g_GW := g_mem (i := 479) (by decide +kernel) rfl
theorem w_480 : Cond.instanceMethod yX2_hasInLines ∈ g_GW := g_mem (i := 480) (by decide +kernel) rfl
theorem w_481 : Cond.selects "Quasigrove$Grid" yX2_hasInLines yX2_hasInLines ∈ g_GW := g_mem (i := 481) (by decide +kernel) rfl
theorem w_482 : Cond.code yX2_hasInLines cX2_hasInLines 4 (some .boolean) ∈ g_GW := g_mem (i := 482) (by decide +kernel) rfl
theorem w_483 : Cond.methodLinkNest "Quasigrove$Grid" 52 yX11_isIn "Quasigrove" ∈ g_NW := g_memN (i := 483) (by decide +kernel) rfl
theorem w_484 : Cond.methodLink "Quasigrove" 108 yX11_needState ∈ g_GW := g_mem (i := 484) (by decide +kernel) rfl
theorem w_485 : Cond.static yX11_needState ∈ g_GW := g_mem (i := 485) (by decide +kernel) rfl
theorem w_486 : Cond.code yX11_needState cX11_needState 1 none ∈ g_GW := g_mem (i := 486) (by decide +kernel) rfl
theorem w_488 : Cond.methodLink "QuasigroveLaw" 13 yX11_turn ∈ g_GW := g_mem (i := 488) (by decide +kernel) rfl
theorem w_489 : Cond.instanceMethod yX11_turn ∈ g_GW := g_mem (i := 489) (by decide +kernel) rfl
theorem w_490 : Cond.selects "Quasigrove" yX11_turn yX11_turn ∈ g_GW := g_mem (i := 490) (by decide +kernel) rfl
theorem w_491 : Cond.code yX11_turn cX11_turn 6 (some .int) ∈ g_GW := g_mem (i := 491) (by decide +kernel) rfl
theorem w_492 : Cond.methodLink "Quasigrove" 128 yX2_isRowFull ∈ g_GW := g_mem (i := 492) (by decide +kernel) rfl
theorem w_493 : Cond.instanceMethod yX2_isRowFull ∈ g_GW := g_mem (i := 493) (by decide +kernel) rfl
theorem w_494 : Cond.selects "Quasigrove$Grid" yX2_isRowFull yX2_isRowFull ∈ g_GW := g_mem (i := 494) (by decide +kernel) rfl
theorem w_495 : Cond.code yX2_isRowFull cX2_isRowFull 2 (some .boolean) ∈ g_GW := g_mem (i := 495) (by decide +kernel) rfl
theorem w_496 : Cond.methodLink "Quasigrove" 132 yX2_turnRows ∈ g_GW := g_mem (i := 496) (by decide +kernel) rfl
theorem w_497 : Cond.instanceMethod yX2_turnRows ∈ g_GW := g_mem (i := 497) (by decide +kernel) rfl
theorem w_498 : Cond.selects "Quasigrove$Grid" yX2_turnRows yX2_turnRows ∈ g_GW := g_mem (i := 498) (by decide +kernel) rfl
theorem w_499 : Cond.code yX2_turnRows cX2_turnRows 7 (some .int) ∈ g_GW := g_mem (i := 499) (by decide +kernel) rfl
theorem w_500 : Cond.methodLink "Quasigrove$Grid" 61 yX2_columnOf ∈ g_GW := g_mem (i := 500) (by decide +kernel) rfl
theorem w_501 : Cond.instanceMethod yX2_columnOf ∈ g_GW := g_mem (i := 501) (by decide +kernel) rfl
theorem w_502 : Cond.selects "Quasigrove$Grid" yX2_columnOf yX2_columnOf ∈ g_GW := g_mem (i := 502) (by decide +kernel) rfl
theorem w_503 : Cond.code yX2_columnOf cX2_columnOf 4 (some .int) ∈ g_GW := g_mem (i := 503) (by decide +kernel) rfl
theorem w_504 : Cond.methodLink "Quasigrove$Grid" 64 yX2_exchange ∈ g_GW := g_mem (i := 504) (by decide +kernel) rfl
theorem w_506 : Cond.instanceMethod yX2_exchange ∈ g_GW := g_mem (i := 506) (by decide +kernel) rfl
theorem w_507 : Cond.code yX2_exchange cX2_exchange 5 none ∈ g_GW := g_mem (i := 507) (by decide +kernel) rfl
theorem w_508 : Cond.methodLink "QuasigroveLaw" 26 yL_set ∈ g_GW := g_mem (i := 508) (by decide +kernel) rfl
theorem w_509 : Cond.static yL_set ∈ g_GW := g_mem (i := 509) (by decide +kernel) rfl
theorem w_510 : Cond.code yL_set cL_set 7 (some .int) ∈ g_GW := g_mem (i := 510) (by decide +kernel) rfl
theorem w_512 : Cond.static yL_forced ∈ g_GW := g_mem (i := 512) (by decide +kernel) rfl
theorem w_513 : Cond.code yL_forced cL_forced 8 (some .int) ∈ g_GW := g_mem (i := 513) (by decide +kernel) rfl
end
section
def tb_L_set : List (Nat × Instr × Nat) := [(0, .aload_n 0, 1), (1, .iload_n 2, 1), (2, .iaload, 1), (3, .ifCond .ge 11, 3), (6, .iconst 1, 1), (7, .iload_n 1, 1), (8, .ishl, 1), (9, .iconst 1, 1), (10, .isub, 1), (11, .goto 4, 3), (14, .iconst 0, 1), (15, .istore_n 3, 1), (16, .iconst 0, 1), (17, .istore 4, 2), (19, .iload 4, 2), (21, .iload_n 1, 1), (22, .if_icmp .ge 69, 3), (25, .aload_n 0, 1), (26, .iload_n 2, 1), (27, .iload_n 1, 1), (28, .idiv, 1), (29, .iload_n 1, 1), (30, .imul, 1), (31, .iload 4, 2), (33, .iadd, 1), (34, .iaload, 1), (35, .istore 5, 2), (37, .aload_n 0, 1), (38, .iload_n 1, 1), (39, .iload 4, 2), (41, .imul, 1), (42, .iload_n 2, 1), (43, .iload_n 1, 1), (44, .irem, 1), (45, .iadd, 1), (46, .iaload, 1), (47, .istore 6, 2), (49, .iload_n 3, 1), (50, .iload 5, 2), (52, .ifCond .ge 7, 3), (55, .iload_n 3, 1), (56, .goto 9, 3), (59, .iconst 1, 1), (60, .iload 5, 2), (62, .ishl, 1), (63, .iconst (-1), 1), (64, .ixor, 1), (65, .iand, 1), (66, .istore_n 3, 1), (67, .iload_n 3, 1), (68, .iload 6, 2), (70, .ifCond .ge 7, 3), (73, .iload_n 3, 1), (74, .goto 9, 3), (77, .iconst 1, 1), (78, .iload 6, 2), (80, .ishl, 1), (81, .iconst (-1), 1), (82, .ixor, 1), (83, .iand, 1), (84, .istore_n 3, 1), (85, .iinc 4 1, 3), (88, .goto (-69), 3), (91, .iload_n 3, 1), (92, .ireturn, 1)]
theorem dt_L_set : decAll cL_set tb_L_set := by unfold decAll tb_L_set; decide +kernel
theorem cb_L_set : CBd yL_set cL_set 7 (some .int) 3 := ⟨w_510, w_6, by decide +kernel, by decide +kernel, by decide +kernel⟩
def tb_L_forced : List (Nat × Instr × Nat) := [(0, .iconst 0, 1), (1, .istore_n 2, 1), (2, .iload_n 2, 1), (3, .iload_n 1, 1), (4, .iload_n 1, 1), (5, .imul, 1), (6, .if_icmp .ge 136, 3), (9, .aload_n 0, 1), (10, .iload_n 1, 1), (11, .iload_n 2, 1), (12, .invokestatic 26, 3), (15, .istore_n 3, 1), (16, .iconst 0, 1), (17, .istore 4, 2), (19, .iload 4, 2), (21, .iload_n 1, 1), (22, .if_icmp .ge 114, 3), (25, .iconst 0, 1), (26, .istore 5, 2), (28, .iconst 0, 1), (29, .istore 6, 2), (31, .iconst 0, 1), (32, .istore 7, 2), (34, .iload 7, 2), (36, .iload_n 1, 1), (37, .if_icmp .ge 55, 3), (40, .iload 5, 2), (42, .aload_n 0, 1), (43, .iload_n 1, 1), (44, .iload_n 2, 1), (45, .iload_n 1, 1), (46, .idiv, 1), (47, .iload_n 1, 1), (48, .imul, 1), (49, .iload 7, 2), (51, .iadd, 1), (52, .invokestatic 26, 3), (55, .iload 4, 2), (57, .ishr, 1), (58, .iconst 1, 1), (59, .iand, 1), (60, .iadd, 1), (61, .istore 5, 2), (63, .iload 6, 2), (65, .aload_n 0, 1), (66, .iload_n 1, 1), (67, .iload_n 1, 1), (68, .iload 7, 2), (70, .imul, 1), (71, .iload_n 2, 1), (72, .iload_n 1, 1), (73, .irem, 1), (74, .iadd, 1), (75, .invokestatic 26, 3), (78, .iload 4, 2), (80, .ishr, 1), (81, .iconst 1, 1), (82, .iand, 1), (83, .iadd, 1), (84, .istore 6, 2), (86, .iinc 7 1, 3), (89, .goto (-55), 3), (92, .iload_n 3, 1), (93, .iload 4, 2), (95, .ishr, 1), (96, .iconst 1, 1), (97, .iand, 1), (98, .iconst 1, 1), (99, .if_icmp .ne 31, 3), (102, .iload_n 3, 1), (103, .iconst 1, 1), (104, .iload 4, 2), (106, .ishl, 1), (107, .if_icmp .eq 15, 3), (110, .iload 5, 2), (112, .iconst 1, 1), (113, .if_icmp .eq 9, 3), (116, .iload 6, 2), (118, .iconst 1, 1), (119, .if_icmp .ne 11, 3), (122, .bipush 10, 2), (124, .iload_n 2, 1), (125, .imul, 1), (126, .iload 4, 2), (128, .iadd, 1), (129, .ireturn, 1), (130, .iinc 4 1, 3), (133, .goto (-114), 3), (136, .iinc 2 1, 3), (139, .goto (-137), 3), (142, .iconst (-1), 1), (143, .ireturn, 1)]
theorem dt_L_forced : decAll cL_forced tb_L_forced := by unfold decAll tb_L_forced; decide +kernel
theorem cb_L_forced : CBd yL_forced cL_forced 8 (some .int) 2 := ⟨w_513, w_6, by decide +kernel, by decide +kernel, by decide +kernel⟩
def tb_Q_gridAt : List (Nat × Instr × Nat) := [(0, .iload_n 1, 1), (1, .ifCond .lt 29, 3), (4, .iload_n 1, 1), (5, .aload_n 0, 1), (6, .getfield 64, 3), (9, .if_icmp .ge 21, 3), (12, .iload_n 1, 1), (13, .aload_n 0, 1), (14, .getfield 11, 3), (17, .arraylength, 1), (18, .if_icmp .ge 12, 3), (21, .aload_n 0, 1), (22, .getfield 11, 3), (25, .iload_n 1, 1), (26, .aaload, 1), (27, .ifnonnull 14, 3), (30, .new 254, 3), (33, .dup, 1), (34, .ldc_w 256, 3), (37, .invokespecial 258, 3), (40, .athrow, 1), (41, .aload_n 0, 1), (42, .getfield 11, 3), (45, .iload_n 1, 1), (46, .aaload, 1), (47, .areturn, 1)]
theorem dt_Q_gridAt : decAll cX11_gridAt tb_Q_gridAt := by unfold decAll tb_Q_gridAt; decide +kernel
theorem cb_Q_gridAt : CBd yX11_gridAt cX11_gridAt 2 (some (.object "Quasigrove$Grid")) 1 := ⟨w_351, w_7, by decide +kernel, by decide +kernel, by decide +kernel⟩
theorem cv_Q_gridAt : CBv yX11_gridAt := ⟨w_350, w_4⟩
def tb_Grid_isLine : List (Nat × Instr × Nat) := [(0, .iload_n 1, 1), (1, .ifCond .lt 20, 3), (4, .iload_n 1, 1), (5, .aload_n 0, 1), (6, .getfield 21, 3), (9, .if_icmp .ge 12, 3), (12, .iload_n 1, 1), (13, .iconst 5, 1), (14, .if_icmp .ge 7, 3), (17, .iconst 1, 1), (18, .goto 4, 3), (21, .iconst 0, 1), (22, .ireturn, 1)]
theorem dt_Grid_isLine : decAll cX2_isLine tb_Grid_isLine := by unfold decAll tb_Grid_isLine; decide +kernel
theorem cb_Grid_isLine : CBd yX2_isLine cX2_isLine 2 (some .boolean) 1 := ⟨w_343, w_8, by decide +kernel, by decide +kernel, by decide +kernel⟩
theorem cv_Grid_isLine : CBv yX2_isLine := ⟨w_342, w_3⟩
def tb_Grid_has : List (Nat × Instr × Nat) := [(0, .aload_n 0, 1), (1, .iload_n 1, 1), (2, .invokevirtual 37, 3), (5, .ifCond .eq 15, 3), (8, .aload_n 0, 1), (9, .iload_n 2, 1), (10, .invokevirtual 37, 3), (13, .ifCond .eq 7, 3), (16, .iconst 1, 1), (17, .goto 4, 3), (20, .iconst 0, 1), (21, .ireturn, 1)]
theorem dt_Grid_has : decAll cX2_has tb_Grid_has := by unfold decAll tb_Grid_has; decide +kernel
theorem cb_Grid_has : CBd yX2_has cX2_has 3 (some .boolean) 2 := ⟨w_339, w_8, by decide +kernel, by decide +kernel, by decide +kernel⟩
theorem cv_Grid_has : CBv yX2_has := ⟨w_337, w_338⟩
def tb_Q_needCell : List (Nat × Instr × Nat) := [(0, .aload_n 0, 1), (1, .iload_n 1, 1), (2, .iload_n 2, 1), (3, .invokevirtual 269, 3), (6, .ifCond .ne 14, 3), (9, .new 254, 3), (12, .dup, 1), (13, .ldc_w 272, 3), (16, .invokespecial 258, 3), (19, .athrow, 1), (20, .return_, 1)]
theorem dt_Q_needCell : decAll cX11_needCell tb_Q_needCell := by unfold decAll tb_Q_needCell; decide +kernel
theorem cb_Q_needCell : CBd yX11_needCell cX11_needCell 3 none 3 := ⟨w_381, w_7, by decide +kernel, by decide +kernel, by decide +kernel⟩
def tb_Q_isFrom : List (Nat × Instr × Nat) := [(0, .iload_n 0, 1), (1, .iload_n 1, 1), (2, .if_icmp .lt 12, 3), (5, .iload_n 0, 1), (6, .iload_n 2, 1), (7, .if_icmp .gt 7, 3), (10, .iconst 1, 1), (11, .goto 4, 3), (14, .iconst 0, 1), (15, .ireturn, 1)]
theorem dt_Q_isFrom : decAll cX11_isFrom tb_Q_isFrom := by unfold decAll tb_Q_isFrom; decide +kernel
theorem cb_Q_isFrom : CBd yX11_isFrom cX11_isFrom 3 (some .boolean) 3 := ⟨w_220, w_7, by decide +kernel, by decide +kernel, by decide +kernel⟩
def tb_Q_needArgument : List (Nat × Instr × Nat) := [(0, .iload_n 0, 1), (1, .ifCond .ne 14, 3), (4, .new 274, 3), (7, .dup, 1), (8, .ldc_w 276, 3), (11, .invokespecial 278, 3), (14, .athrow, 1), (15, .return_, 1)]
theorem dt_Q_needArgument : decAll cX11_needArgument tb_Q_needArgument := by unfold decAll tb_Q_needArgument; decide +kernel
theorem cb_Q_needArgument : CBd yX11_needArgument cX11_needArgument 1 none 1 := ⟨w_223, w_7, by decide +kernel, by decide +kernel, by decide +kernel⟩
def tb_Grid_signAt : List (Nat × Instr × Nat) := [(0, .aload_n 0, 1), (1, .iload_n 1, 1), (2, .iload_n 2, 1), (3, .invokevirtual 41, 3), (6, .ifCond .eq 16, 3), (9, .aload_n 0, 1), (10, .getfield 9, 3), (13, .iconst 5, 1), (14, .iload_n 1, 1), (15, .imul, 1), (16, .iload_n 2, 1), (17, .iadd, 1), (18, .iaload, 1), (19, .goto 4, 3), (22, .iconst (-1), 1), (23, .ireturn, 1)]
theorem dt_Grid_signAt : decAll cX2_signAt tb_Grid_signAt := by unfold decAll tb_Grid_signAt; decide +kernel
theorem cb_Grid_signAt : CBd yX2_signAt cX2_signAt 3 (some .int) 2 := ⟨w_371, w_8, by decide +kernel, by decide +kernel, by decide +kernel⟩
theorem cv_Grid_signAt : CBv yX2_signAt := ⟨w_369, w_370⟩
def tb_Q_isIn : List (Nat × Instr × Nat) := [(0, .iload_n 1, 1), (1, .ifCond .lt 22, 3), (4, .iload_n 1, 1), (5, .bipush 31, 2), (7, .if_icmp .ge 16, 3), (10, .iload_n 0, 1), (11, .iload_n 1, 1), (12, .ishr, 1), (13, .iconst 1, 1), (14, .iand, 1), (15, .iconst 1, 1), (16, .if_icmp .ne 7, 3), (19, .iconst 1, 1), (20, .goto 4, 3), (23, .iconst 0, 1), (24, .ireturn, 1)]
theorem dt_Q_isIn : decAll cX11_isIn tb_Q_isIn := by unfold decAll tb_Q_isIn; decide +kernel
theorem cb_Q_isIn : CBd yX11_isIn cX11_isIn 2 (some .boolean) 2 := ⟨w_423, w_7, by decide +kernel, by decide +kernel, by decide +kernel⟩
def tb_Grid_hasInLines : List (Nat × Instr × Nat) := [(0, .aload_n 0, 1), (1, .iload_n 1, 1), (2, .iload_n 2, 1), (3, .invokevirtual 41, 3), (6, .ifCond .eq 27, 3), (9, .aload_n 0, 1), (10, .getfield 15, 3), (13, .iload_n 1, 1), (14, .iaload, 1), (15, .aload_n 0, 1), (16, .getfield 18, 3), (19, .iload_n 2, 1), (20, .iaload, 1), (21, .ior, 1), (22, .iload_n 3, 1), (23, .invokestatic 52, 3), (26, .ifCond .eq 7, 3), (29, .iconst 1, 1), (30, .goto 4, 3), (33, .iconst 0, 1), (34, .ireturn, 1)]
theorem dt_Grid_hasInLines : decAll cX2_hasInLines tb_Grid_hasInLines := by unfold decAll tb_Grid_hasInLines; decide +kernel
theorem cb_Grid_hasInLines : CBd yX2_hasInLines cX2_hasInLines 4 (some .boolean) 3 := ⟨w_482, w_8, by decide +kernel, by decide +kernel, by decide +kernel⟩
theorem cv_Grid_hasInLines : CBv yX2_hasInLines := ⟨w_480, w_481⟩
def tb_Q_needState : List (Nat × Instr × Nat) := [(0, .iload_n 0, 1), (1, .ifCond .ne 14, 3), (4, .new 261, 3), (7, .dup, 1), (8, .ldc_w 279, 3), (11, .invokespecial 265, 3), (14, .athrow, 1), (15, .return_, 1)]
theorem dt_Q_needState : decAll cX11_needState tb_Q_needState := by unfold decAll tb_Q_needState; decide +kernel
theorem cb_Q_needState : CBd yX11_needState cX11_needState 1 none 1 := ⟨w_486, w_7, by decide +kernel, by decide +kernel, by decide +kernel⟩
def tb_Grid_set : List (Nat × Instr × Nat) := [(0, .aload_n 0, 1), (1, .iload_n 1, 1), (2, .iload_n 2, 1), (3, .invokevirtual 41, 3), (6, .ifCond .eq 16, 3), (9, .iload_n 3, 1), (10, .iconst (-1), 1), (11, .if_icmp .lt 11, 3), (14, .iload_n 3, 1), (15, .aload_n 0, 1), (16, .getfield 21, 3), (19, .if_icmp .lt 4, 3), (22, .return_, 1), (23, .aload_n 0, 1), (24, .getfield 9, 3), (27, .iconst 5, 1), (28, .iload_n 1, 1), (29, .imul, 1), (30, .iload_n 2, 1), (31, .iadd, 1), (32, .iaload, 1), (33, .istore 4, 2), (35, .iload 4, 2), (37, .iconst (-1), 1), (38, .if_icmp .eq 43, 3), (41, .aload_n 0, 1), (42, .getfield 15, 3), (45, .iload_n 1, 1), (46, .dup2, 1), (47, .iaload, 1), (48, .iconst 1, 1), (49, .iload 4, 2), (51, .ishl, 1), (52, .iconst (-1), 1), (53, .ixor, 1), (54, .iand, 1), (55, .iastore, 1), (56, .aload_n 0, 1), (57, .getfield 18, 3), (60, .iload_n 2, 1), (61, .dup2, 1), (62, .iaload, 1), (63, .iconst 1, 1), (64, .iload 4, 2), (66, .ishl, 1), (67, .iconst (-1), 1), (68, .ixor, 1), (69, .iand, 1), (70, .iastore, 1), (71, .aload_n 0, 1), (72, .dup, 1), (73, .getfield 25, 3), (76, .iconst 1, 1), (77, .isub, 1), (78, .putfield 25, 3), (81, .iload_n 3, 1), (82, .iconst (-1), 1), (83, .if_icmp .eq 37, 3), (86, .aload_n 0, 1), (87, .getfield 15, 3), (90, .iload_n 1, 1), (91, .dup2, 1), (92, .iaload, 1), (93, .iconst 1, 1), (94, .iload_n 3, 1), (95, .ishl, 1), (96, .ior, 1), (97, .iastore, 1), (98, .aload_n 0, 1), (99, .getfield 18, 3), (102, .iload_n 2, 1), (103, .dup2, 1), (104, .iaload, 1), (105, .iconst 1, 1), (106, .iload_n 3, 1), (107, .ishl, 1), (108, .ior, 1), (109, .iastore, 1), (110, .aload_n 0, 1), (111, .dup, 1), (112, .getfield 25, 3), (115, .iconst 1, 1), (116, .iadd, 1), (117, .putfield 25, 3), (120, .aload_n 0, 1), (121, .getfield 9, 3), (124, .iconst 5, 1), (125, .iload_n 1, 1), (126, .imul, 1), (127, .iload_n 2, 1), (128, .iadd, 1), (129, .iload_n 3, 1), (130, .iastore, 1), (131, .return_, 1)]
theorem dt_Grid_set : decAll cX2_set tb_Grid_set := by unfold decAll tb_Grid_set; decide +kernel
theorem cb_Grid_set : CBd yX2_set cX2_set 5 none 3 := ⟨w_335, w_8, by decide +kernel, by decide +kernel, by decide +kernel⟩
theorem cv_Grid_set : CBv yX2_set := ⟨w_333, w_334⟩
def tb_Q_put : List (Nat × Instr × Nat) := [(0, .aload_n 0, 1), (1, .iload_n 1, 1), (2, .invokevirtual 92, 3), (5, .astore 5, 2), (7, .aload 5, 2), (9, .iload_n 2, 1), (10, .iload_n 3, 1), (11, .invokestatic 95, 3), (14, .iload 4, 2), (16, .iconst (-1), 1), (17, .aload 5, 2), (19, .getfield 99, 3), (22, .iconst 1, 1), (23, .isub, 1), (24, .invokestatic 68, 3), (27, .invokestatic 72, 3), (30, .aload 5, 2), (32, .iload_n 2, 1), (33, .iload_n 3, 1), (34, .invokevirtual 102, 3), (37, .istore 6, 2), (39, .iload 4, 2), (41, .iload 6, 2), (43, .if_icmp .eq 32, 3), (46, .aload 5, 2), (48, .iload_n 2, 1), (49, .iload_n 3, 1), (50, .iload 4, 2), (52, .invokevirtual 105, 3), (55, .ifCond .ne 7, 3), (58, .iconst 1, 1), (59, .goto 4, 3), (62, .iconst 0, 1), (63, .invokestatic 108, 3), (66, .aload 5, 2), (68, .iload_n 2, 1), (69, .iload_n 3, 1), (70, .iload 4, 2), (72, .invokevirtual 88, 3), (75, .iload 6, 2), (77, .ireturn, 1)]
theorem dt_Q_put : decAll cX11_put tb_Q_put := by unfold decAll tb_Q_put; decide +kernel
theorem cb_Q_put : CBd yX11_put cX11_put 7 (some .int) 4 := ⟨w_478, w_7, by decide +kernel, by decide +kernel, by decide +kernel⟩
theorem cv_Q_put : CBv yX11_put := ⟨w_476, w_477⟩
def tb_Grid_allSigns : List (Nat × Instr × Nat) := [(0, .iconst 1, 1), (1, .aload_n 0, 1), (2, .getfield 21, 3), (5, .ishl, 1), (6, .iconst 1, 1), (7, .isub, 1), (8, .ireturn, 1)]
theorem dt_Grid_allSigns : decAll cX2_allSigns tb_Grid_allSigns := by unfold decAll tb_Grid_allSigns; decide +kernel
theorem cb_Grid_allSigns : CBd yX2_allSigns cX2_allSigns 1 (some .int) 0 := ⟨w_400, w_8, by decide +kernel, by decide +kernel, by decide +kernel⟩
theorem cv_Grid_allSigns : CBv yX2_allSigns := ⟨w_398, w_399⟩
def tb_Grid_isRowFull : List (Nat × Instr × Nat) := [(0, .aload_n 0, 1), (1, .iload_n 1, 1), (2, .invokevirtual 37, 3), (5, .ifCond .eq 20, 3), (8, .aload_n 0, 1), (9, .getfield 15, 3), (12, .iload_n 1, 1), (13, .iaload, 1), (14, .aload_n 0, 1), (15, .invokevirtual 48, 3), (18, .if_icmp .ne 7, 3), (21, .iconst 1, 1), (22, .goto 4, 3), (25, .iconst 0, 1), (26, .ireturn, 1)]
theorem dt_Grid_isRowFull : decAll cX2_isRowFull tb_Grid_isRowFull := by unfold decAll tb_Grid_isRowFull; decide +kernel
theorem cb_Grid_isRowFull : CBd yX2_isRowFull cX2_isRowFull 2 (some .boolean) 1 := ⟨w_495, w_8, by decide +kernel, by decide +kernel, by decide +kernel⟩
theorem cv_Grid_isRowFull : CBv yX2_isRowFull := ⟨w_493, w_494⟩
def tb_Grid_columnOf : List (Nat × Instr × Nat) := [(0, .iconst 0, 1), (1, .istore_n 3, 1), (2, .iload_n 3, 1), (3, .aload_n 0, 1), (4, .getfield 21, 3), (7, .if_icmp .ge 21, 3), (10, .aload_n 0, 1), (11, .iload_n 1, 1), (12, .iload_n 3, 1), (13, .invokevirtual 45, 3), (16, .iload_n 2, 1), (17, .if_icmp .ne 5, 3), (20, .iload_n 3, 1), (21, .ireturn, 1), (22, .iinc 3 1, 3), (25, .goto (-23), 3), (28, .iconst (-1), 1), (29, .ireturn, 1)]
theorem dt_Grid_columnOf : decAll cX2_columnOf tb_Grid_columnOf := by unfold decAll tb_Grid_columnOf; decide +kernel
theorem cb_Grid_columnOf : CBd yX2_columnOf cX2_columnOf 4 (some .int) 2 := ⟨w_503, w_8, by decide +kernel, by decide +kernel, by decide +kernel⟩
theorem cv_Grid_columnOf : CBv yX2_columnOf := ⟨w_501, w_502⟩
def tb_Grid_exchange : List (Nat × Instr × Nat) := [(0, .aload_n 0, 1), (1, .iload_n 1, 1), (2, .iload_n 3, 1), (3, .invokevirtual 41, 3), (6, .ifCond .eq 56, 3), (9, .aload_n 0, 1), (10, .iload_n 2, 1), (11, .iload_n 3, 1), (12, .invokevirtual 41, 3), (15, .ifCond .eq 47, 3), (18, .aload_n 0, 1), (19, .getfield 9, 3), (22, .iconst 5, 1), (23, .iload_n 1, 1), (24, .imul, 1), (25, .iload_n 3, 1), (26, .iadd, 1), (27, .iaload, 1), (28, .istore 4, 2), (30, .aload_n 0, 1), (31, .getfield 9, 3), (34, .iconst 5, 1), (35, .iload_n 1, 1), (36, .imul, 1), (37, .iload_n 3, 1), (38, .iadd, 1), (39, .aload_n 0, 1), (40, .getfield 9, 3), (43, .iconst 5, 1), (44, .iload_n 2, 1), (45, .imul, 1), (46, .iload_n 3, 1), (47, .iadd, 1), (48, .iaload, 1), (49, .iastore, 1), (50, .aload_n 0, 1), (51, .getfield 9, 3), (54, .iconst 5, 1), (55, .iload_n 2, 1), (56, .imul, 1), (57, .iload_n 3, 1), (58, .iadd, 1), (59, .iload 4, 2), (61, .iastore, 1), (62, .return_, 1)]
theorem dt_Grid_exchange : decAll cX2_exchange tb_Grid_exchange := by unfold decAll tb_Grid_exchange; decide +kernel
theorem cb_Grid_exchange : CBd yX2_exchange cX2_exchange 5 none 3 := ⟨w_507, w_8, by decide +kernel, by decide +kernel, by decide +kernel⟩
theorem cv_Grid_exchange : CBv yX2_exchange := ⟨w_506, w_5⟩
def tb_Grid_turnRows : List (Nat × Instr × Nat) := [(0, .iconst 0, 1), (1, .istore 4, 2), (3, .iload_n 3, 1), (4, .istore 5, 2), (6, .iload 4, 2), (8, .aload_n 0, 1), (9, .getfield 21, 3), (12, .if_icmp .ge 41, 3), (15, .iload 5, 2), (17, .iconst (-1), 1), (18, .if_icmp .eq 35, 3), (21, .aload_n 0, 1), (22, .iload_n 1, 1), (23, .aload_n 0, 1), (24, .iload_n 2, 1), (25, .iload 5, 2), (27, .invokevirtual 45, 3), (30, .invokevirtual 61, 3), (33, .istore 6, 2), (35, .aload_n 0, 1), (36, .iload_n 1, 1), (37, .iload_n 2, 1), (38, .iload 5, 2), (40, .invokevirtual 64, 3), (43, .iload 6, 2), (45, .istore 5, 2), (47, .iinc 4 1, 3), (50, .goto (-44), 3), (53, .iload 4, 2), (55, .ireturn, 1)]
theorem dt_Grid_turnRows : decAll cX2_turnRows tb_Grid_turnRows := by unfold decAll tb_Grid_turnRows; decide +kernel
theorem cb_Grid_turnRows : CBd yX2_turnRows cX2_turnRows 7 (some .int) 3 := ⟨w_499, w_8, by decide +kernel, by decide +kernel, by decide +kernel⟩
theorem cv_Grid_turnRows : CBv yX2_turnRows := ⟨w_497, w_498⟩
def tb_Q_turn : List (Nat × Instr × Nat) := [(0, .aload_n 0, 1), (1, .iload_n 1, 1), (2, .invokevirtual 92, 3), (5, .astore 5, 2), (7, .aload 5, 2), (9, .iload_n 2, 1), (10, .iload 4, 2), (12, .invokestatic 95, 3), (15, .aload 5, 2), (17, .iload_n 3, 1), (18, .iload 4, 2), (20, .invokestatic 95, 3), (23, .iload_n 2, 1), (24, .iload_n 3, 1), (25, .if_icmp .eq 7, 3), (28, .iconst 1, 1), (29, .goto 4, 3), (32, .iconst 0, 1), (33, .invokestatic 72, 3), (36, .aload 5, 2), (38, .iload_n 2, 1), (39, .invokevirtual 128, 3), (42, .ifCond .eq 16, 3), (45, .aload 5, 2), (47, .iload_n 3, 1), (48, .invokevirtual 128, 3), (51, .ifCond .eq 7, 3), (54, .iconst 1, 1), (55, .goto 4, 3), (58, .iconst 0, 1), (59, .invokestatic 108, 3), (62, .aload 5, 2), (64, .iload_n 2, 1), (65, .iload_n 3, 1), (66, .iload 4, 2), (68, .invokevirtual 132, 3), (71, .ireturn, 1)]
theorem dt_Q_turn : decAll cX11_turn tb_Q_turn := by unfold decAll tb_Q_turn; decide +kernel
theorem cb_Q_turn : CBd yX11_turn cX11_turn 6 (some .int) 4 := ⟨w_491, w_7, by decide +kernel, by decide +kernel, by decide +kernel⟩
theorem cv_Q_turn : CBv yX11_turn := ⟨w_489, w_490⟩
def tb_L_told : List (Nat × Instr × Nat) := [(0, .iload_n 1, 1), (1, .ifCond .ne 16, 3), (4, .aload_n 0, 1), (5, .iload_n 2, 1), (6, .iload_n 3, 1), (7, .iload 4, 2), (9, .iload 5, 2), (11, .invokevirtual 7, 3), (14, .goto 13, 3), (17, .aload_n 0, 1), (18, .iload_n 2, 1), (19, .iload_n 3, 1), (20, .iload 4, 2), (22, .iload 5, 2), (24, .invokevirtual 13, 3), (27, .ireturn, 1)]
theorem dt_L_told : decAll cL_told tb_L_told := by unfold decAll tb_L_told; decide +kernel
theorem cb_L_told : CBd yL_told cL_told 6 (some .int) 6 := ⟨w_474, w_6, by decide +kernel, by decide +kernel, by decide +kernel⟩
def tb_L_up : List (Nat × Instr × Nat) := [(0, .iload_n 0, 1), (1, .iconst 2, 1), (2, .iushr, 1), (3, .iload_n 1, 1), (4, .irem, 1), (5, .ireturn, 1)]
theorem dt_L_up : decAll cL_up tb_L_up := by unfold decAll tb_L_up; decide +kernel
theorem cb_L_up : CBd yL_up cL_up 2 (some .int) 2 := ⟨w_463, w_6, by decide +kernel, by decide +kernel, by decide +kernel⟩
def tb_Grid_copy : List (Nat × Instr × Nat) := [(0, .aload_n 0, 1), (1, .aload_n 1, 1), (2, .getfield 21, 3), (5, .putfield 21, 3), (8, .aload_n 0, 1), (9, .aload_n 1, 1), (10, .getfield 25, 3), (13, .putfield 25, 3), (16, .iconst 0, 1), (17, .istore_n 2, 1), (18, .iload_n 2, 1), (19, .bipush 25, 2), (21, .if_icmp .ge 21, 3), (24, .aload_n 0, 1), (25, .getfield 9, 3), (28, .iload_n 2, 1), (29, .aload_n 1, 1), (30, .getfield 9, 3), (33, .iload_n 2, 1), (34, .iaload, 1), (35, .iastore, 1), (36, .iinc 2 1, 3), (39, .goto (-21), 3), (42, .iconst 0, 1), (43, .istore_n 2, 1), (44, .iload_n 2, 1), (45, .iconst 5, 1), (46, .if_icmp .ge 33, 3), (49, .aload_n 0, 1), (50, .getfield 15, 3), (53, .iload_n 2, 1), (54, .aload_n 1, 1), (55, .getfield 15, 3), (58, .iload_n 2, 1), (59, .iaload, 1), (60, .iastore, 1), (61, .aload_n 0, 1), (62, .getfield 18, 3), (65, .iload_n 2, 1), (66, .aload_n 1, 1), (67, .getfield 18, 3), (70, .iload_n 2, 1), (71, .iaload, 1), (72, .iastore, 1), (73, .iinc 2 1, 3), (76, .goto (-32), 3), (79, .return_, 1)]
theorem dt_Grid_copy : decAll cX2_copy tb_Grid_copy := by unfold decAll tb_Grid_copy; decide +kernel
theorem cb_Grid_copy : CBd yX2_copy cX2_copy 3 none 1 := ⟨w_452, w_8, by decide +kernel, by decide +kernel, by decide +kernel⟩
theorem cv_Grid_copy : CBv yX2_copy := ⟨w_450, w_451⟩
def tb_Grid_optionsAt : List (Nat × Instr × Nat) := [(0, .aload_n 0, 1), (1, .iload_n 1, 1), (2, .iload_n 2, 1), (3, .invokevirtual 41, 3), (6, .ifCond .eq 17, 3), (9, .aload_n 0, 1), (10, .getfield 9, 3), (13, .iconst 5, 1), (14, .iload_n 1, 1), (15, .imul, 1), (16, .iload_n 2, 1), (17, .iadd, 1), (18, .iaload, 1), (19, .iconst (-1), 1), (20, .if_icmp .eq 5, 3), (23, .iconst 0, 1), (24, .ireturn, 1), (25, .aload_n 0, 1), (26, .invokevirtual 48, 3), (29, .aload_n 0, 1), (30, .getfield 15, 3), (33, .iload_n 1, 1), (34, .iaload, 1), (35, .aload_n 0, 1), (36, .getfield 18, 3), (39, .iload_n 2, 1), (40, .iaload, 1), (41, .ior, 1), (42, .iconst (-1), 1), (43, .ixor, 1), (44, .iand, 1), (45, .ireturn, 1)]
theorem dt_Grid_optionsAt : decAll cX2_optionsAt tb_Grid_optionsAt := by unfold decAll tb_Grid_optionsAt; decide +kernel
theorem cb_Grid_optionsAt : CBd yX2_optionsAt cX2_optionsAt 3 (some .int) 2 := ⟨w_396, w_8, by decide +kernel, by decide +kernel, by decide +kernel⟩
theorem cv_Grid_optionsAt : CBv yX2_optionsAt := ⟨w_394, w_395⟩
def tb_Filling_isAloneInRow : List (Nat × Instr × Nat) := [(0, .iconst 0, 1), (1, .istore 4, 2), (3, .iload 4, 2), (5, .aload_n 0, 1), (6, .getfield 15, 3), (9, .if_icmp .ge 31, 3), (12, .iload 4, 2), (14, .iload_n 2, 1), (15, .if_icmp .eq 19, 3), (18, .aload_n 0, 1), (19, .iload_n 1, 1), (20, .iload 4, 2), (22, .invokevirtual 25, 3), (25, .iload_n 3, 1), (26, .invokestatic 29, 3), (29, .ifCond .eq 5, 3), (32, .iconst 0, 1), (33, .ireturn, 1), (34, .iinc 4 1, 3), (37, .goto (-34), 3), (40, .iconst 1, 1), (41, .ireturn, 1)]
theorem dt_Filling_isAloneInRow : decAll cX0_isAloneInRow tb_Filling_isAloneInRow := by unfold decAll tb_Filling_isAloneInRow; decide +kernel
theorem cb_Filling_isAloneInRow : CBd yX0_isAloneInRow cX0_isAloneInRow 5 (some .boolean) 4 := ⟨w_426, w_22, by decide +kernel, by decide +kernel, by decide +kernel⟩
def tb_Filling_isAloneInColumn : List (Nat × Instr × Nat) := [(0, .iconst 0, 1), (1, .istore 4, 2), (3, .iload 4, 2), (5, .aload_n 0, 1), (6, .getfield 15, 3), (9, .if_icmp .ge 31, 3), (12, .iload 4, 2), (14, .iload_n 1, 1), (15, .if_icmp .eq 19, 3), (18, .aload_n 0, 1), (19, .iload 4, 2), (21, .iload_n 2, 1), (22, .invokevirtual 25, 3), (25, .iload_n 3, 1), (26, .invokestatic 29, 3), (29, .ifCond .eq 5, 3), (32, .iconst 0, 1), (33, .ireturn, 1), (34, .iinc 4 1, 3), (37, .goto (-34), 3), (40, .iconst 1, 1), (41, .ireturn, 1)]
theorem dt_Filling_isAloneInColumn : decAll cX0_isAloneInColumn tb_Filling_isAloneInColumn := by unfold decAll tb_Filling_isAloneInColumn; decide +kernel
theorem cb_Filling_isAloneInColumn : CBd yX0_isAloneInColumn cX0_isAloneInColumn 5 (some .boolean) 4 := ⟨w_429, w_22, by decide +kernel, by decide +kernel, by decide +kernel⟩
def tb_Filling_isForced : List (Nat × Instr × Nat) := [(0, .aload_n 0, 1), (1, .iload_n 1, 1), (2, .iload_n 2, 1), (3, .invokevirtual 25, 3), (6, .istore 4, 2), (8, .iload 4, 2), (10, .iload_n 3, 1), (11, .invokestatic 29, 3), (14, .ifCond .eq 35, 3), (17, .iload 4, 2), (19, .iconst 1, 1), (20, .iload_n 3, 1), (21, .ishl, 1), (22, .if_icmp .eq 23, 3), (25, .aload_n 0, 1), (26, .iload_n 1, 1), (27, .iload_n 2, 1), (28, .iload_n 3, 1), (29, .invokestatic 72, 3), (32, .ifCond .ne 13, 3), (35, .aload_n 0, 1), (36, .iload_n 1, 1), (37, .iload_n 2, 1), (38, .iload_n 3, 1), (39, .invokestatic 75, 3), (42, .ifCond .eq 7, 3), (45, .iconst 1, 1), (46, .goto 4, 3), (49, .iconst 0, 1), (50, .ireturn, 1)]
theorem dt_Filling_isForced : decAll cX0_isForced tb_Filling_isForced := by unfold decAll tb_Filling_isForced; decide +kernel
theorem cb_Filling_isForced : CBd yX0_isForced cX0_isForced 5 (some .boolean) 4 := ⟨w_419, w_22, by decide +kernel, by decide +kernel, by decide +kernel⟩
def tb_Move_packed : List (Nat × Instr × Nat) := [(0, .bipush 10, 2), (2, .iconst 5, 1), (3, .iload_n 0, 1), (4, .imul, 1), (5, .iload_n 1, 1), (6, .iadd, 1), (7, .imul, 1), (8, .iload_n 2, 1), (9, .iadd, 1), (10, .ireturn, 1)]
theorem dt_Move_packed : decAll cX6_packed tb_Move_packed := by unfold decAll tb_Move_packed; decide +kernel
theorem cb_Move_packed : CBd yX6_packed cX6_packed 3 (some .int) 3 := ⟨w_432, w_23, by decide +kernel, by decide +kernel, by decide +kernel⟩
def tb_Filling_firstForced : List (Nat × Instr × Nat) := [(0, .iconst 0, 1), (1, .istore_n 1, 1), (2, .iload_n 1, 1), (3, .aload_n 0, 1), (4, .getfield 15, 3), (7, .if_icmp .ge 58, 3), (10, .iconst 0, 1), (11, .istore_n 2, 1), (12, .iload_n 2, 1), (13, .aload_n 0, 1), (14, .getfield 15, 3), (17, .if_icmp .ge 42, 3), (20, .iconst 0, 1), (21, .istore_n 3, 1), (22, .iload_n 3, 1), (23, .aload_n 0, 1), (24, .getfield 15, 3), (27, .if_icmp .ge 26, 3), (30, .aload_n 0, 1), (31, .iload_n 1, 1), (32, .iload_n 2, 1), (33, .iload_n 3, 1), (34, .invokestatic 50, 3), (37, .ifCond .eq 10, 3), (40, .iload_n 1, 1), (41, .iload_n 2, 1), (42, .iload_n 3, 1), (43, .invokestatic 54, 3), (46, .ireturn, 1), (47, .iinc 3 1, 3), (50, .goto (-28), 3), (53, .iinc 2 1, 3), (56, .goto (-44), 3), (59, .iinc 1 1, 3), (62, .goto (-60), 3), (65, .iconst (-1), 1), (66, .ireturn, 1)]
theorem dt_Filling_firstForced : decAll cX0_firstForced tb_Filling_firstForced := by unfold decAll tb_Filling_firstForced; decide +kernel
theorem cb_Filling_firstForced : CBd yX0_firstForced cX0_firstForced 4 (some .int) 1 := ⟨w_416, w_22, by decide +kernel, by decide +kernel, by decide +kernel⟩
def tb_Move_row : List (Nat × Instr × Nat) := [(0, .iload_n 0, 1), (1, .bipush 50, 2), (3, .idiv, 1), (4, .ireturn, 1)]
theorem dt_Move_row : decAll cX6_row tb_Move_row := by unfold decAll tb_Move_row; decide +kernel
theorem cb_Move_row : CBd yX6_row cX6_row 1 (some .int) 1 := ⟨w_438, w_23, by decide +kernel, by decide +kernel, by decide +kernel⟩
def tb_Move_column : List (Nat × Instr × Nat) := [(0, .iload_n 0, 1), (1, .bipush 10, 2), (3, .idiv, 1), (4, .iconst 5, 1), (5, .irem, 1), (6, .ireturn, 1)]
theorem dt_Move_column : decAll cX6_column tb_Move_column := by unfold decAll tb_Move_column; decide +kernel
theorem cb_Move_column : CBd yX6_column cX6_column 1 (some .int) 1 := ⟨w_441, w_23, by decide +kernel, by decide +kernel, by decide +kernel⟩
def tb_Move_sign : List (Nat × Instr × Nat) := [(0, .iload_n 0, 1), (1, .bipush 10, 2), (3, .irem, 1), (4, .ireturn, 1)]
theorem dt_Move_sign : decAll cX6_sign tb_Move_sign := by unfold decAll tb_Move_sign; decide +kernel
theorem cb_Move_sign : CBd yX6_sign cX6_sign 1 (some .int) 1 := ⟨w_444, w_23, by decide +kernel, by decide +kernel, by decide +kernel⟩
def tb_Filling_fillForced : List (Nat × Instr × Nat) := [(0, .iconst 0, 1), (1, .istore_n 1, 1), (2, .aload_n 0, 1), (3, .invokestatic 60, 3), (6, .istore_n 2, 1), (7, .iload_n 2, 1), (8, .iconst (-1), 1), (9, .if_icmp .eq 36, 3), (12, .iload_n 1, 1), (13, .bipush 25, 2), (15, .if_icmp .ge 30, 3), (18, .aload_n 0, 1), (19, .iload_n 2, 1), (20, .invokestatic 63, 3), (23, .iload_n 2, 1), (24, .invokestatic 66, 3), (27, .iload_n 2, 1), (28, .invokestatic 69, 3), (31, .invokevirtual 33, 3), (34, .iinc 1 1, 3), (37, .aload_n 0, 1), (38, .invokestatic 60, 3), (41, .istore_n 2, 1), (42, .goto (-35), 3), (45, .iload_n 1, 1), (46, .ireturn, 1)]
theorem dt_Filling_fillForced : decAll cX0_fillForced tb_Filling_fillForced := by unfold decAll tb_Filling_fillForced; decide +kernel
theorem cb_Filling_fillForced : CBd yX0_fillForced cX0_fillForced 3 (some .int) 1 := ⟨w_455, w_22, by decide +kernel, by decide +kernel, by decide +kernel⟩
def tb_Q_logic : List (Nat × Instr × Nat) := [(0, .aload_n 0, 1), (1, .getfield 16, 3), (4, .aload_n 0, 1), (5, .iload_n 1, 1), (6, .invokevirtual 92, 3), (9, .invokevirtual 153, 3), (12, .aload_n 0, 1), (13, .getfield 16, 3), (16, .invokestatic 179, 3), (19, .ireturn, 1)]
theorem dt_Q_logic : decAll cX11_logic tb_Q_logic := by unfold decAll tb_Q_logic; decide +kernel
theorem cb_Q_logic : CBd yX11_logic cX11_logic 2 (some .int) 1 := ⟨w_448, w_7, by decide +kernel, by decide +kernel, by decide +kernel⟩
theorem cv_Q_logic : CBv yX11_logic := ⟨w_446, w_447⟩
def tb_Move_told : List (Nat × Instr × Nat) := [(0, .iload_n 0, 1), (1, .iconst (-1), 1), (2, .if_icmp .ne 7, 3), (5, .iconst (-1), 1), (6, .goto 22, 3), (9, .bipush 10, 2), (11, .iload_n 1, 1), (12, .iload_n 0, 1), (13, .invokestatic 9, 3), (16, .imul, 1), (17, .iload_n 0, 1), (18, .invokestatic 15, 3), (21, .iadd, 1), (22, .imul, 1), (23, .iload_n 0, 1), (24, .invokestatic 18, 3), (27, .iadd, 1), (28, .ireturn, 1)]
theorem dt_Move_told : decAll cX6_told tb_Move_told := by unfold decAll tb_Move_told; decide +kernel
theorem cb_Move_told : CBd yX6_told cX6_told 2 (some .int) 2 := ⟨w_435, w_23, by decide +kernel, by decide +kernel, by decide +kernel⟩
def tb_Q_forced : List (Nat × Instr × Nat) := [(0, .aload_n 0, 1), (1, .iload_n 1, 1), (2, .invokevirtual 92, 3), (5, .astore_n 2, 1), (6, .aload_n 2, 1), (7, .invokestatic 170, 3), (10, .aload_n 2, 1), (11, .getfield 99, 3), (14, .invokestatic 174, 3), (17, .ireturn, 1)]
theorem dt_Q_forced : decAll cX11_forced tb_Q_forced := by unfold decAll tb_Q_forced; decide +kernel
theorem cb_Q_forced : CBd yX11_forced cX11_forced 3 (some .int) 1 := ⟨w_413, w_7, by decide +kernel, by decide +kernel, by decide +kernel⟩
theorem cv_Q_forced : CBv yX11_forced := ⟨w_411, w_412⟩
def tb_Q_can : List (Nat × Instr × Nat) := [(0, .aload_n 0, 1), (1, .iload_n 1, 1), (2, .invokevirtual 92, 3), (5, .astore 4, 2), (7, .aload 4, 2), (9, .iload_n 2, 1), (10, .iload_n 3, 1), (11, .invokestatic 95, 3), (14, .aload 4, 2), (16, .iload_n 2, 1), (17, .iload_n 3, 1), (18, .invokevirtual 150, 3), (21, .ireturn, 1)]
theorem dt_Q_can : decAll cX11_can tb_Q_can := by unfold decAll tb_Q_can; decide +kernel
theorem cb_Q_can : CBd yX11_can cX11_can 5 (some .int) 3 := ⟨w_408, w_7, by decide +kernel, by decide +kernel, by decide +kernel⟩
theorem cv_Q_can : CBv yX11_can := ⟨w_406, w_407⟩
def tb_Q_distance : List (Nat × Instr × Nat) := [(0, .aload_n 0, 1), (1, .iload_n 1, 1), (2, .invokevirtual 92, 3), (5, .astore_n 3, 1), (6, .aload_n 0, 1), (7, .iload_n 2, 1), (8, .invokevirtual 92, 3), (11, .astore 4, 2), (13, .aload_n 3, 1), (14, .getfield 99, 3), (17, .aload 4, 2), (19, .getfield 99, 3), (22, .if_icmp .ne 7, 3), (25, .iconst 1, 1), (26, .goto 4, 3), (29, .iconst 0, 1), (30, .invokestatic 72, 3), (33, .iconst 0, 1), (34, .istore 5, 2), (36, .iconst 0, 1), (37, .istore 6, 2), (39, .iload 6, 2), (41, .aload_n 3, 1), (42, .getfield 99, 3), (45, .if_icmp .ge 50, 3), (48, .iconst 0, 1), (49, .istore 7, 2), (51, .iload 7, 2), (53, .aload_n 3, 1), (54, .getfield 99, 3), (57, .if_icmp .ge 32, 3), (60, .aload_n 3, 1), (61, .iload 6, 2), (63, .iload 7, 2), (65, .invokevirtual 102, 3), (68, .aload 4, 2), (70, .iload 6, 2), (72, .iload 7, 2), (74, .invokevirtual 102, 3), (77, .if_icmp .eq 6, 3), (80, .iinc 5 1, 3), (83, .iinc 7 1, 3), (86, .goto (-35), 3), (89, .iinc 6 1, 3), (92, .goto (-53), 3), (95, .iload 5, 2), (97, .ireturn, 1)]
theorem dt_Q_distance : decAll cX11_distance tb_Q_distance := by unfold decAll tb_Q_distance; decide +kernel
theorem cb_Q_distance : CBd yX11_distance cX11_distance 8 (some .int) 2 := ⟨w_404, w_7, by decide +kernel, by decide +kernel, by decide +kernel⟩
theorem cv_Q_distance : CBv yX11_distance := ⟨w_402, w_403⟩
def tb_Grid_deadCells : List (Nat × Instr × Nat) := [(0, .iconst 0, 1), (1, .istore_n 1, 1), (2, .iconst 0, 1), (3, .istore_n 2, 1), (4, .iload_n 2, 1), (5, .aload_n 0, 1), (6, .getfield 21, 3), (9, .if_icmp .ge 47, 3), (12, .iconst 0, 1), (13, .istore_n 3, 1), (14, .iload_n 3, 1), (15, .aload_n 0, 1), (16, .getfield 21, 3), (19, .if_icmp .ge 31, 3), (22, .aload_n 0, 1), (23, .iload_n 2, 1), (24, .iload_n 3, 1), (25, .invokevirtual 45, 3), (28, .iconst (-1), 1), (29, .if_icmp .ne 15, 3), (32, .aload_n 0, 1), (33, .iload_n 2, 1), (34, .iload_n 3, 1), (35, .invokevirtual 58, 3), (38, .ifCond .ne 6, 3), (41, .iinc 1 1, 3), (44, .iinc 3 1, 3), (47, .goto (-33), 3), (50, .iinc 2 1, 3), (53, .goto (-49), 3), (56, .iload_n 1, 1), (57, .ireturn, 1)]
theorem dt_Grid_deadCells : decAll cX2_deadCells tb_Grid_deadCells := by unfold decAll tb_Grid_deadCells; decide +kernel
theorem cb_Grid_deadCells : CBd yX2_deadCells cX2_deadCells 4 (some .int) 0 := ⟨w_391, w_8, by decide +kernel, by decide +kernel, by decide +kernel⟩
theorem cv_Grid_deadCells : CBv yX2_deadCells := ⟨w_389, w_390⟩
def tb_Q_of : List (Nat × Instr × Nat) := [(0, .aload_n 0, 1), (1, .iload_n 1, 1), (2, .invokevirtual 92, 3), (5, .astore_n 3, 1), (6, .iload_n 2, 1), (7, .iconst 0, 1), (8, .iconst 2, 1), (9, .invokestatic 68, 3), (12, .invokestatic 72, 3), (15, .iload_n 2, 1), (16, .lookupswitch 38 #[(0, 28), (1, 33)], 28), (44, .aload_n 3, 1), (45, .getfield 99, 3), (48, .ireturn, 1), (49, .aload_n 3, 1), (50, .getfield 121, 3), (53, .ireturn, 1), (54, .aload_n 3, 1), (55, .invokevirtual 124, 3), (58, .ireturn, 1)]
theorem dt_Q_of : decAll cX11_of tb_Q_of := by unfold decAll tb_Q_of; decide +kernel
theorem cb_Q_of : CBd yX11_of cX11_of 4 (some .int) 2 := ⟨w_387, w_7, by decide +kernel, by decide +kernel, by decide +kernel⟩
theorem cv_Q_of : CBv yX11_of := ⟨w_385, w_386⟩
def tb_Q_cell : List (Nat × Instr × Nat) := [(0, .aload_n 0, 1), (1, .iload_n 1, 1), (2, .invokevirtual 92, 3), (5, .astore 4, 2), (7, .aload 4, 2), (9, .iload_n 2, 1), (10, .iload_n 3, 1), (11, .invokestatic 95, 3), (14, .aload 4, 2), (16, .iload_n 2, 1), (17, .iload_n 3, 1), (18, .invokevirtual 102, 3), (21, .ireturn, 1)]
theorem dt_Q_cell : decAll cX11_cell tb_Q_cell := by unfold decAll tb_Q_cell; decide +kernel
theorem cb_Q_cell : CBd yX11_cell cX11_cell 5 (some .int) 3 := ⟨w_378, w_7, by decide +kernel, by decide +kernel, by decide +kernel⟩
theorem cv_Q_cell : CBv yX11_cell := ⟨w_376, w_377⟩
def tb_Grid_clear : List (Nat × Instr × Nat) := [(0, .aload_n 0, 1), (1, .iconst 2, 1), (2, .iload_n 1, 1), (3, .iconst 5, 1), (4, .invokestatic 28, 3), (7, .invokestatic 34, 3), (10, .putfield 21, 3), (13, .aload_n 0, 1), (14, .iconst 0, 1), (15, .putfield 25, 3), (18, .iconst 0, 1), (19, .istore_n 2, 1), (20, .iload_n 2, 1), (21, .bipush 25, 2), (23, .if_icmp .ge 16, 3), (26, .aload_n 0, 1), (27, .getfield 9, 3), (30, .iload_n 2, 1), (31, .iconst (-1), 1), (32, .iastore, 1), (33, .iinc 2 1, 3), (36, .goto (-16), 3), (39, .iconst 0, 1), (40, .istore_n 2, 1), (41, .iload_n 2, 1), (42, .iconst 5, 1), (43, .if_icmp .ge 23, 3), (46, .aload_n 0, 1), (47, .getfield 15, 3), (50, .iload_n 2, 1), (51, .iconst 0, 1), (52, .iastore, 1), (53, .aload_n 0, 1), (54, .getfield 18, 3), (57, .iload_n 2, 1), (58, .iconst 0, 1), (59, .iastore, 1), (60, .iinc 2 1, 3), (63, .goto (-22), 3), (66, .return_, 1)]
theorem dt_Grid_clear : decAll cX2_clear tb_Grid_clear := by unfold decAll tb_Grid_clear; decide +kernel
theorem cb_Grid_clear : CBd yX2_clear cX2_clear 3 none 1 := ⟨w_315, w_8, by decide +kernel, by decide +kernel, by decide +kernel⟩
theorem cv_Grid_clear : CBv yX2_clear := ⟨w_313, w_314⟩
def tb_Q_newGrid : List (Nat × Instr × Nat) := [(0, .aload_n 0, 1), (1, .getfield 64, 3), (4, .ifCond .lt 27, 3), (7, .aload_n 0, 1), (8, .getfield 64, 3), (11, .aload_n 0, 1), (12, .getfield 11, 3), (15, .arraylength, 1), (16, .if_icmp .ge 15, 3), (19, .aload_n 0, 1), (20, .getfield 11, 3), (23, .aload_n 0, 1), (24, .getfield 64, 3), (27, .aaload, 1), (28, .ifnonnull 14, 3), (31, .new 261, 3), (34, .dup, 1), (35, .ldc_w 263, 3), (38, .invokespecial 265, 3), (41, .athrow, 1), (42, .aload_n 0, 1), (43, .getfield 11, 3), (46, .aload_n 0, 1), (47, .getfield 64, 3), (50, .aaload, 1), (51, .astore_n 2, 1), (52, .aload_n 0, 1), (53, .dup, 1), (54, .getfield 64, 3), (57, .iconst 1, 1), (58, .iadd, 1), (59, .putfield 64, 3), (62, .aload_n 2, 1), (63, .iload_n 1, 1), (64, .invokevirtual 266, 3), (67, .aload_n 2, 1), (68, .areturn, 1)]
theorem dt_Q_newGrid : decAll cX11_newGrid tb_Q_newGrid := by unfold decAll tb_Q_newGrid; decide +kernel
theorem cb_Q_newGrid : CBd yX11_newGrid cX11_newGrid 3 (some (.object "Quasigrove$Grid")) 1 := ⟨w_295, w_7, by decide +kernel, by decide +kernel, by decide +kernel⟩
theorem cv_Q_newGrid : CBv yX11_newGrid := ⟨w_294, w_2⟩
def tb_Q_setConjugate : List (Nat × Instr × Nat) := [(0, .iload_n 1, 1), (1, .tableswitch 90 0 4 #[35, 46, 57, 68, 79], 35), (36, .aload_n 0, 1), (37, .iload_n 2, 1), (38, .iload_n 3, 1), (39, .iload 4, 2), (41, .invokevirtual 88, 3), (44, .goto 55, 3), (47, .aload_n 0, 1), (48, .iload_n 3, 1), (49, .iload_n 2, 1), (50, .iload 4, 2), (52, .invokevirtual 88, 3), (55, .goto 44, 3), (58, .aload_n 0, 1), (59, .iload_n 2, 1), (60, .iload 4, 2), (62, .iload_n 3, 1), (63, .invokevirtual 88, 3), (66, .goto 33, 3), (69, .aload_n 0, 1), (70, .iload 4, 2), (72, .iload_n 3, 1), (73, .iload_n 2, 1), (74, .invokevirtual 88, 3), (77, .goto 22, 3), (80, .aload_n 0, 1), (81, .iload_n 3, 1), (82, .iload 4, 2), (84, .iload_n 2, 1), (85, .invokevirtual 88, 3), (88, .goto 11, 3), (91, .aload_n 0, 1), (92, .iload 4, 2), (94, .iload_n 2, 1), (95, .iload_n 3, 1), (96, .invokevirtual 88, 3), (99, .return_, 1)]
theorem dt_Q_setConjugate : decAll cX11_setConjugate tb_Q_setConjugate := by unfold decAll tb_Q_setConjugate; decide +kernel
theorem cb_Q_setConjugate : CBd yX11_setConjugate cX11_setConjugate 5 none 5 := ⟨w_374, w_7, by decide +kernel, by decide +kernel, by decide +kernel⟩
def tb_Q_conjugate : List (Nat × Instr × Nat) := [(0, .aload_n 0, 1), (1, .iload_n 1, 1), (2, .invokevirtual 92, 3), (5, .astore_n 3, 1), (6, .iload_n 2, 1), (7, .iconst 0, 1), (8, .iconst 5, 1), (9, .invokestatic 68, 3), (12, .invokestatic 72, 3), (15, .aload_n 0, 1), (16, .aload_n 3, 1), (17, .getfield 99, 3), (20, .invokevirtual 76, 3), (23, .astore 4, 2), (25, .iconst 0, 1), (26, .istore 5, 2), (28, .iload 5, 2), (30, .aload_n 3, 1), (31, .getfield 99, 3), (34, .if_icmp .ge 55, 3), (37, .iconst 0, 1), (38, .istore 6, 2), (40, .iload 6, 2), (42, .aload_n 3, 1), (43, .getfield 99, 3), (46, .if_icmp .ge 37, 3), (49, .aload_n 3, 1), (50, .iload 5, 2), (52, .iload 6, 2), (54, .invokevirtual 102, 3), (57, .istore 7, 2), (59, .iload 7, 2), (61, .iconst (-1), 1), (62, .if_icmp .eq 15, 3), (65, .aload 4, 2), (67, .iload_n 2, 1), (68, .iload 5, 2), (70, .iload 6, 2), (72, .iload 7, 2), (74, .invokestatic 117, 3), (77, .iinc 6 1, 3), (80, .goto (-40), 3), (83, .iinc 5 1, 3), (86, .goto (-58), 3), (89, .aload_n 0, 1), (90, .getfield 64, 3), (93, .iconst 1, 1), (94, .isub, 1), (95, .ireturn, 1)]
theorem dt_Q_conjugate : decAll cX11_conjugate tb_Q_conjugate := by unfold decAll tb_Q_conjugate; decide +kernel
theorem cb_Q_conjugate : CBd yX11_conjugate cX11_conjugate 8 (some .int) 2 := ⟨w_347, w_7, by decide +kernel, by decide +kernel, by decide +kernel⟩
theorem cv_Q_conjugate : CBv yX11_conjugate := ⟨w_345, w_346⟩
def tb_Q_remainder : List (Nat × Instr × Nat) := [(0, .iload_n 1, 1), (1, .ifCond .le 9, 3), (4, .iload_n 0, 1), (5, .iload_n 1, 1), (6, .irem, 1), (7, .goto 4, 3), (10, .iconst 0, 1), (11, .ireturn, 1)]
theorem dt_Q_remainder : decAll cX11_remainder tb_Q_remainder := by unfold decAll tb_Q_remainder; decide +kernel
theorem cb_Q_remainder : CBd yX11_remainder cX11_remainder 2 (some .int) 2 := ⟨w_331, w_7, by decide +kernel, by decide +kernel, by decide +kernel⟩
def tb_Q_reachesAll : List (Nat × Instr × Nat) := [(0, .iconst 0, 1), (1, .istore_n 2, 1), (2, .iconst 0, 1), (3, .istore_n 3, 1), (4, .iload_n 3, 1), (5, .iload_n 1, 1), (6, .if_icmp .ge 21, 3), (9, .iload_n 2, 1), (10, .iconst 1, 1), (11, .iload_n 0, 1), (12, .iload_n 3, 1), (13, .imul, 1), (14, .iload_n 1, 1), (15, .invokestatic 84, 3), (18, .ishl, 1), (19, .ior, 1), (20, .istore_n 2, 1), (21, .iinc 3 1, 3), (24, .goto (-20), 3), (27, .iload_n 2, 1), (28, .iconst 1, 1), (29, .iload_n 1, 1), (30, .ishl, 1), (31, .iconst 1, 1), (32, .isub, 1), (33, .if_icmp .ne 7, 3), (36, .iconst 1, 1), (37, .goto 4, 3), (40, .iconst 0, 1), (41, .ireturn, 1)]
theorem dt_Q_reachesAll : decAll cX11_reachesAll tb_Q_reachesAll := by unfold decAll tb_Q_reachesAll; decide +kernel
theorem cb_Q_reachesAll : CBd yX11_reachesAll cX11_reachesAll 4 (some .boolean) 2 := ⟨w_328, w_7, by decide +kernel, by decide +kernel, by decide +kernel⟩
def tb_Q_linear : List (Nat × Instr × Nat) := [(0, .iload_n 1, 1), (1, .iconst 2, 1), (2, .iconst 5, 1), (3, .invokestatic 68, 3), (6, .invokestatic 72, 3), (9, .iload_n 2, 1), (10, .iconst 0, 1), (11, .iconst 4, 1), (12, .invokestatic 68, 3), (15, .ifCond .eq 26, 3), (18, .iload_n 3, 1), (19, .iconst 0, 1), (20, .iconst 4, 1), (21, .invokestatic 68, 3), (24, .ifCond .eq 17, 3), (27, .iload 4, 2), (29, .iconst 0, 1), (30, .iconst 4, 1), (31, .invokestatic 68, 3), (34, .ifCond .eq 7, 3), (37, .iconst 1, 1), (38, .goto 4, 3), (41, .iconst 0, 1), (42, .invokestatic 72, 3), (45, .iload_n 2, 1), (46, .iload_n 1, 1), (47, .invokestatic 80, 3), (50, .ifCond .eq 15, 3), (53, .iload_n 3, 1), (54, .iload_n 1, 1), (55, .invokestatic 80, 3), (58, .ifCond .eq 7, 3), (61, .iconst 1, 1), (62, .goto 4, 3), (65, .iconst 0, 1), (66, .invokestatic 72, 3), (69, .aload_n 0, 1), (70, .iload_n 1, 1), (71, .invokevirtual 76, 3), (74, .astore 5, 2), (76, .iconst 0, 1), (77, .istore 6, 2), (79, .iload 6, 2), (81, .iload_n 1, 1), (82, .if_icmp .ge 49, 3), (85, .iconst 0, 1), (86, .istore 7, 2), (88, .iload 7, 2), (90, .iload_n 1, 1), (91, .if_icmp .ge 34, 3), (94, .aload 5, 2), (96, .iload 6, 2), (98, .iload 7, 2), (100, .iload_n 2, 1), (101, .iload 6, 2), (103, .imul, 1), (104, .iload_n 3, 1), (105, .iload 7, 2), (107, .imul, 1), (108, .iadd, 1), (109, .iload 4, 2), (111, .iadd, 1), (112, .iload_n 1, 1), (113, .invokestatic 84, 3), (116, .invokevirtual 88, 3), (119, .iinc 7 1, 3), (122, .goto (-34), 3), (125, .iinc 6 1, 3), (128, .goto (-49), 3), (131, .aload_n 0, 1), (132, .getfield 64, 3), (135, .iconst 1, 1), (136, .isub, 1), (137, .ireturn, 1)]
theorem dt_Q_linear : decAll cX11_linear tb_Q_linear := by unfold decAll tb_Q_linear; decide +kernel
theorem cb_Q_linear : CBd yX11_linear cX11_linear 8 (some .int) 4 := ⟨w_325, w_7, by decide +kernel, by decide +kernel, by decide +kernel⟩
theorem cv_Q_linear : CBv yX11_linear := ⟨w_323, w_324⟩
def tb_Q_grid : List (Nat × Instr × Nat) := [(0, .iload_n 1, 1), (1, .iconst 2, 1), (2, .iconst 5, 1), (3, .invokestatic 68, 3), (6, .invokestatic 72, 3), (9, .aload_n 0, 1), (10, .iload_n 1, 1), (11, .invokevirtual 76, 3), (14, .pop, 1), (15, .aload_n 0, 1), (16, .getfield 64, 3), (19, .iconst 1, 1), (20, .isub, 1), (21, .ireturn, 1)]
theorem dt_Q_grid : decAll cX11_grid tb_Q_grid := by unfold decAll tb_Q_grid; decide +kernel
theorem cb_Q_grid : CBd yX11_grid cX11_grid 2 (some .int) 1 := ⟨w_217, w_7, by decide +kernel, by decide +kernel, by decide +kernel⟩
theorem cv_Q_grid : CBv yX11_grid := ⟨w_215, w_216⟩
def tb_Maps_arrange : List (Nat × Instr × Nat) := [(0, .iconst 5, 1), (1, .iload_n 1, 1), (2, .imul, 1), (3, .istore_n 2, 1), (4, .iload_n 1, 1), (5, .istore_n 3, 1), (6, .iconst 0, 1), (7, .istore 4, 2), (9, .iload 4, 2), (11, .iconst 5, 1), (12, .if_icmp .ge 104, 3), (15, .iload_n 2, 1), (16, .iload 4, 2), (18, .iadd, 1), (19, .istore 5, 2), (21, .iload_n 3, 1), (22, .iload 4, 2), (24, .iconst 1, 1), (25, .iadd, 1), (26, .irem, 1), (27, .istore 6, 2), (29, .iload_n 3, 1), (30, .iload 4, 2), (32, .iconst 1, 1), (33, .iadd, 1), (34, .idiv, 1), (35, .istore_n 3, 1), (36, .iconst 0, 1), (37, .istore 7, 2), (39, .iload 7, 2), (41, .iload 6, 2), (43, .if_icmp .ge 43, 3), (46, .iload 5, 2), (48, .ifCond .le 38, 3), (51, .iload 5, 2), (53, .aload_n 0, 1), (54, .getfield 9, 3), (57, .arraylength, 1), (58, .if_icmp .ge 28, 3), (61, .aload_n 0, 1), (62, .getfield 9, 3), (65, .iload 5, 2), (67, .aload_n 0, 1), (68, .getfield 9, 3), (71, .iload 5, 2), (73, .iconst 1, 1), (74, .isub, 1), (75, .iaload, 1), (76, .iastore, 1), (77, .iinc 5 (-1), 3), (80, .iinc 7 1, 3), (83, .goto (-44), 3), (86, .iload 5, 2), (88, .ifCond .lt 22, 3), (91, .iload 5, 2), (93, .aload_n 0, 1), (94, .getfield 9, 3), (97, .arraylength, 1), (98, .if_icmp .ge 12, 3), (101, .aload_n 0, 1), (102, .getfield 9, 3), (105, .iload 5, 2), (107, .iload 4, 2), (109, .iastore, 1), (110, .iinc 4 1, 3), (113, .goto (-104), 3), (116, .return_, 1)]
theorem dt_Maps_arrange : decAll cX4_arrange tb_Maps_arrange := by unfold decAll tb_Maps_arrange; decide +kernel
theorem cb_Maps_arrange : CBd yX4_arrange cX4_arrange 8 none 1 := ⟨w_68, w_9, by decide +kernel, by decide +kernel, by decide +kernel⟩
theorem cv_Maps_arrange : CBv yX4_arrange := ⟨w_67, w_0⟩
theorem tw_254_258 : TW "Quasigrove" "java/lang/IndexOutOfBoundsException" 254 258 ["java/lang/RuntimeException", "java/lang/Exception"] := ⟨by decide +kernel, by decide +kernel, w_352, w_21, by decide +kernel, by decide +kernel⟩
theorem tw_274_278 : TW "Quasigrove" "java/lang/IllegalArgumentException" 274 278 ["java/lang/RuntimeException", "java/lang/Exception"] := ⟨by decide +kernel, by decide +kernel, w_224, w_18, by decide +kernel, by decide +kernel⟩
theorem tw_261_265 : TW "Quasigrove" "java/lang/IllegalStateException" 261 265 ["java/lang/RuntimeException", "java/lang/Exception"] := ⟨by decide +kernel, by decide +kernel, w_296, w_19, by decide +kernel, by decide +kernel⟩
end
section
def f_Grid_isLine (σ : St) (v0 : Nat) (v1 : Int32) : Option Int32 :=
  jn (some 0) fun j21_1 =>
  if v1 < 0 then
    j21_1
  else
    if v1 < (σ v0 3) then
      if v1 < 5 then
        some 1
      else
        j21_1
    else
      j21_1

def f_Grid_has (σ : St) (v0 : Nat) (v1 : Int32) (v2 : Int32) : Option Int32 :=
  cap (f_Grid_isLine σ v0 v1) fun r_2 =>
  jn (some 0) fun j20_3 =>
  if r_2 = 0 then
    j20_3
  else
    cap (f_Grid_isLine σ v0 v2) fun r_5 =>
    if r_5 = 0 then
      j20_3
    else
      some 1

def f_Grid_signAt (σ : St) (v0 : Nat) (v1 : Int32) (v2 : Int32) : Option Int32 :=
  cap (f_Grid_has σ v0 v1 v2) fun r_2 =>
  if r_2 = 0 then
    some (-1)
  else
    ald σ (v0 + 1) 25 ((5 * v1) + v2) fun r_3 =>
    some r_3

def f_Q_isIn (σ : St) (v0 : Int32) (v1 : Int32) : Option Int32 :=
  jn (some 0) fun j23_1 =>
  if v1 < 0 then
    j23_1
  else
    if v1 < 31 then
      if ((v0 >>> (v1 &&& 31)) &&& 1) = 1 then
        some 1
      else
        j23_1
    else
      j23_1

def f_Grid_hasInLines (σ : St) (v0 : Nat) (v1 : Int32) (v2 : Int32) (v3 : Int32) : Option Int32 :=
  cap (f_Grid_has σ v0 v1 v2) fun r_2 =>
  jn (some 0) fun j33_3 =>
  if r_2 = 0 then
    j33_3
  else
    ald σ (v0 + 2) 5 v1 fun r_4 =>
    ald σ (v0 + 3) 5 v2 fun r_5 =>
    cap (f_Q_isIn σ (r_4 ||| r_5) v3) fun r_7 =>
    if r_7 = 0 then
      j33_3
    else
      some 1

def f_Grid_set (σ : St) (v0 : Nat) (v1 : Int32) (v2 : Int32) (v3 : Int32) : Option (Unit × St) :=
  cap (f_Grid_has σ v0 v1 v2) fun r_2 =>
  if r_2 = 0 then
    some ((), σ)
  else
    if v3 < (-1) then
      some ((), σ)
    else
      if v3 < (σ v0 3) then
        ald σ (v0 + 1) 25 ((5 * v1) + v2) fun r_3 =>
        jn (fun (σ_5 : St) => jn (fun (σ_7 : St) => ast σ_7 (v0 + 1) 25 ((5 * v1) + v2) v3 fun σ_8 =>
        some ((), σ_8)) fun j120_6 =>
        if v3 = (-1) then
          j120_6 σ_5
        else
          ald σ_5 (v0 + 2) 5 v1 fun r_9 =>
          ast σ_5 (v0 + 2) 5 v1 (r_9 ||| (1 <<< (v3 &&& 31))) fun σ_10 =>
          ald σ_10 (v0 + 3) 5 v2 fun r_11 =>
          ast σ_10 (v0 + 3) 5 v2 (r_11 ||| (1 <<< (v3 &&& 31))) fun σ_12 =>
          sto σ_12 v0 4 ((σ_12 v0 4) + 1) fun σ_13 =>
          j120_6 σ_13) fun j81_4 =>
        if r_3 = (-1) then
          j81_4 σ
        else
          ald σ (v0 + 2) 5 v1 fun r_14 =>
          ast σ (v0 + 2) 5 v1 (r_14 &&& ((1 <<< (r_3 &&& 31)) ^^^ (-1))) fun σ_15 =>
          ald σ_15 (v0 + 3) 5 v2 fun r_16 =>
          ast σ_15 (v0 + 3) 5 v2 (r_16 &&& ((1 <<< (r_3 &&& 31)) ^^^ (-1))) fun σ_17 =>
          sto σ_17 v0 4 ((σ_17 v0 4) - 1) fun σ_18 =>
          j81_4 σ_18
      else
        some ((), σ)

def f_Grid_allSigns (σ : St) (v0 : Nat) : Option Int32 :=
  some ((1 <<< ((σ v0 3) &&& 31)) - 1)

def f_Grid_isRowFull (σ : St) (v0 : Nat) (v1 : Int32) : Option Int32 :=
  cap (f_Grid_isLine σ v0 v1) fun r_2 =>
  jn (some 0) fun j25_3 =>
  if r_2 = 0 then
    j25_3
  else
    ald σ (v0 + 2) 5 v1 fun r_4 =>
    cap (f_Grid_allSigns σ v0) fun r_6 =>
    if r_4 = r_6 then
      some 1
    else
      j25_3

def f_Grid_columnOf_L2 (v0 : Nat) (v1 : Int32) (v2 : Int32) (σ : St) (kx20 : Int32 → Option Int32) : Nat → Int32 → Option Int32
  | 0, _ => none
  | n + 1, v3 =>     if v3 < (σ v0 3) then
      cap (f_Grid_signAt σ v0 v1 v3) fun r_2 =>
      if r_2 = v2 then
        kx20 v3
      else
        f_Grid_columnOf_L2 v0 v1 v2 σ kx20 n (v3 + 1)
    else
      some (-1)

def f_Grid_columnOf (σ : St) (v0 : Nat) (v1 : Int32) (v2 : Int32) : Option Int32 :=
  f_Grid_columnOf_L2 v0 v1 v2 σ (fun (v3_3 : Int32) => some v3_3) FU 0

def f_Grid_exchange (σ : St) (v0 : Nat) (v1 : Int32) (v2 : Int32) (v3 : Int32) : Option (Unit × St) :=
  cap (f_Grid_has σ v0 v1 v3) fun r_2 =>
  if r_2 = 0 then
    some ((), σ)
  else
    cap (f_Grid_has σ v0 v2 v3) fun r_4 =>
    if r_4 = 0 then
      some ((), σ)
    else
      ald σ (v0 + 1) 25 ((5 * v1) + v3) fun r_5 =>
      ald σ (v0 + 1) 25 ((5 * v2) + v3) fun r_6 =>
      ast σ (v0 + 1) 25 ((5 * v1) + v3) r_6 fun σ_7 =>
      ast σ_7 (v0 + 1) 25 ((5 * v2) + v3) r_5 fun σ_8 =>
      some ((), σ_8)

def f_Grid_turnRows_L6 (v0 : Nat) (v1 : Int32) (v2 : Int32) (kx53 : Int32 → St → Option (Int32 × St)) : Nat → Int32 → Int32 → St → Option (Int32 × St)
  | 0, _, _, _ => none
  | n + 1, v4, v5, σ =>     if v4 < (σ v0 3) then
      if v5 = (-1) then
        kx53 v4 σ
      else
        cap (f_Grid_signAt σ v0 v2 v5) fun r_2 =>
        cap (f_Grid_columnOf σ v0 v1 r_2) fun r_4 =>
        cal (f_Grid_exchange σ v0 v1 v2 v5) fun r_6 σ_7 =>
        f_Grid_turnRows_L6 v0 v1 v2 kx53 n (v4 + 1) r_4 σ_7
    else
      kx53 v4 σ

def f_Grid_turnRows (σ : St) (v0 : Nat) (v1 : Int32) (v2 : Int32) (v3 : Int32) : Option (Int32 × St) :=
  f_Grid_turnRows_L6 v0 v1 v2 (fun (v4_8 : Int32) (σ_9 : St) => some (v4_8, σ_9)) FU 0 v3 σ

def f_Grid_copy_L18 (v0 : Nat) (v1 : Nat) (kx42 : St → Option (Unit × St)) : Nat → Int32 → St → Option (Unit × St)
  | 0, _, _ => none
  | n + 1, v2, σ =>     if v2 < 25 then
      ald σ (v1 + 1) 25 v2 fun r_3 =>
      ast σ (v0 + 1) 25 v2 r_3 fun σ_4 =>
      f_Grid_copy_L18 v0 v1 kx42 n (v2 + 1) σ_4
    else
      kx42 σ

def f_Grid_copy_L44 (v0 : Nat) (v1 : Nat) : Nat → Int32 → St → Option (Unit × St)
  | 0, _, _ => none
  | n + 1, v2, σ =>     if v2 < 5 then
      ald σ (v1 + 2) 5 v2 fun r_6 =>
      ast σ (v0 + 2) 5 v2 r_6 fun σ_7 =>
      ald σ_7 (v1 + 3) 5 v2 fun r_8 =>
      ast σ_7 (v0 + 3) 5 v2 r_8 fun σ_9 =>
      f_Grid_copy_L44 v0 v1 n (v2 + 1) σ_9
    else
      some ((), σ)

def f_Grid_copy (σ : St) (v0 : Nat) (v1 : Nat) : Option (Unit × St) :=
  sto σ v0 3 (σ v1 3) fun σ_1 =>
  sto σ_1 v0 4 (σ_1 v1 4) fun σ_2 =>
  f_Grid_copy_L18 v0 v1 (fun (σ_5 : St) => f_Grid_copy_L44 v0 v1 FU 0 σ_5) FU 0 σ_2

def f_Grid_optionsAt (σ : St) (v0 : Nat) (v1 : Int32) (v2 : Int32) : Option Int32 :=
  cap (f_Grid_has σ v0 v1 v2) fun r_2 =>
  if r_2 = 0 then
    some 0
  else
    ald σ (v0 + 1) 25 ((5 * v1) + v2) fun r_3 =>
    if r_3 = (-1) then
      cap (f_Grid_allSigns σ v0) fun r_5 =>
      ald σ (v0 + 2) 5 v1 fun r_6 =>
      ald σ (v0 + 3) 5 v2 fun r_7 =>
      some (r_5 &&& ((r_6 ||| r_7) ^^^ (-1)))
    else
      some 0

def f_Grid_deadCells_L14 (v0 : Nat) (v2 : Int32) (σ : St) (kx50 : Int32 → Option Int32) : Nat → Int32 → Int32 → Option Int32
  | 0, _, _ => none
  | n + 1, v1, v3 =>     if v3 < (σ v0 3) then
      cap (f_Grid_signAt σ v0 v2 v3) fun r_2 =>
      jn (fun (v1_4 : Int32) => f_Grid_deadCells_L14 v0 v2 σ kx50 n v1_4 (v3 + 1)) fun j44_3 =>
      if r_2 = (-1) then
        cap (f_Grid_optionsAt σ v0 v2 v3) fun r_6 =>
        if r_6 = 0 then
          j44_3 (v1 + 1)
        else
          j44_3 v1
      else
        j44_3 v1
    else
      kx50 v1

def f_Grid_deadCells_L4 (v0 : Nat) (σ : St) (kx56 : Int32 → Option Int32) : Nat → Int32 → Int32 → Option Int32
  | 0, _, _ => none
  | n + 1, v1, v2 =>     if v2 < (σ v0 3) then
      f_Grid_deadCells_L14 v0 v2 σ (fun (v1_7 : Int32) => f_Grid_deadCells_L4 v0 σ kx56 n v1_7 (v2 + 1)) FU v1 0
    else
      kx56 v1

def f_Grid_deadCells (σ : St) (v0 : Nat) : Option Int32 :=
  f_Grid_deadCells_L4 v0 σ (fun (v1_8 : Int32) => some v1_8) FU 0 0

def f_Grid_clear_L20 (v0 : Nat) (kx39 : St → Option (Unit × St)) : Nat → Int32 → St → Option (Unit × St)
  | 0, _, _ => none
  | n + 1, v2, σ =>     if v2 < 25 then
      ast σ (v0 + 1) 25 v2 (-1) fun σ_3 =>
      f_Grid_clear_L20 v0 kx39 n (v2 + 1) σ_3
    else
      kx39 σ

def f_Grid_clear_L41 (v0 : Nat) : Nat → Int32 → St → Option (Unit × St)
  | 0, _, _ => none
  | n + 1, v2, σ =>     if v2 < 5 then
      ast σ (v0 + 2) 5 v2 0 fun σ_5 =>
      ast σ_5 (v0 + 3) 5 v2 0 fun σ_6 =>
      f_Grid_clear_L41 v0 n (v2 + 1) σ_6
    else
      some ((), σ)

def f_Grid_clear (σ : St) (v0 : Nat) (v1 : Int32) : Option (Unit × St) :=
  sto σ v0 3 (mmax 2 (mmin v1 5)) fun σ_1 =>
  sto σ_1 v0 4 0 fun σ_2 =>
  f_Grid_clear_L20 v0 (fun (σ_4 : St) => f_Grid_clear_L41 v0 FU 0 σ_4) FU 0 σ_2
end
section
def f_Move_packed (σ : St) (v0 : Int32) (v1 : Int32) (v2 : Int32) : Option Int32 :=
  some ((10 * ((5 * v0) + v1)) + v2)

def f_Move_row (σ : St) (v0 : Int32) : Option Int32 :=
  dvi v0 50 fun q_1 =>
  some q_1

def f_Move_column (σ : St) (v0 : Int32) : Option Int32 :=
  dvi v0 10 fun q_1 =>
  rmi q_1 5 fun q_2 =>
  some q_2

def f_Move_sign (σ : St) (v0 : Int32) : Option Int32 :=
  rmi v0 10 fun q_1 =>
  some q_1

def f_Move_told (σ : St) (v0 : Int32) (v1 : Int32) : Option Int32 :=
  if v0 = (-1) then
    some (-1)
  else
    cap (f_Move_row σ v0) fun r_2 =>
    cap (f_Move_column σ v0) fun r_4 =>
    cap (f_Move_sign σ v0) fun r_6 =>
    some ((10 * ((v1 * r_2) + r_4)) + r_6)

def f_Maps_arrange_L39 (v2 : Int32) (v3 : Int32) (v4 : Int32) (v6 : Int32) (kx86 : Int32 → St → Option (Unit × St)) : Nat → Int32 → Int32 → St → Option (Unit × St)
  | 0, _, _, _ => none
  | n + 1, v5, v7, σ =>     if v7 < v6 then
      if v5 ≤ 0 then
        kx86 v5 σ
      else
        if v5 < 600 then
          ald σ 7 600 (v5 - 1) fun r_3 =>
          ast σ 7 600 v5 r_3 fun σ_4 =>
          f_Maps_arrange_L39 v2 v3 v4 v6 kx86 n (v5 + (-1)) (v7 + 1) σ_4
        else
          kx86 v5 σ
    else
      kx86 v5 σ

def f_Maps_arrange_L9 (v2 : Int32) : Nat → Int32 → Int32 → St → Option (Unit × St)
  | 0, _, _, _ => none
  | n + 1, v3, v4, σ =>     if v4 < 5 then
      rmi v3 (v4 + 1) fun q_1 =>
      dvi v3 (v4 + 1) fun q_2 =>
      f_Maps_arrange_L39 v2 q_2 v4 q_1 (fun (v5_5 : Int32) (σ_6 : St) => jn (fun (σ_8 : St) => f_Maps_arrange_L9 v2 n q_2 (v4 + 1) σ_8) fun j110_7 =>
      if v5_5 < 0 then
        j110_7 σ_6
      else
        if v5_5 < 600 then
          ast σ_6 7 600 v5_5 v4 fun σ_9 =>
          j110_7 σ_9
        else
          j110_7 σ_6) FU (v2 + v4) 0 σ
    else
      some ((), σ)

def f_Maps_arrange (σ : St) (v1 : Int32) : Option (Unit × St) :=
  f_Maps_arrange_L9 (5 * v1) FU v1 0 σ
end
section
def f_Filling_isAloneInRow_L3 (v0 : Nat) (v1 : Int32) (v2 : Int32) (v3 : Int32) (σ : St) : Nat → Int32 → Option Int32
  | 0, _ => none
  | n + 1, v4 =>     if v4 < (σ v0 3) then
      jn (f_Filling_isAloneInRow_L3 v0 v1 v2 v3 σ n (v4 + 1)) fun j34_1 =>
      if v4 = v2 then
        j34_1
      else
        cap (f_Grid_optionsAt σ v0 v1 v4) fun r_3 =>
        cap (f_Q_isIn σ r_3 v3) fun r_5 =>
        if r_5 = 0 then
          j34_1
        else
          some 0
    else
      some 1

def f_Filling_isAloneInRow (σ : St) (v0 : Nat) (v1 : Int32) (v2 : Int32) (v3 : Int32) : Option Int32 :=
  f_Filling_isAloneInRow_L3 v0 v1 v2 v3 σ FU 0

def f_Filling_isAloneInColumn_L3 (v0 : Nat) (v1 : Int32) (v2 : Int32) (v3 : Int32) (σ : St) : Nat → Int32 → Option Int32
  | 0, _ => none
  | n + 1, v4 =>     if v4 < (σ v0 3) then
      jn (f_Filling_isAloneInColumn_L3 v0 v1 v2 v3 σ n (v4 + 1)) fun j34_1 =>
      if v4 = v1 then
        j34_1
      else
        cap (f_Grid_optionsAt σ v0 v4 v2) fun r_3 =>
        cap (f_Q_isIn σ r_3 v3) fun r_5 =>
        if r_5 = 0 then
          j34_1
        else
          some 0
    else
      some 1

def f_Filling_isAloneInColumn (σ : St) (v0 : Nat) (v1 : Int32) (v2 : Int32) (v3 : Int32) : Option Int32 :=
  f_Filling_isAloneInColumn_L3 v0 v1 v2 v3 σ FU 0

def f_Filling_isForced (σ : St) (v0 : Nat) (v1 : Int32) (v2 : Int32) (v3 : Int32) : Option Int32 :=
  cap (f_Grid_optionsAt σ v0 v1 v2) fun r_2 =>
  cap (f_Q_isIn σ r_2 v3) fun r_4 =>
  jn (some 0) fun j49_5 =>
  if r_4 = 0 then
    j49_5
  else
    jn (some 1) fun j45_6 =>
    if r_2 = (1 <<< (v3 &&& 31)) then
      j45_6
    else
      cap (f_Filling_isAloneInRow σ v0 v1 v2 v3) fun r_8 =>
      if r_8 = 0 then
        cap (f_Filling_isAloneInColumn σ v0 v1 v2 v3) fun r_10 =>
        if r_10 = 0 then
          j49_5
        else
          j45_6
      else
        j45_6

def f_Filling_firstForced_L22 (v0 : Nat) (v1 : Int32) (v2 : Int32) (σ : St) (kx40 : Int32 → Option Int32) (kx53 : Option Int32) : Nat → Int32 → Option Int32
  | 0, _ => none
  | n + 1, v3 =>     if v3 < (σ v0 3) then
      cap (f_Filling_isForced σ v0 v1 v2 v3) fun r_2 =>
      if r_2 = 0 then
        f_Filling_firstForced_L22 v0 v1 v2 σ kx40 kx53 n (v3 + 1)
      else
        kx40 v3
    else
      kx53

def f_Filling_firstForced_L12 (v0 : Nat) (v1 : Int32) (σ : St) (kx40 : Int32 → Int32 → Option Int32) (kx59 : Option Int32) : Nat → Int32 → Option Int32
  | 0, _ => none
  | n + 1, v2 =>     if v2 < (σ v0 3) then
      f_Filling_firstForced_L22 v0 v1 v2 σ (fun (v3_3 : Int32) => kx40 v2 v3_3) (f_Filling_firstForced_L12 v0 v1 σ kx40 kx59 n (v2 + 1)) FU 0
    else
      kx59

def f_Filling_firstForced_L2 (v0 : Nat) (σ : St) (kx40 : Int32 → Int32 → Int32 → Option Int32) : Nat → Int32 → Option Int32
  | 0, _ => none
  | n + 1, v1 =>     if v1 < (σ v0 3) then
      f_Filling_firstForced_L12 v0 v1 σ (fun (v2_4 : Int32) (v3_5 : Int32) => kx40 v1 v2_4 v3_5) (f_Filling_firstForced_L2 v0 σ kx40 n (v1 + 1)) FU 0
    else
      some (-1)

def f_Filling_firstForced (σ : St) (v0 : Nat) : Option Int32 :=
  f_Filling_firstForced_L2 v0 σ (fun (v1_6 : Int32) (v2_7 : Int32) (v3_8 : Int32) => cap (f_Move_packed σ v1_6 v2_7 v3_8) fun r_10 =>
  some r_10) FU 0

def f_Filling_fillForced_L7 (v0 : Nat) (kx45 : Int32 → St → Option (Int32 × St)) : Nat → Int32 → Int32 → St → Option (Int32 × St)
  | 0, _, _, _ => none
  | n + 1, v1, v2, σ =>     if v2 = (-1) then
      kx45 v1 σ
    else
      if v1 < 25 then
        cap (f_Move_row σ v2) fun r_4 =>
        cap (f_Move_column σ v2) fun r_6 =>
        cap (f_Move_sign σ v2) fun r_8 =>
        cal (f_Grid_set σ v0 r_4 r_6 r_8) fun r_10 σ_11 =>
        cap (f_Filling_firstForced σ_11 v0) fun r_13 =>
        f_Filling_fillForced_L7 v0 kx45 n (v1 + 1) r_13 σ_11
      else
        kx45 v1 σ

def f_Filling_fillForced (σ : St) (v0 : Nat) : Option (Int32 × St) :=
  cap (f_Filling_firstForced σ v0) fun r_2 =>
  f_Filling_fillForced_L7 v0 (fun (v1_14 : Int32) (σ_15 : St) => some (v1_14, σ_15)) FU 0 r_2 σ
end
section
def f_Q_gridAt (σ : St) (v1 : Int32) : Option (Except Nat Nat × St) :=
  jn (some (.error 1, σ)) fun j30_1 =>
  if v1 < 0 then
    j30_1
  else
    if v1 < (σ 0 8) then
      if v1 < 12 then
        gld v1 fun g_2 =>
        gld v1 fun g_3 =>
        some (.ok g_3, σ)
      else
        j30_1
    else
      j30_1

def f_Q_needCell (σ : St) (v0 : Nat) (v1 : Int32) (v2 : Int32) : Option (Except Nat Unit × St) :=
  cap (f_Grid_has σ v0 v1 v2) fun r_2 =>
  if r_2 = 0 then
    some (.error 1, σ)
  else
    some (.ok (), σ)

def f_Q_isFrom (σ : St) (v0 : Int32) (v1 : Int32) (v2 : Int32) : Option Int32 :=
  jn (some 0) fun j14_1 =>
  if v0 < v1 then
    j14_1
  else
    if v0 ≤ v2 then
      some 1
    else
      j14_1

def f_Q_needArgument (σ : St) (v0 : Int32) : Option (Except Nat Unit × St) :=
  if v0 = 0 then
    some (.error 2, σ)
  else
    some (.ok (), σ)

def f_Q_needState (σ : St) (v0 : Int32) : Option (Except Nat Unit × St) :=
  if v0 = 0 then
    some (.error 3, σ)
  else
    some (.ok (), σ)

def f_Q_put (σ : St) (v1 : Int32) (v2 : Int32) (v3 : Int32) (v4 : Int32) : Option (Except Nat Int32 × St) :=
  cax (f_Q_gridAt σ v1) fun r_2 σ_3 =>
  cax (f_Q_needCell σ_3 r_2 v2 v3) fun r_5 σ_6 =>
  cap (f_Q_isFrom σ_6 v4 (-1) ((σ_6 r_2 3) - 1)) fun r_8 =>
  cax (f_Q_needArgument σ_6 r_8) fun r_10 σ_11 =>
  cap (f_Grid_signAt σ_11 r_2 v2 v3) fun r_13 =>
  jn (fun (σ_15 : St) => some (.ok r_13, σ_15)) fun j75_14 =>
  if v4 = r_13 then
    j75_14 σ_11
  else
    cap (f_Grid_hasInLines σ_11 r_2 v2 v3 v4) fun r_17 =>
    jn (fun (s_19 : Int32) => cax (f_Q_needState σ_11 s_19) fun r_21 σ_22 =>
    cal (f_Grid_set σ_22 r_2 v2 v3 v4) fun r_24 σ_25 =>
    j75_14 σ_25) fun j63_18 =>
    if r_17 = 0 then
      j63_18 1
    else
      j63_18 0

def f_Q_turn (σ : St) (v1 : Int32) (v2 : Int32) (v3 : Int32) (v4 : Int32) : Option (Except Nat Int32 × St) :=
  cax (f_Q_gridAt σ v1) fun r_2 σ_3 =>
  cax (f_Q_needCell σ_3 r_2 v2 v4) fun r_5 σ_6 =>
  cax (f_Q_needCell σ_6 r_2 v3 v4) fun r_8 σ_9 =>
  jn (fun (s_11 : Int32) => cax (f_Q_needArgument σ_9 s_11) fun r_13 σ_14 =>
  cap (f_Grid_isRowFull σ_14 r_2 v2) fun r_16 =>
  jn (fun (s_18 : Int32) => cax (f_Q_needState σ_14 s_18) fun r_20 σ_21 =>
  cal (f_Grid_turnRows σ_21 r_2 v2 v3 v4) fun r_23 σ_24 =>
  some (.ok r_23, σ_24)) fun j59_17 =>
  jn (j59_17 0) fun j58_25 =>
  if r_16 = 0 then
    j58_25
  else
    cap (f_Grid_isRowFull σ_14 r_2 v3) fun r_27 =>
    if r_27 = 0 then
      j58_25
    else
      j59_17 1) fun j33_10 =>
  if v2 = v3 then
    j33_10 0
  else
    j33_10 1

def f_Q_logic (σ : St) (v1 : Int32) : Option (Except Nat Int32 × St) :=
  cax (f_Q_gridAt σ v1) fun r_2 σ_3 =>
  cal (f_Grid_copy σ_3 2 r_2) fun r_5 σ_6 =>
  cal (f_Filling_fillForced σ_6 2) fun r_8 σ_9 =>
  some (.ok r_8, σ_9)

def f_Q_forced (σ : St) (v1 : Int32) : Option (Except Nat Int32 × St) :=
  cax (f_Q_gridAt σ v1) fun r_2 σ_3 =>
  cap (f_Filling_firstForced σ_3 r_2) fun r_5 =>
  cap (f_Move_told σ_3 r_5 (σ_3 r_2 3)) fun r_7 =>
  some (.ok r_7, σ_3)

def f_Q_can (σ : St) (v1 : Int32) (v2 : Int32) (v3 : Int32) : Option (Except Nat Int32 × St) :=
  cax (f_Q_gridAt σ v1) fun r_2 σ_3 =>
  cax (f_Q_needCell σ_3 r_2 v2 v3) fun r_5 σ_6 =>
  cap (f_Grid_optionsAt σ_6 r_2 v2 v3) fun r_8 =>
  some (.ok r_8, σ_6)

def f_Q_distance_L51 (v3 : Nat) (v4 : Nat) (v6 : Int32) (σ : St) (kx89 : Int32 → Option (Except Nat Int32 × St)) : Nat → Int32 → Int32 → Option (Except Nat Int32 × St)
  | 0, _, _ => none
  | n + 1, v5, v7 =>     if v7 < (σ v3 3) then
      cap (f_Grid_signAt σ v3 v6 v7) fun r_13 =>
      cap (f_Grid_signAt σ v4 v6 v7) fun r_15 =>
      jn (fun (v5_17 : Int32) => f_Q_distance_L51 v3 v4 v6 σ kx89 n v5_17 (v7 + 1)) fun j83_16 =>
      if r_13 = r_15 then
        j83_16 v5
      else
        j83_16 (v5 + 1)
    else
      kx89 v5

def f_Q_distance_L39 (v3 : Nat) (v4 : Nat) (σ : St) (kx95 : Int32 → Option (Except Nat Int32 × St)) : Nat → Int32 → Int32 → Option (Except Nat Int32 × St)
  | 0, _, _ => none
  | n + 1, v5, v6 =>     if v6 < (σ v3 3) then
      f_Q_distance_L51 v3 v4 v6 σ (fun (v5_18 : Int32) => f_Q_distance_L39 v3 v4 σ kx95 n v5_18 (v6 + 1)) FU v5 0
    else
      kx95 v5

def f_Q_distance (σ : St) (v1 : Int32) (v2 : Int32) : Option (Except Nat Int32 × St) :=
  cax (f_Q_gridAt σ v1) fun r_2 σ_3 =>
  cax (f_Q_gridAt σ_3 v2) fun r_5 σ_6 =>
  jn (fun (s_8 : Int32) => cax (f_Q_needArgument σ_6 s_8) fun r_10 σ_11 =>
  f_Q_distance_L39 r_2 r_5 σ_11 (fun (v5_19 : Int32) => some (.ok v5_19, σ_11)) FU 0 0) fun j30_7 =>
  if (σ_6 r_2 3) = (σ_6 r_5 3) then
    j30_7 1
  else
    j30_7 0

def f_Q_of (σ : St) (v1 : Int32) (v2 : Int32) : Option (Except Nat Int32 × St) :=
  cax (f_Q_gridAt σ v1) fun r_2 σ_3 =>
  cap (f_Q_isFrom σ_3 v2 0 2) fun r_5 =>
  cax (f_Q_needArgument σ_3 r_5) fun r_7 σ_8 =>
  if v2 = 0 then
    some (.ok (σ_8 r_2 3), σ_8)
  else
    if v2 = 1 then
      some (.ok (σ_8 r_2 4), σ_8)
    else
      cap (f_Grid_deadCells σ_8 r_2) fun r_10 =>
      some (.ok r_10, σ_8)

def f_Q_cell (σ : St) (v1 : Int32) (v2 : Int32) (v3 : Int32) : Option (Except Nat Int32 × St) :=
  cax (f_Q_gridAt σ v1) fun r_2 σ_3 =>
  cax (f_Q_needCell σ_3 r_2 v2 v3) fun r_5 σ_6 =>
  cap (f_Grid_signAt σ_6 r_2 v2 v3) fun r_8 =>
  some (.ok r_8, σ_6)

def f_Q_newGrid (σ : St) (v1 : Int32) : Option (Except Nat Nat × St) :=
  jn (some (.error 3, σ)) fun j31_1 =>
  if (σ 0 8) < 0 then
    j31_1
  else
    if (σ 0 8) < 12 then
      gld (σ 0 8) fun g_2 =>
      gld (σ 0 8) fun g_3 =>
      sto σ 0 8 ((σ 0 8) + 1) fun σ_4 =>
      cal (f_Grid_clear σ_4 g_3 v1) fun r_6 σ_7 =>
      some (.ok g_3, σ_7)
    else
      j31_1

def f_Q_setConjugate (σ : St) (v0 : Nat) (v1 : Int32) (v2 : Int32) (v3 : Int32) (v4 : Int32) : Option (Unit × St) :=
  if v1 = 0 then
    cal (f_Grid_set σ v0 v2 v3 v4) fun r_2 σ_3 =>
    some ((), σ_3)
  else
    if v1 = 1 then
      cal (f_Grid_set σ v0 v3 v2 v4) fun r_5 σ_6 =>
      some ((), σ_6)
    else
      if v1 = 2 then
        cal (f_Grid_set σ v0 v2 v4 v3) fun r_8 σ_9 =>
        some ((), σ_9)
      else
        if v1 = 3 then
          cal (f_Grid_set σ v0 v4 v3 v2) fun r_11 σ_12 =>
          some ((), σ_12)
        else
          if v1 = 4 then
            cal (f_Grid_set σ v0 v3 v4 v2) fun r_14 σ_15 =>
            some ((), σ_15)
          else
            cal (f_Grid_set σ v0 v4 v2 v3) fun r_17 σ_18 =>
            some ((), σ_18)

def f_Q_conjugate_L40 (v2 : Int32) (v3 : Nat) (v4 : Nat) (v5 : Int32) (kx83 : St → Option (Except Nat Int32 × St)) : Nat → Int32 → St → Option (Except Nat Int32 × St)
  | 0, _, _ => none
  | n + 1, v6, σ =>     if v6 < (σ v3 3) then
      cap (f_Grid_signAt σ v3 v5 v6) fun r_13 =>
      jn (fun (σ_15 : St) => f_Q_conjugate_L40 v2 v3 v4 v5 kx83 n (v6 + 1) σ_15) fun j77_14 =>
      if r_13 = (-1) then
        j77_14 σ
      else
        cal (f_Q_setConjugate σ v4 v2 v5 v6 r_13) fun r_17 σ_18 =>
        j77_14 σ_18
    else
      kx83 σ

def f_Q_conjugate_L28 (v2 : Int32) (v3 : Nat) (v4 : Nat) (kx89 : St → Option (Except Nat Int32 × St)) : Nat → Int32 → St → Option (Except Nat Int32 × St)
  | 0, _, _ => none
  | n + 1, v5, σ =>     if v5 < (σ v3 3) then
      f_Q_conjugate_L40 v2 v3 v4 v5 (fun (σ_19 : St) => f_Q_conjugate_L28 v2 v3 v4 kx89 n (v5 + 1) σ_19) FU 0 σ
    else
      kx89 σ

def f_Q_conjugate (σ : St) (v1 : Int32) (v2 : Int32) : Option (Except Nat Int32 × St) :=
  cax (f_Q_gridAt σ v1) fun r_2 σ_3 =>
  cap (f_Q_isFrom σ_3 v2 0 5) fun r_5 =>
  cax (f_Q_needArgument σ_3 r_5) fun r_7 σ_8 =>
  cax (f_Q_newGrid σ_8 (σ_8 r_2 3)) fun r_10 σ_11 =>
  f_Q_conjugate_L28 v2 r_2 r_10 (fun (σ_20 : St) => some (.ok ((σ_20 0 8) - 1), σ_20)) FU 0 σ_11

def f_Q_remainder (σ : St) (v0 : Int32) (v1 : Int32) : Option Int32 :=
  if v1 ≤ 0 then
    some 0
  else
    rmi v0 v1 fun q_1 =>
    some q_1

def f_Q_reachesAll_L4 (v0 : Int32) (v1 : Int32) (σ : St) (kx27 : Int32 → Option Int32) : Nat → Int32 → Int32 → Option Int32
  | 0, _, _ => none
  | n + 1, v2, v3 =>     if v3 < v1 then
      cap (f_Q_remainder σ (v0 * v3) v1) fun r_2 =>
      lt1 (v2 ||| (1 <<< (r_2 &&& 31))) fun v2_3 =>
      f_Q_reachesAll_L4 v0 v1 σ kx27 n v2_3 (v3 + 1)
    else
      kx27 v2

def f_Q_reachesAll (σ : St) (v0 : Int32) (v1 : Int32) : Option Int32 :=
  f_Q_reachesAll_L4 v0 v1 σ (fun (v2_4 : Int32) => if v2_4 = ((1 <<< (v1 &&& 31)) - 1) then
    some 1
  else
    some 0) FU 0 0

def f_Q_linear_L88 (v1 : Int32) (v2 : Int32) (v3 : Int32) (v4 : Int32) (v5 : Nat) (v6 : Int32) (kx125 : St → Option (Except Nat Int32 × St)) : Nat → Int32 → St → Option (Except Nat Int32 × St)
  | 0, _, _ => none
  | n + 1, v7, σ =>     if v7 < v1 then
      cap (f_Q_remainder σ (((v2 * v6) + (v3 * v7)) + v4) v1) fun r_24 =>
      cal (f_Grid_set σ v5 v6 v7 r_24) fun r_26 σ_27 =>
      f_Q_linear_L88 v1 v2 v3 v4 v5 v6 kx125 n (v7 + 1) σ_27
    else
      kx125 σ

def f_Q_linear_L79 (v1 : Int32) (v2 : Int32) (v3 : Int32) (v4 : Int32) (v5 : Nat) (kx131 : St → Option (Except Nat Int32 × St)) : Nat → Int32 → St → Option (Except Nat Int32 × St)
  | 0, _, _ => none
  | n + 1, v6, σ =>     if v6 < v1 then
      f_Q_linear_L88 v1 v2 v3 v4 v5 v6 (fun (σ_28 : St) => f_Q_linear_L79 v1 v2 v3 v4 v5 kx131 n (v6 + 1) σ_28) FU 0 σ
    else
      kx131 σ

def f_Q_linear (σ : St) (v1 : Int32) (v2 : Int32) (v3 : Int32) (v4 : Int32) : Option (Except Nat Int32 × St) :=
  cap (f_Q_isFrom σ v1 2 5) fun r_2 =>
  cax (f_Q_needArgument σ r_2) fun r_4 σ_5 =>
  cap (f_Q_isFrom σ_5 v2 0 4) fun r_7 =>
  jn (fun (s_9 : Int32) => cax (f_Q_needArgument σ_5 s_9) fun r_11 σ_12 =>
  cap (f_Q_reachesAll σ_12 v2 v1) fun r_14 =>
  jn (fun (s_16 : Int32) => cax (f_Q_needArgument σ_12 s_16) fun r_18 σ_19 =>
  cax (f_Q_newGrid σ_19 v1) fun r_21 σ_22 =>
  f_Q_linear_L79 v1 v2 v3 v4 r_21 (fun (σ_29 : St) => some (.ok ((σ_29 0 8) - 1), σ_29)) FU 0 σ_22) fun j66_15 =>
  jn (j66_15 0) fun j65_30 =>
  if r_14 = 0 then
    j65_30
  else
    cap (f_Q_reachesAll σ_12 v3 v1) fun r_32 =>
    if r_32 = 0 then
      j65_30
    else
      j66_15 1) fun j42_8 =>
  jn (j42_8 0) fun j41_33 =>
  if r_7 = 0 then
    j41_33
  else
    cap (f_Q_isFrom σ_5 v3 0 4) fun r_35 =>
    if r_35 = 0 then
      j41_33
    else
      cap (f_Q_isFrom σ_5 v4 0 4) fun r_37 =>
      if r_37 = 0 then
        j41_33
      else
        j42_8 1

def f_Q_grid (σ : St) (v1 : Int32) : Option (Except Nat Int32 × St) :=
  cap (f_Q_isFrom σ v1 2 5) fun r_2 =>
  cax (f_Q_needArgument σ r_2) fun r_4 σ_5 =>
  cax (f_Q_newGrid σ_5 v1) fun r_7 σ_8 =>
  some (.ok ((σ_8 0 8) - 1), σ_8)
end
section
def f_L_set_L19 (v0 : Nat) (v1 : Int32) (v2 : Int32) (σ : St) (kx91 : Int32 → Option Int32) : Nat → Int32 → Int32 → Option Int32
  | 0, _, _ => none
  | n + 1, v3, v4 =>     if v4 < v1 then
      dvi v2 v1 fun q_4 =>
      ald σ v0 25 ((q_4 * v1) + v4) fun r_5 =>
      rmi v2 v1 fun q_6 =>
      ald σ v0 25 ((v1 * v4) + q_6) fun r_7 =>
      jn (fun (s_9 : Int32) => jn (fun (s_11 : Int32) => lt1 ((v3 &&& s_9) &&& s_11) fun v3_12 =>
      f_L_set_L19 v0 v1 v2 σ kx91 n v3_12 (v4 + 1)) fun j83_10 =>
      if r_7 < 0 then
        j83_10 (v3 &&& s_9)
      else
        j83_10 ((1 <<< (r_7 &&& 31)) ^^^ (-1))) fun j65_8 =>
      if r_5 < 0 then
        j65_8 v3
      else
        j65_8 ((1 <<< (r_5 &&& 31)) ^^^ (-1))
    else
      kx91 v3

def f_L_set (σ : St) (v0 : Nat) (v1 : Int32) (v2 : Int32) : Option Int32 :=
  ald σ v0 25 v2 fun r_1 =>
  jn (fun (s_3 : Int32) => f_L_set_L19 v0 v1 v2 σ (fun (v3_13 : Int32) => some v3_13) FU s_3 0) fun j15_2 =>
  if r_1 < 0 then
    j15_2 ((1 <<< (v1 &&& 31)) - 1)
  else
    j15_2 0

def f_L_forced_L34 (v0 : Nat) (v1 : Int32) (v2 : Int32) (v3 : Int32) (v4 : Int32) (σ : St) (kx92 : Int32 → Int32 → Option Int32) : Nat → Int32 → Int32 → Int32 → Option Int32
  | 0, _, _, _ => none
  | n + 1, v5, v6, v7 =>     if v7 < v1 then
      dvi v2 v1 fun q_3 =>
      cap (f_L_set σ v0 v1 ((q_3 * v1) + v7)) fun r_5 =>
      lt1 (v5 + ((r_5 >>> (v4 &&& 31)) &&& 1)) fun v5_6 =>
      rmi v2 v1 fun q_7 =>
      cap (f_L_set σ v0 v1 ((v1 * v7) + q_7)) fun r_9 =>
      lt1 (v6 + ((r_9 >>> (v4 &&& 31)) &&& 1)) fun v6_10 =>
      f_L_forced_L34 v0 v1 v2 v3 v4 σ kx92 n v5_6 v6_10 (v7 + 1)
    else
      kx92 v5 v6

def f_L_forced_L19 (v0 : Nat) (v1 : Int32) (v2 : Int32) (v3 : Int32) (σ : St) (kx122 : Int32 → Option Int32) (kx136 : Option Int32) : Nat → Int32 → Option Int32
  | 0, _ => none
  | n + 1, v4 =>     if v4 < v1 then
      f_L_forced_L34 v0 v1 v2 v3 v4 σ (fun (v5_11 : Int32) (v6_12 : Int32) => jn (f_L_forced_L19 v0 v1 v2 v3 σ kx122 kx136 n (v4 + 1)) fun j130_13 =>
      if ((v3 >>> (v4 &&& 31)) &&& 1) = 1 then
        if v3 = (1 <<< (v4 &&& 31)) then
          kx122 v4
        else
          if v5_11 = 1 then
            kx122 v4
          else
            if v6_12 = 1 then
              kx122 v4
            else
              j130_13
      else
        j130_13) FU 0 0 0
    else
      kx136

def f_L_forced_L2 (v0 : Nat) (v1 : Int32) (σ : St) (kx122 : Int32 → Int32 → Option Int32) : Nat → Int32 → Option Int32
  | 0, _ => none
  | n + 1, v2 =>     if v2 < (v1 * v1) then
      cap (f_L_set σ v0 v1 v2) fun r_2 =>
      f_L_forced_L19 v0 v1 v2 r_2 σ (fun (v4_14 : Int32) => kx122 v2 v4_14) (f_L_forced_L2 v0 v1 σ kx122 n (v2 + 1)) FU 0
    else
      some (-1)

def f_L_forced (σ : St) (v0 : Nat) (v1 : Int32) : Option Int32 :=
  f_L_forced_L2 v0 v1 σ (fun (v2_15 : Int32) (v4_16 : Int32) => some ((10 * v2_15) + v4_16)) FU 0

def f_L_told (σ : St) (v1 : Int32) (v2 : Int32) (v3 : Int32) (v4 : Int32) (v5 : Int32) : Option (Except Nat Int32 × St) :=
  if v1 = 0 then
    cax (f_Q_put σ v2 v3 v4 v5) fun r_5 σ_6 =>
    some (.ok r_5, σ_6)
  else
    cax (f_Q_turn σ v2 v3 v4 v5) fun r_2 σ_3 =>
    some (.ok r_2, σ_3)

def f_L_up (σ : St) (v0 : Int32) (v1 : Int32) : Option Int32 :=
  rmi ((v0.toUInt32 >>> ((2 : Int32).toUInt32 &&& Int32.toUInt32 31)).toInt32) v1 fun q_1 =>
  some q_1
end
section
/-! grids that come back are grids -/
theorem gld_gok {β : Type} {i : Int32} {f : Nat → Option β} {r : β} (h : gld i f = some r) : ∃ t, gok t ∧ f t = some r := by
  unfold gld at h
  split at h
  next hin =>
    simp only [inb, Bool.and_eq_true, decide_eq_true_eq] at hin
    exact ⟨_, gk_gid hin.2, h⟩
  next => cases h
theorem gk_of_Q_gridAt {σ σ' : St} {v1 : Int32} {r : Nat} (h : f_Q_gridAt σ v1 = some (.ok r, σ')) : gok r := by
  unfold f_Q_gridAt jn at h
  refine if_go h (fun _ h => by cases h) (fun _ h => if_go h (fun _ h => if_go h (fun _ h => ?_) (fun _ h => by cases h)) (fun _ h => by cases h))
  obtain ⟨t, _, h⟩ := gld_gok h
  obtain ⟨t, ht, h⟩ := gld_gok h
  cases h
  exact ht
theorem gk_of_Q_newGrid {σ σ' : St} {v1 : Int32} {r : Nat} (h : f_Q_newGrid σ v1 = some (.ok r, σ')) : gok r := by
  unfold f_Q_newGrid jn at h
  refine if_go h (fun _ h => by cases h) (fun _ h => if_go h (fun _ h => ?_) (fun _ h => by cases h))
  obtain ⟨t, _, h⟩ := gld_gok h
  obtain ⟨t, ht, h⟩ := gld_gok h
  unfold sto at h
  obtain ⟨u, σ2, _, h⟩ := cal_go h
  cases h
  exact ht
end
section
set_option maxRecDepth 100000 in
set_option maxHeartbeats 4000000 in
theorem s_Grid_isLine (l : Launch) (ad : Nat → Nat) (σ : St) (v0 : Nat) (v1 : Int32) (hg_v0 : gok v0) {rv : Int32} (h : f_Grid_isLine σ v0 v1 = some rv) : Rt l [] yX2_isLine cX2_isLine 2 (some .boolean) 0 0 (g_SH, ad) [.ref (ad v0), .int v1] σ (some (.int rv)) σ := by
  refine Rt.intro (L := [some (.ref (ad v0)), some (.int v1)]) (by decide +kernel) (Nat.le_of_ble_eq_true rfl) rfl (fun θ hl X hq => ?_)
  subst hl
  unfold f_Grid_isLine at h
  refine G_iload_n (pc := 0) 1 X (dg dt_Grid_isLine 0 rfl) rfl rfl ?_
  refine jn_go (fun j21_1 => j21_1 = some rv → G θ (0, 0) (g_SH, ad) σ 21 [none, none] []) h ?_ (fun j21_1 hj21_1 h => ?_)
  · intro  h
    refine G_iconst (pc := 21) 0 X (dg dt_Grid_isLine 11 rfl) (by decide) ?_
    exact G_zretlp (pc := 22) X hq (dg dt_Grid_isLine 12 rfl) rfl h
  refine G_if_lt (pc := 1) 21 X (dg dt_Grid_isLine 1 rfl) (by decide) h (fun h => ?_) (fun h => ?_)
  · exact G_wk (hj21_1  h) trivial
  · refine G_iload_n (pc := 4) 1 X (dg dt_Grid_isLine 2 rfl) rfl rfl ?_
    refine G_aload_n (pc := 5) 0 X (dg dt_Grid_isLine 3 rfl) rfl rfl ?_
    refine G_getI (pc := 6) 3 X (dg dt_Grid_isLine 4 rfl) fc_0 w_42 rfl (Nat.le_of_ble_eq_true rfl) (sh_g hg_v0) rfl ?_
    refine G_icmp_ge (pc := 9) 21 X (dg dt_Grid_isLine 5 rfl) (by decide) h (fun h => ?_) (fun h => ?_)
    · exact G_wk (hj21_1  h) trivial
    · refine G_iload_n (pc := 12) 1 X (dg dt_Grid_isLine 6 rfl) rfl rfl ?_
      refine G_iconst (pc := 13) 5 X (dg dt_Grid_isLine 7 rfl) (by decide) ?_
      refine G_icmp_ge (pc := 14) 21 X (dg dt_Grid_isLine 8 rfl) (by decide) h (fun h => ?_) (fun h => ?_)
      · exact G_wk (hj21_1  h) trivial
      · refine G_iconst (pc := 17) 1 X (dg dt_Grid_isLine 9 rfl) (by decide) ?_
        refine G_goto (pc := 18) 22 X (dg dt_Grid_isLine 10 rfl) (by decide) ?_
        exact G_zretlp (pc := 22) X hq (dg dt_Grid_isLine 12 rfl) rfl h
set_option maxRecDepth 100000 in
set_option maxHeartbeats 4000000 in
theorem s_Grid_has (l : Launch) (ad : Nat → Nat) (σ : St) (v0 : Nat) (v1 : Int32) (v2 : Int32) (hg_v0 : gok v0) {rv : Int32} (h : f_Grid_has σ v0 v1 v2 = some rv) : Rt l [] yX2_has cX2_has 3 (some .boolean) 1 21 (g_SH, ad) [.ref (ad v0), .int v1, .int v2] σ (some (.int rv)) σ := by
  refine Rt.intro (L := [some (.ref (ad v0)), some (.int v1), some (.int v2)]) (by decide +kernel) (Nat.le_of_ble_eq_true rfl) rfl (fun θ hl X hq => ?_)
  subst hl
  unfold f_Grid_has at h
  refine G_aload_n (pc := 0) 0 X (dg dt_Grid_has 0 rfl) rfl rfl ?_
  refine G_iload_n (pc := 1) 1 X (dg dt_Grid_has 1 rfl) rfl rfl ?_
  obtain ⟨r_2, hc_1, h⟩ := cap_go h
  refine G_callV (pc := 2) (S := []) [.int v1] nosub X  (dg dt_Grid_has 2 rfl) cb_Grid_isLine cv_Grid_isLine w_340 (s_Grid_isLine _ ad _ _ _ hg_v0 hc_1) rfl ⟨Nat.le_of_ble_eq_true rfl, Nat.le_of_ble_eq_true rfl⟩ (sh_g hg_v0) rfl (Nat.le_of_ble_eq_true rfl) Rc0 ?_
  refine jn_go (fun j20_3 => j20_3 = some rv → G θ (0, 0) (g_SH, ad) σ 20 [none, none, none] []) h ?_ (fun j20_3 hj20_3 h => ?_)
  · intro  h
    refine G_iconst (pc := 20) 0 X (dg dt_Grid_has 10 rfl) (by decide) ?_
    exact G_zretlp (pc := 21) X hq (dg dt_Grid_has 11 rfl) rfl h
  refine G_if_eq (pc := 5) 20 X (dg dt_Grid_has 3 rfl) (by decide) h (fun h => ?_) (fun h => ?_)
  · exact G_wk (hj20_3  h) trivial
  · refine G_aload_n (pc := 8) 0 X (dg dt_Grid_has 4 rfl) rfl rfl ?_
    refine G_iload_n (pc := 9) 2 X (dg dt_Grid_has 5 rfl) rfl rfl ?_
    obtain ⟨r_5, hc_4, h⟩ := cap_go h
    refine G_callV (pc := 10) (S := []) [.int v2] nosub X  (dg dt_Grid_has 6 rfl) cb_Grid_isLine cv_Grid_isLine w_340 (s_Grid_isLine _ ad _ _ _ hg_v0 hc_4) rfl ⟨Nat.le_of_ble_eq_true rfl, Nat.le_of_ble_eq_true rfl⟩ (sh_g hg_v0) rfl (Nat.le_of_ble_eq_true rfl) Rc0 ?_
    refine G_if_eq (pc := 13) 20 X (dg dt_Grid_has 7 rfl) (by decide) h (fun h => ?_) (fun h => ?_)
    · exact G_wk (hj20_3  h) trivial
    · refine G_iconst (pc := 16) 1 X (dg dt_Grid_has 8 rfl) (by decide) ?_
      refine G_goto (pc := 17) 21 X (dg dt_Grid_has 9 rfl) (by decide) ?_
      exact G_zretlp (pc := 21) X hq (dg dt_Grid_has 11 rfl) rfl h
set_option maxRecDepth 100000 in
set_option maxHeartbeats 4000000 in
theorem s_Grid_signAt (l : Launch) (ad : Nat → Nat) (σ : St) (v0 : Nat) (v1 : Int32) (v2 : Int32) (hg_v0 : gok v0) {rv : Int32} (h : f_Grid_signAt σ v0 v1 v2 = some rv) : Rt l [] yX2_signAt cX2_signAt 3 (some .int) 2 43 (g_SH, ad) [.ref (ad v0), .int v1, .int v2] σ (some (.int rv)) σ := by
  refine Rt.intro (L := [some (.ref (ad v0)), some (.int v1), some (.int v2)]) (by decide +kernel) (Nat.le_of_ble_eq_true rfl) rfl (fun θ hl X hq => ?_)
  subst hl
  unfold f_Grid_signAt at h
  refine G_aload_n (pc := 0) 0 X (dg dt_Grid_signAt 0 rfl) rfl rfl ?_
  refine G_iload_n (pc := 1) 1 X (dg dt_Grid_signAt 1 rfl) rfl rfl ?_
  refine G_iload_n (pc := 2) 2 X (dg dt_Grid_signAt 2 rfl) rfl rfl ?_
  obtain ⟨r_2, hc_1, h⟩ := cap_go h
  refine G_callV (pc := 3) (S := []) [.int v1, .int v2] nosub X  (dg dt_Grid_signAt 3 rfl) cb_Grid_has cv_Grid_has w_336 (s_Grid_has _ ad _ _ _ _ hg_v0 hc_1) rfl ⟨Nat.le_of_ble_eq_true rfl, Nat.le_of_ble_eq_true rfl⟩ (sh_g hg_v0) rfl (Nat.le_of_ble_eq_true rfl) Rc0 ?_
  refine G_if_eq (pc := 6) 22 X (dg dt_Grid_signAt 4 rfl) (by decide) h (fun h => ?_) (fun h => ?_)
  · refine G_iconst (pc := 22) (-1) X (dg dt_Grid_signAt 14 rfl) (by decide) ?_
    exact G_iretp (pc := 23) X hq (dg dt_Grid_signAt 15 rfl) h
  · refine G_aload_n (pc := 9) 0 X (dg dt_Grid_signAt 5 rfl) rfl rfl ?_
    refine G_getR (pc := 10) 0 X (dg dt_Grid_signAt 6 rfl) fc_0 w_39 rfl (Nat.le_of_ble_eq_true rfl) (sh_g hg_v0) rfl ?_
    refine G_iconst (pc := 13) 5 X (dg dt_Grid_signAt 7 rfl) (by decide) ?_
    refine G_iload_n (pc := 14) 1 X (dg dt_Grid_signAt 8 rfl) rfl rfl ?_
    refine G_imul (pc := 15) X (dg dt_Grid_signAt 9 rfl) ?_
    refine G_iload_n (pc := 16) 2 X (dg dt_Grid_signAt 10 rfl) rfl rfl ?_
    refine G_iadd (pc := 17) X (dg dt_Grid_signAt 11 rfl) ?_
    refine G_iald (pc := 18) X (dg dt_Grid_signAt 12 rfl) (sh_g1 hg_v0) h (fun r_3 h => ?_)
    refine G_goto (pc := 19) 23 X (dg dt_Grid_signAt 13 rfl) (by decide) ?_
    exact G_iretp (pc := 23) X hq (dg dt_Grid_signAt 15 rfl) h
set_option maxRecDepth 100000 in
set_option maxHeartbeats 4000000 in
theorem s_Q_isIn (l : Launch) (ad : Nat → Nat) (σ : St) (v0 : Int32) (v1 : Int32)  {rv : Int32} (h : f_Q_isIn σ v0 v1 = some rv) : Rt l [] yX11_isIn cX11_isIn 2 (some .boolean) 0 0 (g_SH, ad) [.int v0, .int v1] σ (some (.int rv)) σ := by
  refine Rt.intro (L := [some (.int v0), some (.int v1)]) (by decide +kernel) (Nat.le_of_ble_eq_true rfl) rfl (fun θ hl X hq => ?_)
  subst hl
  unfold f_Q_isIn at h
  refine G_iload_n (pc := 0) 1 X (dg dt_Q_isIn 0 rfl) rfl rfl ?_
  refine jn_go (fun j23_1 => j23_1 = some rv → G θ (0, 0) (g_SH, ad) σ 23 [none, none] []) h ?_ (fun j23_1 hj23_1 h => ?_)
  · intro  h
    refine G_iconst (pc := 23) 0 X (dg dt_Q_isIn 14 rfl) (by decide) ?_
    exact G_zretlp (pc := 24) X hq (dg dt_Q_isIn 15 rfl) rfl h
  refine G_if_lt (pc := 1) 23 X (dg dt_Q_isIn 1 rfl) (by decide) h (fun h => ?_) (fun h => ?_)
  · exact G_wk (hj23_1  h) trivial
  · refine G_iload_n (pc := 4) 1 X (dg dt_Q_isIn 2 rfl) rfl rfl ?_
    refine G_bipush (pc := 5) 31 X (dg dt_Q_isIn 3 rfl) (by decide) ?_
    refine G_icmp_ge (pc := 7) 23 X (dg dt_Q_isIn 4 rfl) (by decide) h (fun h => ?_) (fun h => ?_)
    · exact G_wk (hj23_1  h) trivial
    · refine G_iload_n (pc := 10) 0 X (dg dt_Q_isIn 5 rfl) rfl rfl ?_
      refine G_iload_n (pc := 11) 1 X (dg dt_Q_isIn 6 rfl) rfl rfl ?_
      refine G_ishr (pc := 12) X (dg dt_Q_isIn 7 rfl) ?_
      refine G_iconst (pc := 13) 1 X (dg dt_Q_isIn 8 rfl) (by decide) ?_
      refine G_iand (pc := 14) X (dg dt_Q_isIn 9 rfl) ?_
      refine G_iconst (pc := 15) 1 X (dg dt_Q_isIn 10 rfl) (by decide) ?_
      refine G_icmp_ne (pc := 16) 23 X (dg dt_Q_isIn 11 rfl) (by decide) h (fun h => ?_) (fun h => ?_)
      · exact G_wk (hj23_1  h) trivial
      · refine G_iconst (pc := 19) 1 X (dg dt_Q_isIn 12 rfl) (by decide) ?_
        refine G_goto (pc := 20) 24 X (dg dt_Q_isIn 13 rfl) (by decide) ?_
        exact G_zretlp (pc := 24) X hq (dg dt_Q_isIn 15 rfl) rfl h
set_option maxRecDepth 100000 in
set_option maxHeartbeats 4000000 in
theorem s_Grid_hasInLines (l : Launch) (ad : Nat → Nat) (σ : St) (v0 : Nat) (v1 : Int32) (v2 : Int32) (v3 : Int32) (hg_v0 : gok v0) {rv : Int32} (h : f_Grid_hasInLines σ v0 v1 v2 v3 = some rv) : Rt l [] yX2_hasInLines cX2_hasInLines 4 (some .boolean) 2 43 (g_SH, ad) [.ref (ad v0), .int v1, .int v2, .int v3] σ (some (.int rv)) σ := by
  refine Rt.intro (L := [some (.ref (ad v0)), some (.int v1), some (.int v2), some (.int v3)]) (by decide +kernel) (Nat.le_of_ble_eq_true rfl) rfl (fun θ hl X hq => ?_)
  subst hl
  unfold f_Grid_hasInLines at h
  refine G_aload_n (pc := 0) 0 X (dg dt_Grid_hasInLines 0 rfl) rfl rfl ?_
  refine G_iload_n (pc := 1) 1 X (dg dt_Grid_hasInLines 1 rfl) rfl rfl ?_
  refine G_iload_n (pc := 2) 2 X (dg dt_Grid_hasInLines 2 rfl) rfl rfl ?_
  obtain ⟨r_2, hc_1, h⟩ := cap_go h
  refine G_callV (pc := 3) (S := []) [.int v1, .int v2] nosub X  (dg dt_Grid_hasInLines 3 rfl) cb_Grid_has cv_Grid_has w_336 (s_Grid_has _ ad _ _ _ _ hg_v0 hc_1) rfl ⟨Nat.le_of_ble_eq_true rfl, Nat.le_of_ble_eq_true rfl⟩ (sh_g hg_v0) rfl (Nat.le_of_ble_eq_true rfl) Rc0 ?_
  refine jn_go (fun j33_3 => j33_3 = some rv → G θ (0, 0) (g_SH, ad) σ 33 [none, none, none, none] []) h ?_ (fun j33_3 hj33_3 h => ?_)
  · intro  h
    refine G_iconst (pc := 33) 0 X (dg dt_Grid_hasInLines 19 rfl) (by decide) ?_
    exact G_zretlp (pc := 34) X hq (dg dt_Grid_hasInLines 20 rfl) rfl h
  refine G_if_eq (pc := 6) 33 X (dg dt_Grid_hasInLines 4 rfl) (by decide) h (fun h => ?_) (fun h => ?_)
  · exact G_wk (hj33_3  h) trivial
  · refine G_aload_n (pc := 9) 0 X (dg dt_Grid_hasInLines 5 rfl) rfl rfl ?_
    refine G_getR (pc := 10) 1 X (dg dt_Grid_hasInLines 6 rfl) fc_0 w_40 rfl (Nat.le_of_ble_eq_true rfl) (sh_g hg_v0) rfl ?_
    refine G_iload_n (pc := 13) 1 X (dg dt_Grid_hasInLines 7 rfl) rfl rfl ?_
    refine G_iald (pc := 14) X (dg dt_Grid_hasInLines 8 rfl) (sh_g2 hg_v0) h (fun r_4 h => ?_)
    refine G_aload_n (pc := 15) 0 X (dg dt_Grid_hasInLines 9 rfl) rfl rfl ?_
    refine G_getR (pc := 16) 2 X (dg dt_Grid_hasInLines 10 rfl) fc_0 w_41 rfl (Nat.le_of_ble_eq_true rfl) (sh_g hg_v0) rfl ?_
    refine G_iload_n (pc := 19) 2 X (dg dt_Grid_hasInLines 11 rfl) rfl rfl ?_
    refine G_iald (pc := 20) X (dg dt_Grid_hasInLines 12 rfl) (sh_g3 hg_v0) h (fun r_5 h => ?_)
    refine G_ior (pc := 21) X (dg dt_Grid_hasInLines 13 rfl) ?_
    refine G_iload_n (pc := 22) 3 X (dg dt_Grid_hasInLines 14 rfl) rfl rfl ?_
    obtain ⟨r_7, hc_6, h⟩ := cap_go h
    refine G_callSN (pc := 23) (S := []) [.int (r_4 ||| r_5), .int v3] nosub X  (dg dt_Grid_hasInLines 15 rfl) cb_Q_isIn w_422 w_483 (s_Q_isIn _ ad _ _ _ hc_6) rfl ⟨Nat.le_of_ble_eq_true rfl, Nat.le_of_ble_eq_true rfl⟩  (Nat.le_of_ble_eq_true rfl) Rc0 ?_
    refine G_if_eq (pc := 26) 33 X (dg dt_Grid_hasInLines 16 rfl) (by decide) h (fun h => ?_) (fun h => ?_)
    · exact G_wk (hj33_3  h) trivial
    · refine G_iconst (pc := 29) 1 X (dg dt_Grid_hasInLines 17 rfl) (by decide) ?_
      refine G_goto (pc := 30) 34 X (dg dt_Grid_hasInLines 18 rfl) (by decide) ?_
      exact G_zretlp (pc := 34) X hq (dg dt_Grid_hasInLines 20 rfl) rfl h
set_option maxRecDepth 100000 in
set_option maxHeartbeats 4000000 in
theorem s_Grid_set (l : Launch) (ad : Nat → Nat) (σ : St) (v0 : Nat) (v1 : Int32) (v2 : Int32) (v3 : Int32) (hg_v0 : gok v0) {rv : Unit} {σe : St} (h : f_Grid_set σ v0 v1 v2 v3 = some (rv, σe)) : Rt l [] yX2_set cX2_set 5 none 2 43 (g_SH, ad) [.ref (ad v0), .int v1, .int v2, .int v3] σ none σe := by
  refine Rt.intro (L := [some (.ref (ad v0)), some (.int v1), some (.int v2), some (.int v3), none]) (by decide +kernel) (Nat.le_of_ble_eq_true rfl) rfl (fun θ hl X hq => ?_)
  subst hl
  unfold f_Grid_set at h
  refine G_aload_n (pc := 0) 0 X (dg dt_Grid_set 0 rfl) rfl rfl ?_
  refine G_iload_n (pc := 1) 1 X (dg dt_Grid_set 1 rfl) rfl rfl ?_
  refine G_iload_n (pc := 2) 2 X (dg dt_Grid_set 2 rfl) rfl rfl ?_
  obtain ⟨r_2, hc_1, h⟩ := cap_go h
  refine G_callV (pc := 3) (S := []) [.int v1, .int v2] nosub X  (dg dt_Grid_set 3 rfl) cb_Grid_has cv_Grid_has w_336 (s_Grid_has _ ad _ _ _ _ hg_v0 hc_1) rfl ⟨Nat.le_of_ble_eq_true rfl, Nat.le_of_ble_eq_true rfl⟩ (sh_g hg_v0) rfl (Nat.le_of_ble_eq_true rfl) Rc0 ?_
  refine G_if_eq (pc := 6) 22 X (dg dt_Grid_set 4 rfl) (by decide) h (fun h => ?_) (fun h => ?_)
  · exact G_vret (pc := 22) X hq (dg dt_Grid_set 12 rfl) h
  · refine G_iload_n (pc := 9) 3 X (dg dt_Grid_set 5 rfl) rfl rfl ?_
    refine G_iconst (pc := 10) (-1) X (dg dt_Grid_set 6 rfl) (by decide) ?_
    refine G_icmp_lt (pc := 11) 22 X (dg dt_Grid_set 7 rfl) (by decide) h (fun h => ?_) (fun h => ?_)
    · exact G_vret (pc := 22) X hq (dg dt_Grid_set 12 rfl) h
    · refine G_iload_n (pc := 14) 3 X (dg dt_Grid_set 8 rfl) rfl rfl ?_
      refine G_aload_n (pc := 15) 0 X (dg dt_Grid_set 9 rfl) rfl rfl ?_
      refine G_getI (pc := 16) 3 X (dg dt_Grid_set 10 rfl) fc_0 w_42 rfl (Nat.le_of_ble_eq_true rfl) (sh_g hg_v0) rfl ?_
      refine G_icmp_lt (pc := 19) 23 X (dg dt_Grid_set 11 rfl) (by decide) h (fun h => ?_) (fun h => ?_)
      · refine G_aload_n (pc := 23) 0 X (dg dt_Grid_set 13 rfl) rfl rfl ?_
        refine G_getR (pc := 24) 0 X (dg dt_Grid_set 14 rfl) fc_0 w_39 rfl (Nat.le_of_ble_eq_true rfl) (sh_g hg_v0) rfl ?_
        refine G_iconst (pc := 27) 5 X (dg dt_Grid_set 15 rfl) (by decide) ?_
        refine G_iload_n (pc := 28) 1 X (dg dt_Grid_set 16 rfl) rfl rfl ?_
        refine G_imul (pc := 29) X (dg dt_Grid_set 17 rfl) ?_
        refine G_iload_n (pc := 30) 2 X (dg dt_Grid_set 18 rfl) rfl rfl ?_
        refine G_iadd (pc := 31) X (dg dt_Grid_set 19 rfl) ?_
        refine G_iald (pc := 32) X (dg dt_Grid_set 20 rfl) (sh_g1 hg_v0) h (fun r_3 h => ?_)
        refine G_istore (pc := 33) X (dg dt_Grid_set 21 rfl) (Nat.le_of_ble_eq_true rfl) rfl ?_
        refine G_iload (pc := 35) X (dg dt_Grid_set 22 rfl) rfl ?_
        refine G_iconst (pc := 37) (-1) X (dg dt_Grid_set 23 rfl) (by decide) ?_
        refine jn_go (fun j81_4 => ∀ (σ_5 : St), j81_4 σ_5 = some (rv, σe) → G θ (0, 0) (g_SH, ad) σ_5 81 [some (.ref (ad v0)), some (.int v1), some (.int v2), some (.int v3), none] []) h ?_ (fun j81_4 hj81_4 h => ?_)
        · intro σ_5 h
          refine G_iload_n (pc := 81) 3 X (dg dt_Grid_set 55 rfl) rfl rfl ?_
          refine G_iconst (pc := 82) (-1) X (dg dt_Grid_set 56 rfl) (by decide) ?_
          refine jn_go (fun j120_6 => ∀ (σ_7 : St), j120_6 σ_7 = some (rv, σe) → G θ (0, 0) (g_SH, ad) σ_7 120 [some (.ref (ad v0)), some (.int v1), some (.int v2), some (.int v3), none] []) h ?_ (fun j120_6 hj120_6 h => ?_)
          · intro σ_7 h
            refine G_aload_n (pc := 120) 0 X (dg dt_Grid_set 84 rfl) rfl rfl ?_
            refine G_getR (pc := 121) 0 X (dg dt_Grid_set 85 rfl) fc_0 w_39 rfl (Nat.le_of_ble_eq_true rfl) (sh_g hg_v0) rfl ?_
            refine G_iconst (pc := 124) 5 X (dg dt_Grid_set 86 rfl) (by decide) ?_
            refine G_iload_n (pc := 125) 1 X (dg dt_Grid_set 87 rfl) rfl rfl ?_
            refine G_imul (pc := 126) X (dg dt_Grid_set 88 rfl) ?_
            refine G_iload_n (pc := 127) 2 X (dg dt_Grid_set 89 rfl) rfl rfl ?_
            refine G_iadd (pc := 128) X (dg dt_Grid_set 90 rfl) ?_
            refine G_iload_n (pc := 129) 3 X (dg dt_Grid_set 91 rfl) rfl rfl ?_
            refine G_iast (pc := 130) X (dg dt_Grid_set 92 rfl) (sh_g1 hg_v0) h (fun σ_8 h => ?_)
            exact G_vret (pc := 131) X hq (dg dt_Grid_set 93 rfl) h
          refine G_icmp_eq (pc := 83) 120 X (dg dt_Grid_set 57 rfl) (by decide) h (fun h => ?_) (fun h => ?_)
          · exact G_wk (hj120_6 σ_5 h) ⟨rfl, ⟨rfl, ⟨rfl, ⟨rfl, trivial⟩⟩⟩⟩
          · refine G_aload_n (pc := 86) 0 X (dg dt_Grid_set 58 rfl) rfl rfl ?_
            refine G_getR (pc := 87) 1 X (dg dt_Grid_set 59 rfl) fc_0 w_40 rfl (Nat.le_of_ble_eq_true rfl) (sh_g hg_v0) rfl ?_
            refine G_iload_n (pc := 90) 1 X (dg dt_Grid_set 60 rfl) rfl rfl ?_
            refine G_dup2 (pc := 91) X (dg dt_Grid_set 61 rfl) rfl rfl ?_
            refine G_iald (pc := 92) X (dg dt_Grid_set 62 rfl) (sh_g2 hg_v0) h (fun r_9 h => ?_)
            refine G_iconst (pc := 93) 1 X (dg dt_Grid_set 63 rfl) (by decide) ?_
            refine G_iload_n (pc := 94) 3 X (dg dt_Grid_set 64 rfl) rfl rfl ?_
            refine G_ishl (pc := 95) X (dg dt_Grid_set 65 rfl) ?_
            refine G_ior (pc := 96) X (dg dt_Grid_set 66 rfl) ?_
            refine G_iast (pc := 97) X (dg dt_Grid_set 67 rfl) (sh_g2 hg_v0) h (fun σ_10 h => ?_)
            refine G_aload_n (pc := 98) 0 X (dg dt_Grid_set 68 rfl) rfl rfl ?_
            refine G_getR (pc := 99) 2 X (dg dt_Grid_set 69 rfl) fc_0 w_41 rfl (Nat.le_of_ble_eq_true rfl) (sh_g hg_v0) rfl ?_
            refine G_iload_n (pc := 102) 2 X (dg dt_Grid_set 70 rfl) rfl rfl ?_
            refine G_dup2 (pc := 103) X (dg dt_Grid_set 71 rfl) rfl rfl ?_
            refine G_iald (pc := 104) X (dg dt_Grid_set 72 rfl) (sh_g3 hg_v0) h (fun r_11 h => ?_)
            refine G_iconst (pc := 105) 1 X (dg dt_Grid_set 73 rfl) (by decide) ?_
            refine G_iload_n (pc := 106) 3 X (dg dt_Grid_set 74 rfl) rfl rfl ?_
            refine G_ishl (pc := 107) X (dg dt_Grid_set 75 rfl) ?_
            refine G_ior (pc := 108) X (dg dt_Grid_set 76 rfl) ?_
            refine G_iast (pc := 109) X (dg dt_Grid_set 77 rfl) (sh_g3 hg_v0) h (fun σ_12 h => ?_)
            refine G_aload_n (pc := 110) 0 X (dg dt_Grid_set 78 rfl) rfl rfl ?_
            refine G_dup (pc := 111) X (dg dt_Grid_set 79 rfl) rfl ?_
            refine G_getI (pc := 112) 4 X (dg dt_Grid_set 80 rfl) fc_0 w_45 rfl (Nat.le_of_ble_eq_true rfl) (sh_g hg_v0) rfl ?_
            refine G_iconst (pc := 115) 1 X (dg dt_Grid_set 81 rfl) (by decide) ?_
            refine G_iadd (pc := 116) X (dg dt_Grid_set 82 rfl) ?_
            refine G_put (pc := 117) 4 X (dg dt_Grid_set 83 rfl) fc_0 w_45 rfl (Nat.le_of_ble_eq_true rfl) rfl rfl (sh_g hg_v0) rfl h (fun σ_13 h => ?_)
            exact G_wk (hj120_6 σ_13 h) ⟨rfl, ⟨rfl, ⟨rfl, ⟨rfl, trivial⟩⟩⟩⟩
        refine G_icmp_eq (pc := 38) 81 X (dg dt_Grid_set 24 rfl) (by decide) h (fun h => ?_) (fun h => ?_)
        · exact G_wk (hj81_4 σ h) ⟨rfl, ⟨rfl, ⟨rfl, ⟨rfl, trivial⟩⟩⟩⟩
        · refine G_aload_n (pc := 41) 0 X (dg dt_Grid_set 25 rfl) rfl rfl ?_
          refine G_getR (pc := 42) 1 X (dg dt_Grid_set 26 rfl) fc_0 w_40 rfl (Nat.le_of_ble_eq_true rfl) (sh_g hg_v0) rfl ?_
          refine G_iload_n (pc := 45) 1 X (dg dt_Grid_set 27 rfl) rfl rfl ?_
          refine G_dup2 (pc := 46) X (dg dt_Grid_set 28 rfl) rfl rfl ?_
          refine G_iald (pc := 47) X (dg dt_Grid_set 29 rfl) (sh_g2 hg_v0) h (fun r_14 h => ?_)
          refine G_iconst (pc := 48) 1 X (dg dt_Grid_set 30 rfl) (by decide) ?_
          refine G_iload (pc := 49) X (dg dt_Grid_set 31 rfl) rfl ?_
          refine G_ishl (pc := 51) X (dg dt_Grid_set 32 rfl) ?_
          refine G_iconst (pc := 52) (-1) X (dg dt_Grid_set 33 rfl) (by decide) ?_
          refine G_ixor (pc := 53) X (dg dt_Grid_set 34 rfl) ?_
          refine G_iand (pc := 54) X (dg dt_Grid_set 35 rfl) ?_
          refine G_iast (pc := 55) X (dg dt_Grid_set 36 rfl) (sh_g2 hg_v0) h (fun σ_15 h => ?_)
          refine G_aload_n (pc := 56) 0 X (dg dt_Grid_set 37 rfl) rfl rfl ?_
          refine G_getR (pc := 57) 2 X (dg dt_Grid_set 38 rfl) fc_0 w_41 rfl (Nat.le_of_ble_eq_true rfl) (sh_g hg_v0) rfl ?_
          refine G_iload_n (pc := 60) 2 X (dg dt_Grid_set 39 rfl) rfl rfl ?_
          refine G_dup2 (pc := 61) X (dg dt_Grid_set 40 rfl) rfl rfl ?_
          refine G_iald (pc := 62) X (dg dt_Grid_set 41 rfl) (sh_g3 hg_v0) h (fun r_16 h => ?_)
          refine G_iconst (pc := 63) 1 X (dg dt_Grid_set 42 rfl) (by decide) ?_
          refine G_iload (pc := 64) X (dg dt_Grid_set 43 rfl) rfl ?_
          refine G_ishl (pc := 66) X (dg dt_Grid_set 44 rfl) ?_
          refine G_iconst (pc := 67) (-1) X (dg dt_Grid_set 45 rfl) (by decide) ?_
          refine G_ixor (pc := 68) X (dg dt_Grid_set 46 rfl) ?_
          refine G_iand (pc := 69) X (dg dt_Grid_set 47 rfl) ?_
          refine G_iast (pc := 70) X (dg dt_Grid_set 48 rfl) (sh_g3 hg_v0) h (fun σ_17 h => ?_)
          refine G_aload_n (pc := 71) 0 X (dg dt_Grid_set 49 rfl) rfl rfl ?_
          refine G_dup (pc := 72) X (dg dt_Grid_set 50 rfl) rfl ?_
          refine G_getI (pc := 73) 4 X (dg dt_Grid_set 51 rfl) fc_0 w_45 rfl (Nat.le_of_ble_eq_true rfl) (sh_g hg_v0) rfl ?_
          refine G_iconst (pc := 76) 1 X (dg dt_Grid_set 52 rfl) (by decide) ?_
          refine G_isub (pc := 77) X (dg dt_Grid_set 53 rfl) ?_
          refine G_put (pc := 78) 4 X (dg dt_Grid_set 54 rfl) fc_0 w_45 rfl (Nat.le_of_ble_eq_true rfl) rfl rfl (sh_g hg_v0) rfl h (fun σ_18 h => ?_)
          exact G_wk (hj81_4 σ_18 h) ⟨rfl, ⟨rfl, ⟨rfl, ⟨rfl, trivial⟩⟩⟩⟩
      · exact G_vret (pc := 22) X hq (dg dt_Grid_set 12 rfl) h
set_option maxRecDepth 100000 in
set_option maxHeartbeats 4000000 in
theorem s_Grid_allSigns (l : Launch) (ad : Nat → Nat) (σ : St) (v0 : Nat) (hg_v0 : gok v0) {rv : Int32} (h : f_Grid_allSigns σ v0 = some rv) : Rt l [] yX2_allSigns cX2_allSigns 1 (some .int) 0 0 (g_SH, ad) [.ref (ad v0)] σ (some (.int rv)) σ := by
  refine Rt.intro (L := [some (.ref (ad v0))]) (by decide +kernel) (Nat.le_of_ble_eq_true rfl) rfl (fun θ hl X hq => ?_)
  subst hl
  unfold f_Grid_allSigns at h
  refine G_iconst (pc := 0) 1 X (dg dt_Grid_allSigns 0 rfl) (by decide) ?_
  refine G_aload_n (pc := 1) 0 X (dg dt_Grid_allSigns 1 rfl) rfl rfl ?_
  refine G_getI (pc := 2) 3 X (dg dt_Grid_allSigns 2 rfl) fc_0 w_42 rfl (Nat.le_of_ble_eq_true rfl) (sh_g hg_v0) rfl ?_
  refine G_ishl (pc := 5) X (dg dt_Grid_allSigns 3 rfl) ?_
  refine G_iconst (pc := 6) 1 X (dg dt_Grid_allSigns 4 rfl) (by decide) ?_
  refine G_isub (pc := 7) X (dg dt_Grid_allSigns 5 rfl) ?_
  exact G_iretp (pc := 8) X hq (dg dt_Grid_allSigns 6 rfl) h
set_option maxRecDepth 100000 in
set_option maxHeartbeats 4000000 in
theorem s_Grid_isRowFull (l : Launch) (ad : Nat → Nat) (σ : St) (v0 : Nat) (v1 : Int32) (hg_v0 : gok v0) {rv : Int32} (h : f_Grid_isRowFull σ v0 v1 = some rv) : Rt l [] yX2_isRowFull cX2_isRowFull 2 (some .boolean) 1 21 (g_SH, ad) [.ref (ad v0), .int v1] σ (some (.int rv)) σ := by
  refine Rt.intro (L := [some (.ref (ad v0)), some (.int v1)]) (by decide +kernel) (Nat.le_of_ble_eq_true rfl) rfl (fun θ hl X hq => ?_)
  subst hl
  unfold f_Grid_isRowFull at h
  refine G_aload_n (pc := 0) 0 X (dg dt_Grid_isRowFull 0 rfl) rfl rfl ?_
  refine G_iload_n (pc := 1) 1 X (dg dt_Grid_isRowFull 1 rfl) rfl rfl ?_
  obtain ⟨r_2, hc_1, h⟩ := cap_go h
  refine G_callV (pc := 2) (S := []) [.int v1] nosub X  (dg dt_Grid_isRowFull 2 rfl) cb_Grid_isLine cv_Grid_isLine w_340 (s_Grid_isLine _ ad _ _ _ hg_v0 hc_1) rfl ⟨Nat.le_of_ble_eq_true rfl, Nat.le_of_ble_eq_true rfl⟩ (sh_g hg_v0) rfl (Nat.le_of_ble_eq_true rfl) Rc0 ?_
  refine jn_go (fun j25_3 => j25_3 = some rv → G θ (0, 0) (g_SH, ad) σ 25 [none, none] []) h ?_ (fun j25_3 hj25_3 h => ?_)
  · intro  h
    refine G_iconst (pc := 25) 0 X (dg dt_Grid_isRowFull 13 rfl) (by decide) ?_
    exact G_zretlp (pc := 26) X hq (dg dt_Grid_isRowFull 14 rfl) rfl h
  refine G_if_eq (pc := 5) 25 X (dg dt_Grid_isRowFull 3 rfl) (by decide) h (fun h => ?_) (fun h => ?_)
  · exact G_wk (hj25_3  h) trivial
  · refine G_aload_n (pc := 8) 0 X (dg dt_Grid_isRowFull 4 rfl) rfl rfl ?_
    refine G_getR (pc := 9) 1 X (dg dt_Grid_isRowFull 5 rfl) fc_0 w_40 rfl (Nat.le_of_ble_eq_true rfl) (sh_g hg_v0) rfl ?_
    refine G_iload_n (pc := 12) 1 X (dg dt_Grid_isRowFull 6 rfl) rfl rfl ?_
    refine G_iald (pc := 13) X (dg dt_Grid_isRowFull 7 rfl) (sh_g2 hg_v0) h (fun r_4 h => ?_)
    refine G_aload_n (pc := 14) 0 X (dg dt_Grid_isRowFull 8 rfl) rfl rfl ?_
    obtain ⟨r_6, hc_5, h⟩ := cap_go h
    refine G_callV (pc := 15) (S := [.int r_4]) [] nosub X  (dg dt_Grid_isRowFull 9 rfl) cb_Grid_allSigns cv_Grid_allSigns w_397 (s_Grid_allSigns _ ad _ _ hg_v0 hc_5) rfl ⟨Nat.le_of_ble_eq_true rfl, Nat.le_of_ble_eq_true rfl⟩ (sh_g hg_v0) rfl (Nat.le_of_ble_eq_true rfl) Rc0 ?_
    refine G_icmp_ne (pc := 18) 25 X (dg dt_Grid_isRowFull 10 rfl) (by decide) h (fun h => ?_) (fun h => ?_)
    · exact G_wk (hj25_3  h) trivial
    · refine G_iconst (pc := 21) 1 X (dg dt_Grid_isRowFull 11 rfl) (by decide) ?_
      refine G_goto (pc := 22) 26 X (dg dt_Grid_isRowFull 12 rfl) (by decide) ?_
      exact G_zretlp (pc := 26) X hq (dg dt_Grid_isRowFull 14 rfl) rfl h
set_option maxRecDepth 100000 in
set_option maxHeartbeats 4000000 in
theorem s_Grid_columnOf_L2 {θ : Th} {ad : Nat → Nat}  {rv : Int32} (X : Cx θ [] cX2_columnOf 4 "Quasigrove$Grid" 3 65)
    {v0 : Nat} {v1 : Int32} {v2 : Int32} {σ : St} (hq : Rq θ (g_SH, ad) (some .int) (some (.int rv)) σ) (hg_v0 : gok v0) {kx20 : Int32 → Option Int32} (hkx20 : ∀ (v3 : Int32), kx20 v3 = some rv → G θ (0, 0) (g_SH, ad) σ 20 [none, none, none, some (.int v3)] []) :
    ∀ (n : Nat) (v3 : Int32), f_Grid_columnOf_L2 v0 v1 v2 σ kx20 n v3 = some rv → G θ (0, 0) (g_SH, ad) σ 2 [some (.ref (ad v0)), some (.int v1), some (.int v2), some (.int v3)] [] := by
  intro n
  induction n with
  | zero => intro v3 h; rw [f_Grid_columnOf_L2] at h; cases h
  | succ n ih =>
    intro v3 h
    rw [f_Grid_columnOf_L2] at h
    refine G_iload_n (pc := 2) 3 X (dg dt_Grid_columnOf 2 rfl) rfl rfl ?_
    refine G_aload_n (pc := 3) 0 X (dg dt_Grid_columnOf 3 rfl) rfl rfl ?_
    refine G_getI (pc := 4) 3 X (dg dt_Grid_columnOf 4 rfl) fc_0 w_42 rfl (Nat.le_of_ble_eq_true rfl) (sh_g hg_v0) rfl ?_
    refine G_icmp_ge (pc := 7) 28 X (dg dt_Grid_columnOf 5 rfl) (by decide) h (fun h => ?_) (fun h => ?_)
    · refine G_iconst (pc := 28) (-1) X (dg dt_Grid_columnOf 16 rfl) (by decide) ?_
      exact G_iretp (pc := 29) X hq (dg dt_Grid_columnOf 17 rfl) h
    · refine G_aload_n (pc := 10) 0 X (dg dt_Grid_columnOf 6 rfl) rfl rfl ?_
      refine G_iload_n (pc := 11) 1 X (dg dt_Grid_columnOf 7 rfl) rfl rfl ?_
      refine G_iload_n (pc := 12) 3 X (dg dt_Grid_columnOf 8 rfl) rfl rfl ?_
      obtain ⟨r_2, hc_1, h⟩ := cap_go h
      refine G_callV (pc := 13) (S := []) [.int v1, .int v3] nosub X  (dg dt_Grid_columnOf 9 rfl) cb_Grid_signAt cv_Grid_signAt w_392 (s_Grid_signAt _ ad _ _ _ _ hg_v0 hc_1) rfl ⟨Nat.le_of_ble_eq_true rfl, Nat.le_of_ble_eq_true rfl⟩ (sh_g hg_v0) rfl (Nat.le_of_ble_eq_true rfl) Rc0 ?_
      refine G_iload_n (pc := 16) 2 X (dg dt_Grid_columnOf 10 rfl) rfl rfl ?_
      refine G_icmp_ne (pc := 17) 22 X (dg dt_Grid_columnOf 11 rfl) (by decide) h (fun h => ?_) (fun h => ?_)
      · refine G_iinc (pc := 22) (v3 + 1) X (dg dt_Grid_columnOf 14 rfl) rfl (Nat.le_of_ble_eq_true rfl) rfl rfl ?_
        refine G_goto (pc := 25) 2 X (dg dt_Grid_columnOf 15 rfl) (by decide) ?_
        exact G_wk (ih (v3 + 1) h) ⟨rfl, ⟨rfl, ⟨rfl, ⟨rfl, trivial⟩⟩⟩⟩
      · exact G_wk (hkx20 v3 h) ⟨rfl, trivial⟩
set_option maxRecDepth 100000 in
set_option maxHeartbeats 4000000 in
theorem s_Grid_columnOf (l : Launch) (ad : Nat → Nat) (σ : St) (v0 : Nat) (v1 : Int32) (v2 : Int32) (hg_v0 : gok v0) {rv : Int32} (h : f_Grid_columnOf σ v0 v1 v2 = some rv) : Rt l [] yX2_columnOf cX2_columnOf 4 (some .int) 3 65 (g_SH, ad) [.ref (ad v0), .int v1, .int v2] σ (some (.int rv)) σ := by
  refine Rt.intro (L := [some (.ref (ad v0)), some (.int v1), some (.int v2), none]) (by decide +kernel) (Nat.le_of_ble_eq_true rfl) rfl (fun θ hl X hq => ?_)
  subst hl
  unfold f_Grid_columnOf at h
  refine G_iconst (pc := 0) 0 X (dg dt_Grid_columnOf 0 rfl) (by decide) ?_
  refine G_istore_n (pc := 1) 3 X (dg dt_Grid_columnOf 1 rfl) rfl (Nat.le_of_ble_eq_true rfl) rfl ?_
  refine G_weak (L' := [some (.ref (ad v0)), some (.int v1), some (.int v2), some (.int 0)]) ⟨rfl, ⟨rfl, ⟨rfl, ⟨rfl, trivial⟩⟩⟩⟩ ?_
  refine s_Grid_columnOf_L2  X hq hg_v0 (fun v3_3 h => ?_) _ _ h
  refine G_iload_n (pc := 20) 3 X (dg dt_Grid_columnOf 12 rfl) rfl rfl ?_
  exact G_iretp (pc := 21) X hq (dg dt_Grid_columnOf 13 rfl) h
set_option maxRecDepth 100000 in
set_option maxHeartbeats 4000000 in
theorem s_Grid_exchange (l : Launch) (ad : Nat → Nat) (σ : St) (v0 : Nat) (v1 : Int32) (v2 : Int32) (v3 : Int32) (hg_v0 : gok v0) {rv : Unit} {σe : St} (h : f_Grid_exchange σ v0 v1 v2 v3 = some (rv, σe)) : Rt l [] yX2_exchange cX2_exchange 5 none 2 43 (g_SH, ad) [.ref (ad v0), .int v1, .int v2, .int v3] σ none σe := by
  refine Rt.intro (L := [some (.ref (ad v0)), some (.int v1), some (.int v2), some (.int v3), none]) (by decide +kernel) (Nat.le_of_ble_eq_true rfl) rfl (fun θ hl X hq => ?_)
  subst hl
  unfold f_Grid_exchange at h
  refine G_aload_n (pc := 0) 0 X (dg dt_Grid_exchange 0 rfl) rfl rfl ?_
  refine G_iload_n (pc := 1) 1 X (dg dt_Grid_exchange 1 rfl) rfl rfl ?_
  refine G_iload_n (pc := 2) 3 X (dg dt_Grid_exchange 2 rfl) rfl rfl ?_
  obtain ⟨r_2, hc_1, h⟩ := cap_go h
  refine G_callV (pc := 3) (S := []) [.int v1, .int v3] nosub X  (dg dt_Grid_exchange 3 rfl) cb_Grid_has cv_Grid_has w_336 (s_Grid_has _ ad _ _ _ _ hg_v0 hc_1) rfl ⟨Nat.le_of_ble_eq_true rfl, Nat.le_of_ble_eq_true rfl⟩ (sh_g hg_v0) rfl (Nat.le_of_ble_eq_true rfl) Rc0 ?_
  refine G_if_eq (pc := 6) 62 X (dg dt_Grid_exchange 4 rfl) (by decide) h (fun h => ?_) (fun h => ?_)
  · exact G_vret (pc := 62) X hq (dg dt_Grid_exchange 44 rfl) h
  · refine G_aload_n (pc := 9) 0 X (dg dt_Grid_exchange 5 rfl) rfl rfl ?_
    refine G_iload_n (pc := 10) 2 X (dg dt_Grid_exchange 6 rfl) rfl rfl ?_
    refine G_iload_n (pc := 11) 3 X (dg dt_Grid_exchange 7 rfl) rfl rfl ?_
    obtain ⟨r_4, hc_3, h⟩ := cap_go h
    refine G_callV (pc := 12) (S := []) [.int v2, .int v3] nosub X  (dg dt_Grid_exchange 8 rfl) cb_Grid_has cv_Grid_has w_336 (s_Grid_has _ ad _ _ _ _ hg_v0 hc_3) rfl ⟨Nat.le_of_ble_eq_true rfl, Nat.le_of_ble_eq_true rfl⟩ (sh_g hg_v0) rfl (Nat.le_of_ble_eq_true rfl) Rc0 ?_
    refine G_if_eq (pc := 15) 62 X (dg dt_Grid_exchange 9 rfl) (by decide) h (fun h => ?_) (fun h => ?_)
    · exact G_vret (pc := 62) X hq (dg dt_Grid_exchange 44 rfl) h
    · refine G_aload_n (pc := 18) 0 X (dg dt_Grid_exchange 10 rfl) rfl rfl ?_
      refine G_getR (pc := 19) 0 X (dg dt_Grid_exchange 11 rfl) fc_0 w_39 rfl (Nat.le_of_ble_eq_true rfl) (sh_g hg_v0) rfl ?_
      refine G_iconst (pc := 22) 5 X (dg dt_Grid_exchange 12 rfl) (by decide) ?_
      refine G_iload_n (pc := 23) 1 X (dg dt_Grid_exchange 13 rfl) rfl rfl ?_
      refine G_imul (pc := 24) X (dg dt_Grid_exchange 14 rfl) ?_
      refine G_iload_n (pc := 25) 3 X (dg dt_Grid_exchange 15 rfl) rfl rfl ?_
      refine G_iadd (pc := 26) X (dg dt_Grid_exchange 16 rfl) ?_
      refine G_iald (pc := 27) X (dg dt_Grid_exchange 17 rfl) (sh_g1 hg_v0) h (fun r_5 h => ?_)
      refine G_istore (pc := 28) X (dg dt_Grid_exchange 18 rfl) (Nat.le_of_ble_eq_true rfl) rfl ?_
      refine G_aload_n (pc := 30) 0 X (dg dt_Grid_exchange 19 rfl) rfl rfl ?_
      refine G_getR (pc := 31) 0 X (dg dt_Grid_exchange 20 rfl) fc_0 w_39 rfl (Nat.le_of_ble_eq_true rfl) (sh_g hg_v0) rfl ?_
      refine G_iconst (pc := 34) 5 X (dg dt_Grid_exchange 21 rfl) (by decide) ?_
      refine G_iload_n (pc := 35) 1 X (dg dt_Grid_exchange 22 rfl) rfl rfl ?_
      refine G_imul (pc := 36) X (dg dt_Grid_exchange 23 rfl) ?_
      refine G_iload_n (pc := 37) 3 X (dg dt_Grid_exchange 24 rfl) rfl rfl ?_
      refine G_iadd (pc := 38) X (dg dt_Grid_exchange 25 rfl) ?_
      refine G_aload_n (pc := 39) 0 X (dg dt_Grid_exchange 26 rfl) rfl rfl ?_
      refine G_getR (pc := 40) 0 X (dg dt_Grid_exchange 27 rfl) fc_0 w_39 rfl (Nat.le_of_ble_eq_true rfl) (sh_g hg_v0) rfl ?_
      refine G_iconst (pc := 43) 5 X (dg dt_Grid_exchange 28 rfl) (by decide) ?_
      refine G_iload_n (pc := 44) 2 X (dg dt_Grid_exchange 29 rfl) rfl rfl ?_
      refine G_imul (pc := 45) X (dg dt_Grid_exchange 30 rfl) ?_
      refine G_iload_n (pc := 46) 3 X (dg dt_Grid_exchange 31 rfl) rfl rfl ?_
      refine G_iadd (pc := 47) X (dg dt_Grid_exchange 32 rfl) ?_
      refine G_iald (pc := 48) X (dg dt_Grid_exchange 33 rfl) (sh_g1 hg_v0) h (fun r_6 h => ?_)
      refine G_iast (pc := 49) X (dg dt_Grid_exchange 34 rfl) (sh_g1 hg_v0) h (fun σ_7 h => ?_)
      refine G_aload_n (pc := 50) 0 X (dg dt_Grid_exchange 35 rfl) rfl rfl ?_
      refine G_getR (pc := 51) 0 X (dg dt_Grid_exchange 36 rfl) fc_0 w_39 rfl (Nat.le_of_ble_eq_true rfl) (sh_g hg_v0) rfl ?_
      refine G_iconst (pc := 54) 5 X (dg dt_Grid_exchange 37 rfl) (by decide) ?_
      refine G_iload_n (pc := 55) 2 X (dg dt_Grid_exchange 38 rfl) rfl rfl ?_
      refine G_imul (pc := 56) X (dg dt_Grid_exchange 39 rfl) ?_
      refine G_iload_n (pc := 57) 3 X (dg dt_Grid_exchange 40 rfl) rfl rfl ?_
      refine G_iadd (pc := 58) X (dg dt_Grid_exchange 41 rfl) ?_
      refine G_iload (pc := 59) X (dg dt_Grid_exchange 42 rfl) rfl ?_
      refine G_iast (pc := 61) X (dg dt_Grid_exchange 43 rfl) (sh_g1 hg_v0) h (fun σ_8 h => ?_)
      exact G_vret (pc := 62) X hq (dg dt_Grid_exchange 44 rfl) h
set_option maxRecDepth 100000 in
set_option maxHeartbeats 4000000 in
theorem s_Grid_turnRows_L6 {θ : Th} {ad : Nat → Nat}  {rv : Int32} {σe : St} (X : Cx θ [] cX2_turnRows 7 "Quasigrove$Grid" 4 88)
    {v0 : Nat} {v1 : Int32} {v2 : Int32} (hq : Rq θ (g_SH, ad) (some .int) (some (.int rv)) σe) (hg_v0 : gok v0) {kx53 : Int32 → St → Option (Int32 × St)} (hkx53 : ∀ (v4 : Int32) (σ : St), kx53 v4 σ = some (rv, σe) → G θ (0, 0) (g_SH, ad) σ 53 [none, none, none, none, some (.int v4), none, none] []) :
    ∀ (n : Nat) (v4 : Int32) (v5 : Int32) (σ : St), f_Grid_turnRows_L6 v0 v1 v2 kx53 n v4 v5 σ = some (rv, σe) → G θ (0, 0) (g_SH, ad) σ 6 [some (.ref (ad v0)), some (.int v1), some (.int v2), none, some (.int v4), some (.int v5), none] [] := by
  intro n
  induction n with
  | zero => intro v4 v5 σ h; rw [f_Grid_turnRows_L6] at h; cases h
  | succ n ih =>
    intro v4 v5 σ h
    rw [f_Grid_turnRows_L6] at h
    refine G_iload (pc := 6) X (dg dt_Grid_turnRows 4 rfl) rfl ?_
    refine G_aload_n (pc := 8) 0 X (dg dt_Grid_turnRows 5 rfl) rfl rfl ?_
    refine G_getI (pc := 9) 3 X (dg dt_Grid_turnRows 6 rfl) fc_0 w_42 rfl (Nat.le_of_ble_eq_true rfl) (sh_g hg_v0) rfl ?_
    refine G_icmp_ge (pc := 12) 53 X (dg dt_Grid_turnRows 7 rfl) (by decide) h (fun h => ?_) (fun h => ?_)
    · exact G_wk (hkx53 v4 σ h) ⟨rfl, trivial⟩
    · refine G_iload (pc := 15) X (dg dt_Grid_turnRows 8 rfl) rfl ?_
      refine G_iconst (pc := 17) (-1) X (dg dt_Grid_turnRows 9 rfl) (by decide) ?_
      refine G_icmp_eq (pc := 18) 53 X (dg dt_Grid_turnRows 10 rfl) (by decide) h (fun h => ?_) (fun h => ?_)
      · exact G_wk (hkx53 v4 σ h) ⟨rfl, trivial⟩
      · refine G_aload_n (pc := 21) 0 X (dg dt_Grid_turnRows 11 rfl) rfl rfl ?_
        refine G_iload_n (pc := 22) 1 X (dg dt_Grid_turnRows 12 rfl) rfl rfl ?_
        refine G_aload_n (pc := 23) 0 X (dg dt_Grid_turnRows 13 rfl) rfl rfl ?_
        refine G_iload_n (pc := 24) 2 X (dg dt_Grid_turnRows 14 rfl) rfl rfl ?_
        refine G_iload (pc := 25) X (dg dt_Grid_turnRows 15 rfl) rfl ?_
        obtain ⟨r_2, hc_1, h⟩ := cap_go h
        refine G_callV (pc := 27) (S := [.int v1, .ref (ad v0)]) [.int v2, .int v5] nosub X  (dg dt_Grid_turnRows 16 rfl) cb_Grid_signAt cv_Grid_signAt w_392 (s_Grid_signAt _ ad _ _ _ _ hg_v0 hc_1) rfl ⟨Nat.le_of_ble_eq_true rfl, Nat.le_of_ble_eq_true rfl⟩ (sh_g hg_v0) rfl (Nat.le_of_ble_eq_true rfl) Rc0 ?_
        obtain ⟨r_4, hc_3, h⟩ := cap_go h
        refine G_callV (pc := 30) (S := []) [.int v1, .int r_2] nosub X  (dg dt_Grid_turnRows 17 rfl) cb_Grid_columnOf cv_Grid_columnOf w_500 (s_Grid_columnOf _ ad _ _ _ _ hg_v0 hc_3) rfl ⟨Nat.le_of_ble_eq_true rfl, Nat.le_of_ble_eq_true rfl⟩ (sh_g hg_v0) rfl (Nat.le_of_ble_eq_true rfl) Rc0 ?_
        refine G_istore (pc := 33) X (dg dt_Grid_turnRows 18 rfl) (Nat.le_of_ble_eq_true rfl) rfl ?_
        refine G_aload_n (pc := 35) 0 X (dg dt_Grid_turnRows 19 rfl) rfl rfl ?_
        refine G_iload_n (pc := 36) 1 X (dg dt_Grid_turnRows 20 rfl) rfl rfl ?_
        refine G_iload_n (pc := 37) 2 X (dg dt_Grid_turnRows 21 rfl) rfl rfl ?_
        refine G_iload (pc := 38) X (dg dt_Grid_turnRows 22 rfl) rfl ?_
        obtain ⟨r_6, σ_7, hc_5, h⟩ := cal_go h
        refine G_callV (pc := 40) (S := []) [.int v1, .int v2, .int v5] nosub X  (dg dt_Grid_turnRows 23 rfl) cb_Grid_exchange cv_Grid_exchange w_504 (s_Grid_exchange _ ad _ _ _ _ _ hg_v0 hc_5) rfl ⟨Nat.le_of_ble_eq_true rfl, Nat.le_of_ble_eq_true rfl⟩ (sh_g hg_v0) rfl (Nat.le_of_ble_eq_true rfl) Rc0 ?_
        refine G_iload (pc := 43) X (dg dt_Grid_turnRows 24 rfl) rfl ?_
        refine G_istore (pc := 45) X (dg dt_Grid_turnRows 25 rfl) (Nat.le_of_ble_eq_true rfl) rfl ?_
        refine G_iinc (pc := 47) (v4 + 1) X (dg dt_Grid_turnRows 26 rfl) rfl (Nat.le_of_ble_eq_true rfl) rfl rfl ?_
        refine G_goto (pc := 50) 6 X (dg dt_Grid_turnRows 27 rfl) (by decide) ?_
        exact G_wk (ih (v4 + 1) r_4 σ_7 h) ⟨rfl, ⟨rfl, ⟨rfl, ⟨rfl, ⟨rfl, trivial⟩⟩⟩⟩⟩
set_option maxRecDepth 100000 in
set_option maxHeartbeats 4000000 in
theorem s_Grid_turnRows (l : Launch) (ad : Nat → Nat) (σ : St) (v0 : Nat) (v1 : Int32) (v2 : Int32) (v3 : Int32) (hg_v0 : gok v0) {rv : Int32} {σe : St} (h : f_Grid_turnRows σ v0 v1 v2 v3 = some (rv, σe)) : Rt l [] yX2_turnRows cX2_turnRows 7 (some .int) 4 88 (g_SH, ad) [.ref (ad v0), .int v1, .int v2, .int v3] σ (some (.int rv)) σe := by
  refine Rt.intro (L := [some (.ref (ad v0)), some (.int v1), some (.int v2), some (.int v3), none, none, none]) (by decide +kernel) (Nat.le_of_ble_eq_true rfl) rfl (fun θ hl X hq => ?_)
  subst hl
  unfold f_Grid_turnRows at h
  refine G_iconst (pc := 0) 0 X (dg dt_Grid_turnRows 0 rfl) (by decide) ?_
  refine G_istore (pc := 1) X (dg dt_Grid_turnRows 1 rfl) (Nat.le_of_ble_eq_true rfl) rfl ?_
  refine G_iload_n (pc := 3) 3 X (dg dt_Grid_turnRows 2 rfl) rfl rfl ?_
  refine G_istore (pc := 4) X (dg dt_Grid_turnRows 3 rfl) (Nat.le_of_ble_eq_true rfl) rfl ?_
  refine G_weak (L' := [some (.ref (ad v0)), some (.int v1), some (.int v2), none, some (.int 0), some (.int v3), none]) ⟨rfl, ⟨rfl, ⟨rfl, ⟨rfl, ⟨rfl, trivial⟩⟩⟩⟩⟩ ?_
  refine s_Grid_turnRows_L6  X hq hg_v0 (fun v4_8 σ_9 h => ?_) _ _ _ _ h
  refine G_iload (pc := 53) X (dg dt_Grid_turnRows 28 rfl) rfl ?_
  exact G_iret (pc := 55) X hq (dg dt_Grid_turnRows 29 rfl) h
set_option maxRecDepth 100000 in
set_option maxHeartbeats 4000000 in
theorem s_Grid_copy_L18 {θ : Th} {ad : Nat → Nat}  {rv : Unit} {σe : St} (X : Cx θ [] cX2_copy 3 "Quasigrove$Grid" 0 0)
    {v0 : Nat} {v1 : Nat} (hq : Rq θ (g_SH, ad) none none σe) (hg_v0 : gok v0) (hg_v1 : gok v1) {kx42 : St → Option (Unit × St)} (hkx42 : ∀ (σ : St), kx42 σ = some (rv, σe) → G θ (0, 0) (g_SH, ad) σ 42 [some (.ref (ad v0)), some (.ref (ad v1)), none] []) :
    ∀ (n : Nat) (v2 : Int32) (σ : St), f_Grid_copy_L18 v0 v1 kx42 n v2 σ = some (rv, σe) → G θ (0, 0) (g_SH, ad) σ 18 [some (.ref (ad v0)), some (.ref (ad v1)), some (.int v2)] [] := by
  intro n
  induction n with
  | zero => intro v2 σ h; rw [f_Grid_copy_L18] at h; cases h
  | succ n ih =>
    intro v2 σ h
    rw [f_Grid_copy_L18] at h
    refine G_iload_n (pc := 18) 2 X (dg dt_Grid_copy 10 rfl) rfl rfl ?_
    refine G_bipush (pc := 19) 25 X (dg dt_Grid_copy 11 rfl) (by decide) ?_
    refine G_icmp_ge (pc := 21) 42 X (dg dt_Grid_copy 12 rfl) (by decide) h (fun h => ?_) (fun h => ?_)
    · exact G_wk (hkx42 σ h) ⟨rfl, ⟨rfl, trivial⟩⟩
    · refine G_aload_n (pc := 24) 0 X (dg dt_Grid_copy 13 rfl) rfl rfl ?_
      refine G_getR (pc := 25) 0 X (dg dt_Grid_copy 14 rfl) fc_0 w_39 rfl (Nat.le_of_ble_eq_true rfl) (sh_g hg_v0) rfl ?_
      refine G_iload_n (pc := 28) 2 X (dg dt_Grid_copy 15 rfl) rfl rfl ?_
      refine G_aload_n (pc := 29) 1 X (dg dt_Grid_copy 16 rfl) rfl rfl ?_
      refine G_getR (pc := 30) 0 X (dg dt_Grid_copy 17 rfl) fc_0 w_39 rfl (Nat.le_of_ble_eq_true rfl) (sh_g hg_v1) rfl ?_
      refine G_iload_n (pc := 33) 2 X (dg dt_Grid_copy 18 rfl) rfl rfl ?_
      refine G_iald (pc := 34) X (dg dt_Grid_copy 19 rfl) (sh_g1 hg_v1) h (fun r_3 h => ?_)
      refine G_iast (pc := 35) X (dg dt_Grid_copy 20 rfl) (sh_g1 hg_v0) h (fun σ_4 h => ?_)
      refine G_iinc (pc := 36) (v2 + 1) X (dg dt_Grid_copy 21 rfl) rfl (Nat.le_of_ble_eq_true rfl) rfl rfl ?_
      refine G_goto (pc := 39) 18 X (dg dt_Grid_copy 22 rfl) (by decide) ?_
      exact G_wk (ih (v2 + 1) σ_4 h) ⟨rfl, ⟨rfl, ⟨rfl, trivial⟩⟩⟩
set_option maxRecDepth 100000 in
set_option maxHeartbeats 4000000 in
theorem s_Grid_copy_L44 {θ : Th} {ad : Nat → Nat}  {rv : Unit} {σe : St} (X : Cx θ [] cX2_copy 3 "Quasigrove$Grid" 0 0)
    {v0 : Nat} {v1 : Nat} (hq : Rq θ (g_SH, ad) none none σe) (hg_v0 : gok v0) (hg_v1 : gok v1) :
    ∀ (n : Nat) (v2 : Int32) (σ : St), f_Grid_copy_L44 v0 v1 n v2 σ = some (rv, σe) → G θ (0, 0) (g_SH, ad) σ 44 [some (.ref (ad v0)), some (.ref (ad v1)), some (.int v2)] [] := by
  intro n
  induction n with
  | zero => intro v2 σ h; rw [f_Grid_copy_L44] at h; cases h
  | succ n ih =>
    intro v2 σ h
    rw [f_Grid_copy_L44] at h
    refine G_iload_n (pc := 44) 2 X (dg dt_Grid_copy 25 rfl) rfl rfl ?_
    refine G_iconst (pc := 45) 5 X (dg dt_Grid_copy 26 rfl) (by decide) ?_
    refine G_icmp_ge (pc := 46) 79 X (dg dt_Grid_copy 27 rfl) (by decide) h (fun h => ?_) (fun h => ?_)
    · exact G_vret (pc := 79) X hq (dg dt_Grid_copy 46 rfl) h
    · refine G_aload_n (pc := 49) 0 X (dg dt_Grid_copy 28 rfl) rfl rfl ?_
      refine G_getR (pc := 50) 1 X (dg dt_Grid_copy 29 rfl) fc_0 w_40 rfl (Nat.le_of_ble_eq_true rfl) (sh_g hg_v0) rfl ?_
      refine G_iload_n (pc := 53) 2 X (dg dt_Grid_copy 30 rfl) rfl rfl ?_
      refine G_aload_n (pc := 54) 1 X (dg dt_Grid_copy 31 rfl) rfl rfl ?_
      refine G_getR (pc := 55) 1 X (dg dt_Grid_copy 32 rfl) fc_0 w_40 rfl (Nat.le_of_ble_eq_true rfl) (sh_g hg_v1) rfl ?_
      refine G_iload_n (pc := 58) 2 X (dg dt_Grid_copy 33 rfl) rfl rfl ?_
      refine G_iald (pc := 59) X (dg dt_Grid_copy 34 rfl) (sh_g2 hg_v1) h (fun r_6 h => ?_)
      refine G_iast (pc := 60) X (dg dt_Grid_copy 35 rfl) (sh_g2 hg_v0) h (fun σ_7 h => ?_)
      refine G_aload_n (pc := 61) 0 X (dg dt_Grid_copy 36 rfl) rfl rfl ?_
      refine G_getR (pc := 62) 2 X (dg dt_Grid_copy 37 rfl) fc_0 w_41 rfl (Nat.le_of_ble_eq_true rfl) (sh_g hg_v0) rfl ?_
      refine G_iload_n (pc := 65) 2 X (dg dt_Grid_copy 38 rfl) rfl rfl ?_
      refine G_aload_n (pc := 66) 1 X (dg dt_Grid_copy 39 rfl) rfl rfl ?_
      refine G_getR (pc := 67) 2 X (dg dt_Grid_copy 40 rfl) fc_0 w_41 rfl (Nat.le_of_ble_eq_true rfl) (sh_g hg_v1) rfl ?_
      refine G_iload_n (pc := 70) 2 X (dg dt_Grid_copy 41 rfl) rfl rfl ?_
      refine G_iald (pc := 71) X (dg dt_Grid_copy 42 rfl) (sh_g3 hg_v1) h (fun r_8 h => ?_)
      refine G_iast (pc := 72) X (dg dt_Grid_copy 43 rfl) (sh_g3 hg_v0) h (fun σ_9 h => ?_)
      refine G_iinc (pc := 73) (v2 + 1) X (dg dt_Grid_copy 44 rfl) rfl (Nat.le_of_ble_eq_true rfl) rfl rfl ?_
      refine G_goto (pc := 76) 44 X (dg dt_Grid_copy 45 rfl) (by decide) ?_
      exact G_wk (ih (v2 + 1) σ_9 h) ⟨rfl, ⟨rfl, ⟨rfl, trivial⟩⟩⟩
set_option maxRecDepth 100000 in
set_option maxHeartbeats 4000000 in
theorem s_Grid_copy (l : Launch) (ad : Nat → Nat) (σ : St) (v0 : Nat) (v1 : Nat) (hg_v0 : gok v0) (hg_v1 : gok v1) {rv : Unit} {σe : St} (h : f_Grid_copy σ v0 v1 = some (rv, σe)) : Rt l [] yX2_copy cX2_copy 3 none 0 0 (g_SH, ad) [.ref (ad v0), .ref (ad v1)] σ none σe := by
  refine Rt.intro (L := [some (.ref (ad v0)), some (.ref (ad v1)), none]) (by decide +kernel) (Nat.le_of_ble_eq_true rfl) rfl (fun θ hl X hq => ?_)
  subst hl
  unfold f_Grid_copy at h
  refine G_aload_n (pc := 0) 0 X (dg dt_Grid_copy 0 rfl) rfl rfl ?_
  refine G_aload_n (pc := 1) 1 X (dg dt_Grid_copy 1 rfl) rfl rfl ?_
  refine G_getI (pc := 2) 3 X (dg dt_Grid_copy 2 rfl) fc_0 w_42 rfl (Nat.le_of_ble_eq_true rfl) (sh_g hg_v1) rfl ?_
  refine G_put (pc := 5) 3 X (dg dt_Grid_copy 3 rfl) fc_0 w_42 rfl (Nat.le_of_ble_eq_true rfl) rfl rfl (sh_g hg_v0) rfl h (fun σ_1 h => ?_)
  refine G_aload_n (pc := 8) 0 X (dg dt_Grid_copy 4 rfl) rfl rfl ?_
  refine G_aload_n (pc := 9) 1 X (dg dt_Grid_copy 5 rfl) rfl rfl ?_
  refine G_getI (pc := 10) 4 X (dg dt_Grid_copy 6 rfl) fc_0 w_45 rfl (Nat.le_of_ble_eq_true rfl) (sh_g hg_v1) rfl ?_
  refine G_put (pc := 13) 4 X (dg dt_Grid_copy 7 rfl) fc_0 w_45 rfl (Nat.le_of_ble_eq_true rfl) rfl rfl (sh_g hg_v0) rfl h (fun σ_2 h => ?_)
  refine G_iconst (pc := 16) 0 X (dg dt_Grid_copy 8 rfl) (by decide) ?_
  refine G_istore_n (pc := 17) 2 X (dg dt_Grid_copy 9 rfl) rfl (Nat.le_of_ble_eq_true rfl) rfl ?_
  refine G_weak (L' := [some (.ref (ad v0)), some (.ref (ad v1)), some (.int 0)]) ⟨rfl, ⟨rfl, ⟨rfl, trivial⟩⟩⟩ ?_
  refine s_Grid_copy_L18  X hq hg_v0 hg_v1 (fun σ_5 h => ?_) _ _ _ h
  refine G_iconst (pc := 42) 0 X (dg dt_Grid_copy 23 rfl) (by decide) ?_
  refine G_istore_n (pc := 43) 2 X (dg dt_Grid_copy 24 rfl) rfl (Nat.le_of_ble_eq_true rfl) rfl ?_
  refine G_weak (L' := [some (.ref (ad v0)), some (.ref (ad v1)), some (.int 0)]) ⟨rfl, ⟨rfl, ⟨rfl, trivial⟩⟩⟩ ?_
  refine s_Grid_copy_L44  X hq hg_v0 hg_v1  _ _ _ h
set_option maxRecDepth 100000 in
set_option maxHeartbeats 4000000 in
theorem s_Grid_optionsAt (l : Launch) (ad : Nat → Nat) (σ : St) (v0 : Nat) (v1 : Int32) (v2 : Int32) (hg_v0 : gok v0) {rv : Int32} (h : f_Grid_optionsAt σ v0 v1 v2 = some rv) : Rt l [] yX2_optionsAt cX2_optionsAt 3 (some .int) 2 43 (g_SH, ad) [.ref (ad v0), .int v1, .int v2] σ (some (.int rv)) σ := by
  refine Rt.intro (L := [some (.ref (ad v0)), some (.int v1), some (.int v2)]) (by decide +kernel) (Nat.le_of_ble_eq_true rfl) rfl (fun θ hl X hq => ?_)
  subst hl
  unfold f_Grid_optionsAt at h
  refine G_aload_n (pc := 0) 0 X (dg dt_Grid_optionsAt 0 rfl) rfl rfl ?_
  refine G_iload_n (pc := 1) 1 X (dg dt_Grid_optionsAt 1 rfl) rfl rfl ?_
  refine G_iload_n (pc := 2) 2 X (dg dt_Grid_optionsAt 2 rfl) rfl rfl ?_
  obtain ⟨r_2, hc_1, h⟩ := cap_go h
  refine G_callV (pc := 3) (S := []) [.int v1, .int v2] nosub X  (dg dt_Grid_optionsAt 3 rfl) cb_Grid_has cv_Grid_has w_336 (s_Grid_has _ ad _ _ _ _ hg_v0 hc_1) rfl ⟨Nat.le_of_ble_eq_true rfl, Nat.le_of_ble_eq_true rfl⟩ (sh_g hg_v0) rfl (Nat.le_of_ble_eq_true rfl) Rc0 ?_
  refine G_if_eq (pc := 6) 23 X (dg dt_Grid_optionsAt 4 rfl) (by decide) h (fun h => ?_) (fun h => ?_)
  · refine G_iconst (pc := 23) 0 X (dg dt_Grid_optionsAt 15 rfl) (by decide) ?_
    exact G_iretp (pc := 24) X hq (dg dt_Grid_optionsAt 16 rfl) h
  · refine G_aload_n (pc := 9) 0 X (dg dt_Grid_optionsAt 5 rfl) rfl rfl ?_
    refine G_getR (pc := 10) 0 X (dg dt_Grid_optionsAt 6 rfl) fc_0 w_39 rfl (Nat.le_of_ble_eq_true rfl) (sh_g hg_v0) rfl ?_
    refine G_iconst (pc := 13) 5 X (dg dt_Grid_optionsAt 7 rfl) (by decide) ?_
    refine G_iload_n (pc := 14) 1 X (dg dt_Grid_optionsAt 8 rfl) rfl rfl ?_
    refine G_imul (pc := 15) X (dg dt_Grid_optionsAt 9 rfl) ?_
    refine G_iload_n (pc := 16) 2 X (dg dt_Grid_optionsAt 10 rfl) rfl rfl ?_
    refine G_iadd (pc := 17) X (dg dt_Grid_optionsAt 11 rfl) ?_
    refine G_iald (pc := 18) X (dg dt_Grid_optionsAt 12 rfl) (sh_g1 hg_v0) h (fun r_3 h => ?_)
    refine G_iconst (pc := 19) (-1) X (dg dt_Grid_optionsAt 13 rfl) (by decide) ?_
    refine G_icmp_eq (pc := 20) 25 X (dg dt_Grid_optionsAt 14 rfl) (by decide) h (fun h => ?_) (fun h => ?_)
    · refine G_aload_n (pc := 25) 0 X (dg dt_Grid_optionsAt 17 rfl) rfl rfl ?_
      obtain ⟨r_5, hc_4, h⟩ := cap_go h
      refine G_callV (pc := 26) (S := []) [] nosub X  (dg dt_Grid_optionsAt 18 rfl) cb_Grid_allSigns cv_Grid_allSigns w_397 (s_Grid_allSigns _ ad _ _ hg_v0 hc_4) rfl ⟨Nat.le_of_ble_eq_true rfl, Nat.le_of_ble_eq_true rfl⟩ (sh_g hg_v0) rfl (Nat.le_of_ble_eq_true rfl) Rc0 ?_
      refine G_aload_n (pc := 29) 0 X (dg dt_Grid_optionsAt 19 rfl) rfl rfl ?_
      refine G_getR (pc := 30) 1 X (dg dt_Grid_optionsAt 20 rfl) fc_0 w_40 rfl (Nat.le_of_ble_eq_true rfl) (sh_g hg_v0) rfl ?_
      refine G_iload_n (pc := 33) 1 X (dg dt_Grid_optionsAt 21 rfl) rfl rfl ?_
      refine G_iald (pc := 34) X (dg dt_Grid_optionsAt 22 rfl) (sh_g2 hg_v0) h (fun r_6 h => ?_)
      refine G_aload_n (pc := 35) 0 X (dg dt_Grid_optionsAt 23 rfl) rfl rfl ?_
      refine G_getR (pc := 36) 2 X (dg dt_Grid_optionsAt 24 rfl) fc_0 w_41 rfl (Nat.le_of_ble_eq_true rfl) (sh_g hg_v0) rfl ?_
      refine G_iload_n (pc := 39) 2 X (dg dt_Grid_optionsAt 25 rfl) rfl rfl ?_
      refine G_iald (pc := 40) X (dg dt_Grid_optionsAt 26 rfl) (sh_g3 hg_v0) h (fun r_7 h => ?_)
      refine G_ior (pc := 41) X (dg dt_Grid_optionsAt 27 rfl) ?_
      refine G_iconst (pc := 42) (-1) X (dg dt_Grid_optionsAt 28 rfl) (by decide) ?_
      refine G_ixor (pc := 43) X (dg dt_Grid_optionsAt 29 rfl) ?_
      refine G_iand (pc := 44) X (dg dt_Grid_optionsAt 30 rfl) ?_
      exact G_iretp (pc := 45) X hq (dg dt_Grid_optionsAt 31 rfl) h
    · refine G_iconst (pc := 23) 0 X (dg dt_Grid_optionsAt 15 rfl) (by decide) ?_
      exact G_iretp (pc := 24) X hq (dg dt_Grid_optionsAt 16 rfl) h
set_option maxRecDepth 100000 in
set_option maxHeartbeats 4000000 in
theorem s_Grid_deadCells_L14 {θ : Th} {ad : Nat → Nat}  {rv : Int32} (X : Cx θ [] cX2_deadCells 4 "Quasigrove$Grid" 3 65)
    {v0 : Nat} {v2 : Int32} {σ : St} (hq : Rq θ (g_SH, ad) (some .int) (some (.int rv)) σ) (hg_v0 : gok v0) {kx50 : Int32 → Option Int32} (hkx50 : ∀ (v1 : Int32), kx50 v1 = some rv → G θ (0, 0) (g_SH, ad) σ 50 [some (.ref (ad v0)), some (.int v1), some (.int v2), none] []) :
    ∀ (n : Nat) (v1 : Int32) (v3 : Int32), f_Grid_deadCells_L14 v0 v2 σ kx50 n v1 v3 = some rv → G θ (0, 0) (g_SH, ad) σ 14 [some (.ref (ad v0)), some (.int v1), some (.int v2), some (.int v3)] [] := by
  intro n
  induction n with
  | zero => intro v1 v3 h; rw [f_Grid_deadCells_L14] at h; cases h
  | succ n ih =>
    intro v1 v3 h
    rw [f_Grid_deadCells_L14] at h
    refine G_iload_n (pc := 14) 3 X (dg dt_Grid_deadCells 10 rfl) rfl rfl ?_
    refine G_aload_n (pc := 15) 0 X (dg dt_Grid_deadCells 11 rfl) rfl rfl ?_
    refine G_getI (pc := 16) 3 X (dg dt_Grid_deadCells 12 rfl) fc_0 w_42 rfl (Nat.le_of_ble_eq_true rfl) (sh_g hg_v0) rfl ?_
    refine G_icmp_ge (pc := 19) 50 X (dg dt_Grid_deadCells 13 rfl) (by decide) h (fun h => ?_) (fun h => ?_)
    · exact G_wk (hkx50 v1 h) ⟨rfl, ⟨rfl, ⟨rfl, trivial⟩⟩⟩
    · refine G_aload_n (pc := 22) 0 X (dg dt_Grid_deadCells 14 rfl) rfl rfl ?_
      refine G_iload_n (pc := 23) 2 X (dg dt_Grid_deadCells 15 rfl) rfl rfl ?_
      refine G_iload_n (pc := 24) 3 X (dg dt_Grid_deadCells 16 rfl) rfl rfl ?_
      obtain ⟨r_2, hc_1, h⟩ := cap_go h
      refine G_callV (pc := 25) (S := []) [.int v2, .int v3] nosub X  (dg dt_Grid_deadCells 17 rfl) cb_Grid_signAt cv_Grid_signAt w_392 (s_Grid_signAt _ ad _ _ _ _ hg_v0 hc_1) rfl ⟨Nat.le_of_ble_eq_true rfl, Nat.le_of_ble_eq_true rfl⟩ (sh_g hg_v0) rfl (Nat.le_of_ble_eq_true rfl) Rc0 ?_
      refine G_iconst (pc := 28) (-1) X (dg dt_Grid_deadCells 18 rfl) (by decide) ?_
      refine jn_go (fun j44_3 => ∀ (v1_4 : Int32), j44_3 v1_4 = some rv → G θ (0, 0) (g_SH, ad) σ 44 [some (.ref (ad v0)), some (.int v1_4), some (.int v2), some (.int v3)] []) h ?_ (fun j44_3 hj44_3 h => ?_)
      · intro v1_4 h
        refine G_iinc (pc := 44) (v3 + 1) X (dg dt_Grid_deadCells 26 rfl) rfl (Nat.le_of_ble_eq_true rfl) rfl rfl ?_
        refine G_goto (pc := 47) 14 X (dg dt_Grid_deadCells 27 rfl) (by decide) ?_
        exact G_wk (ih v1_4 (v3 + 1) h) ⟨rfl, ⟨rfl, ⟨rfl, ⟨rfl, trivial⟩⟩⟩⟩
      refine G_icmp_ne (pc := 29) 44 X (dg dt_Grid_deadCells 19 rfl) (by decide) h (fun h => ?_) (fun h => ?_)
      · exact G_wk (hj44_3 v1 h) ⟨rfl, ⟨rfl, ⟨rfl, ⟨rfl, trivial⟩⟩⟩⟩
      · refine G_aload_n (pc := 32) 0 X (dg dt_Grid_deadCells 20 rfl) rfl rfl ?_
        refine G_iload_n (pc := 33) 2 X (dg dt_Grid_deadCells 21 rfl) rfl rfl ?_
        refine G_iload_n (pc := 34) 3 X (dg dt_Grid_deadCells 22 rfl) rfl rfl ?_
        obtain ⟨r_6, hc_5, h⟩ := cap_go h
        refine G_callV (pc := 35) (S := []) [.int v2, .int v3] nosub X  (dg dt_Grid_deadCells 23 rfl) cb_Grid_optionsAt cv_Grid_optionsAt w_393 (s_Grid_optionsAt _ ad _ _ _ _ hg_v0 hc_5) rfl ⟨Nat.le_of_ble_eq_true rfl, Nat.le_of_ble_eq_true rfl⟩ (sh_g hg_v0) rfl (Nat.le_of_ble_eq_true rfl) Rc0 ?_
        refine G_if_ne (pc := 38) 44 X (dg dt_Grid_deadCells 24 rfl) (by decide) h (fun h => ?_) (fun h => ?_)
        · exact G_wk (hj44_3 v1 h) ⟨rfl, ⟨rfl, ⟨rfl, ⟨rfl, trivial⟩⟩⟩⟩
        · refine G_iinc (pc := 41) (v1 + 1) X (dg dt_Grid_deadCells 25 rfl) rfl (Nat.le_of_ble_eq_true rfl) rfl rfl ?_
          exact G_wk (hj44_3 (v1 + 1) h) ⟨rfl, ⟨rfl, ⟨rfl, ⟨rfl, trivial⟩⟩⟩⟩
set_option maxRecDepth 100000 in
set_option maxHeartbeats 4000000 in
theorem s_Grid_deadCells_L4 {θ : Th} {ad : Nat → Nat}  {rv : Int32} (X : Cx θ [] cX2_deadCells 4 "Quasigrove$Grid" 3 65)
    {v0 : Nat} {σ : St} (hq : Rq θ (g_SH, ad) (some .int) (some (.int rv)) σ) (hg_v0 : gok v0) {kx56 : Int32 → Option Int32} (hkx56 : ∀ (v1 : Int32), kx56 v1 = some rv → G θ (0, 0) (g_SH, ad) σ 56 [none, some (.int v1), none, none] []) :
    ∀ (n : Nat) (v1 : Int32) (v2 : Int32), f_Grid_deadCells_L4 v0 σ kx56 n v1 v2 = some rv → G θ (0, 0) (g_SH, ad) σ 4 [some (.ref (ad v0)), some (.int v1), some (.int v2), none] [] := by
  intro n
  induction n with
  | zero => intro v1 v2 h; rw [f_Grid_deadCells_L4] at h; cases h
  | succ n ih =>
    intro v1 v2 h
    rw [f_Grid_deadCells_L4] at h
    refine G_iload_n (pc := 4) 2 X (dg dt_Grid_deadCells 4 rfl) rfl rfl ?_
    refine G_aload_n (pc := 5) 0 X (dg dt_Grid_deadCells 5 rfl) rfl rfl ?_
    refine G_getI (pc := 6) 3 X (dg dt_Grid_deadCells 6 rfl) fc_0 w_42 rfl (Nat.le_of_ble_eq_true rfl) (sh_g hg_v0) rfl ?_
    refine G_icmp_ge (pc := 9) 56 X (dg dt_Grid_deadCells 7 rfl) (by decide) h (fun h => ?_) (fun h => ?_)
    · exact G_wk (hkx56 v1 h) ⟨rfl, trivial⟩
    · refine G_iconst (pc := 12) 0 X (dg dt_Grid_deadCells 8 rfl) (by decide) ?_
      refine G_istore_n (pc := 13) 3 X (dg dt_Grid_deadCells 9 rfl) rfl (Nat.le_of_ble_eq_true rfl) rfl ?_
      refine G_weak (L' := [some (.ref (ad v0)), some (.int v1), some (.int v2), some (.int 0)]) ⟨rfl, ⟨rfl, ⟨rfl, ⟨rfl, trivial⟩⟩⟩⟩ ?_
      refine s_Grid_deadCells_L14  X hq hg_v0 (fun v1_7 h => ?_) _ _ _ h
      refine G_iinc (pc := 50) (v2 + 1) X (dg dt_Grid_deadCells 28 rfl) rfl (Nat.le_of_ble_eq_true rfl) rfl rfl ?_
      refine G_goto (pc := 53) 4 X (dg dt_Grid_deadCells 29 rfl) (by decide) ?_
      exact G_wk (ih v1_7 (v2 + 1) h) ⟨rfl, ⟨rfl, ⟨rfl, trivial⟩⟩⟩
set_option maxRecDepth 100000 in
set_option maxHeartbeats 4000000 in
theorem s_Grid_deadCells (l : Launch) (ad : Nat → Nat) (σ : St) (v0 : Nat) (hg_v0 : gok v0) {rv : Int32} (h : f_Grid_deadCells σ v0 = some rv) : Rt l [] yX2_deadCells cX2_deadCells 4 (some .int) 3 65 (g_SH, ad) [.ref (ad v0)] σ (some (.int rv)) σ := by
  refine Rt.intro (L := [some (.ref (ad v0)), none, none, none]) (by decide +kernel) (Nat.le_of_ble_eq_true rfl) rfl (fun θ hl X hq => ?_)
  subst hl
  unfold f_Grid_deadCells at h
  refine G_iconst (pc := 0) 0 X (dg dt_Grid_deadCells 0 rfl) (by decide) ?_
  refine G_istore_n (pc := 1) 1 X (dg dt_Grid_deadCells 1 rfl) rfl (Nat.le_of_ble_eq_true rfl) rfl ?_
  refine G_iconst (pc := 2) 0 X (dg dt_Grid_deadCells 2 rfl) (by decide) ?_
  refine G_istore_n (pc := 3) 2 X (dg dt_Grid_deadCells 3 rfl) rfl (Nat.le_of_ble_eq_true rfl) rfl ?_
  refine G_weak (L' := [some (.ref (ad v0)), some (.int 0), some (.int 0), none]) ⟨rfl, ⟨rfl, ⟨rfl, trivial⟩⟩⟩ ?_
  refine s_Grid_deadCells_L4  X hq hg_v0 (fun v1_8 h => ?_) _ _ _ h
  refine G_iload_n (pc := 56) 1 X (dg dt_Grid_deadCells 30 rfl) rfl rfl ?_
  exact G_iretp (pc := 57) X hq (dg dt_Grid_deadCells 31 rfl) h
set_option maxRecDepth 100000 in
set_option maxHeartbeats 4000000 in
theorem s_Grid_clear_L20 {θ : Th} {ad : Nat → Nat}  {rv : Unit} {σe : St} (X : Cx θ [] cX2_clear 3 "Quasigrove$Grid" 1 21)
    {v0 : Nat} (hq : Rq θ (g_SH, ad) none none σe) (hg_v0 : gok v0) {kx39 : St → Option (Unit × St)} (hkx39 : ∀ (σ : St), kx39 σ = some (rv, σe) → G θ (0, 0) (g_SH, ad) σ 39 [some (.ref (ad v0)), none, none] []) :
    ∀ (n : Nat) (v2 : Int32) (σ : St), f_Grid_clear_L20 v0 kx39 n v2 σ = some (rv, σe) → G θ (0, 0) (g_SH, ad) σ 20 [some (.ref (ad v0)), none, some (.int v2)] [] := by
  intro n
  induction n with
  | zero => intro v2 σ h; rw [f_Grid_clear_L20] at h; cases h
  | succ n ih =>
    intro v2 σ h
    rw [f_Grid_clear_L20] at h
    refine G_iload_n (pc := 20) 2 X (dg dt_Grid_clear 12 rfl) rfl rfl ?_
    refine G_bipush (pc := 21) 25 X (dg dt_Grid_clear 13 rfl) (by decide) ?_
    refine G_icmp_ge (pc := 23) 39 X (dg dt_Grid_clear 14 rfl) (by decide) h (fun h => ?_) (fun h => ?_)
    · exact G_wk (hkx39 σ h) ⟨rfl, trivial⟩
    · refine G_aload_n (pc := 26) 0 X (dg dt_Grid_clear 15 rfl) rfl rfl ?_
      refine G_getR (pc := 27) 0 X (dg dt_Grid_clear 16 rfl) fc_0 w_39 rfl (Nat.le_of_ble_eq_true rfl) (sh_g hg_v0) rfl ?_
      refine G_iload_n (pc := 30) 2 X (dg dt_Grid_clear 17 rfl) rfl rfl ?_
      refine G_iconst (pc := 31) (-1) X (dg dt_Grid_clear 18 rfl) (by decide) ?_
      refine G_iast (pc := 32) X (dg dt_Grid_clear 19 rfl) (sh_g1 hg_v0) h (fun σ_3 h => ?_)
      refine G_iinc (pc := 33) (v2 + 1) X (dg dt_Grid_clear 20 rfl) rfl (Nat.le_of_ble_eq_true rfl) rfl rfl ?_
      refine G_goto (pc := 36) 20 X (dg dt_Grid_clear 21 rfl) (by decide) ?_
      exact G_wk (ih (v2 + 1) σ_3 h) ⟨rfl, ⟨rfl, trivial⟩⟩
set_option maxRecDepth 100000 in
set_option maxHeartbeats 4000000 in
theorem s_Grid_clear_L41 {θ : Th} {ad : Nat → Nat}  {rv : Unit} {σe : St} (X : Cx θ [] cX2_clear 3 "Quasigrove$Grid" 1 21)
    {v0 : Nat} (hq : Rq θ (g_SH, ad) none none σe) (hg_v0 : gok v0) :
    ∀ (n : Nat) (v2 : Int32) (σ : St), f_Grid_clear_L41 v0 n v2 σ = some (rv, σe) → G θ (0, 0) (g_SH, ad) σ 41 [some (.ref (ad v0)), none, some (.int v2)] [] := by
  intro n
  induction n with
  | zero => intro v2 σ h; rw [f_Grid_clear_L41] at h; cases h
  | succ n ih =>
    intro v2 σ h
    rw [f_Grid_clear_L41] at h
    refine G_iload_n (pc := 41) 2 X (dg dt_Grid_clear 24 rfl) rfl rfl ?_
    refine G_iconst (pc := 42) 5 X (dg dt_Grid_clear 25 rfl) (by decide) ?_
    refine G_icmp_ge (pc := 43) 66 X (dg dt_Grid_clear 26 rfl) (by decide) h (fun h => ?_) (fun h => ?_)
    · exact G_vret (pc := 66) X hq (dg dt_Grid_clear 39 rfl) h
    · refine G_aload_n (pc := 46) 0 X (dg dt_Grid_clear 27 rfl) rfl rfl ?_
      refine G_getR (pc := 47) 1 X (dg dt_Grid_clear 28 rfl) fc_0 w_40 rfl (Nat.le_of_ble_eq_true rfl) (sh_g hg_v0) rfl ?_
      refine G_iload_n (pc := 50) 2 X (dg dt_Grid_clear 29 rfl) rfl rfl ?_
      refine G_iconst (pc := 51) 0 X (dg dt_Grid_clear 30 rfl) (by decide) ?_
      refine G_iast (pc := 52) X (dg dt_Grid_clear 31 rfl) (sh_g2 hg_v0) h (fun σ_5 h => ?_)
      refine G_aload_n (pc := 53) 0 X (dg dt_Grid_clear 32 rfl) rfl rfl ?_
      refine G_getR (pc := 54) 2 X (dg dt_Grid_clear 33 rfl) fc_0 w_41 rfl (Nat.le_of_ble_eq_true rfl) (sh_g hg_v0) rfl ?_
      refine G_iload_n (pc := 57) 2 X (dg dt_Grid_clear 34 rfl) rfl rfl ?_
      refine G_iconst (pc := 58) 0 X (dg dt_Grid_clear 35 rfl) (by decide) ?_
      refine G_iast (pc := 59) X (dg dt_Grid_clear 36 rfl) (sh_g3 hg_v0) h (fun σ_6 h => ?_)
      refine G_iinc (pc := 60) (v2 + 1) X (dg dt_Grid_clear 37 rfl) rfl (Nat.le_of_ble_eq_true rfl) rfl rfl ?_
      refine G_goto (pc := 63) 41 X (dg dt_Grid_clear 38 rfl) (by decide) ?_
      exact G_wk (ih (v2 + 1) σ_6 h) ⟨rfl, ⟨rfl, trivial⟩⟩
set_option maxRecDepth 100000 in
set_option maxHeartbeats 4000000 in
theorem s_Grid_clear (l : Launch) (ad : Nat → Nat) (σ : St) (v0 : Nat) (v1 : Int32) (hg_v0 : gok v0) {rv : Unit} {σe : St} (h : f_Grid_clear σ v0 v1 = some (rv, σe)) : Rt l [] yX2_clear cX2_clear 3 none 1 21 (g_SH, ad) [.ref (ad v0), .int v1] σ none σe := by
  refine Rt.intro (L := [some (.ref (ad v0)), some (.int v1), none]) (by decide +kernel) (Nat.le_of_ble_eq_true rfl) rfl (fun θ hl X hq => ?_)
  subst hl
  unfold f_Grid_clear at h
  refine G_aload_n (pc := 0) 0 X (dg dt_Grid_clear 0 rfl) rfl rfl ?_
  refine G_iconst (pc := 1) 2 X (dg dt_Grid_clear 1 rfl) (by decide) ?_
  refine G_iload_n (pc := 2) 1 X (dg dt_Grid_clear 2 rfl) rfl rfl ?_
  refine G_iconst (pc := 3) 5 X (dg dt_Grid_clear 3 rfl) (by decide) ?_
  refine G_mmin (pc := 4) X (dg dt_Grid_clear 4 rfl) w_316 w_317 w_20 w_318 (Nat.le_of_ble_eq_true rfl) (Nat.le_of_ble_eq_true rfl) Rc0 ?_
  refine G_mmax (pc := 7) X (dg dt_Grid_clear 5 rfl) w_319 w_320 w_20 w_321 (Nat.le_of_ble_eq_true rfl) (Nat.le_of_ble_eq_true rfl) Rc0 ?_
  refine G_put (pc := 10) 3 X (dg dt_Grid_clear 6 rfl) fc_0 w_42 rfl (Nat.le_of_ble_eq_true rfl) rfl rfl (sh_g hg_v0) rfl h (fun σ_1 h => ?_)
  refine G_aload_n (pc := 13) 0 X (dg dt_Grid_clear 7 rfl) rfl rfl ?_
  refine G_iconst (pc := 14) 0 X (dg dt_Grid_clear 8 rfl) (by decide) ?_
  refine G_put (pc := 15) 4 X (dg dt_Grid_clear 9 rfl) fc_0 w_45 rfl (Nat.le_of_ble_eq_true rfl) rfl rfl (sh_g hg_v0) rfl h (fun σ_2 h => ?_)
  refine G_iconst (pc := 18) 0 X (dg dt_Grid_clear 10 rfl) (by decide) ?_
  refine G_istore_n (pc := 19) 2 X (dg dt_Grid_clear 11 rfl) rfl (Nat.le_of_ble_eq_true rfl) rfl ?_
  refine G_weak (L' := [some (.ref (ad v0)), none, some (.int 0)]) ⟨rfl, ⟨rfl, trivial⟩⟩ ?_
  refine s_Grid_clear_L20  X hq hg_v0 (fun σ_4 h => ?_) _ _ _ h
  refine G_iconst (pc := 39) 0 X (dg dt_Grid_clear 22 rfl) (by decide) ?_
  refine G_istore_n (pc := 40) 2 X (dg dt_Grid_clear 23 rfl) rfl (Nat.le_of_ble_eq_true rfl) rfl ?_
  refine G_weak (L' := [some (.ref (ad v0)), none, some (.int 0)]) ⟨rfl, ⟨rfl, trivial⟩⟩ ?_
  refine s_Grid_clear_L41  X hq hg_v0  _ _ _ h
end
section
set_option maxRecDepth 100000 in
set_option maxHeartbeats 4000000 in
theorem s_Move_packed (l : Launch) (ad : Nat → Nat) (σ : St) (v0 : Int32) (v1 : Int32) (v2 : Int32)  {rv : Int32} (h : f_Move_packed σ v0 v1 v2 = some rv) : Rt l [] yX6_packed cX6_packed 3 (some .int) 0 0 (g_SH, ad) [.int v0, .int v1, .int v2] σ (some (.int rv)) σ := by
  refine Rt.intro (L := [some (.int v0), some (.int v1), some (.int v2)]) (by decide +kernel) (Nat.le_of_ble_eq_true rfl) rfl (fun θ hl X hq => ?_)
  subst hl
  unfold f_Move_packed at h
  refine G_bipush (pc := 0) 10 X (dg dt_Move_packed 0 rfl) (by decide) ?_
  refine G_iconst (pc := 2) 5 X (dg dt_Move_packed 1 rfl) (by decide) ?_
  refine G_iload_n (pc := 3) 0 X (dg dt_Move_packed 2 rfl) rfl rfl ?_
  refine G_imul (pc := 4) X (dg dt_Move_packed 3 rfl) ?_
  refine G_iload_n (pc := 5) 1 X (dg dt_Move_packed 4 rfl) rfl rfl ?_
  refine G_iadd (pc := 6) X (dg dt_Move_packed 5 rfl) ?_
  refine G_imul (pc := 7) X (dg dt_Move_packed 6 rfl) ?_
  refine G_iload_n (pc := 8) 2 X (dg dt_Move_packed 7 rfl) rfl rfl ?_
  refine G_iadd (pc := 9) X (dg dt_Move_packed 8 rfl) ?_
  exact G_iretp (pc := 10) X hq (dg dt_Move_packed 9 rfl) h
set_option maxRecDepth 100000 in
set_option maxHeartbeats 4000000 in
theorem s_Move_row (l : Launch) (ad : Nat → Nat) (σ : St) (v0 : Int32)  {rv : Int32} (h : f_Move_row σ v0 = some rv) : Rt l [] yX6_row cX6_row 1 (some .int) 0 0 (g_SH, ad) [.int v0] σ (some (.int rv)) σ := by
  refine Rt.intro (L := [some (.int v0)]) (by decide +kernel) (Nat.le_of_ble_eq_true rfl) rfl (fun θ hl X hq => ?_)
  subst hl
  unfold f_Move_row at h
  refine G_iload_n (pc := 0) 0 X (dg dt_Move_row 0 rfl) rfl rfl ?_
  refine G_bipush (pc := 1) 50 X (dg dt_Move_row 1 rfl) (by decide) ?_
  refine G_idiv (pc := 3) X (dg dt_Move_row 2 rfl) h (fun q_1 h => ?_)
  exact G_iretp (pc := 4) X hq (dg dt_Move_row 3 rfl) h
set_option maxRecDepth 100000 in
set_option maxHeartbeats 4000000 in
theorem s_Move_column (l : Launch) (ad : Nat → Nat) (σ : St) (v0 : Int32)  {rv : Int32} (h : f_Move_column σ v0 = some rv) : Rt l [] yX6_column cX6_column 1 (some .int) 0 0 (g_SH, ad) [.int v0] σ (some (.int rv)) σ := by
  refine Rt.intro (L := [some (.int v0)]) (by decide +kernel) (Nat.le_of_ble_eq_true rfl) rfl (fun θ hl X hq => ?_)
  subst hl
  unfold f_Move_column at h
  refine G_iload_n (pc := 0) 0 X (dg dt_Move_column 0 rfl) rfl rfl ?_
  refine G_bipush (pc := 1) 10 X (dg dt_Move_column 1 rfl) (by decide) ?_
  refine G_idiv (pc := 3) X (dg dt_Move_column 2 rfl) h (fun q_1 h => ?_)
  refine G_iconst (pc := 4) 5 X (dg dt_Move_column 3 rfl) (by decide) ?_
  refine G_irem (pc := 5) X (dg dt_Move_column 4 rfl) h (fun q_2 h => ?_)
  exact G_iretp (pc := 6) X hq (dg dt_Move_column 5 rfl) h
set_option maxRecDepth 100000 in
set_option maxHeartbeats 4000000 in
theorem s_Move_sign (l : Launch) (ad : Nat → Nat) (σ : St) (v0 : Int32)  {rv : Int32} (h : f_Move_sign σ v0 = some rv) : Rt l [] yX6_sign cX6_sign 1 (some .int) 0 0 (g_SH, ad) [.int v0] σ (some (.int rv)) σ := by
  refine Rt.intro (L := [some (.int v0)]) (by decide +kernel) (Nat.le_of_ble_eq_true rfl) rfl (fun θ hl X hq => ?_)
  subst hl
  unfold f_Move_sign at h
  refine G_iload_n (pc := 0) 0 X (dg dt_Move_sign 0 rfl) rfl rfl ?_
  refine G_bipush (pc := 1) 10 X (dg dt_Move_sign 1 rfl) (by decide) ?_
  refine G_irem (pc := 3) X (dg dt_Move_sign 2 rfl) h (fun q_1 h => ?_)
  exact G_iretp (pc := 4) X hq (dg dt_Move_sign 3 rfl) h
set_option maxRecDepth 100000 in
set_option maxHeartbeats 4000000 in
theorem s_Move_told (l : Launch) (ad : Nat → Nat) (σ : St) (v0 : Int32) (v1 : Int32)  {rv : Int32} (h : f_Move_told σ v0 v1 = some rv) : Rt l [] yX6_told cX6_told 2 (some .int) 1 20 (g_SH, ad) [.int v0, .int v1] σ (some (.int rv)) σ := by
  refine Rt.intro (L := [some (.int v0), some (.int v1)]) (by decide +kernel) (Nat.le_of_ble_eq_true rfl) rfl (fun θ hl X hq => ?_)
  subst hl
  unfold f_Move_told at h
  refine G_iload_n (pc := 0) 0 X (dg dt_Move_told 0 rfl) rfl rfl ?_
  refine G_iconst (pc := 1) (-1) X (dg dt_Move_told 1 rfl) (by decide) ?_
  refine G_icmp_ne (pc := 2) 9 X (dg dt_Move_told 2 rfl) (by decide) h (fun h => ?_) (fun h => ?_)
  · refine G_bipush (pc := 9) 10 X (dg dt_Move_told 5 rfl) (by decide) ?_
    refine G_iload_n (pc := 11) 1 X (dg dt_Move_told 6 rfl) rfl rfl ?_
    refine G_iload_n (pc := 12) 0 X (dg dt_Move_told 7 rfl) rfl rfl ?_
    obtain ⟨r_2, hc_1, h⟩ := cap_go h
    refine G_callS (pc := 13) (S := [.int v1, .int 10]) [.int v0] nosub X  (dg dt_Move_told 8 rfl) cb_Move_row w_437 w_436 (s_Move_row _ ad _ _ hc_1) rfl ⟨Nat.le_of_ble_eq_true rfl, Nat.le_of_ble_eq_true rfl⟩  (Nat.le_of_ble_eq_true rfl) Rc0 ?_
    refine G_imul (pc := 16) X (dg dt_Move_told 9 rfl) ?_
    refine G_iload_n (pc := 17) 0 X (dg dt_Move_told 10 rfl) rfl rfl ?_
    obtain ⟨r_4, hc_3, h⟩ := cap_go h
    refine G_callS (pc := 18) (S := [.int (v1 * r_2), .int 10]) [.int v0] nosub X  (dg dt_Move_told 11 rfl) cb_Move_column w_440 w_439 (s_Move_column _ ad _ _ hc_3) rfl ⟨Nat.le_of_ble_eq_true rfl, Nat.le_of_ble_eq_true rfl⟩  (Nat.le_of_ble_eq_true rfl) Rc0 ?_
    refine G_iadd (pc := 21) X (dg dt_Move_told 12 rfl) ?_
    refine G_imul (pc := 22) X (dg dt_Move_told 13 rfl) ?_
    refine G_iload_n (pc := 23) 0 X (dg dt_Move_told 14 rfl) rfl rfl ?_
    obtain ⟨r_6, hc_5, h⟩ := cap_go h
    refine G_callS (pc := 24) (S := [.int (10 * ((v1 * r_2) + r_4))]) [.int v0] nosub X  (dg dt_Move_told 15 rfl) cb_Move_sign w_443 w_442 (s_Move_sign _ ad _ _ hc_5) rfl ⟨Nat.le_of_ble_eq_true rfl, Nat.le_of_ble_eq_true rfl⟩  (Nat.le_of_ble_eq_true rfl) Rc0 ?_
    refine G_iadd (pc := 27) X (dg dt_Move_told 16 rfl) ?_
    exact G_iretp (pc := 28) X hq (dg dt_Move_told 17 rfl) h
  · refine G_iconst (pc := 5) (-1) X (dg dt_Move_told 3 rfl) (by decide) ?_
    refine G_goto (pc := 6) 28 X (dg dt_Move_told 4 rfl) (by decide) ?_
    exact G_iretp (pc := 28) X hq (dg dt_Move_told 17 rfl) h
set_option maxRecDepth 100000 in
set_option maxHeartbeats 4000000 in
theorem s_Maps_arrange_L39 {θ : Th} {ad : Nat → Nat}  {rv : Unit} {σe : St} (X : Cx θ [] cX4_arrange 8 "Quasigrove$Maps" 0 0)
    {v2 : Int32} {v3 : Int32} {v4 : Int32} {v6 : Int32} (hq : Rq θ (g_SH, ad) none none σe) {kx86 : Int32 → St → Option (Unit × St)} (hkx86 : ∀ (v5 : Int32) (σ : St), kx86 v5 σ = some (rv, σe) → G θ (0, 0) (g_SH, ad) σ 86 [some (.ref (ad 6)), none, some (.int v2), some (.int v3), some (.int v4), some (.int v5), none, none] []) :
    ∀ (n : Nat) (v5 : Int32) (v7 : Int32) (σ : St), f_Maps_arrange_L39 v2 v3 v4 v6 kx86 n v5 v7 σ = some (rv, σe) → G θ (0, 0) (g_SH, ad) σ 39 [some (.ref (ad 6)), none, some (.int v2), some (.int v3), some (.int v4), some (.int v5), some (.int v6), some (.int v7)] [] := by
  intro n
  induction n with
  | zero => intro v5 v7 σ h; rw [f_Maps_arrange_L39] at h; cases h
  | succ n ih =>
    intro v5 v7 σ h
    rw [f_Maps_arrange_L39] at h
    refine G_iload (pc := 39) X (dg dt_Maps_arrange 29 rfl) rfl ?_
    refine G_iload (pc := 41) X (dg dt_Maps_arrange 30 rfl) rfl ?_
    refine G_icmp_ge (pc := 43) 86 X (dg dt_Maps_arrange 31 rfl) (by decide) h (fun h => ?_) (fun h => ?_)
    · exact G_wk (hkx86 v5 σ h) ⟨rfl, ⟨rfl, ⟨rfl, ⟨rfl, ⟨rfl, trivial⟩⟩⟩⟩⟩
    · refine G_iload (pc := 46) X (dg dt_Maps_arrange 32 rfl) rfl ?_
      refine G_if_le (pc := 48) 86 X (dg dt_Maps_arrange 33 rfl) (by decide) h (fun h => ?_) (fun h => ?_)
      · exact G_wk (hkx86 v5 σ h) ⟨rfl, ⟨rfl, ⟨rfl, ⟨rfl, ⟨rfl, trivial⟩⟩⟩⟩⟩
      · refine G_iload (pc := 51) X (dg dt_Maps_arrange 34 rfl) rfl ?_
        refine G_aload_n (pc := 53) 0 X (dg dt_Maps_arrange 35 rfl) rfl rfl ?_
        refine G_getR (pc := 54) 0 X (dg dt_Maps_arrange 36 rfl) fc_1 w_69 rfl (Nat.le_of_ble_eq_true rfl) sh_6 rfl ?_
        refine G_alen (pc := 57) 600 X (dg dt_Maps_arrange 37 rfl) sh_7 (by decide) (by decide) ?_
        refine G_icmp_ge (pc := 58) 86 X (dg dt_Maps_arrange 38 rfl) (by decide) h (fun h => ?_) (fun h => ?_)
        · exact G_wk (hkx86 v5 σ h) ⟨rfl, ⟨rfl, ⟨rfl, ⟨rfl, ⟨rfl, trivial⟩⟩⟩⟩⟩
        · refine G_aload_n (pc := 61) 0 X (dg dt_Maps_arrange 39 rfl) rfl rfl ?_
          refine G_getR (pc := 62) 0 X (dg dt_Maps_arrange 40 rfl) fc_1 w_69 rfl (Nat.le_of_ble_eq_true rfl) sh_6 rfl ?_
          refine G_iload (pc := 65) X (dg dt_Maps_arrange 41 rfl) rfl ?_
          refine G_aload_n (pc := 67) 0 X (dg dt_Maps_arrange 42 rfl) rfl rfl ?_
          refine G_getR (pc := 68) 0 X (dg dt_Maps_arrange 43 rfl) fc_1 w_69 rfl (Nat.le_of_ble_eq_true rfl) sh_6 rfl ?_
          refine G_iload (pc := 71) X (dg dt_Maps_arrange 44 rfl) rfl ?_
          refine G_iconst (pc := 73) 1 X (dg dt_Maps_arrange 45 rfl) (by decide) ?_
          refine G_isub (pc := 74) X (dg dt_Maps_arrange 46 rfl) ?_
          refine G_iald (pc := 75) X (dg dt_Maps_arrange 47 rfl) sh_7 h (fun r_3 h => ?_)
          refine G_iast (pc := 76) X (dg dt_Maps_arrange 48 rfl) sh_7 h (fun σ_4 h => ?_)
          refine G_iinc (pc := 77) (v5 + (-1)) X (dg dt_Maps_arrange 49 rfl) rfl (Nat.le_of_ble_eq_true rfl) rfl rfl ?_
          refine G_iinc (pc := 80) (v7 + 1) X (dg dt_Maps_arrange 50 rfl) rfl (Nat.le_of_ble_eq_true rfl) rfl rfl ?_
          refine G_goto (pc := 83) 39 X (dg dt_Maps_arrange 51 rfl) (by decide) ?_
          exact G_wk (ih (v5 + (-1)) (v7 + 1) σ_4 h) ⟨rfl, ⟨rfl, ⟨rfl, ⟨rfl, ⟨rfl, ⟨rfl, ⟨rfl, trivial⟩⟩⟩⟩⟩⟩⟩
set_option maxRecDepth 100000 in
set_option maxHeartbeats 4000000 in
theorem s_Maps_arrange_L9 {θ : Th} {ad : Nat → Nat}  {rv : Unit} {σe : St} (X : Cx θ [] cX4_arrange 8 "Quasigrove$Maps" 0 0)
    {v2 : Int32} (hq : Rq θ (g_SH, ad) none none σe)  :
    ∀ (n : Nat) (v3 : Int32) (v4 : Int32) (σ : St), f_Maps_arrange_L9 v2 n v3 v4 σ = some (rv, σe) → G θ (0, 0) (g_SH, ad) σ 9 [some (.ref (ad 6)), none, some (.int v2), some (.int v3), some (.int v4), none, none, none] [] := by
  intro n
  induction n with
  | zero => intro v3 v4 σ h; rw [f_Maps_arrange_L9] at h; cases h
  | succ n ih =>
    intro v3 v4 σ h
    rw [f_Maps_arrange_L9] at h
    refine G_iload (pc := 9) X (dg dt_Maps_arrange 8 rfl) rfl ?_
    refine G_iconst (pc := 11) 5 X (dg dt_Maps_arrange 9 rfl) (by decide) ?_
    refine G_icmp_ge (pc := 12) 116 X (dg dt_Maps_arrange 10 rfl) (by decide) h (fun h => ?_) (fun h => ?_)
    · exact G_vret (pc := 116) X hq (dg dt_Maps_arrange 66 rfl) h
    · refine G_iload_n (pc := 15) 2 X (dg dt_Maps_arrange 11 rfl) rfl rfl ?_
      refine G_iload (pc := 16) X (dg dt_Maps_arrange 12 rfl) rfl ?_
      refine G_iadd (pc := 18) X (dg dt_Maps_arrange 13 rfl) ?_
      refine G_istore (pc := 19) X (dg dt_Maps_arrange 14 rfl) (Nat.le_of_ble_eq_true rfl) rfl ?_
      refine G_iload_n (pc := 21) 3 X (dg dt_Maps_arrange 15 rfl) rfl rfl ?_
      refine G_iload (pc := 22) X (dg dt_Maps_arrange 16 rfl) rfl ?_
      refine G_iconst (pc := 24) 1 X (dg dt_Maps_arrange 17 rfl) (by decide) ?_
      refine G_iadd (pc := 25) X (dg dt_Maps_arrange 18 rfl) ?_
      refine G_irem (pc := 26) X (dg dt_Maps_arrange 19 rfl) h (fun q_1 h => ?_)
      refine G_istore (pc := 27) X (dg dt_Maps_arrange 20 rfl) (Nat.le_of_ble_eq_true rfl) rfl ?_
      refine G_iload_n (pc := 29) 3 X (dg dt_Maps_arrange 21 rfl) rfl rfl ?_
      refine G_iload (pc := 30) X (dg dt_Maps_arrange 22 rfl) rfl ?_
      refine G_iconst (pc := 32) 1 X (dg dt_Maps_arrange 23 rfl) (by decide) ?_
      refine G_iadd (pc := 33) X (dg dt_Maps_arrange 24 rfl) ?_
      refine G_idiv (pc := 34) X (dg dt_Maps_arrange 25 rfl) h (fun q_2 h => ?_)
      refine G_istore_n (pc := 35) 3 X (dg dt_Maps_arrange 26 rfl) rfl (Nat.le_of_ble_eq_true rfl) rfl ?_
      refine G_iconst (pc := 36) 0 X (dg dt_Maps_arrange 27 rfl) (by decide) ?_
      refine G_istore (pc := 37) X (dg dt_Maps_arrange 28 rfl) (Nat.le_of_ble_eq_true rfl) rfl ?_
      refine G_weak (L' := [some (.ref (ad 6)), none, some (.int v2), some (.int q_2), some (.int v4), some (.int (v2 + v4)), some (.int q_1), some (.int 0)]) ⟨rfl, ⟨rfl, ⟨rfl, ⟨rfl, ⟨rfl, ⟨rfl, ⟨rfl, trivial⟩⟩⟩⟩⟩⟩⟩ ?_
      refine s_Maps_arrange_L39  X hq  (fun v5_5 σ_6 h => ?_) _ _ _ _ h
      refine G_iload (pc := 86) X (dg dt_Maps_arrange 52 rfl) rfl ?_
      refine jn_go (fun j110_7 => ∀ (σ_8 : St), j110_7 σ_8 = some (rv, σe) → G θ (0, 0) (g_SH, ad) σ_8 110 [some (.ref (ad 6)), none, some (.int v2), some (.int q_2), some (.int v4), none, none, none] []) h ?_ (fun j110_7 hj110_7 h => ?_)
      · intro σ_8 h
        refine G_iinc (pc := 110) (v4 + 1) X (dg dt_Maps_arrange 64 rfl) rfl (Nat.le_of_ble_eq_true rfl) rfl rfl ?_
        refine G_goto (pc := 113) 9 X (dg dt_Maps_arrange 65 rfl) (by decide) ?_
        exact G_wk (ih q_2 (v4 + 1) σ_8 h) ⟨rfl, ⟨rfl, ⟨rfl, ⟨rfl, trivial⟩⟩⟩⟩
      refine G_if_lt (pc := 88) 110 X (dg dt_Maps_arrange 53 rfl) (by decide) h (fun h => ?_) (fun h => ?_)
      · exact G_wk (hj110_7 σ_6 h) ⟨rfl, ⟨rfl, ⟨rfl, ⟨rfl, trivial⟩⟩⟩⟩
      · refine G_iload (pc := 91) X (dg dt_Maps_arrange 54 rfl) rfl ?_
        refine G_aload_n (pc := 93) 0 X (dg dt_Maps_arrange 55 rfl) rfl rfl ?_
        refine G_getR (pc := 94) 0 X (dg dt_Maps_arrange 56 rfl) fc_1 w_69 rfl (Nat.le_of_ble_eq_true rfl) sh_6 rfl ?_
        refine G_alen (pc := 97) 600 X (dg dt_Maps_arrange 57 rfl) sh_7 (by decide) (by decide) ?_
        refine G_icmp_ge (pc := 98) 110 X (dg dt_Maps_arrange 58 rfl) (by decide) h (fun h => ?_) (fun h => ?_)
        · exact G_wk (hj110_7 σ_6 h) ⟨rfl, ⟨rfl, ⟨rfl, ⟨rfl, trivial⟩⟩⟩⟩
        · refine G_aload_n (pc := 101) 0 X (dg dt_Maps_arrange 59 rfl) rfl rfl ?_
          refine G_getR (pc := 102) 0 X (dg dt_Maps_arrange 60 rfl) fc_1 w_69 rfl (Nat.le_of_ble_eq_true rfl) sh_6 rfl ?_
          refine G_iload (pc := 105) X (dg dt_Maps_arrange 61 rfl) rfl ?_
          refine G_iload (pc := 107) X (dg dt_Maps_arrange 62 rfl) rfl ?_
          refine G_iast (pc := 109) X (dg dt_Maps_arrange 63 rfl) sh_7 h (fun σ_9 h => ?_)
          exact G_wk (hj110_7 σ_9 h) ⟨rfl, ⟨rfl, ⟨rfl, ⟨rfl, trivial⟩⟩⟩⟩
set_option maxRecDepth 100000 in
set_option maxHeartbeats 4000000 in
theorem s_Maps_arrange (l : Launch) (ad : Nat → Nat) (σ : St) (v1 : Int32)  {rv : Unit} {σe : St} (h : f_Maps_arrange σ v1 = some (rv, σe)) : Rt l [] yX4_arrange cX4_arrange 8 none 0 0 (g_SH, ad) [.ref (ad 6), .int v1] σ none σe := by
  refine Rt.intro (L := [some (.ref (ad 6)), some (.int v1), none, none, none, none, none, none]) (by decide +kernel) (Nat.le_of_ble_eq_true rfl) rfl (fun θ hl X hq => ?_)
  subst hl
  unfold f_Maps_arrange at h
  refine G_iconst (pc := 0) 5 X (dg dt_Maps_arrange 0 rfl) (by decide) ?_
  refine G_iload_n (pc := 1) 1 X (dg dt_Maps_arrange 1 rfl) rfl rfl ?_
  refine G_imul (pc := 2) X (dg dt_Maps_arrange 2 rfl) ?_
  refine G_istore_n (pc := 3) 2 X (dg dt_Maps_arrange 3 rfl) rfl (Nat.le_of_ble_eq_true rfl) rfl ?_
  refine G_iload_n (pc := 4) 1 X (dg dt_Maps_arrange 4 rfl) rfl rfl ?_
  refine G_istore_n (pc := 5) 3 X (dg dt_Maps_arrange 5 rfl) rfl (Nat.le_of_ble_eq_true rfl) rfl ?_
  refine G_iconst (pc := 6) 0 X (dg dt_Maps_arrange 6 rfl) (by decide) ?_
  refine G_istore (pc := 7) X (dg dt_Maps_arrange 7 rfl) (Nat.le_of_ble_eq_true rfl) rfl ?_
  refine G_weak (L' := [some (.ref (ad 6)), none, some (.int (5 * v1)), some (.int v1), some (.int 0), none, none, none]) ⟨rfl, ⟨rfl, ⟨rfl, ⟨rfl, trivial⟩⟩⟩⟩ ?_
  refine s_Maps_arrange_L9  X hq   _ _ _ _ h
end
section
set_option maxRecDepth 100000 in
set_option maxHeartbeats 4000000 in
theorem s_Filling_isAloneInRow_L3 {θ : Th} {ad : Nat → Nat}  {rv : Int32} (X : Cx θ [] cX0_isAloneInRow 5 "Quasigrove$Filling" 3 65)
    {v0 : Nat} {v1 : Int32} {v2 : Int32} {v3 : Int32} {σ : St} (hq : Rq θ (g_SH, ad) (some .boolean) (some (.int rv)) σ) (hg_v0 : gok v0) :
    ∀ (n : Nat) (v4 : Int32), f_Filling_isAloneInRow_L3 v0 v1 v2 v3 σ n v4 = some rv → G θ (0, 0) (g_SH, ad) σ 3 [some (.ref (ad v0)), some (.int v1), some (.int v2), some (.int v3), some (.int v4)] [] := by
  intro n
  induction n with
  | zero => intro v4 h; rw [f_Filling_isAloneInRow_L3] at h; cases h
  | succ n ih =>
    intro v4 h
    rw [f_Filling_isAloneInRow_L3] at h
    refine G_iload (pc := 3) X (dg dt_Filling_isAloneInRow 2 rfl) rfl ?_
    refine G_aload_n (pc := 5) 0 X (dg dt_Filling_isAloneInRow 3 rfl) rfl rfl ?_
    refine G_getIN (pc := 6) 3 X (dg dt_Filling_isAloneInRow 4 rfl) fc_0 w_44 rfl (Nat.le_of_ble_eq_true rfl) (sh_g hg_v0) rfl ?_
    refine G_icmp_ge (pc := 9) 40 X (dg dt_Filling_isAloneInRow 5 rfl) (by decide) h (fun h => ?_) (fun h => ?_)
    · refine G_iconst (pc := 40) 1 X (dg dt_Filling_isAloneInRow 20 rfl) (by decide) ?_
      exact G_zretlp (pc := 41) X hq (dg dt_Filling_isAloneInRow 21 rfl) rfl h
    · refine G_iload (pc := 12) X (dg dt_Filling_isAloneInRow 6 rfl) rfl ?_
      refine G_iload_n (pc := 14) 2 X (dg dt_Filling_isAloneInRow 7 rfl) rfl rfl ?_
      refine jn_go (fun j34_1 => j34_1 = some rv → G θ (0, 0) (g_SH, ad) σ 34 [some (.ref (ad v0)), some (.int v1), some (.int v2), some (.int v3), some (.int v4)] []) h ?_ (fun j34_1 hj34_1 h => ?_)
      · intro  h
        refine G_iinc (pc := 34) (v4 + 1) X (dg dt_Filling_isAloneInRow 18 rfl) rfl (Nat.le_of_ble_eq_true rfl) rfl rfl ?_
        refine G_goto (pc := 37) 3 X (dg dt_Filling_isAloneInRow 19 rfl) (by decide) ?_
        exact G_wk (ih (v4 + 1) h) ⟨rfl, ⟨rfl, ⟨rfl, ⟨rfl, ⟨rfl, trivial⟩⟩⟩⟩⟩
      refine G_icmp_eq (pc := 15) 34 X (dg dt_Filling_isAloneInRow 8 rfl) (by decide) h (fun h => ?_) (fun h => ?_)
      · exact G_wk (hj34_1  h) ⟨rfl, ⟨rfl, ⟨rfl, ⟨rfl, ⟨rfl, trivial⟩⟩⟩⟩⟩
      · refine G_aload_n (pc := 18) 0 X (dg dt_Filling_isAloneInRow 9 rfl) rfl rfl ?_
        refine G_iload_n (pc := 19) 1 X (dg dt_Filling_isAloneInRow 10 rfl) rfl rfl ?_
        refine G_iload (pc := 20) X (dg dt_Filling_isAloneInRow 11 rfl) rfl ?_
        obtain ⟨r_3, hc_2, h⟩ := cap_go h
        refine G_callV (pc := 22) (S := []) [.int v1, .int v4] nosub X  (dg dt_Filling_isAloneInRow 12 rfl) cb_Grid_optionsAt cv_Grid_optionsAt w_420 (s_Grid_optionsAt _ ad _ _ _ _ hg_v0 hc_2) rfl ⟨Nat.le_of_ble_eq_true rfl, Nat.le_of_ble_eq_true rfl⟩ (sh_g hg_v0) rfl (Nat.le_of_ble_eq_true rfl) Rc0 ?_
        refine G_iload_n (pc := 25) 3 X (dg dt_Filling_isAloneInRow 13 rfl) rfl rfl ?_
        obtain ⟨r_5, hc_4, h⟩ := cap_go h
        refine G_callSN (pc := 26) (S := []) [.int r_3, .int v3] nosub X  (dg dt_Filling_isAloneInRow 14 rfl) cb_Q_isIn w_422 w_421 (s_Q_isIn _ ad _ _ _ hc_4) rfl ⟨Nat.le_of_ble_eq_true rfl, Nat.le_of_ble_eq_true rfl⟩  (Nat.le_of_ble_eq_true rfl) Rc0 ?_
        refine G_if_eq (pc := 29) 34 X (dg dt_Filling_isAloneInRow 15 rfl) (by decide) h (fun h => ?_) (fun h => ?_)
        · exact G_wk (hj34_1  h) ⟨rfl, ⟨rfl, ⟨rfl, ⟨rfl, ⟨rfl, trivial⟩⟩⟩⟩⟩
        · refine G_iconst (pc := 32) 0 X (dg dt_Filling_isAloneInRow 16 rfl) (by decide) ?_
          exact G_zretlp (pc := 33) X hq (dg dt_Filling_isAloneInRow 17 rfl) rfl h
set_option maxRecDepth 100000 in
set_option maxHeartbeats 4000000 in
theorem s_Filling_isAloneInRow (l : Launch) (ad : Nat → Nat) (σ : St) (v0 : Nat) (v1 : Int32) (v2 : Int32) (v3 : Int32) (hg_v0 : gok v0) {rv : Int32} (h : f_Filling_isAloneInRow σ v0 v1 v2 v3 = some rv) : Rt l [] yX0_isAloneInRow cX0_isAloneInRow 5 (some .boolean) 3 65 (g_SH, ad) [.ref (ad v0), .int v1, .int v2, .int v3] σ (some (.int rv)) σ := by
  refine Rt.intro (L := [some (.ref (ad v0)), some (.int v1), some (.int v2), some (.int v3), none]) (by decide +kernel) (Nat.le_of_ble_eq_true rfl) rfl (fun θ hl X hq => ?_)
  subst hl
  unfold f_Filling_isAloneInRow at h
  refine G_iconst (pc := 0) 0 X (dg dt_Filling_isAloneInRow 0 rfl) (by decide) ?_
  refine G_istore (pc := 1) X (dg dt_Filling_isAloneInRow 1 rfl) (Nat.le_of_ble_eq_true rfl) rfl ?_
  refine G_weak (L' := [some (.ref (ad v0)), some (.int v1), some (.int v2), some (.int v3), some (.int 0)]) ⟨rfl, ⟨rfl, ⟨rfl, ⟨rfl, ⟨rfl, trivial⟩⟩⟩⟩⟩ ?_
  refine s_Filling_isAloneInRow_L3  X hq hg_v0  _ _ h
set_option maxRecDepth 100000 in
set_option maxHeartbeats 4000000 in
theorem s_Filling_isAloneInColumn_L3 {θ : Th} {ad : Nat → Nat}  {rv : Int32} (X : Cx θ [] cX0_isAloneInColumn 5 "Quasigrove$Filling" 3 65)
    {v0 : Nat} {v1 : Int32} {v2 : Int32} {v3 : Int32} {σ : St} (hq : Rq θ (g_SH, ad) (some .boolean) (some (.int rv)) σ) (hg_v0 : gok v0) :
    ∀ (n : Nat) (v4 : Int32), f_Filling_isAloneInColumn_L3 v0 v1 v2 v3 σ n v4 = some rv → G θ (0, 0) (g_SH, ad) σ 3 [some (.ref (ad v0)), some (.int v1), some (.int v2), some (.int v3), some (.int v4)] [] := by
  intro n
  induction n with
  | zero => intro v4 h; rw [f_Filling_isAloneInColumn_L3] at h; cases h
  | succ n ih =>
    intro v4 h
    rw [f_Filling_isAloneInColumn_L3] at h
    refine G_iload (pc := 3) X (dg dt_Filling_isAloneInColumn 2 rfl) rfl ?_
    refine G_aload_n (pc := 5) 0 X (dg dt_Filling_isAloneInColumn 3 rfl) rfl rfl ?_
    refine G_getIN (pc := 6) 3 X (dg dt_Filling_isAloneInColumn 4 rfl) fc_0 w_44 rfl (Nat.le_of_ble_eq_true rfl) (sh_g hg_v0) rfl ?_
    refine G_icmp_ge (pc := 9) 40 X (dg dt_Filling_isAloneInColumn 5 rfl) (by decide) h (fun h => ?_) (fun h => ?_)
    · refine G_iconst (pc := 40) 1 X (dg dt_Filling_isAloneInColumn 20 rfl) (by decide) ?_
      exact G_zretlp (pc := 41) X hq (dg dt_Filling_isAloneInColumn 21 rfl) rfl h
    · refine G_iload (pc := 12) X (dg dt_Filling_isAloneInColumn 6 rfl) rfl ?_
      refine G_iload_n (pc := 14) 1 X (dg dt_Filling_isAloneInColumn 7 rfl) rfl rfl ?_
      refine jn_go (fun j34_1 => j34_1 = some rv → G θ (0, 0) (g_SH, ad) σ 34 [some (.ref (ad v0)), some (.int v1), some (.int v2), some (.int v3), some (.int v4)] []) h ?_ (fun j34_1 hj34_1 h => ?_)
      · intro  h
        refine G_iinc (pc := 34) (v4 + 1) X (dg dt_Filling_isAloneInColumn 18 rfl) rfl (Nat.le_of_ble_eq_true rfl) rfl rfl ?_
        refine G_goto (pc := 37) 3 X (dg dt_Filling_isAloneInColumn 19 rfl) (by decide) ?_
        exact G_wk (ih (v4 + 1) h) ⟨rfl, ⟨rfl, ⟨rfl, ⟨rfl, ⟨rfl, trivial⟩⟩⟩⟩⟩
      refine G_icmp_eq (pc := 15) 34 X (dg dt_Filling_isAloneInColumn 8 rfl) (by decide) h (fun h => ?_) (fun h => ?_)
      · exact G_wk (hj34_1  h) ⟨rfl, ⟨rfl, ⟨rfl, ⟨rfl, ⟨rfl, trivial⟩⟩⟩⟩⟩
      · refine G_aload_n (pc := 18) 0 X (dg dt_Filling_isAloneInColumn 9 rfl) rfl rfl ?_
        refine G_iload (pc := 19) X (dg dt_Filling_isAloneInColumn 10 rfl) rfl ?_
        refine G_iload_n (pc := 21) 2 X (dg dt_Filling_isAloneInColumn 11 rfl) rfl rfl ?_
        obtain ⟨r_3, hc_2, h⟩ := cap_go h
        refine G_callV (pc := 22) (S := []) [.int v4, .int v2] nosub X  (dg dt_Filling_isAloneInColumn 12 rfl) cb_Grid_optionsAt cv_Grid_optionsAt w_420 (s_Grid_optionsAt _ ad _ _ _ _ hg_v0 hc_2) rfl ⟨Nat.le_of_ble_eq_true rfl, Nat.le_of_ble_eq_true rfl⟩ (sh_g hg_v0) rfl (Nat.le_of_ble_eq_true rfl) Rc0 ?_
        refine G_iload_n (pc := 25) 3 X (dg dt_Filling_isAloneInColumn 13 rfl) rfl rfl ?_
        obtain ⟨r_5, hc_4, h⟩ := cap_go h
        refine G_callSN (pc := 26) (S := []) [.int r_3, .int v3] nosub X  (dg dt_Filling_isAloneInColumn 14 rfl) cb_Q_isIn w_422 w_421 (s_Q_isIn _ ad _ _ _ hc_4) rfl ⟨Nat.le_of_ble_eq_true rfl, Nat.le_of_ble_eq_true rfl⟩  (Nat.le_of_ble_eq_true rfl) Rc0 ?_
        refine G_if_eq (pc := 29) 34 X (dg dt_Filling_isAloneInColumn 15 rfl) (by decide) h (fun h => ?_) (fun h => ?_)
        · exact G_wk (hj34_1  h) ⟨rfl, ⟨rfl, ⟨rfl, ⟨rfl, ⟨rfl, trivial⟩⟩⟩⟩⟩
        · refine G_iconst (pc := 32) 0 X (dg dt_Filling_isAloneInColumn 16 rfl) (by decide) ?_
          exact G_zretlp (pc := 33) X hq (dg dt_Filling_isAloneInColumn 17 rfl) rfl h
set_option maxRecDepth 100000 in
set_option maxHeartbeats 4000000 in
theorem s_Filling_isAloneInColumn (l : Launch) (ad : Nat → Nat) (σ : St) (v0 : Nat) (v1 : Int32) (v2 : Int32) (v3 : Int32) (hg_v0 : gok v0) {rv : Int32} (h : f_Filling_isAloneInColumn σ v0 v1 v2 v3 = some rv) : Rt l [] yX0_isAloneInColumn cX0_isAloneInColumn 5 (some .boolean) 3 65 (g_SH, ad) [.ref (ad v0), .int v1, .int v2, .int v3] σ (some (.int rv)) σ := by
  refine Rt.intro (L := [some (.ref (ad v0)), some (.int v1), some (.int v2), some (.int v3), none]) (by decide +kernel) (Nat.le_of_ble_eq_true rfl) rfl (fun θ hl X hq => ?_)
  subst hl
  unfold f_Filling_isAloneInColumn at h
  refine G_iconst (pc := 0) 0 X (dg dt_Filling_isAloneInColumn 0 rfl) (by decide) ?_
  refine G_istore (pc := 1) X (dg dt_Filling_isAloneInColumn 1 rfl) (Nat.le_of_ble_eq_true rfl) rfl ?_
  refine G_weak (L' := [some (.ref (ad v0)), some (.int v1), some (.int v2), some (.int v3), some (.int 0)]) ⟨rfl, ⟨rfl, ⟨rfl, ⟨rfl, ⟨rfl, trivial⟩⟩⟩⟩⟩ ?_
  refine s_Filling_isAloneInColumn_L3  X hq hg_v0  _ _ h
set_option maxRecDepth 100000 in
set_option maxHeartbeats 4000000 in
theorem s_Filling_isForced (l : Launch) (ad : Nat → Nat) (σ : St) (v0 : Nat) (v1 : Int32) (v2 : Int32) (v3 : Int32) (hg_v0 : gok v0) {rv : Int32} (h : f_Filling_isForced σ v0 v1 v2 v3 = some rv) : Rt l [] yX0_isForced cX0_isForced 5 (some .boolean) 4 89 (g_SH, ad) [.ref (ad v0), .int v1, .int v2, .int v3] σ (some (.int rv)) σ := by
  refine Rt.intro (L := [some (.ref (ad v0)), some (.int v1), some (.int v2), some (.int v3), none]) (by decide +kernel) (Nat.le_of_ble_eq_true rfl) rfl (fun θ hl X hq => ?_)
  subst hl
  unfold f_Filling_isForced at h
  refine G_aload_n (pc := 0) 0 X (dg dt_Filling_isForced 0 rfl) rfl rfl ?_
  refine G_iload_n (pc := 1) 1 X (dg dt_Filling_isForced 1 rfl) rfl rfl ?_
  refine G_iload_n (pc := 2) 2 X (dg dt_Filling_isForced 2 rfl) rfl rfl ?_
  obtain ⟨r_2, hc_1, h⟩ := cap_go h
  refine G_callV (pc := 3) (S := []) [.int v1, .int v2] nosub X  (dg dt_Filling_isForced 3 rfl) cb_Grid_optionsAt cv_Grid_optionsAt w_420 (s_Grid_optionsAt _ ad _ _ _ _ hg_v0 hc_1) rfl ⟨Nat.le_of_ble_eq_true rfl, Nat.le_of_ble_eq_true rfl⟩ (sh_g hg_v0) rfl (Nat.le_of_ble_eq_true rfl) Rc0 ?_
  refine G_istore (pc := 6) X (dg dt_Filling_isForced 4 rfl) (Nat.le_of_ble_eq_true rfl) rfl ?_
  refine G_iload (pc := 8) X (dg dt_Filling_isForced 5 rfl) rfl ?_
  refine G_iload_n (pc := 10) 3 X (dg dt_Filling_isForced 6 rfl) rfl rfl ?_
  obtain ⟨r_4, hc_3, h⟩ := cap_go h
  refine G_callSN (pc := 11) (S := []) [.int r_2, .int v3] nosub X  (dg dt_Filling_isForced 7 rfl) cb_Q_isIn w_422 w_421 (s_Q_isIn _ ad _ _ _ hc_3) rfl ⟨Nat.le_of_ble_eq_true rfl, Nat.le_of_ble_eq_true rfl⟩  (Nat.le_of_ble_eq_true rfl) Rc0 ?_
  refine jn_go (fun j49_5 => j49_5 = some rv → G θ (0, 0) (g_SH, ad) σ 49 [none, none, none, none, none] []) h ?_ (fun j49_5 hj49_5 h => ?_)
  · intro  h
    refine G_iconst (pc := 49) 0 X (dg dt_Filling_isForced 28 rfl) (by decide) ?_
    exact G_zretlp (pc := 50) X hq (dg dt_Filling_isForced 29 rfl) rfl h
  refine G_if_eq (pc := 14) 49 X (dg dt_Filling_isForced 8 rfl) (by decide) h (fun h => ?_) (fun h => ?_)
  · exact G_wk (hj49_5  h) trivial
  · refine G_iload (pc := 17) X (dg dt_Filling_isForced 9 rfl) rfl ?_
    refine G_iconst (pc := 19) 1 X (dg dt_Filling_isForced 10 rfl) (by decide) ?_
    refine G_iload_n (pc := 20) 3 X (dg dt_Filling_isForced 11 rfl) rfl rfl ?_
    refine G_ishl (pc := 21) X (dg dt_Filling_isForced 12 rfl) ?_
    refine jn_go (fun j45_6 => j45_6 = some rv → G θ (0, 0) (g_SH, ad) σ 45 [none, none, none, none, none] []) h ?_ (fun j45_6 hj45_6 h => ?_)
    · intro  h
      refine G_iconst (pc := 45) 1 X (dg dt_Filling_isForced 26 rfl) (by decide) ?_
      refine G_goto (pc := 46) 50 X (dg dt_Filling_isForced 27 rfl) (by decide) ?_
      exact G_zretlp (pc := 50) X hq (dg dt_Filling_isForced 29 rfl) rfl h
    refine G_icmp_eq (pc := 22) 45 X (dg dt_Filling_isForced 13 rfl) (by decide) h (fun h => ?_) (fun h => ?_)
    · exact G_wk (hj45_6  h) trivial
    · refine G_aload_n (pc := 25) 0 X (dg dt_Filling_isForced 14 rfl) rfl rfl ?_
      refine G_iload_n (pc := 26) 1 X (dg dt_Filling_isForced 15 rfl) rfl rfl ?_
      refine G_iload_n (pc := 27) 2 X (dg dt_Filling_isForced 16 rfl) rfl rfl ?_
      refine G_iload_n (pc := 28) 3 X (dg dt_Filling_isForced 17 rfl) rfl rfl ?_
      obtain ⟨r_8, hc_7, h⟩ := cap_go h
      refine G_callS (pc := 29) (S := []) [.ref (ad v0), .int v1, .int v2, .int v3] nosub X  (dg dt_Filling_isForced 18 rfl) cb_Filling_isAloneInRow w_425 w_424 (s_Filling_isAloneInRow _ ad _ _ _ _ _ hg_v0 hc_7) rfl ⟨Nat.le_of_ble_eq_true rfl, Nat.le_of_ble_eq_true rfl⟩  (Nat.le_of_ble_eq_true rfl) Rc0 ?_
      refine G_if_ne (pc := 32) 45 X (dg dt_Filling_isForced 19 rfl) (by decide) h (fun h => ?_) (fun h => ?_)
      · exact G_wk (hj45_6  h) trivial
      · refine G_aload_n (pc := 35) 0 X (dg dt_Filling_isForced 20 rfl) rfl rfl ?_
        refine G_iload_n (pc := 36) 1 X (dg dt_Filling_isForced 21 rfl) rfl rfl ?_
        refine G_iload_n (pc := 37) 2 X (dg dt_Filling_isForced 22 rfl) rfl rfl ?_
        refine G_iload_n (pc := 38) 3 X (dg dt_Filling_isForced 23 rfl) rfl rfl ?_
        obtain ⟨r_10, hc_9, h⟩ := cap_go h
        refine G_callS (pc := 39) (S := []) [.ref (ad v0), .int v1, .int v2, .int v3] nosub X  (dg dt_Filling_isForced 24 rfl) cb_Filling_isAloneInColumn w_428 w_427 (s_Filling_isAloneInColumn _ ad _ _ _ _ _ hg_v0 hc_9) rfl ⟨Nat.le_of_ble_eq_true rfl, Nat.le_of_ble_eq_true rfl⟩  (Nat.le_of_ble_eq_true rfl) Rc0 ?_
        refine G_if_eq (pc := 42) 49 X (dg dt_Filling_isForced 25 rfl) (by decide) h (fun h => ?_) (fun h => ?_)
        · exact G_wk (hj49_5  h) trivial
        · exact G_wk (hj45_6  h) trivial
set_option maxRecDepth 100000 in
set_option maxHeartbeats 4000000 in
theorem s_Filling_firstForced_L22 {θ : Th} {ad : Nat → Nat}  {rv : Int32} (X : Cx θ [] cX0_firstForced 4 "Quasigrove$Filling" 5 113)
    {v0 : Nat} {v1 : Int32} {v2 : Int32} {σ : St} (hq : Rq θ (g_SH, ad) (some .int) (some (.int rv)) σ) (hg_v0 : gok v0) {kx40 : Int32 → Option Int32} (hkx40 : ∀ (v3 : Int32), kx40 v3 = some rv → G θ (0, 0) (g_SH, ad) σ 40 [none, some (.int v1), some (.int v2), some (.int v3)] []) {kx53 : Option Int32} (hkx53 : kx53 = some rv → G θ (0, 0) (g_SH, ad) σ 53 [some (.ref (ad v0)), some (.int v1), some (.int v2), none] []) :
    ∀ (n : Nat) (v3 : Int32), f_Filling_firstForced_L22 v0 v1 v2 σ kx40 kx53 n v3 = some rv → G θ (0, 0) (g_SH, ad) σ 22 [some (.ref (ad v0)), some (.int v1), some (.int v2), some (.int v3)] [] := by
  intro n
  induction n with
  | zero => intro v3 h; rw [f_Filling_firstForced_L22] at h; cases h
  | succ n ih =>
    intro v3 h
    rw [f_Filling_firstForced_L22] at h
    refine G_iload_n (pc := 22) 3 X (dg dt_Filling_firstForced 14 rfl) rfl rfl ?_
    refine G_aload_n (pc := 23) 0 X (dg dt_Filling_firstForced 15 rfl) rfl rfl ?_
    refine G_getIN (pc := 24) 3 X (dg dt_Filling_firstForced 16 rfl) fc_0 w_44 rfl (Nat.le_of_ble_eq_true rfl) (sh_g hg_v0) rfl ?_
    refine G_icmp_ge (pc := 27) 53 X (dg dt_Filling_firstForced 17 rfl) (by decide) h (fun h => ?_) (fun h => ?_)
    · exact G_wk (hkx53  h) ⟨rfl, ⟨rfl, ⟨rfl, trivial⟩⟩⟩
    · refine G_aload_n (pc := 30) 0 X (dg dt_Filling_firstForced 18 rfl) rfl rfl ?_
      refine G_iload_n (pc := 31) 1 X (dg dt_Filling_firstForced 19 rfl) rfl rfl ?_
      refine G_iload_n (pc := 32) 2 X (dg dt_Filling_firstForced 20 rfl) rfl rfl ?_
      refine G_iload_n (pc := 33) 3 X (dg dt_Filling_firstForced 21 rfl) rfl rfl ?_
      obtain ⟨r_2, hc_1, h⟩ := cap_go h
      refine G_callS (pc := 34) (S := []) [.ref (ad v0), .int v1, .int v2, .int v3] nosub X  (dg dt_Filling_firstForced 22 rfl) cb_Filling_isForced w_418 w_417 (s_Filling_isForced _ ad _ _ _ _ _ hg_v0 hc_1) rfl ⟨Nat.le_of_ble_eq_true rfl, Nat.le_of_ble_eq_true rfl⟩  (Nat.le_of_ble_eq_true rfl) Rc0 ?_
      refine G_if_eq (pc := 37) 47 X (dg dt_Filling_firstForced 23 rfl) (by decide) h (fun h => ?_) (fun h => ?_)
      · refine G_iinc (pc := 47) (v3 + 1) X (dg dt_Filling_firstForced 29 rfl) rfl (Nat.le_of_ble_eq_true rfl) rfl rfl ?_
        refine G_goto (pc := 50) 22 X (dg dt_Filling_firstForced 30 rfl) (by decide) ?_
        exact G_wk (ih (v3 + 1) h) ⟨rfl, ⟨rfl, ⟨rfl, ⟨rfl, trivial⟩⟩⟩⟩
      · exact G_wk (hkx40 v3 h) ⟨rfl, ⟨rfl, ⟨rfl, trivial⟩⟩⟩
set_option maxRecDepth 100000 in
set_option maxHeartbeats 4000000 in
theorem s_Filling_firstForced_L12 {θ : Th} {ad : Nat → Nat}  {rv : Int32} (X : Cx θ [] cX0_firstForced 4 "Quasigrove$Filling" 5 113)
    {v0 : Nat} {v1 : Int32} {σ : St} (hq : Rq θ (g_SH, ad) (some .int) (some (.int rv)) σ) (hg_v0 : gok v0) {kx40 : Int32 → Int32 → Option Int32} (hkx40 : ∀ (v2 : Int32) (v3 : Int32), kx40 v2 v3 = some rv → G θ (0, 0) (g_SH, ad) σ 40 [none, some (.int v1), some (.int v2), some (.int v3)] []) {kx59 : Option Int32} (hkx59 : kx59 = some rv → G θ (0, 0) (g_SH, ad) σ 59 [some (.ref (ad v0)), some (.int v1), none, none] []) :
    ∀ (n : Nat) (v2 : Int32), f_Filling_firstForced_L12 v0 v1 σ kx40 kx59 n v2 = some rv → G θ (0, 0) (g_SH, ad) σ 12 [some (.ref (ad v0)), some (.int v1), some (.int v2), none] [] := by
  intro n
  induction n with
  | zero => intro v2 h; rw [f_Filling_firstForced_L12] at h; cases h
  | succ n ih =>
    intro v2 h
    rw [f_Filling_firstForced_L12] at h
    refine G_iload_n (pc := 12) 2 X (dg dt_Filling_firstForced 8 rfl) rfl rfl ?_
    refine G_aload_n (pc := 13) 0 X (dg dt_Filling_firstForced 9 rfl) rfl rfl ?_
    refine G_getIN (pc := 14) 3 X (dg dt_Filling_firstForced 10 rfl) fc_0 w_44 rfl (Nat.le_of_ble_eq_true rfl) (sh_g hg_v0) rfl ?_
    refine G_icmp_ge (pc := 17) 59 X (dg dt_Filling_firstForced 11 rfl) (by decide) h (fun h => ?_) (fun h => ?_)
    · exact G_wk (hkx59  h) ⟨rfl, ⟨rfl, trivial⟩⟩
    · refine G_iconst (pc := 20) 0 X (dg dt_Filling_firstForced 12 rfl) (by decide) ?_
      refine G_istore_n (pc := 21) 3 X (dg dt_Filling_firstForced 13 rfl) rfl (Nat.le_of_ble_eq_true rfl) rfl ?_
      refine G_weak (L' := [some (.ref (ad v0)), some (.int v1), some (.int v2), some (.int 0)]) ⟨rfl, ⟨rfl, ⟨rfl, ⟨rfl, trivial⟩⟩⟩⟩ ?_
      refine s_Filling_firstForced_L22  X hq hg_v0 (fun v3_3 h => ?_) (fun h => ?_) _ _ h
      · exact G_wk (hkx40 v2 v3_3 h) ⟨rfl, ⟨rfl, ⟨rfl, trivial⟩⟩⟩
      · refine G_iinc (pc := 53) (v2 + 1) X (dg dt_Filling_firstForced 31 rfl) rfl (Nat.le_of_ble_eq_true rfl) rfl rfl ?_
        refine G_goto (pc := 56) 12 X (dg dt_Filling_firstForced 32 rfl) (by decide) ?_
        exact G_wk (ih (v2 + 1) h) ⟨rfl, ⟨rfl, ⟨rfl, trivial⟩⟩⟩
set_option maxRecDepth 100000 in
set_option maxHeartbeats 4000000 in
theorem s_Filling_firstForced_L2 {θ : Th} {ad : Nat → Nat}  {rv : Int32} (X : Cx θ [] cX0_firstForced 4 "Quasigrove$Filling" 5 113)
    {v0 : Nat} {σ : St} (hq : Rq θ (g_SH, ad) (some .int) (some (.int rv)) σ) (hg_v0 : gok v0) {kx40 : Int32 → Int32 → Int32 → Option Int32} (hkx40 : ∀ (v1 : Int32) (v2 : Int32) (v3 : Int32), kx40 v1 v2 v3 = some rv → G θ (0, 0) (g_SH, ad) σ 40 [none, some (.int v1), some (.int v2), some (.int v3)] []) :
    ∀ (n : Nat) (v1 : Int32), f_Filling_firstForced_L2 v0 σ kx40 n v1 = some rv → G θ (0, 0) (g_SH, ad) σ 2 [some (.ref (ad v0)), some (.int v1), none, none] [] := by
  intro n
  induction n with
  | zero => intro v1 h; rw [f_Filling_firstForced_L2] at h; cases h
  | succ n ih =>
    intro v1 h
    rw [f_Filling_firstForced_L2] at h
    refine G_iload_n (pc := 2) 1 X (dg dt_Filling_firstForced 2 rfl) rfl rfl ?_
    refine G_aload_n (pc := 3) 0 X (dg dt_Filling_firstForced 3 rfl) rfl rfl ?_
    refine G_getIN (pc := 4) 3 X (dg dt_Filling_firstForced 4 rfl) fc_0 w_44 rfl (Nat.le_of_ble_eq_true rfl) (sh_g hg_v0) rfl ?_
    refine G_icmp_ge (pc := 7) 65 X (dg dt_Filling_firstForced 5 rfl) (by decide) h (fun h => ?_) (fun h => ?_)
    · refine G_iconst (pc := 65) (-1) X (dg dt_Filling_firstForced 35 rfl) (by decide) ?_
      exact G_iretp (pc := 66) X hq (dg dt_Filling_firstForced 36 rfl) h
    · refine G_iconst (pc := 10) 0 X (dg dt_Filling_firstForced 6 rfl) (by decide) ?_
      refine G_istore_n (pc := 11) 2 X (dg dt_Filling_firstForced 7 rfl) rfl (Nat.le_of_ble_eq_true rfl) rfl ?_
      refine G_weak (L' := [some (.ref (ad v0)), some (.int v1), some (.int 0), none]) ⟨rfl, ⟨rfl, ⟨rfl, trivial⟩⟩⟩ ?_
      refine s_Filling_firstForced_L12  X hq hg_v0 (fun v2_4 v3_5 h => ?_) (fun h => ?_) _ _ h
      · exact G_wk (hkx40 v1 v2_4 v3_5 h) ⟨rfl, ⟨rfl, ⟨rfl, trivial⟩⟩⟩
      · refine G_iinc (pc := 59) (v1 + 1) X (dg dt_Filling_firstForced 33 rfl) rfl (Nat.le_of_ble_eq_true rfl) rfl rfl ?_
        refine G_goto (pc := 62) 2 X (dg dt_Filling_firstForced 34 rfl) (by decide) ?_
        exact G_wk (ih (v1 + 1) h) ⟨rfl, ⟨rfl, trivial⟩⟩
set_option maxRecDepth 100000 in
set_option maxHeartbeats 4000000 in
theorem s_Filling_firstForced (l : Launch) (ad : Nat → Nat) (σ : St) (v0 : Nat) (hg_v0 : gok v0) {rv : Int32} (h : f_Filling_firstForced σ v0 = some rv) : Rt l [] yX0_firstForced cX0_firstForced 4 (some .int) 5 113 (g_SH, ad) [.ref (ad v0)] σ (some (.int rv)) σ := by
  refine Rt.intro (L := [some (.ref (ad v0)), none, none, none]) (by decide +kernel) (Nat.le_of_ble_eq_true rfl) rfl (fun θ hl X hq => ?_)
  subst hl
  unfold f_Filling_firstForced at h
  refine G_iconst (pc := 0) 0 X (dg dt_Filling_firstForced 0 rfl) (by decide) ?_
  refine G_istore_n (pc := 1) 1 X (dg dt_Filling_firstForced 1 rfl) rfl (Nat.le_of_ble_eq_true rfl) rfl ?_
  refine G_weak (L' := [some (.ref (ad v0)), some (.int 0), none, none]) ⟨rfl, ⟨rfl, trivial⟩⟩ ?_
  refine s_Filling_firstForced_L2  X hq hg_v0 (fun v1_6 v2_7 v3_8 h => ?_) _ _ h
  refine G_iload_n (pc := 40) 1 X (dg dt_Filling_firstForced 24 rfl) rfl rfl ?_
  refine G_iload_n (pc := 41) 2 X (dg dt_Filling_firstForced 25 rfl) rfl rfl ?_
  refine G_iload_n (pc := 42) 3 X (dg dt_Filling_firstForced 26 rfl) rfl rfl ?_
  obtain ⟨r_10, hc_9, h⟩ := cap_go h
  refine G_callS (pc := 43) (S := []) [.int v1_6, .int v2_7, .int v3_8] nosub X  (dg dt_Filling_firstForced 27 rfl) cb_Move_packed w_431 w_430 (s_Move_packed _ ad _ _ _ _ hc_9) rfl ⟨Nat.le_of_ble_eq_true rfl, Nat.le_of_ble_eq_true rfl⟩  (Nat.le_of_ble_eq_true rfl) Rc0 ?_
  exact G_iretp (pc := 46) X hq (dg dt_Filling_firstForced 28 rfl) h
set_option maxRecDepth 100000 in
set_option maxHeartbeats 4000000 in
theorem s_Filling_fillForced_L7 {θ : Th} {ad : Nat → Nat}  {rv : Int32} {σe : St} (X : Cx θ [] cX0_fillForced 3 "Quasigrove$Filling" 6 136)
    {v0 : Nat} (hq : Rq θ (g_SH, ad) (some .int) (some (.int rv)) σe) (hg_v0 : gok v0) {kx45 : Int32 → St → Option (Int32 × St)} (hkx45 : ∀ (v1 : Int32) (σ : St), kx45 v1 σ = some (rv, σe) → G θ (0, 0) (g_SH, ad) σ 45 [none, some (.int v1), none] []) :
    ∀ (n : Nat) (v1 : Int32) (v2 : Int32) (σ : St), f_Filling_fillForced_L7 v0 kx45 n v1 v2 σ = some (rv, σe) → G θ (0, 0) (g_SH, ad) σ 7 [some (.ref (ad v0)), some (.int v1), some (.int v2)] [] := by
  intro n
  induction n with
  | zero => intro v1 v2 σ h; rw [f_Filling_fillForced_L7] at h; cases h
  | succ n ih =>
    intro v1 v2 σ h
    rw [f_Filling_fillForced_L7] at h
    refine G_iload_n (pc := 7) 2 X (dg dt_Filling_fillForced 5 rfl) rfl rfl ?_
    refine G_iconst (pc := 8) (-1) X (dg dt_Filling_fillForced 6 rfl) (by decide) ?_
    refine G_icmp_eq (pc := 9) 45 X (dg dt_Filling_fillForced 7 rfl) (by decide) h (fun h => ?_) (fun h => ?_)
    · exact G_wk (hkx45 v1 σ h) ⟨rfl, trivial⟩
    · refine G_iload_n (pc := 12) 1 X (dg dt_Filling_fillForced 8 rfl) rfl rfl ?_
      refine G_bipush (pc := 13) 25 X (dg dt_Filling_fillForced 9 rfl) (by decide) ?_
      refine G_icmp_ge (pc := 15) 45 X (dg dt_Filling_fillForced 10 rfl) (by decide) h (fun h => ?_) (fun h => ?_)
      · exact G_wk (hkx45 v1 σ h) ⟨rfl, trivial⟩
      · refine G_aload_n (pc := 18) 0 X (dg dt_Filling_fillForced 11 rfl) rfl rfl ?_
        refine G_iload_n (pc := 19) 2 X (dg dt_Filling_fillForced 12 rfl) rfl rfl ?_
        obtain ⟨r_4, hc_3, h⟩ := cap_go h
        refine G_callS (pc := 20) (S := [.ref (ad v0)]) [.int v2] nosub X  (dg dt_Filling_fillForced 13 rfl) cb_Move_row w_437 w_457 (s_Move_row _ ad _ _ hc_3) rfl ⟨Nat.le_of_ble_eq_true rfl, Nat.le_of_ble_eq_true rfl⟩  (Nat.le_of_ble_eq_true rfl) Rc0 ?_
        refine G_iload_n (pc := 23) 2 X (dg dt_Filling_fillForced 14 rfl) rfl rfl ?_
        obtain ⟨r_6, hc_5, h⟩ := cap_go h
        refine G_callS (pc := 24) (S := [.int r_4, .ref (ad v0)]) [.int v2] nosub X  (dg dt_Filling_fillForced 15 rfl) cb_Move_column w_440 w_458 (s_Move_column _ ad _ _ hc_5) rfl ⟨Nat.le_of_ble_eq_true rfl, Nat.le_of_ble_eq_true rfl⟩  (Nat.le_of_ble_eq_true rfl) Rc0 ?_
        refine G_iload_n (pc := 27) 2 X (dg dt_Filling_fillForced 16 rfl) rfl rfl ?_
        obtain ⟨r_8, hc_7, h⟩ := cap_go h
        refine G_callS (pc := 28) (S := [.int r_6, .int r_4, .ref (ad v0)]) [.int v2] nosub X  (dg dt_Filling_fillForced 17 rfl) cb_Move_sign w_443 w_459 (s_Move_sign _ ad _ _ hc_7) rfl ⟨Nat.le_of_ble_eq_true rfl, Nat.le_of_ble_eq_true rfl⟩  (Nat.le_of_ble_eq_true rfl) Rc0 ?_
        obtain ⟨r_10, σ_11, hc_9, h⟩ := cal_go h
        refine G_callV (pc := 31) (S := []) [.int r_4, .int r_6, .int r_8] nosub X  (dg dt_Filling_fillForced 18 rfl) cb_Grid_set cv_Grid_set w_460 (s_Grid_set _ ad _ _ _ _ _ hg_v0 hc_9) rfl ⟨Nat.le_of_ble_eq_true rfl, Nat.le_of_ble_eq_true rfl⟩ (sh_g hg_v0) rfl (Nat.le_of_ble_eq_true rfl) Rc0 ?_
        refine G_iinc (pc := 34) (v1 + 1) X (dg dt_Filling_fillForced 19 rfl) rfl (Nat.le_of_ble_eq_true rfl) rfl rfl ?_
        refine G_aload_n (pc := 37) 0 X (dg dt_Filling_fillForced 20 rfl) rfl rfl ?_
        obtain ⟨r_13, hc_12, h⟩ := cap_go h
        refine G_callS (pc := 38) (S := []) [.ref (ad v0)] nosub X  (dg dt_Filling_fillForced 21 rfl) cb_Filling_firstForced w_415 w_456 (s_Filling_firstForced _ ad _ _ hg_v0 hc_12) rfl ⟨Nat.le_of_ble_eq_true rfl, Nat.le_of_ble_eq_true rfl⟩  (Nat.le_of_ble_eq_true rfl) Rc0 ?_
        refine G_istore_n (pc := 41) 2 X (dg dt_Filling_fillForced 22 rfl) rfl (Nat.le_of_ble_eq_true rfl) rfl ?_
        refine G_goto (pc := 42) 7 X (dg dt_Filling_fillForced 23 rfl) (by decide) ?_
        exact G_wk (ih (v1 + 1) r_13 σ_11 h) ⟨rfl, ⟨rfl, ⟨rfl, trivial⟩⟩⟩
set_option maxRecDepth 100000 in
set_option maxHeartbeats 4000000 in
theorem s_Filling_fillForced (l : Launch) (ad : Nat → Nat) (σ : St) (v0 : Nat) (hg_v0 : gok v0) {rv : Int32} {σe : St} (h : f_Filling_fillForced σ v0 = some (rv, σe)) : Rt l [] yX0_fillForced cX0_fillForced 3 (some .int) 6 136 (g_SH, ad) [.ref (ad v0)] σ (some (.int rv)) σe := by
  refine Rt.intro (L := [some (.ref (ad v0)), none, none]) (by decide +kernel) (Nat.le_of_ble_eq_true rfl) rfl (fun θ hl X hq => ?_)
  subst hl
  unfold f_Filling_fillForced at h
  refine G_iconst (pc := 0) 0 X (dg dt_Filling_fillForced 0 rfl) (by decide) ?_
  refine G_istore_n (pc := 1) 1 X (dg dt_Filling_fillForced 1 rfl) rfl (Nat.le_of_ble_eq_true rfl) rfl ?_
  refine G_aload_n (pc := 2) 0 X (dg dt_Filling_fillForced 2 rfl) rfl rfl ?_
  obtain ⟨r_2, hc_1, h⟩ := cap_go h
  refine G_callS (pc := 3) (S := []) [.ref (ad v0)] nosub X  (dg dt_Filling_fillForced 3 rfl) cb_Filling_firstForced w_415 w_456 (s_Filling_firstForced _ ad _ _ hg_v0 hc_1) rfl ⟨Nat.le_of_ble_eq_true rfl, Nat.le_of_ble_eq_true rfl⟩  (Nat.le_of_ble_eq_true rfl) Rc0 ?_
  refine G_istore_n (pc := 6) 2 X (dg dt_Filling_fillForced 4 rfl) rfl (Nat.le_of_ble_eq_true rfl) rfl ?_
  refine G_weak (L' := [some (.ref (ad v0)), some (.int 0), some (.int r_2)]) ⟨rfl, ⟨rfl, ⟨rfl, trivial⟩⟩⟩ ?_
  refine s_Filling_fillForced_L7  X hq hg_v0 (fun v1_14 σ_15 h => ?_) _ _ _ _ h
  refine G_iload_n (pc := 45) 1 X (dg dt_Filling_fillForced 24 rfl) rfl rfl ?_
  exact G_iret (pc := 46) X hq (dg dt_Filling_fillForced 25 rfl) h
end
section
set_option maxRecDepth 100000 in
set_option maxHeartbeats 4000000 in
theorem s_Q_gridAt {l : Launch} (htr : l.stackTraces = false) (_ : Unit) (ad : Nat → Nat) (σ : St) (v1 : Int32)  {rv : Except Nat Nat} {σe : St} (h : f_Q_gridAt σ v1 = some (rv, σe)) : RX l g_strs yX11_gridAt cX11_gridAt 2 (some (.object "Quasigrove$Grid")) 6 100 (g_SH, ad) [.ref (ad 0), .int v1] σ (xr ad rv) σe := by
  refine RX.intro htr (L := [some (.ref (ad 0)), some (.int v1)]) (by decide +kernel) (Nat.le_of_ble_eq_true rfl) rfl (fun θ hl X hq => ?_)
  subst hl
  unfold f_Q_gridAt at h
  refine G_iload_n (pc := 0) 1 X (dg dt_Q_gridAt 0 rfl) rfl rfl ?_
  refine jn_go (fun j30_1 => j30_1 = some (rv, σe) → G θ (0, 0) (g_SH, ad) σ 30 [none, none] []) h ?_ (fun j30_1 hj30_1 h => ?_)
  · intro  h
    exact G_xthrow (pc := 30) (e := 1) (text := "there is no such grid") X hq tw_254_258 (by decide) (dg dt_Q_gridAt 16 rfl) (dg dt_Q_gridAt 17 rfl) (dg dt_Q_gridAt 18 rfl) (dg dt_Q_gridAt 19 rfl) (dg dt_Q_gridAt 20 rfl) h (Nat.le_of_ble_eq_true rfl) (Nat.le_of_ble_eq_true rfl)
  refine G_if_lt (pc := 1) 30 X (dg dt_Q_gridAt 1 rfl) (by decide) h (fun h => ?_) (fun h => ?_)
  · exact G_wk (hj30_1  h) trivial
  · refine G_iload_n (pc := 4) 1 X (dg dt_Q_gridAt 2 rfl) rfl rfl ?_
    refine G_aload_n (pc := 5) 0 X (dg dt_Q_gridAt 3 rfl) rfl rfl ?_
    refine G_getI (pc := 6) 8 X (dg dt_Q_gridAt 4 rfl) fc_7 w_194 rfl (Nat.le_of_ble_eq_true rfl) sh_0 rfl ?_
    refine G_icmp_ge (pc := 9) 30 X (dg dt_Q_gridAt 5 rfl) (by decide) h (fun h => ?_) (fun h => ?_)
    · exact G_wk (hj30_1  h) trivial
    · refine G_iload_n (pc := 12) 1 X (dg dt_Q_gridAt 6 rfl) rfl rfl ?_
      refine G_aload_n (pc := 13) 0 X (dg dt_Q_gridAt 7 rfl) rfl rfl ?_
      refine G_getR (pc := 14) 0 X (dg dt_Q_gridAt 8 rfl) fc_7 w_186 rfl (Nat.le_of_ble_eq_true rfl) sh_0 rfl ?_
      refine G_alenQ (pc := 17) 12 X (dg dt_Q_gridAt 9 rfl) sh_1 (by decide) ?_
      refine G_icmp_ge (pc := 18) 30 X (dg dt_Q_gridAt 10 rfl) (by decide) h (fun h => ?_) (fun h => ?_)
      · exact G_wk (hj30_1  h) trivial
      · refine G_aload_n (pc := 21) 0 X (dg dt_Q_gridAt 11 rfl) rfl rfl ?_
        refine G_getR (pc := 22) 0 X (dg dt_Q_gridAt 12 rfl) fc_7 w_186 rfl (Nat.le_of_ble_eq_true rfl) sh_0 rfl ?_
        refine G_iload_n (pc := 25) 1 X (dg dt_Q_gridAt 13 rfl) rfl rfl ?_
        refine G_gld (pc := 26) X (dg dt_Q_gridAt 14 rfl) h (fun g_2 hg_g_2 h => ?_)
        refine G_ifnonnull (pc := 27) 41 X (dg dt_Q_gridAt 15 rfl) (by decide) ?_
        refine G_aload_n (pc := 41) 0 X (dg dt_Q_gridAt 21 rfl) rfl rfl ?_
        refine G_getR (pc := 42) 0 X (dg dt_Q_gridAt 22 rfl) fc_7 w_186 rfl (Nat.le_of_ble_eq_true rfl) sh_0 rfl ?_
        refine G_iload_n (pc := 45) 1 X (dg dt_Q_gridAt 23 rfl) rfl rfl ?_
        refine G_gld (pc := 46) X (dg dt_Q_gridAt 24 rfl) h (fun g_3 hg_g_3 h => ?_)
        exact G_xaret (pc := 47) X hq (dg dt_Q_gridAt 25 rfl) h
set_option maxRecDepth 100000 in
set_option maxHeartbeats 4000000 in
theorem s_Q_needCell {l : Launch} (htr : l.stackTraces = false) (_ : Unit) (ad : Nat → Nat) (σ : St) (v0 : Nat) (v1 : Int32) (v2 : Int32) (hg_v0 : gok v0) {rv : Except Nat Unit} {σe : St} (h : f_Q_needCell σ v0 v1 v2 = some (rv, σe)) : RX l g_strs yX11_needCell cX11_needCell 3 none 6 100 (g_SH, ad) [.ref (ad v0), .int v1, .int v2] σ (xv rv) σe := by
  refine RX.intro htr (L := [some (.ref (ad v0)), some (.int v1), some (.int v2)]) (by decide +kernel) (Nat.le_of_ble_eq_true rfl) rfl (fun θ hl X hq => ?_)
  subst hl
  unfold f_Q_needCell at h
  refine G_aload_n (pc := 0) 0 X (dg dt_Q_needCell 0 rfl) rfl rfl ?_
  refine G_iload_n (pc := 1) 1 X (dg dt_Q_needCell 1 rfl) rfl rfl ?_
  refine G_iload_n (pc := 2) 2 X (dg dt_Q_needCell 2 rfl) rfl rfl ?_
  obtain ⟨r_2, hc_1, h⟩ := cap_go h
  refine G_callV (pc := 3) (S := []) [.int v1, .int v2] nosub X  (dg dt_Q_needCell 3 rfl) cb_Grid_has cv_Grid_has w_382 (s_Grid_has _ ad _ _ _ _ hg_v0 hc_1) rfl ⟨Nat.le_of_ble_eq_true rfl, Nat.le_of_ble_eq_true rfl⟩ (sh_g hg_v0) rfl (Nat.le_of_ble_eq_true rfl) Rc0 ?_
  refine G_if_ne (pc := 6) 20 X (dg dt_Q_needCell 4 rfl) (by decide) h (fun h => ?_) (fun h => ?_)
  · exact G_xvret (pc := 20) X hq (dg dt_Q_needCell 10 rfl) h
  · exact G_xthrow (pc := 9) (e := 1) (text := "there is no such row or column") X hq tw_254_258 (by decide) (dg dt_Q_needCell 5 rfl) (dg dt_Q_needCell 6 rfl) (dg dt_Q_needCell 7 rfl) (dg dt_Q_needCell 8 rfl) (dg dt_Q_needCell 9 rfl) h (Nat.le_of_ble_eq_true rfl) (Nat.le_of_ble_eq_true rfl)
set_option maxRecDepth 100000 in
set_option maxHeartbeats 4000000 in
theorem s_Q_isFrom (l : Launch) (ad : Nat → Nat) (σ : St) (v0 : Int32) (v1 : Int32) (v2 : Int32)  {rv : Int32} (h : f_Q_isFrom σ v0 v1 v2 = some rv) : Rt l [] yX11_isFrom cX11_isFrom 3 (some .boolean) 0 0 (g_SH, ad) [.int v0, .int v1, .int v2] σ (some (.int rv)) σ := by
  refine Rt.intro (L := [some (.int v0), some (.int v1), some (.int v2)]) (by decide +kernel) (Nat.le_of_ble_eq_true rfl) rfl (fun θ hl X hq => ?_)
  subst hl
  unfold f_Q_isFrom at h
  refine G_iload_n (pc := 0) 0 X (dg dt_Q_isFrom 0 rfl) rfl rfl ?_
  refine G_iload_n (pc := 1) 1 X (dg dt_Q_isFrom 1 rfl) rfl rfl ?_
  refine jn_go (fun j14_1 => j14_1 = some rv → G θ (0, 0) (g_SH, ad) σ 14 [none, none, none] []) h ?_ (fun j14_1 hj14_1 h => ?_)
  · intro  h
    refine G_iconst (pc := 14) 0 X (dg dt_Q_isFrom 8 rfl) (by decide) ?_
    exact G_zretlp (pc := 15) X hq (dg dt_Q_isFrom 9 rfl) rfl h
  refine G_icmp_lt (pc := 2) 14 X (dg dt_Q_isFrom 2 rfl) (by decide) h (fun h => ?_) (fun h => ?_)
  · exact G_wk (hj14_1  h) trivial
  · refine G_iload_n (pc := 5) 0 X (dg dt_Q_isFrom 3 rfl) rfl rfl ?_
    refine G_iload_n (pc := 6) 2 X (dg dt_Q_isFrom 4 rfl) rfl rfl ?_
    refine G_icmp_gt (pc := 7) 14 X (dg dt_Q_isFrom 5 rfl) (by decide) h (fun h => ?_) (fun h => ?_)
    · exact G_wk (hj14_1  h) trivial
    · refine G_iconst (pc := 10) 1 X (dg dt_Q_isFrom 6 rfl) (by decide) ?_
      refine G_goto (pc := 11) 15 X (dg dt_Q_isFrom 7 rfl) (by decide) ?_
      exact G_zretlp (pc := 15) X hq (dg dt_Q_isFrom 9 rfl) rfl h
set_option maxRecDepth 100000 in
set_option maxHeartbeats 4000000 in
theorem s_Q_needArgument {l : Launch} (htr : l.stackTraces = false) (_ : Unit) (ad : Nat → Nat) (σ : St) (v0 : Int32)  {rv : Except Nat Unit} {σe : St} (h : f_Q_needArgument σ v0 = some (rv, σe)) : RX l g_strs yX11_needArgument cX11_needArgument 1 none 6 100 (g_SH, ad) [.int v0] σ (xv rv) σe := by
  refine RX.intro htr (L := [some (.int v0)]) (by decide +kernel) (Nat.le_of_ble_eq_true rfl) rfl (fun θ hl X hq => ?_)
  subst hl
  unfold f_Q_needArgument at h
  refine G_iload_n (pc := 0) 0 X (dg dt_Q_needArgument 0 rfl) rfl rfl ?_
  refine G_if_ne (pc := 1) 15 X (dg dt_Q_needArgument 1 rfl) (by decide) h (fun h => ?_) (fun h => ?_)
  · exact G_xvret (pc := 15) X hq (dg dt_Q_needArgument 7 rfl) h
  · exact G_xthrow (pc := 4) (e := 2) (text := "an argument does not fit") X hq tw_274_278 (by decide) (dg dt_Q_needArgument 2 rfl) (dg dt_Q_needArgument 3 rfl) (dg dt_Q_needArgument 4 rfl) (dg dt_Q_needArgument 5 rfl) (dg dt_Q_needArgument 6 rfl) h (Nat.le_of_ble_eq_true rfl) (Nat.le_of_ble_eq_true rfl)
set_option maxRecDepth 100000 in
set_option maxHeartbeats 4000000 in
theorem s_Q_needState {l : Launch} (htr : l.stackTraces = false) (_ : Unit) (ad : Nat → Nat) (σ : St) (v0 : Int32)  {rv : Except Nat Unit} {σe : St} (h : f_Q_needState σ v0 = some (rv, σe)) : RX l g_strs yX11_needState cX11_needState 1 none 6 100 (g_SH, ad) [.int v0] σ (xv rv) σe := by
  refine RX.intro htr (L := [some (.int v0)]) (by decide +kernel) (Nat.le_of_ble_eq_true rfl) rfl (fun θ hl X hq => ?_)
  subst hl
  unfold f_Q_needState at h
  refine G_iload_n (pc := 0) 0 X (dg dt_Q_needState 0 rfl) rfl rfl ?_
  refine G_if_ne (pc := 1) 15 X (dg dt_Q_needState 1 rfl) (by decide) h (fun h => ?_) (fun h => ?_)
  · exact G_xvret (pc := 15) X hq (dg dt_Q_needState 7 rfl) h
  · exact G_xthrow (pc := 4) (e := 3) (text := "the grove does not allow it") X hq tw_261_265 (by decide) (dg dt_Q_needState 2 rfl) (dg dt_Q_needState 3 rfl) (dg dt_Q_needState 4 rfl) (dg dt_Q_needState 5 rfl) (dg dt_Q_needState 6 rfl) h (Nat.le_of_ble_eq_true rfl) (Nat.le_of_ble_eq_true rfl)
set_option maxRecDepth 100000 in
set_option maxHeartbeats 4000000 in
theorem s_Q_put {l : Launch} (htr : l.stackTraces = false) (_ : Unit) (ad : Nat → Nat) (σ : St) (v1 : Int32) (v2 : Int32) (v3 : Int32) (v4 : Int32)  {rv : Except Nat Int32} {σe : St} (h : f_Q_put σ v1 v2 v3 v4 = some (rv, σe)) : RX l g_strs yX11_put cX11_put 7 (some .int) 7 122 (g_SH, ad) [.ref (ad 0), .int v1, .int v2, .int v3, .int v4] σ (xi rv) σe := by
  refine RX.intro htr (L := [some (.ref (ad 0)), some (.int v1), some (.int v2), some (.int v3), some (.int v4), none, none]) (by decide +kernel) (Nat.le_of_ble_eq_true rfl) rfl (fun θ hl X hq => ?_)
  subst hl
  unfold f_Q_put at h
  refine G_aload_n (pc := 0) 0 X (dg dt_Q_put 0 rfl) rfl rfl ?_
  refine G_iload_n (pc := 1) 1 X (dg dt_Q_put 1 rfl) rfl rfl ?_
  refine cax_go h (fun ex hc_1 hex => by subst hex; exact G_callVX (pc := 2) (S := []) [.int v1] (fun _ h => h) X hq (dg dt_Q_put 2 rfl) cb_Q_gridAt cv_Q_gridAt w_348 (s_Q_gridAt htr () ad _ _ hc_1) rfl ⟨Nat.le_of_ble_eq_true rfl, Nat.le_of_ble_eq_true rfl⟩ sh_0 rfl (Nat.le_of_ble_eq_true rfl)) (fun r_2 σ_3 hc_1 h => ?_)
  have hg_r_2 := gk_of_Q_gridAt hc_1
  refine G_callV (pc := 2) (S := []) [.int v1] (fun _ h => h) X  (dg dt_Q_put 2 rfl) cb_Q_gridAt cv_Q_gridAt w_348 (s_Q_gridAt htr () ad _ _ hc_1) rfl ⟨Nat.le_of_ble_eq_true rfl, Nat.le_of_ble_eq_true rfl⟩ sh_0 rfl (Nat.le_of_ble_eq_true rfl) Rc0 ?_
  refine G_astore (pc := 5) X (dg dt_Q_put 3 rfl) (Nat.le_of_ble_eq_true rfl) rfl ?_
  refine G_aload (pc := 7) X (dg dt_Q_put 4 rfl) rfl ?_
  refine G_iload_n (pc := 9) 2 X (dg dt_Q_put 5 rfl) rfl rfl ?_
  refine G_iload_n (pc := 10) 3 X (dg dt_Q_put 6 rfl) rfl rfl ?_
  refine cax_go h (fun ex hc_4 hex => by subst hex; exact G_callSX (pc := 11) (S := []) [.ref (ad r_2), .int v2, .int v3] (fun _ h => h) X hq (dg dt_Q_put 7 rfl) cb_Q_needCell w_380 w_379 (s_Q_needCell htr () ad _ _ _ _ hg_r_2 hc_4) rfl ⟨Nat.le_of_ble_eq_true rfl, Nat.le_of_ble_eq_true rfl⟩  (Nat.le_of_ble_eq_true rfl)) (fun r_5 σ_6 hc_4 h => ?_)
  refine G_callS (pc := 11) (S := []) [.ref (ad r_2), .int v2, .int v3] (fun _ h => h) X  (dg dt_Q_put 7 rfl) cb_Q_needCell w_380 w_379 (s_Q_needCell htr () ad _ _ _ _ hg_r_2 hc_4) rfl ⟨Nat.le_of_ble_eq_true rfl, Nat.le_of_ble_eq_true rfl⟩  (Nat.le_of_ble_eq_true rfl) Rc0 ?_
  refine G_iload (pc := 14) X (dg dt_Q_put 8 rfl) rfl ?_
  refine G_iconst (pc := 16) (-1) X (dg dt_Q_put 9 rfl) (by decide) ?_
  refine G_aload (pc := 17) X (dg dt_Q_put 10 rfl) rfl ?_
  refine G_getIN (pc := 19) 3 X (dg dt_Q_put 11 rfl) fc_0 w_43 rfl (Nat.le_of_ble_eq_true rfl) (sh_g hg_r_2) rfl ?_
  refine G_iconst (pc := 22) 1 X (dg dt_Q_put 12 rfl) (by decide) ?_
  refine G_isub (pc := 23) X (dg dt_Q_put 13 rfl) ?_
  obtain ⟨r_8, hc_7, h⟩ := cap_go h
  refine G_callS (pc := 24) (S := []) [.int v4, .int (-1), .int ((σ_6 r_2 3) - 1)] nosub X  (dg dt_Q_put 14 rfl) cb_Q_isFrom w_219 w_218 (s_Q_isFrom _ ad _ _ _ _ hc_7) rfl ⟨Nat.le_of_ble_eq_true rfl, Nat.le_of_ble_eq_true rfl⟩  (Nat.le_of_ble_eq_true rfl) Rc0 ?_
  refine cax_go h (fun ex hc_9 hex => by subst hex; exact G_callSX (pc := 27) (S := []) [.int r_8] (fun _ h => h) X hq (dg dt_Q_put 15 rfl) cb_Q_needArgument w_222 w_221 (s_Q_needArgument htr () ad _ _ hc_9) rfl ⟨Nat.le_of_ble_eq_true rfl, Nat.le_of_ble_eq_true rfl⟩  (Nat.le_of_ble_eq_true rfl)) (fun r_10 σ_11 hc_9 h => ?_)
  refine G_callS (pc := 27) (S := []) [.int r_8] (fun _ h => h) X  (dg dt_Q_put 15 rfl) cb_Q_needArgument w_222 w_221 (s_Q_needArgument htr () ad _ _ hc_9) rfl ⟨Nat.le_of_ble_eq_true rfl, Nat.le_of_ble_eq_true rfl⟩  (Nat.le_of_ble_eq_true rfl) Rc0 ?_
  refine G_aload (pc := 30) X (dg dt_Q_put 16 rfl) rfl ?_
  refine G_iload_n (pc := 32) 2 X (dg dt_Q_put 17 rfl) rfl rfl ?_
  refine G_iload_n (pc := 33) 3 X (dg dt_Q_put 18 rfl) rfl rfl ?_
  obtain ⟨r_13, hc_12, h⟩ := cap_go h
  refine G_callV (pc := 34) (S := []) [.int v2, .int v3] nosub X  (dg dt_Q_put 19 rfl) cb_Grid_signAt cv_Grid_signAt w_368 (s_Grid_signAt _ ad _ _ _ _ hg_r_2 hc_12) rfl ⟨Nat.le_of_ble_eq_true rfl, Nat.le_of_ble_eq_true rfl⟩ (sh_g hg_r_2) rfl (Nat.le_of_ble_eq_true rfl) Rc0 ?_
  refine G_istore (pc := 37) X (dg dt_Q_put 20 rfl) (Nat.le_of_ble_eq_true rfl) rfl ?_
  refine G_iload (pc := 39) X (dg dt_Q_put 21 rfl) rfl ?_
  refine G_iload (pc := 41) X (dg dt_Q_put 22 rfl) rfl ?_
  refine jn_go (fun j75_14 => ∀ (σ_15 : St), j75_14 σ_15 = some (rv, σe) → G θ (0, 0) (g_SH, ad) σ_15 75 [none, none, none, none, none, none, some (.int r_13)] []) h ?_ (fun j75_14 hj75_14 h => ?_)
  · intro σ_15 h
    refine G_iload (pc := 75) X (dg dt_Q_put 39 rfl) rfl ?_
    exact G_xiret (pc := 77) X hq (dg dt_Q_put 40 rfl) h
  refine G_icmp_eq (pc := 43) 75 X (dg dt_Q_put 23 rfl) (by decide) h (fun h => ?_) (fun h => ?_)
  · exact G_wk (hj75_14 σ_11 h) ⟨rfl, trivial⟩
  · refine G_aload (pc := 46) X (dg dt_Q_put 24 rfl) rfl ?_
    refine G_iload_n (pc := 48) 2 X (dg dt_Q_put 25 rfl) rfl rfl ?_
    refine G_iload_n (pc := 49) 3 X (dg dt_Q_put 26 rfl) rfl rfl ?_
    refine G_iload (pc := 50) X (dg dt_Q_put 27 rfl) rfl ?_
    obtain ⟨r_17, hc_16, h⟩ := cap_go h
    refine G_callV (pc := 52) (S := []) [.int v2, .int v3, .int v4] nosub X  (dg dt_Q_put 28 rfl) cb_Grid_hasInLines cv_Grid_hasInLines w_479 (s_Grid_hasInLines _ ad _ _ _ _ _ hg_r_2 hc_16) rfl ⟨Nat.le_of_ble_eq_true rfl, Nat.le_of_ble_eq_true rfl⟩ (sh_g hg_r_2) rfl (Nat.le_of_ble_eq_true rfl) Rc0 ?_
    refine jn_go (fun j63_18 => ∀ (s_19 : Int32), j63_18 s_19 = some (rv, σe) → G θ (0, 0) (g_SH, ad) σ_11 63 [none, none, some (.int v2), some (.int v3), some (.int v4), some (.ref (ad r_2)), some (.int r_13)] [.int s_19]) h ?_ (fun j63_18 hj63_18 h => ?_)
    · intro s_19 h
      refine cax_go h (fun ex hc_20 hex => by subst hex; exact G_callSX (pc := 63) (S := []) [.int s_19] (fun _ h => h) X hq (dg dt_Q_put 33 rfl) cb_Q_needState w_485 w_484 (s_Q_needState htr () ad _ _ hc_20) rfl ⟨Nat.le_of_ble_eq_true rfl, Nat.le_of_ble_eq_true rfl⟩  (Nat.le_of_ble_eq_true rfl)) (fun r_21 σ_22 hc_20 h => ?_)
      refine G_callS (pc := 63) (S := []) [.int s_19] (fun _ h => h) X  (dg dt_Q_put 33 rfl) cb_Q_needState w_485 w_484 (s_Q_needState htr () ad _ _ hc_20) rfl ⟨Nat.le_of_ble_eq_true rfl, Nat.le_of_ble_eq_true rfl⟩  (Nat.le_of_ble_eq_true rfl) Rc0 ?_
      refine G_aload (pc := 66) X (dg dt_Q_put 34 rfl) rfl ?_
      refine G_iload_n (pc := 68) 2 X (dg dt_Q_put 35 rfl) rfl rfl ?_
      refine G_iload_n (pc := 69) 3 X (dg dt_Q_put 36 rfl) rfl rfl ?_
      refine G_iload (pc := 70) X (dg dt_Q_put 37 rfl) rfl ?_
      obtain ⟨r_24, σ_25, hc_23, h⟩ := cal_go h
      refine G_callV (pc := 72) (S := []) [.int v2, .int v3, .int v4] nosub X  (dg dt_Q_put 38 rfl) cb_Grid_set cv_Grid_set w_332 (s_Grid_set _ ad _ _ _ _ _ hg_r_2 hc_23) rfl ⟨Nat.le_of_ble_eq_true rfl, Nat.le_of_ble_eq_true rfl⟩ (sh_g hg_r_2) rfl (Nat.le_of_ble_eq_true rfl) Rc0 ?_
      exact G_wk (hj75_14 σ_25 h) ⟨rfl, trivial⟩
    refine G_if_ne (pc := 55) 62 X (dg dt_Q_put 29 rfl) (by decide) h (fun h => ?_) (fun h => ?_)
    · refine G_iconst (pc := 62) 0 X (dg dt_Q_put 32 rfl) (by decide) ?_
      exact G_wk (hj63_18 0 h) ⟨rfl, ⟨rfl, ⟨rfl, ⟨rfl, ⟨rfl, trivial⟩⟩⟩⟩⟩
    · refine G_iconst (pc := 58) 1 X (dg dt_Q_put 30 rfl) (by decide) ?_
      refine G_goto (pc := 59) 63 X (dg dt_Q_put 31 rfl) (by decide) ?_
      exact G_wk (hj63_18 1 h) ⟨rfl, ⟨rfl, ⟨rfl, ⟨rfl, ⟨rfl, trivial⟩⟩⟩⟩⟩
set_option maxRecDepth 100000 in
set_option maxHeartbeats 4000000 in
theorem s_Q_turn {l : Launch} (htr : l.stackTraces = false) (_ : Unit) (ad : Nat → Nat) (σ : St) (v1 : Int32) (v2 : Int32) (v3 : Int32) (v4 : Int32)  {rv : Except Nat Int32} {σe : St} (h : f_Q_turn σ v1 v2 v3 v4 = some (rv, σe)) : RX l g_strs yX11_turn cX11_turn 6 (some .int) 7 122 (g_SH, ad) [.ref (ad 0), .int v1, .int v2, .int v3, .int v4] σ (xi rv) σe := by
  refine RX.intro htr (L := [some (.ref (ad 0)), some (.int v1), some (.int v2), some (.int v3), some (.int v4), none]) (by decide +kernel) (Nat.le_of_ble_eq_true rfl) rfl (fun θ hl X hq => ?_)
  subst hl
  unfold f_Q_turn at h
  refine G_aload_n (pc := 0) 0 X (dg dt_Q_turn 0 rfl) rfl rfl ?_
  refine G_iload_n (pc := 1) 1 X (dg dt_Q_turn 1 rfl) rfl rfl ?_
  refine cax_go h (fun ex hc_1 hex => by subst hex; exact G_callVX (pc := 2) (S := []) [.int v1] (fun _ h => h) X hq (dg dt_Q_turn 2 rfl) cb_Q_gridAt cv_Q_gridAt w_348 (s_Q_gridAt htr () ad _ _ hc_1) rfl ⟨Nat.le_of_ble_eq_true rfl, Nat.le_of_ble_eq_true rfl⟩ sh_0 rfl (Nat.le_of_ble_eq_true rfl)) (fun r_2 σ_3 hc_1 h => ?_)
  have hg_r_2 := gk_of_Q_gridAt hc_1
  refine G_callV (pc := 2) (S := []) [.int v1] (fun _ h => h) X  (dg dt_Q_turn 2 rfl) cb_Q_gridAt cv_Q_gridAt w_348 (s_Q_gridAt htr () ad _ _ hc_1) rfl ⟨Nat.le_of_ble_eq_true rfl, Nat.le_of_ble_eq_true rfl⟩ sh_0 rfl (Nat.le_of_ble_eq_true rfl) Rc0 ?_
  refine G_astore (pc := 5) X (dg dt_Q_turn 3 rfl) (Nat.le_of_ble_eq_true rfl) rfl ?_
  refine G_aload (pc := 7) X (dg dt_Q_turn 4 rfl) rfl ?_
  refine G_iload_n (pc := 9) 2 X (dg dt_Q_turn 5 rfl) rfl rfl ?_
  refine G_iload (pc := 10) X (dg dt_Q_turn 6 rfl) rfl ?_
  refine cax_go h (fun ex hc_4 hex => by subst hex; exact G_callSX (pc := 12) (S := []) [.ref (ad r_2), .int v2, .int v4] (fun _ h => h) X hq (dg dt_Q_turn 7 rfl) cb_Q_needCell w_380 w_379 (s_Q_needCell htr () ad _ _ _ _ hg_r_2 hc_4) rfl ⟨Nat.le_of_ble_eq_true rfl, Nat.le_of_ble_eq_true rfl⟩  (Nat.le_of_ble_eq_true rfl)) (fun r_5 σ_6 hc_4 h => ?_)
  refine G_callS (pc := 12) (S := []) [.ref (ad r_2), .int v2, .int v4] (fun _ h => h) X  (dg dt_Q_turn 7 rfl) cb_Q_needCell w_380 w_379 (s_Q_needCell htr () ad _ _ _ _ hg_r_2 hc_4) rfl ⟨Nat.le_of_ble_eq_true rfl, Nat.le_of_ble_eq_true rfl⟩  (Nat.le_of_ble_eq_true rfl) Rc0 ?_
  refine G_aload (pc := 15) X (dg dt_Q_turn 8 rfl) rfl ?_
  refine G_iload_n (pc := 17) 3 X (dg dt_Q_turn 9 rfl) rfl rfl ?_
  refine G_iload (pc := 18) X (dg dt_Q_turn 10 rfl) rfl ?_
  refine cax_go h (fun ex hc_7 hex => by subst hex; exact G_callSX (pc := 20) (S := []) [.ref (ad r_2), .int v3, .int v4] (fun _ h => h) X hq (dg dt_Q_turn 11 rfl) cb_Q_needCell w_380 w_379 (s_Q_needCell htr () ad _ _ _ _ hg_r_2 hc_7) rfl ⟨Nat.le_of_ble_eq_true rfl, Nat.le_of_ble_eq_true rfl⟩  (Nat.le_of_ble_eq_true rfl)) (fun r_8 σ_9 hc_7 h => ?_)
  refine G_callS (pc := 20) (S := []) [.ref (ad r_2), .int v3, .int v4] (fun _ h => h) X  (dg dt_Q_turn 11 rfl) cb_Q_needCell w_380 w_379 (s_Q_needCell htr () ad _ _ _ _ hg_r_2 hc_7) rfl ⟨Nat.le_of_ble_eq_true rfl, Nat.le_of_ble_eq_true rfl⟩  (Nat.le_of_ble_eq_true rfl) Rc0 ?_
  refine G_iload_n (pc := 23) 2 X (dg dt_Q_turn 12 rfl) rfl rfl ?_
  refine G_iload_n (pc := 24) 3 X (dg dt_Q_turn 13 rfl) rfl rfl ?_
  refine jn_go (fun j33_10 => ∀ (s_11 : Int32), j33_10 s_11 = some (rv, σe) → G θ (0, 0) (g_SH, ad) σ_9 33 [none, none, some (.int v2), some (.int v3), some (.int v4), some (.ref (ad r_2))] [.int s_11]) h ?_ (fun j33_10 hj33_10 h => ?_)
  · intro s_11 h
    refine cax_go h (fun ex hc_12 hex => by subst hex; exact G_callSX (pc := 33) (S := []) [.int s_11] (fun _ h => h) X hq (dg dt_Q_turn 18 rfl) cb_Q_needArgument w_222 w_221 (s_Q_needArgument htr () ad _ _ hc_12) rfl ⟨Nat.le_of_ble_eq_true rfl, Nat.le_of_ble_eq_true rfl⟩  (Nat.le_of_ble_eq_true rfl)) (fun r_13 σ_14 hc_12 h => ?_)
    refine G_callS (pc := 33) (S := []) [.int s_11] (fun _ h => h) X  (dg dt_Q_turn 18 rfl) cb_Q_needArgument w_222 w_221 (s_Q_needArgument htr () ad _ _ hc_12) rfl ⟨Nat.le_of_ble_eq_true rfl, Nat.le_of_ble_eq_true rfl⟩  (Nat.le_of_ble_eq_true rfl) Rc0 ?_
    refine G_aload (pc := 36) X (dg dt_Q_turn 19 rfl) rfl ?_
    refine G_iload_n (pc := 38) 2 X (dg dt_Q_turn 20 rfl) rfl rfl ?_
    obtain ⟨r_16, hc_15, h⟩ := cap_go h
    refine G_callV (pc := 39) (S := []) [.int v2] nosub X  (dg dt_Q_turn 21 rfl) cb_Grid_isRowFull cv_Grid_isRowFull w_492 (s_Grid_isRowFull _ ad _ _ _ hg_r_2 hc_15) rfl ⟨Nat.le_of_ble_eq_true rfl, Nat.le_of_ble_eq_true rfl⟩ (sh_g hg_r_2) rfl (Nat.le_of_ble_eq_true rfl) Rc0 ?_
    refine jn_go (fun j59_17 => ∀ (s_18 : Int32), j59_17 s_18 = some (rv, σe) → G θ (0, 0) (g_SH, ad) σ_14 59 [none, none, some (.int v2), some (.int v3), some (.int v4), some (.ref (ad r_2))] [.int s_18]) h ?_ (fun j59_17 hj59_17 h => ?_)
    · intro s_18 h
      refine cax_go h (fun ex hc_19 hex => by subst hex; exact G_callSX (pc := 59) (S := []) [.int s_18] (fun _ h => h) X hq (dg dt_Q_turn 30 rfl) cb_Q_needState w_485 w_484 (s_Q_needState htr () ad _ _ hc_19) rfl ⟨Nat.le_of_ble_eq_true rfl, Nat.le_of_ble_eq_true rfl⟩  (Nat.le_of_ble_eq_true rfl)) (fun r_20 σ_21 hc_19 h => ?_)
      refine G_callS (pc := 59) (S := []) [.int s_18] (fun _ h => h) X  (dg dt_Q_turn 30 rfl) cb_Q_needState w_485 w_484 (s_Q_needState htr () ad _ _ hc_19) rfl ⟨Nat.le_of_ble_eq_true rfl, Nat.le_of_ble_eq_true rfl⟩  (Nat.le_of_ble_eq_true rfl) Rc0 ?_
      refine G_aload (pc := 62) X (dg dt_Q_turn 31 rfl) rfl ?_
      refine G_iload_n (pc := 64) 2 X (dg dt_Q_turn 32 rfl) rfl rfl ?_
      refine G_iload_n (pc := 65) 3 X (dg dt_Q_turn 33 rfl) rfl rfl ?_
      refine G_iload (pc := 66) X (dg dt_Q_turn 34 rfl) rfl ?_
      obtain ⟨r_23, σ_24, hc_22, h⟩ := cal_go h
      refine G_callV (pc := 68) (S := []) [.int v2, .int v3, .int v4] nosub X  (dg dt_Q_turn 35 rfl) cb_Grid_turnRows cv_Grid_turnRows w_496 (s_Grid_turnRows _ ad _ _ _ _ _ hg_r_2 hc_22) rfl ⟨Nat.le_of_ble_eq_true rfl, Nat.le_of_ble_eq_true rfl⟩ (sh_g hg_r_2) rfl (Nat.le_of_ble_eq_true rfl) Rc0 ?_
      exact G_xiret (pc := 71) X hq (dg dt_Q_turn 36 rfl) h
    refine jn_go (fun j58_25 => j58_25 = some (rv, σe) → G θ (0, 0) (g_SH, ad) σ_14 58 [none, none, some (.int v2), some (.int v3), some (.int v4), some (.ref (ad r_2))] []) h ?_ (fun j58_25 hj58_25 h => ?_)
    · intro  h
      refine G_iconst (pc := 58) 0 X (dg dt_Q_turn 29 rfl) (by decide) ?_
      exact G_wk (hj59_17 0 h) ⟨rfl, ⟨rfl, ⟨rfl, ⟨rfl, trivial⟩⟩⟩⟩
    refine G_if_eq (pc := 42) 58 X (dg dt_Q_turn 22 rfl) (by decide) h (fun h => ?_) (fun h => ?_)
    · exact G_wk (hj58_25  h) ⟨rfl, ⟨rfl, ⟨rfl, ⟨rfl, trivial⟩⟩⟩⟩
    · refine G_aload (pc := 45) X (dg dt_Q_turn 23 rfl) rfl ?_
      refine G_iload_n (pc := 47) 3 X (dg dt_Q_turn 24 rfl) rfl rfl ?_
      obtain ⟨r_27, hc_26, h⟩ := cap_go h
      refine G_callV (pc := 48) (S := []) [.int v3] nosub X  (dg dt_Q_turn 25 rfl) cb_Grid_isRowFull cv_Grid_isRowFull w_492 (s_Grid_isRowFull _ ad _ _ _ hg_r_2 hc_26) rfl ⟨Nat.le_of_ble_eq_true rfl, Nat.le_of_ble_eq_true rfl⟩ (sh_g hg_r_2) rfl (Nat.le_of_ble_eq_true rfl) Rc0 ?_
      refine G_if_eq (pc := 51) 58 X (dg dt_Q_turn 26 rfl) (by decide) h (fun h => ?_) (fun h => ?_)
      · exact G_wk (hj58_25  h) ⟨rfl, ⟨rfl, ⟨rfl, ⟨rfl, trivial⟩⟩⟩⟩
      · refine G_iconst (pc := 54) 1 X (dg dt_Q_turn 27 rfl) (by decide) ?_
        refine G_goto (pc := 55) 59 X (dg dt_Q_turn 28 rfl) (by decide) ?_
        exact G_wk (hj59_17 1 h) ⟨rfl, ⟨rfl, ⟨rfl, ⟨rfl, trivial⟩⟩⟩⟩
  refine G_icmp_eq (pc := 25) 32 X (dg dt_Q_turn 14 rfl) (by decide) h (fun h => ?_) (fun h => ?_)
  · refine G_iconst (pc := 32) 0 X (dg dt_Q_turn 17 rfl) (by decide) ?_
    exact G_wk (hj33_10 0 h) ⟨rfl, ⟨rfl, ⟨rfl, ⟨rfl, trivial⟩⟩⟩⟩
  · refine G_iconst (pc := 28) 1 X (dg dt_Q_turn 15 rfl) (by decide) ?_
    refine G_goto (pc := 29) 33 X (dg dt_Q_turn 16 rfl) (by decide) ?_
    exact G_wk (hj33_10 1 h) ⟨rfl, ⟨rfl, ⟨rfl, ⟨rfl, trivial⟩⟩⟩⟩
set_option maxRecDepth 100000 in
set_option maxHeartbeats 4000000 in
theorem s_Q_logic {l : Launch} (htr : l.stackTraces = false) (_ : Unit) (ad : Nat → Nat) (σ : St) (v1 : Int32)  {rv : Except Nat Int32} {σe : St} (h : f_Q_logic σ v1 = some (rv, σe)) : RX l g_strs yX11_logic cX11_logic 2 (some .int) 7 158 (g_SH, ad) [.ref (ad 0), .int v1] σ (xi rv) σe := by
  refine RX.intro htr (L := [some (.ref (ad 0)), some (.int v1)]) (by decide +kernel) (Nat.le_of_ble_eq_true rfl) rfl (fun θ hl X hq => ?_)
  subst hl
  unfold f_Q_logic at h
  refine G_aload_n (pc := 0) 0 X (dg dt_Q_logic 0 rfl) rfl rfl ?_
  refine G_getR (pc := 1) 1 X (dg dt_Q_logic 1 rfl) fc_7 w_187 rfl (Nat.le_of_ble_eq_true rfl) sh_0 rfl ?_
  refine G_aload_n (pc := 4) 0 X (dg dt_Q_logic 2 rfl) rfl rfl ?_
  refine G_iload_n (pc := 5) 1 X (dg dt_Q_logic 3 rfl) rfl rfl ?_
  refine cax_go h (fun ex hc_1 hex => by subst hex; exact G_callVX (pc := 6) (S := [.ref (ad 2)]) [.int v1] (fun _ h => h) X hq (dg dt_Q_logic 4 rfl) cb_Q_gridAt cv_Q_gridAt w_348 (s_Q_gridAt htr () ad _ _ hc_1) rfl ⟨Nat.le_of_ble_eq_true rfl, Nat.le_of_ble_eq_true rfl⟩ sh_0 rfl (Nat.le_of_ble_eq_true rfl)) (fun r_2 σ_3 hc_1 h => ?_)
  have hg_r_2 := gk_of_Q_gridAt hc_1
  refine G_callV (pc := 6) (S := [.ref (ad 2)]) [.int v1] (fun _ h => h) X  (dg dt_Q_logic 4 rfl) cb_Q_gridAt cv_Q_gridAt w_348 (s_Q_gridAt htr () ad _ _ hc_1) rfl ⟨Nat.le_of_ble_eq_true rfl, Nat.le_of_ble_eq_true rfl⟩ sh_0 rfl (Nat.le_of_ble_eq_true rfl) Rc0 ?_
  obtain ⟨r_5, σ_6, hc_4, h⟩ := cal_go h
  refine G_callV (pc := 9) (S := []) [.ref (ad r_2)] nosub X  (dg dt_Q_logic 5 rfl) cb_Grid_copy cv_Grid_copy w_449 (s_Grid_copy _ ad _ _ _ gk_2 hg_r_2 hc_4) rfl ⟨Nat.le_of_ble_eq_true rfl, Nat.le_of_ble_eq_true rfl⟩ (sh_g gk_2) rfl (Nat.le_of_ble_eq_true rfl) Rc0 ?_
  refine G_aload_n (pc := 12) 0 X (dg dt_Q_logic 6 rfl) rfl rfl ?_
  refine G_getR (pc := 13) 1 X (dg dt_Q_logic 7 rfl) fc_7 w_187 rfl (Nat.le_of_ble_eq_true rfl) sh_0 rfl ?_
  obtain ⟨r_8, σ_9, hc_7, h⟩ := cal_go h
  refine G_callS (pc := 16) (S := []) [.ref (ad 2)] nosub X  (dg dt_Q_logic 8 rfl) cb_Filling_fillForced w_454 w_453 (s_Filling_fillForced _ ad _ _ gk_2 hc_7) rfl ⟨Nat.le_of_ble_eq_true rfl, Nat.le_of_ble_eq_true rfl⟩  (Nat.le_of_ble_eq_true rfl) Rc0 ?_
  exact G_xiret (pc := 19) X hq (dg dt_Q_logic 9 rfl) h
set_option maxRecDepth 100000 in
set_option maxHeartbeats 4000000 in
theorem s_Q_forced {l : Launch} (htr : l.stackTraces = false) (_ : Unit) (ad : Nat → Nat) (σ : St) (v1 : Int32)  {rv : Except Nat Int32} {σe : St} (h : f_Q_forced σ v1 = some (rv, σe)) : RX l g_strs yX11_forced cX11_forced 3 (some .int) 7 136 (g_SH, ad) [.ref (ad 0), .int v1] σ (xi rv) σe := by
  refine RX.intro htr (L := [some (.ref (ad 0)), some (.int v1), none]) (by decide +kernel) (Nat.le_of_ble_eq_true rfl) rfl (fun θ hl X hq => ?_)
  subst hl
  unfold f_Q_forced at h
  refine G_aload_n (pc := 0) 0 X (dg dt_Q_forced 0 rfl) rfl rfl ?_
  refine G_iload_n (pc := 1) 1 X (dg dt_Q_forced 1 rfl) rfl rfl ?_
  refine cax_go h (fun ex hc_1 hex => by subst hex; exact G_callVX (pc := 2) (S := []) [.int v1] (fun _ h => h) X hq (dg dt_Q_forced 2 rfl) cb_Q_gridAt cv_Q_gridAt w_348 (s_Q_gridAt htr () ad _ _ hc_1) rfl ⟨Nat.le_of_ble_eq_true rfl, Nat.le_of_ble_eq_true rfl⟩ sh_0 rfl (Nat.le_of_ble_eq_true rfl)) (fun r_2 σ_3 hc_1 h => ?_)
  have hg_r_2 := gk_of_Q_gridAt hc_1
  refine G_callV (pc := 2) (S := []) [.int v1] (fun _ h => h) X  (dg dt_Q_forced 2 rfl) cb_Q_gridAt cv_Q_gridAt w_348 (s_Q_gridAt htr () ad _ _ hc_1) rfl ⟨Nat.le_of_ble_eq_true rfl, Nat.le_of_ble_eq_true rfl⟩ sh_0 rfl (Nat.le_of_ble_eq_true rfl) Rc0 ?_
  refine G_astore_n (pc := 5) 2 X (dg dt_Q_forced 3 rfl) rfl (Nat.le_of_ble_eq_true rfl) rfl ?_
  refine G_aload_n (pc := 6) 2 X (dg dt_Q_forced 4 rfl) rfl rfl ?_
  obtain ⟨r_5, hc_4, h⟩ := cap_go h
  refine G_callS (pc := 7) (S := []) [.ref (ad r_2)] nosub X  (dg dt_Q_forced 5 rfl) cb_Filling_firstForced w_415 w_414 (s_Filling_firstForced _ ad _ _ hg_r_2 hc_4) rfl ⟨Nat.le_of_ble_eq_true rfl, Nat.le_of_ble_eq_true rfl⟩  (Nat.le_of_ble_eq_true rfl) Rc0 ?_
  refine G_aload_n (pc := 10) 2 X (dg dt_Q_forced 6 rfl) rfl rfl ?_
  refine G_getIN (pc := 11) 3 X (dg dt_Q_forced 7 rfl) fc_0 w_43 rfl (Nat.le_of_ble_eq_true rfl) (sh_g hg_r_2) rfl ?_
  obtain ⟨r_7, hc_6, h⟩ := cap_go h
  refine G_callS (pc := 14) (S := []) [.int r_5, .int (σ_3 r_2 3)] nosub X  (dg dt_Q_forced 8 rfl) cb_Move_told w_434 w_433 (s_Move_told _ ad _ _ _ hc_6) rfl ⟨Nat.le_of_ble_eq_true rfl, Nat.le_of_ble_eq_true rfl⟩  (Nat.le_of_ble_eq_true rfl) Rc0 ?_
  exact G_xiret (pc := 17) X hq (dg dt_Q_forced 9 rfl) h
set_option maxRecDepth 100000 in
set_option maxHeartbeats 4000000 in
theorem s_Q_can {l : Launch} (htr : l.stackTraces = false) (_ : Unit) (ad : Nat → Nat) (σ : St) (v1 : Int32) (v2 : Int32) (v3 : Int32)  {rv : Except Nat Int32} {σe : St} (h : f_Q_can σ v1 v2 v3 = some (rv, σe)) : RX l g_strs yX11_can cX11_can 5 (some .int) 7 122 (g_SH, ad) [.ref (ad 0), .int v1, .int v2, .int v3] σ (xi rv) σe := by
  refine RX.intro htr (L := [some (.ref (ad 0)), some (.int v1), some (.int v2), some (.int v3), none]) (by decide +kernel) (Nat.le_of_ble_eq_true rfl) rfl (fun θ hl X hq => ?_)
  subst hl
  unfold f_Q_can at h
  refine G_aload_n (pc := 0) 0 X (dg dt_Q_can 0 rfl) rfl rfl ?_
  refine G_iload_n (pc := 1) 1 X (dg dt_Q_can 1 rfl) rfl rfl ?_
  refine cax_go h (fun ex hc_1 hex => by subst hex; exact G_callVX (pc := 2) (S := []) [.int v1] (fun _ h => h) X hq (dg dt_Q_can 2 rfl) cb_Q_gridAt cv_Q_gridAt w_348 (s_Q_gridAt htr () ad _ _ hc_1) rfl ⟨Nat.le_of_ble_eq_true rfl, Nat.le_of_ble_eq_true rfl⟩ sh_0 rfl (Nat.le_of_ble_eq_true rfl)) (fun r_2 σ_3 hc_1 h => ?_)
  have hg_r_2 := gk_of_Q_gridAt hc_1
  refine G_callV (pc := 2) (S := []) [.int v1] (fun _ h => h) X  (dg dt_Q_can 2 rfl) cb_Q_gridAt cv_Q_gridAt w_348 (s_Q_gridAt htr () ad _ _ hc_1) rfl ⟨Nat.le_of_ble_eq_true rfl, Nat.le_of_ble_eq_true rfl⟩ sh_0 rfl (Nat.le_of_ble_eq_true rfl) Rc0 ?_
  refine G_astore (pc := 5) X (dg dt_Q_can 3 rfl) (Nat.le_of_ble_eq_true rfl) rfl ?_
  refine G_aload (pc := 7) X (dg dt_Q_can 4 rfl) rfl ?_
  refine G_iload_n (pc := 9) 2 X (dg dt_Q_can 5 rfl) rfl rfl ?_
  refine G_iload_n (pc := 10) 3 X (dg dt_Q_can 6 rfl) rfl rfl ?_
  refine cax_go h (fun ex hc_4 hex => by subst hex; exact G_callSX (pc := 11) (S := []) [.ref (ad r_2), .int v2, .int v3] (fun _ h => h) X hq (dg dt_Q_can 7 rfl) cb_Q_needCell w_380 w_379 (s_Q_needCell htr () ad _ _ _ _ hg_r_2 hc_4) rfl ⟨Nat.le_of_ble_eq_true rfl, Nat.le_of_ble_eq_true rfl⟩  (Nat.le_of_ble_eq_true rfl)) (fun r_5 σ_6 hc_4 h => ?_)
  refine G_callS (pc := 11) (S := []) [.ref (ad r_2), .int v2, .int v3] (fun _ h => h) X  (dg dt_Q_can 7 rfl) cb_Q_needCell w_380 w_379 (s_Q_needCell htr () ad _ _ _ _ hg_r_2 hc_4) rfl ⟨Nat.le_of_ble_eq_true rfl, Nat.le_of_ble_eq_true rfl⟩  (Nat.le_of_ble_eq_true rfl) Rc0 ?_
  refine G_aload (pc := 14) X (dg dt_Q_can 8 rfl) rfl ?_
  refine G_iload_n (pc := 16) 2 X (dg dt_Q_can 9 rfl) rfl rfl ?_
  refine G_iload_n (pc := 17) 3 X (dg dt_Q_can 10 rfl) rfl rfl ?_
  obtain ⟨r_8, hc_7, h⟩ := cap_go h
  refine G_callV (pc := 18) (S := []) [.int v2, .int v3] nosub X  (dg dt_Q_can 11 rfl) cb_Grid_optionsAt cv_Grid_optionsAt w_409 (s_Grid_optionsAt _ ad _ _ _ _ hg_r_2 hc_7) rfl ⟨Nat.le_of_ble_eq_true rfl, Nat.le_of_ble_eq_true rfl⟩ (sh_g hg_r_2) rfl (Nat.le_of_ble_eq_true rfl) Rc0 ?_
  exact G_xiret (pc := 21) X hq (dg dt_Q_can 12 rfl) h
set_option maxRecDepth 100000 in
set_option maxHeartbeats 4000000 in
theorem s_Q_distance_L51 {θ : Th} {ad : Nat → Nat} (htr : θ.2.1.stackTraces = false) {rv : Except Nat Int32} {σe : St} (X : Cx θ g_strs cX11_distance 8 "Quasigrove" 7 121)
    {v3 : Nat} {v4 : Nat} {v6 : Int32} {σ : St} (hq : Xq θ (g_SH, ad) (some .int) (xi rv) σe) (hg_v3 : gok v3) (hg_v4 : gok v4) {kx89 : Int32 → Option (Except Nat Int32 × St)} (hkx89 : ∀ (v5 : Int32), kx89 v5 = some (rv, σe) → G θ (0, 0) (g_SH, ad) σ 89 [none, none, none, some (.ref (ad v3)), some (.ref (ad v4)), some (.int v5), some (.int v6), none] []) :
    ∀ (n : Nat) (v5 : Int32) (v7 : Int32), f_Q_distance_L51 v3 v4 v6 σ kx89 n v5 v7 = some (rv, σe) → G θ (0, 0) (g_SH, ad) σ 51 [none, none, none, some (.ref (ad v3)), some (.ref (ad v4)), some (.int v5), some (.int v6), some (.int v7)] [] := by
  intro n
  induction n with
  | zero => intro v5 v7 h; rw [f_Q_distance_L51] at h; cases h
  | succ n ih =>
    intro v5 v7 h
    rw [f_Q_distance_L51] at h
    refine G_iload (pc := 51) X (dg dt_Q_distance 27 rfl) rfl ?_
    refine G_aload_n (pc := 53) 3 X (dg dt_Q_distance 28 rfl) rfl rfl ?_
    refine G_getIN (pc := 54) 3 X (dg dt_Q_distance 29 rfl) fc_0 w_43 rfl (Nat.le_of_ble_eq_true rfl) (sh_g hg_v3) rfl ?_
    refine G_icmp_ge (pc := 57) 89 X (dg dt_Q_distance 30 rfl) (by decide) h (fun h => ?_) (fun h => ?_)
    · exact G_wk (hkx89 v5 h) ⟨rfl, ⟨rfl, ⟨rfl, ⟨rfl, trivial⟩⟩⟩⟩
    · refine G_aload_n (pc := 60) 3 X (dg dt_Q_distance 31 rfl) rfl rfl ?_
      refine G_iload (pc := 61) X (dg dt_Q_distance 32 rfl) rfl ?_
      refine G_iload (pc := 63) X (dg dt_Q_distance 33 rfl) rfl ?_
      obtain ⟨r_13, hc_12, h⟩ := cap_go h
      refine G_callV (pc := 65) (S := []) [.int v6, .int v7] nosub X  (dg dt_Q_distance 34 rfl) cb_Grid_signAt cv_Grid_signAt w_368 (s_Grid_signAt _ ad _ _ _ _ hg_v3 hc_12) rfl ⟨Nat.le_of_ble_eq_true rfl, Nat.le_of_ble_eq_true rfl⟩ (sh_g hg_v3) rfl (Nat.le_of_ble_eq_true rfl) Rc0 ?_
      refine G_aload (pc := 68) X (dg dt_Q_distance 35 rfl) rfl ?_
      refine G_iload (pc := 70) X (dg dt_Q_distance 36 rfl) rfl ?_
      refine G_iload (pc := 72) X (dg dt_Q_distance 37 rfl) rfl ?_
      obtain ⟨r_15, hc_14, h⟩ := cap_go h
      refine G_callV (pc := 74) (S := [.int r_13]) [.int v6, .int v7] nosub X  (dg dt_Q_distance 38 rfl) cb_Grid_signAt cv_Grid_signAt w_368 (s_Grid_signAt _ ad _ _ _ _ hg_v4 hc_14) rfl ⟨Nat.le_of_ble_eq_true rfl, Nat.le_of_ble_eq_true rfl⟩ (sh_g hg_v4) rfl (Nat.le_of_ble_eq_true rfl) Rc0 ?_
      refine jn_go (fun j83_16 => ∀ (v5_17 : Int32), j83_16 v5_17 = some (rv, σe) → G θ (0, 0) (g_SH, ad) σ 83 [none, none, none, some (.ref (ad v3)), some (.ref (ad v4)), some (.int v5_17), some (.int v6), some (.int v7)] []) h ?_ (fun j83_16 hj83_16 h => ?_)
      · intro v5_17 h
        refine G_iinc (pc := 83) (v7 + 1) X (dg dt_Q_distance 41 rfl) rfl (Nat.le_of_ble_eq_true rfl) rfl rfl ?_
        refine G_goto (pc := 86) 51 X (dg dt_Q_distance 42 rfl) (by decide) ?_
        exact G_wk (ih v5_17 (v7 + 1) h) ⟨rfl, ⟨rfl, ⟨rfl, ⟨rfl, ⟨rfl, trivial⟩⟩⟩⟩⟩
      refine G_icmp_eq (pc := 77) 83 X (dg dt_Q_distance 39 rfl) (by decide) h (fun h => ?_) (fun h => ?_)
      · exact G_wk (hj83_16 v5 h) ⟨rfl, ⟨rfl, ⟨rfl, ⟨rfl, ⟨rfl, trivial⟩⟩⟩⟩⟩
      · refine G_iinc (pc := 80) (v5 + 1) X (dg dt_Q_distance 40 rfl) rfl (Nat.le_of_ble_eq_true rfl) rfl rfl ?_
        exact G_wk (hj83_16 (v5 + 1) h) ⟨rfl, ⟨rfl, ⟨rfl, ⟨rfl, ⟨rfl, trivial⟩⟩⟩⟩⟩
set_option maxRecDepth 100000 in
set_option maxHeartbeats 4000000 in
theorem s_Q_distance_L39 {θ : Th} {ad : Nat → Nat} (htr : θ.2.1.stackTraces = false) {rv : Except Nat Int32} {σe : St} (X : Cx θ g_strs cX11_distance 8 "Quasigrove" 7 121)
    {v3 : Nat} {v4 : Nat} {σ : St} (hq : Xq θ (g_SH, ad) (some .int) (xi rv) σe) (hg_v3 : gok v3) (hg_v4 : gok v4) {kx95 : Int32 → Option (Except Nat Int32 × St)} (hkx95 : ∀ (v5 : Int32), kx95 v5 = some (rv, σe) → G θ (0, 0) (g_SH, ad) σ 95 [none, none, none, none, none, some (.int v5), none, none] []) :
    ∀ (n : Nat) (v5 : Int32) (v6 : Int32), f_Q_distance_L39 v3 v4 σ kx95 n v5 v6 = some (rv, σe) → G θ (0, 0) (g_SH, ad) σ 39 [none, none, none, some (.ref (ad v3)), some (.ref (ad v4)), some (.int v5), some (.int v6), none] [] := by
  intro n
  induction n with
  | zero => intro v5 v6 h; rw [f_Q_distance_L39] at h; cases h
  | succ n ih =>
    intro v5 v6 h
    rw [f_Q_distance_L39] at h
    refine G_iload (pc := 39) X (dg dt_Q_distance 21 rfl) rfl ?_
    refine G_aload_n (pc := 41) 3 X (dg dt_Q_distance 22 rfl) rfl rfl ?_
    refine G_getIN (pc := 42) 3 X (dg dt_Q_distance 23 rfl) fc_0 w_43 rfl (Nat.le_of_ble_eq_true rfl) (sh_g hg_v3) rfl ?_
    refine G_icmp_ge (pc := 45) 95 X (dg dt_Q_distance 24 rfl) (by decide) h (fun h => ?_) (fun h => ?_)
    · exact G_wk (hkx95 v5 h) ⟨rfl, trivial⟩
    · refine G_iconst (pc := 48) 0 X (dg dt_Q_distance 25 rfl) (by decide) ?_
      refine G_istore (pc := 49) X (dg dt_Q_distance 26 rfl) (Nat.le_of_ble_eq_true rfl) rfl ?_
      refine G_weak (L' := [none, none, none, some (.ref (ad v3)), some (.ref (ad v4)), some (.int v5), some (.int v6), some (.int 0)]) ⟨rfl, ⟨rfl, ⟨rfl, ⟨rfl, ⟨rfl, trivial⟩⟩⟩⟩⟩ ?_
      refine s_Q_distance_L51 htr X hq hg_v3 hg_v4 (fun v5_18 h => ?_) _ _ _ h
      refine G_iinc (pc := 89) (v6 + 1) X (dg dt_Q_distance 43 rfl) rfl (Nat.le_of_ble_eq_true rfl) rfl rfl ?_
      refine G_goto (pc := 92) 39 X (dg dt_Q_distance 44 rfl) (by decide) ?_
      exact G_wk (ih v5_18 (v6 + 1) h) ⟨rfl, ⟨rfl, ⟨rfl, ⟨rfl, trivial⟩⟩⟩⟩
set_option maxRecDepth 100000 in
set_option maxHeartbeats 4000000 in
theorem s_Q_distance {l : Launch} (htr : l.stackTraces = false) (_ : Unit) (ad : Nat → Nat) (σ : St) (v1 : Int32) (v2 : Int32)  {rv : Except Nat Int32} {σe : St} (h : f_Q_distance σ v1 v2 = some (rv, σe)) : RX l g_strs yX11_distance cX11_distance 8 (some .int) 7 121 (g_SH, ad) [.ref (ad 0), .int v1, .int v2] σ (xi rv) σe := by
  refine RX.intro htr (L := [some (.ref (ad 0)), some (.int v1), some (.int v2), none, none, none, none, none]) (by decide +kernel) (Nat.le_of_ble_eq_true rfl) rfl (fun θ hl X hq => ?_)
  subst hl
  unfold f_Q_distance at h
  refine G_aload_n (pc := 0) 0 X (dg dt_Q_distance 0 rfl) rfl rfl ?_
  refine G_iload_n (pc := 1) 1 X (dg dt_Q_distance 1 rfl) rfl rfl ?_
  refine cax_go h (fun ex hc_1 hex => by subst hex; exact G_callVX (pc := 2) (S := []) [.int v1] (fun _ h => h) X hq (dg dt_Q_distance 2 rfl) cb_Q_gridAt cv_Q_gridAt w_348 (s_Q_gridAt htr () ad _ _ hc_1) rfl ⟨Nat.le_of_ble_eq_true rfl, Nat.le_of_ble_eq_true rfl⟩ sh_0 rfl (Nat.le_of_ble_eq_true rfl)) (fun r_2 σ_3 hc_1 h => ?_)
  have hg_r_2 := gk_of_Q_gridAt hc_1
  refine G_callV (pc := 2) (S := []) [.int v1] (fun _ h => h) X  (dg dt_Q_distance 2 rfl) cb_Q_gridAt cv_Q_gridAt w_348 (s_Q_gridAt htr () ad _ _ hc_1) rfl ⟨Nat.le_of_ble_eq_true rfl, Nat.le_of_ble_eq_true rfl⟩ sh_0 rfl (Nat.le_of_ble_eq_true rfl) Rc0 ?_
  refine G_astore_n (pc := 5) 3 X (dg dt_Q_distance 3 rfl) rfl (Nat.le_of_ble_eq_true rfl) rfl ?_
  refine G_aload_n (pc := 6) 0 X (dg dt_Q_distance 4 rfl) rfl rfl ?_
  refine G_iload_n (pc := 7) 2 X (dg dt_Q_distance 5 rfl) rfl rfl ?_
  refine cax_go h (fun ex hc_4 hex => by subst hex; exact G_callVX (pc := 8) (S := []) [.int v2] (fun _ h => h) X hq (dg dt_Q_distance 6 rfl) cb_Q_gridAt cv_Q_gridAt w_348 (s_Q_gridAt htr () ad _ _ hc_4) rfl ⟨Nat.le_of_ble_eq_true rfl, Nat.le_of_ble_eq_true rfl⟩ sh_0 rfl (Nat.le_of_ble_eq_true rfl)) (fun r_5 σ_6 hc_4 h => ?_)
  have hg_r_5 := gk_of_Q_gridAt hc_4
  refine G_callV (pc := 8) (S := []) [.int v2] (fun _ h => h) X  (dg dt_Q_distance 6 rfl) cb_Q_gridAt cv_Q_gridAt w_348 (s_Q_gridAt htr () ad _ _ hc_4) rfl ⟨Nat.le_of_ble_eq_true rfl, Nat.le_of_ble_eq_true rfl⟩ sh_0 rfl (Nat.le_of_ble_eq_true rfl) Rc0 ?_
  refine G_astore (pc := 11) X (dg dt_Q_distance 7 rfl) (Nat.le_of_ble_eq_true rfl) rfl ?_
  refine G_aload_n (pc := 13) 3 X (dg dt_Q_distance 8 rfl) rfl rfl ?_
  refine G_getIN (pc := 14) 3 X (dg dt_Q_distance 9 rfl) fc_0 w_43 rfl (Nat.le_of_ble_eq_true rfl) (sh_g hg_r_2) rfl ?_
  refine G_aload (pc := 17) X (dg dt_Q_distance 10 rfl) rfl ?_
  refine G_getIN (pc := 19) 3 X (dg dt_Q_distance 11 rfl) fc_0 w_43 rfl (Nat.le_of_ble_eq_true rfl) (sh_g hg_r_5) rfl ?_
  refine jn_go (fun j30_7 => ∀ (s_8 : Int32), j30_7 s_8 = some (rv, σe) → G θ (0, 0) (g_SH, ad) σ_6 30 [none, none, none, some (.ref (ad r_2)), some (.ref (ad r_5)), none, none, none] [.int s_8]) h ?_ (fun j30_7 hj30_7 h => ?_)
  · intro s_8 h
    refine cax_go h (fun ex hc_9 hex => by subst hex; exact G_callSX (pc := 30) (S := []) [.int s_8] (fun _ h => h) X hq (dg dt_Q_distance 16 rfl) cb_Q_needArgument w_222 w_221 (s_Q_needArgument htr () ad _ _ hc_9) rfl ⟨Nat.le_of_ble_eq_true rfl, Nat.le_of_ble_eq_true rfl⟩  (Nat.le_of_ble_eq_true rfl)) (fun r_10 σ_11 hc_9 h => ?_)
    refine G_callS (pc := 30) (S := []) [.int s_8] (fun _ h => h) X  (dg dt_Q_distance 16 rfl) cb_Q_needArgument w_222 w_221 (s_Q_needArgument htr () ad _ _ hc_9) rfl ⟨Nat.le_of_ble_eq_true rfl, Nat.le_of_ble_eq_true rfl⟩  (Nat.le_of_ble_eq_true rfl) Rc0 ?_
    refine G_iconst (pc := 33) 0 X (dg dt_Q_distance 17 rfl) (by decide) ?_
    refine G_istore (pc := 34) X (dg dt_Q_distance 18 rfl) (Nat.le_of_ble_eq_true rfl) rfl ?_
    refine G_iconst (pc := 36) 0 X (dg dt_Q_distance 19 rfl) (by decide) ?_
    refine G_istore (pc := 37) X (dg dt_Q_distance 20 rfl) (Nat.le_of_ble_eq_true rfl) rfl ?_
    refine G_weak (L' := [none, none, none, some (.ref (ad r_2)), some (.ref (ad r_5)), some (.int 0), some (.int 0), none]) ⟨rfl, ⟨rfl, ⟨rfl, ⟨rfl, trivial⟩⟩⟩⟩ ?_
    refine s_Q_distance_L39 htr X hq hg_r_2 hg_r_5 (fun v5_19 h => ?_) _ _ _ h
    refine G_iload (pc := 95) X (dg dt_Q_distance 45 rfl) rfl ?_
    exact G_xiret (pc := 97) X hq (dg dt_Q_distance 46 rfl) h
  refine G_icmp_ne (pc := 22) 29 X (dg dt_Q_distance 12 rfl) (by decide) h (fun h => ?_) (fun h => ?_)
  · refine G_iconst (pc := 29) 0 X (dg dt_Q_distance 15 rfl) (by decide) ?_
    exact G_wk (hj30_7 0 h) ⟨rfl, ⟨rfl, trivial⟩⟩
  · refine G_iconst (pc := 25) 1 X (dg dt_Q_distance 13 rfl) (by decide) ?_
    refine G_goto (pc := 26) 30 X (dg dt_Q_distance 14 rfl) (by decide) ?_
    exact G_wk (hj30_7 1 h) ⟨rfl, ⟨rfl, trivial⟩⟩
set_option maxRecDepth 100000 in
set_option maxHeartbeats 4000000 in
theorem s_Q_of {l : Launch} (htr : l.stackTraces = false) (_ : Unit) (ad : Nat → Nat) (σ : St) (v1 : Int32) (v2 : Int32)  {rv : Except Nat Int32} {σe : St} (h : f_Q_of σ v1 v2 = some (rv, σe)) : RX l g_strs yX11_of cX11_of 4 (some .int) 7 121 (g_SH, ad) [.ref (ad 0), .int v1, .int v2] σ (xi rv) σe := by
  refine RX.intro htr (L := [some (.ref (ad 0)), some (.int v1), some (.int v2), none]) (by decide +kernel) (Nat.le_of_ble_eq_true rfl) rfl (fun θ hl X hq => ?_)
  subst hl
  unfold f_Q_of at h
  refine G_aload_n (pc := 0) 0 X (dg dt_Q_of 0 rfl) rfl rfl ?_
  refine G_iload_n (pc := 1) 1 X (dg dt_Q_of 1 rfl) rfl rfl ?_
  refine cax_go h (fun ex hc_1 hex => by subst hex; exact G_callVX (pc := 2) (S := []) [.int v1] (fun _ h => h) X hq (dg dt_Q_of 2 rfl) cb_Q_gridAt cv_Q_gridAt w_348 (s_Q_gridAt htr () ad _ _ hc_1) rfl ⟨Nat.le_of_ble_eq_true rfl, Nat.le_of_ble_eq_true rfl⟩ sh_0 rfl (Nat.le_of_ble_eq_true rfl)) (fun r_2 σ_3 hc_1 h => ?_)
  have hg_r_2 := gk_of_Q_gridAt hc_1
  refine G_callV (pc := 2) (S := []) [.int v1] (fun _ h => h) X  (dg dt_Q_of 2 rfl) cb_Q_gridAt cv_Q_gridAt w_348 (s_Q_gridAt htr () ad _ _ hc_1) rfl ⟨Nat.le_of_ble_eq_true rfl, Nat.le_of_ble_eq_true rfl⟩ sh_0 rfl (Nat.le_of_ble_eq_true rfl) Rc0 ?_
  refine G_astore_n (pc := 5) 3 X (dg dt_Q_of 3 rfl) rfl (Nat.le_of_ble_eq_true rfl) rfl ?_
  refine G_iload_n (pc := 6) 2 X (dg dt_Q_of 4 rfl) rfl rfl ?_
  refine G_iconst (pc := 7) 0 X (dg dt_Q_of 5 rfl) (by decide) ?_
  refine G_iconst (pc := 8) 2 X (dg dt_Q_of 6 rfl) (by decide) ?_
  obtain ⟨r_5, hc_4, h⟩ := cap_go h
  refine G_callS (pc := 9) (S := []) [.int v2, .int 0, .int 2] nosub X  (dg dt_Q_of 7 rfl) cb_Q_isFrom w_219 w_218 (s_Q_isFrom _ ad _ _ _ _ hc_4) rfl ⟨Nat.le_of_ble_eq_true rfl, Nat.le_of_ble_eq_true rfl⟩  (Nat.le_of_ble_eq_true rfl) Rc0 ?_
  refine cax_go h (fun ex hc_6 hex => by subst hex; exact G_callSX (pc := 12) (S := []) [.int r_5] (fun _ h => h) X hq (dg dt_Q_of 8 rfl) cb_Q_needArgument w_222 w_221 (s_Q_needArgument htr () ad _ _ hc_6) rfl ⟨Nat.le_of_ble_eq_true rfl, Nat.le_of_ble_eq_true rfl⟩  (Nat.le_of_ble_eq_true rfl)) (fun r_7 σ_8 hc_6 h => ?_)
  refine G_callS (pc := 12) (S := []) [.int r_5] (fun _ h => h) X  (dg dt_Q_of 8 rfl) cb_Q_needArgument w_222 w_221 (s_Q_needArgument htr () ad _ _ hc_6) rfl ⟨Nat.le_of_ble_eq_true rfl, Nat.le_of_ble_eq_true rfl⟩  (Nat.le_of_ble_eq_true rfl) Rc0 ?_
  refine G_iload_n (pc := 15) 2 X (dg dt_Q_of 9 rfl) rfl rfl ?_
  refine G_lookup2 (pc := 16) 44 49 54 X (dg dt_Q_of 10 rfl) (by decide) (by decide) (by decide) (by decide) (by decide) (by decide) h (fun h => ?_) (fun h => ?_) (fun h => ?_)
  · refine G_aload_n (pc := 44) 3 X (dg dt_Q_of 11 rfl) rfl rfl ?_
    refine G_getIN (pc := 45) 3 X (dg dt_Q_of 12 rfl) fc_0 w_43 rfl (Nat.le_of_ble_eq_true rfl) (sh_g hg_r_2) rfl ?_
    exact G_xiret (pc := 48) X hq (dg dt_Q_of 13 rfl) h
  · refine G_aload_n (pc := 49) 3 X (dg dt_Q_of 14 rfl) rfl rfl ?_
    refine G_getIN (pc := 50) 4 X (dg dt_Q_of 15 rfl) fc_0 w_46 rfl (Nat.le_of_ble_eq_true rfl) (sh_g hg_r_2) rfl ?_
    exact G_xiret (pc := 53) X hq (dg dt_Q_of 16 rfl) h
  · refine G_aload_n (pc := 54) 3 X (dg dt_Q_of 17 rfl) rfl rfl ?_
    obtain ⟨r_10, hc_9, h⟩ := cap_go h
    refine G_callV (pc := 55) (S := []) [] nosub X  (dg dt_Q_of 18 rfl) cb_Grid_deadCells cv_Grid_deadCells w_388 (s_Grid_deadCells _ ad _ _ hg_r_2 hc_9) rfl ⟨Nat.le_of_ble_eq_true rfl, Nat.le_of_ble_eq_true rfl⟩ (sh_g hg_r_2) rfl (Nat.le_of_ble_eq_true rfl) Rc0 ?_
    exact G_xiret (pc := 58) X hq (dg dt_Q_of 19 rfl) h
set_option maxRecDepth 100000 in
set_option maxHeartbeats 4000000 in
theorem s_Q_cell {l : Launch} (htr : l.stackTraces = false) (_ : Unit) (ad : Nat → Nat) (σ : St) (v1 : Int32) (v2 : Int32) (v3 : Int32)  {rv : Except Nat Int32} {σe : St} (h : f_Q_cell σ v1 v2 v3 = some (rv, σe)) : RX l g_strs yX11_cell cX11_cell 5 (some .int) 7 122 (g_SH, ad) [.ref (ad 0), .int v1, .int v2, .int v3] σ (xi rv) σe := by
  refine RX.intro htr (L := [some (.ref (ad 0)), some (.int v1), some (.int v2), some (.int v3), none]) (by decide +kernel) (Nat.le_of_ble_eq_true rfl) rfl (fun θ hl X hq => ?_)
  subst hl
  unfold f_Q_cell at h
  refine G_aload_n (pc := 0) 0 X (dg dt_Q_cell 0 rfl) rfl rfl ?_
  refine G_iload_n (pc := 1) 1 X (dg dt_Q_cell 1 rfl) rfl rfl ?_
  refine cax_go h (fun ex hc_1 hex => by subst hex; exact G_callVX (pc := 2) (S := []) [.int v1] (fun _ h => h) X hq (dg dt_Q_cell 2 rfl) cb_Q_gridAt cv_Q_gridAt w_348 (s_Q_gridAt htr () ad _ _ hc_1) rfl ⟨Nat.le_of_ble_eq_true rfl, Nat.le_of_ble_eq_true rfl⟩ sh_0 rfl (Nat.le_of_ble_eq_true rfl)) (fun r_2 σ_3 hc_1 h => ?_)
  have hg_r_2 := gk_of_Q_gridAt hc_1
  refine G_callV (pc := 2) (S := []) [.int v1] (fun _ h => h) X  (dg dt_Q_cell 2 rfl) cb_Q_gridAt cv_Q_gridAt w_348 (s_Q_gridAt htr () ad _ _ hc_1) rfl ⟨Nat.le_of_ble_eq_true rfl, Nat.le_of_ble_eq_true rfl⟩ sh_0 rfl (Nat.le_of_ble_eq_true rfl) Rc0 ?_
  refine G_astore (pc := 5) X (dg dt_Q_cell 3 rfl) (Nat.le_of_ble_eq_true rfl) rfl ?_
  refine G_aload (pc := 7) X (dg dt_Q_cell 4 rfl) rfl ?_
  refine G_iload_n (pc := 9) 2 X (dg dt_Q_cell 5 rfl) rfl rfl ?_
  refine G_iload_n (pc := 10) 3 X (dg dt_Q_cell 6 rfl) rfl rfl ?_
  refine cax_go h (fun ex hc_4 hex => by subst hex; exact G_callSX (pc := 11) (S := []) [.ref (ad r_2), .int v2, .int v3] (fun _ h => h) X hq (dg dt_Q_cell 7 rfl) cb_Q_needCell w_380 w_379 (s_Q_needCell htr () ad _ _ _ _ hg_r_2 hc_4) rfl ⟨Nat.le_of_ble_eq_true rfl, Nat.le_of_ble_eq_true rfl⟩  (Nat.le_of_ble_eq_true rfl)) (fun r_5 σ_6 hc_4 h => ?_)
  refine G_callS (pc := 11) (S := []) [.ref (ad r_2), .int v2, .int v3] (fun _ h => h) X  (dg dt_Q_cell 7 rfl) cb_Q_needCell w_380 w_379 (s_Q_needCell htr () ad _ _ _ _ hg_r_2 hc_4) rfl ⟨Nat.le_of_ble_eq_true rfl, Nat.le_of_ble_eq_true rfl⟩  (Nat.le_of_ble_eq_true rfl) Rc0 ?_
  refine G_aload (pc := 14) X (dg dt_Q_cell 8 rfl) rfl ?_
  refine G_iload_n (pc := 16) 2 X (dg dt_Q_cell 9 rfl) rfl rfl ?_
  refine G_iload_n (pc := 17) 3 X (dg dt_Q_cell 10 rfl) rfl rfl ?_
  obtain ⟨r_8, hc_7, h⟩ := cap_go h
  refine G_callV (pc := 18) (S := []) [.int v2, .int v3] nosub X  (dg dt_Q_cell 11 rfl) cb_Grid_signAt cv_Grid_signAt w_368 (s_Grid_signAt _ ad _ _ _ _ hg_r_2 hc_7) rfl ⟨Nat.le_of_ble_eq_true rfl, Nat.le_of_ble_eq_true rfl⟩ (sh_g hg_r_2) rfl (Nat.le_of_ble_eq_true rfl) Rc0 ?_
  exact G_xiret (pc := 21) X hq (dg dt_Q_cell 12 rfl) h
set_option maxRecDepth 100000 in
set_option maxHeartbeats 4000000 in
theorem s_Q_newGrid {l : Launch} (htr : l.stackTraces = false) (_ : Unit) (ad : Nat → Nat) (σ : St) (v1 : Int32)  {rv : Except Nat Nat} {σe : St} (h : f_Q_newGrid σ v1 = some (rv, σe)) : RX l g_strs yX11_newGrid cX11_newGrid 3 (some (.object "Quasigrove$Grid")) 6 100 (g_SH, ad) [.ref (ad 0), .int v1] σ (xr ad rv) σe := by
  refine RX.intro htr (L := [some (.ref (ad 0)), some (.int v1), none]) (by decide +kernel) (Nat.le_of_ble_eq_true rfl) rfl (fun θ hl X hq => ?_)
  subst hl
  unfold f_Q_newGrid at h
  refine G_aload_n (pc := 0) 0 X (dg dt_Q_newGrid 0 rfl) rfl rfl ?_
  refine G_getI (pc := 1) 8 X (dg dt_Q_newGrid 1 rfl) fc_7 w_194 rfl (Nat.le_of_ble_eq_true rfl) sh_0 rfl ?_
  refine jn_go (fun j31_1 => j31_1 = some (rv, σe) → G θ (0, 0) (g_SH, ad) σ 31 [none, none, none] []) h ?_ (fun j31_1 hj31_1 h => ?_)
  · intro  h
    exact G_xthrow (pc := 31) (e := 3) (text := "there are 12 grids") X hq tw_261_265 (by decide) (dg dt_Q_newGrid 15 rfl) (dg dt_Q_newGrid 16 rfl) (dg dt_Q_newGrid 17 rfl) (dg dt_Q_newGrid 18 rfl) (dg dt_Q_newGrid 19 rfl) h (Nat.le_of_ble_eq_true rfl) (Nat.le_of_ble_eq_true rfl)
  refine G_if_lt (pc := 4) 31 X (dg dt_Q_newGrid 2 rfl) (by decide) h (fun h => ?_) (fun h => ?_)
  · exact G_wk (hj31_1  h) trivial
  · refine G_aload_n (pc := 7) 0 X (dg dt_Q_newGrid 3 rfl) rfl rfl ?_
    refine G_getI (pc := 8) 8 X (dg dt_Q_newGrid 4 rfl) fc_7 w_194 rfl (Nat.le_of_ble_eq_true rfl) sh_0 rfl ?_
    refine G_aload_n (pc := 11) 0 X (dg dt_Q_newGrid 5 rfl) rfl rfl ?_
    refine G_getR (pc := 12) 0 X (dg dt_Q_newGrid 6 rfl) fc_7 w_186 rfl (Nat.le_of_ble_eq_true rfl) sh_0 rfl ?_
    refine G_alenQ (pc := 15) 12 X (dg dt_Q_newGrid 7 rfl) sh_1 (by decide) ?_
    refine G_icmp_ge (pc := 16) 31 X (dg dt_Q_newGrid 8 rfl) (by decide) h (fun h => ?_) (fun h => ?_)
    · exact G_wk (hj31_1  h) trivial
    · refine G_aload_n (pc := 19) 0 X (dg dt_Q_newGrid 9 rfl) rfl rfl ?_
      refine G_getR (pc := 20) 0 X (dg dt_Q_newGrid 10 rfl) fc_7 w_186 rfl (Nat.le_of_ble_eq_true rfl) sh_0 rfl ?_
      refine G_aload_n (pc := 23) 0 X (dg dt_Q_newGrid 11 rfl) rfl rfl ?_
      refine G_getI (pc := 24) 8 X (dg dt_Q_newGrid 12 rfl) fc_7 w_194 rfl (Nat.le_of_ble_eq_true rfl) sh_0 rfl ?_
      refine G_gld (pc := 27) X (dg dt_Q_newGrid 13 rfl) h (fun g_2 hg_g_2 h => ?_)
      refine G_ifnonnull (pc := 28) 42 X (dg dt_Q_newGrid 14 rfl) (by decide) ?_
      refine G_aload_n (pc := 42) 0 X (dg dt_Q_newGrid 20 rfl) rfl rfl ?_
      refine G_getR (pc := 43) 0 X (dg dt_Q_newGrid 21 rfl) fc_7 w_186 rfl (Nat.le_of_ble_eq_true rfl) sh_0 rfl ?_
      refine G_aload_n (pc := 46) 0 X (dg dt_Q_newGrid 22 rfl) rfl rfl ?_
      refine G_getI (pc := 47) 8 X (dg dt_Q_newGrid 23 rfl) fc_7 w_194 rfl (Nat.le_of_ble_eq_true rfl) sh_0 rfl ?_
      refine G_gld (pc := 50) X (dg dt_Q_newGrid 24 rfl) h (fun g_3 hg_g_3 h => ?_)
      refine G_astore_n (pc := 51) 2 X (dg dt_Q_newGrid 25 rfl) rfl (Nat.le_of_ble_eq_true rfl) rfl ?_
      refine G_aload_n (pc := 52) 0 X (dg dt_Q_newGrid 26 rfl) rfl rfl ?_
      refine G_dup (pc := 53) X (dg dt_Q_newGrid 27 rfl) rfl ?_
      refine G_getI (pc := 54) 8 X (dg dt_Q_newGrid 28 rfl) fc_7 w_194 rfl (Nat.le_of_ble_eq_true rfl) sh_0 rfl ?_
      refine G_iconst (pc := 57) 1 X (dg dt_Q_newGrid 29 rfl) (by decide) ?_
      refine G_iadd (pc := 58) X (dg dt_Q_newGrid 30 rfl) ?_
      refine G_put (pc := 59) 8 X (dg dt_Q_newGrid 31 rfl) fc_7 w_194 rfl (Nat.le_of_ble_eq_true rfl) rfl rfl sh_0 rfl h (fun σ_4 h => ?_)
      refine G_aload_n (pc := 62) 2 X (dg dt_Q_newGrid 32 rfl) rfl rfl ?_
      refine G_iload_n (pc := 63) 1 X (dg dt_Q_newGrid 33 rfl) rfl rfl ?_
      obtain ⟨r_6, σ_7, hc_5, h⟩ := cal_go h
      refine G_callV (pc := 64) (S := []) [.int v1] nosub X  (dg dt_Q_newGrid 34 rfl) cb_Grid_clear cv_Grid_clear w_312 (s_Grid_clear _ ad _ _ _ hg_g_3 hc_5) rfl ⟨Nat.le_of_ble_eq_true rfl, Nat.le_of_ble_eq_true rfl⟩ (sh_g hg_g_3) rfl (Nat.le_of_ble_eq_true rfl) Rc0 ?_
      refine G_aload_n (pc := 67) 2 X (dg dt_Q_newGrid 35 rfl) rfl rfl ?_
      exact G_xaret (pc := 68) X hq (dg dt_Q_newGrid 36 rfl) h
set_option maxRecDepth 100000 in
set_option maxHeartbeats 4000000 in
theorem s_Q_setConjugate (l : Launch) (ad : Nat → Nat) (σ : St) (v0 : Nat) (v1 : Int32) (v2 : Int32) (v3 : Int32) (v4 : Int32) (hg_v0 : gok v0) {rv : Unit} {σe : St} (h : f_Q_setConjugate σ v0 v1 v2 v3 v4 = some (rv, σe)) : Rt l [] yX11_setConjugate cX11_setConjugate 5 none 3 67 (g_SH, ad) [.ref (ad v0), .int v1, .int v2, .int v3, .int v4] σ none σe := by
  refine Rt.intro (L := [some (.ref (ad v0)), some (.int v1), some (.int v2), some (.int v3), some (.int v4)]) (by decide +kernel) (Nat.le_of_ble_eq_true rfl) rfl (fun θ hl X hq => ?_)
  subst hl
  unfold f_Q_setConjugate at h
  refine G_iload_n (pc := 0) 1 X (dg dt_Q_setConjugate 0 rfl) rfl rfl ?_
  refine G_table5 (pc := 1) 36 47 58 69 80 91 X (dg dt_Q_setConjugate 1 rfl) (by decide) (by decide) (by decide) (by decide) (by decide) (by decide) (by decide) h (fun h => ?_) (fun h => ?_) (fun h => ?_) (fun h => ?_) (fun h => ?_) (fun h => ?_)
  · refine G_aload_n (pc := 36) 0 X (dg dt_Q_setConjugate 2 rfl) rfl rfl ?_
    refine G_iload_n (pc := 37) 2 X (dg dt_Q_setConjugate 3 rfl) rfl rfl ?_
    refine G_iload_n (pc := 38) 3 X (dg dt_Q_setConjugate 4 rfl) rfl rfl ?_
    refine G_iload (pc := 39) X (dg dt_Q_setConjugate 5 rfl) rfl ?_
    obtain ⟨r_2, σ_3, hc_1, h⟩ := cal_go h
    refine G_callV (pc := 41) (S := []) [.int v2, .int v3, .int v4] nosub X  (dg dt_Q_setConjugate 6 rfl) cb_Grid_set cv_Grid_set w_332 (s_Grid_set _ ad _ _ _ _ _ hg_v0 hc_1) rfl ⟨Nat.le_of_ble_eq_true rfl, Nat.le_of_ble_eq_true rfl⟩ (sh_g hg_v0) rfl (Nat.le_of_ble_eq_true rfl) Rc0 ?_
    refine G_goto (pc := 44) 99 X (dg dt_Q_setConjugate 7 rfl) (by decide) ?_
    exact G_vret (pc := 99) X hq (dg dt_Q_setConjugate 37 rfl) h
  · refine G_aload_n (pc := 47) 0 X (dg dt_Q_setConjugate 8 rfl) rfl rfl ?_
    refine G_iload_n (pc := 48) 3 X (dg dt_Q_setConjugate 9 rfl) rfl rfl ?_
    refine G_iload_n (pc := 49) 2 X (dg dt_Q_setConjugate 10 rfl) rfl rfl ?_
    refine G_iload (pc := 50) X (dg dt_Q_setConjugate 11 rfl) rfl ?_
    obtain ⟨r_5, σ_6, hc_4, h⟩ := cal_go h
    refine G_callV (pc := 52) (S := []) [.int v3, .int v2, .int v4] nosub X  (dg dt_Q_setConjugate 12 rfl) cb_Grid_set cv_Grid_set w_332 (s_Grid_set _ ad _ _ _ _ _ hg_v0 hc_4) rfl ⟨Nat.le_of_ble_eq_true rfl, Nat.le_of_ble_eq_true rfl⟩ (sh_g hg_v0) rfl (Nat.le_of_ble_eq_true rfl) Rc0 ?_
    refine G_goto (pc := 55) 99 X (dg dt_Q_setConjugate 13 rfl) (by decide) ?_
    exact G_vret (pc := 99) X hq (dg dt_Q_setConjugate 37 rfl) h
  · refine G_aload_n (pc := 58) 0 X (dg dt_Q_setConjugate 14 rfl) rfl rfl ?_
    refine G_iload_n (pc := 59) 2 X (dg dt_Q_setConjugate 15 rfl) rfl rfl ?_
    refine G_iload (pc := 60) X (dg dt_Q_setConjugate 16 rfl) rfl ?_
    refine G_iload_n (pc := 62) 3 X (dg dt_Q_setConjugate 17 rfl) rfl rfl ?_
    obtain ⟨r_8, σ_9, hc_7, h⟩ := cal_go h
    refine G_callV (pc := 63) (S := []) [.int v2, .int v4, .int v3] nosub X  (dg dt_Q_setConjugate 18 rfl) cb_Grid_set cv_Grid_set w_332 (s_Grid_set _ ad _ _ _ _ _ hg_v0 hc_7) rfl ⟨Nat.le_of_ble_eq_true rfl, Nat.le_of_ble_eq_true rfl⟩ (sh_g hg_v0) rfl (Nat.le_of_ble_eq_true rfl) Rc0 ?_
    refine G_goto (pc := 66) 99 X (dg dt_Q_setConjugate 19 rfl) (by decide) ?_
    exact G_vret (pc := 99) X hq (dg dt_Q_setConjugate 37 rfl) h
  · refine G_aload_n (pc := 69) 0 X (dg dt_Q_setConjugate 20 rfl) rfl rfl ?_
    refine G_iload (pc := 70) X (dg dt_Q_setConjugate 21 rfl) rfl ?_
    refine G_iload_n (pc := 72) 3 X (dg dt_Q_setConjugate 22 rfl) rfl rfl ?_
    refine G_iload_n (pc := 73) 2 X (dg dt_Q_setConjugate 23 rfl) rfl rfl ?_
    obtain ⟨r_11, σ_12, hc_10, h⟩ := cal_go h
    refine G_callV (pc := 74) (S := []) [.int v4, .int v3, .int v2] nosub X  (dg dt_Q_setConjugate 24 rfl) cb_Grid_set cv_Grid_set w_332 (s_Grid_set _ ad _ _ _ _ _ hg_v0 hc_10) rfl ⟨Nat.le_of_ble_eq_true rfl, Nat.le_of_ble_eq_true rfl⟩ (sh_g hg_v0) rfl (Nat.le_of_ble_eq_true rfl) Rc0 ?_
    refine G_goto (pc := 77) 99 X (dg dt_Q_setConjugate 25 rfl) (by decide) ?_
    exact G_vret (pc := 99) X hq (dg dt_Q_setConjugate 37 rfl) h
  · refine G_aload_n (pc := 80) 0 X (dg dt_Q_setConjugate 26 rfl) rfl rfl ?_
    refine G_iload_n (pc := 81) 3 X (dg dt_Q_setConjugate 27 rfl) rfl rfl ?_
    refine G_iload (pc := 82) X (dg dt_Q_setConjugate 28 rfl) rfl ?_
    refine G_iload_n (pc := 84) 2 X (dg dt_Q_setConjugate 29 rfl) rfl rfl ?_
    obtain ⟨r_14, σ_15, hc_13, h⟩ := cal_go h
    refine G_callV (pc := 85) (S := []) [.int v3, .int v4, .int v2] nosub X  (dg dt_Q_setConjugate 30 rfl) cb_Grid_set cv_Grid_set w_332 (s_Grid_set _ ad _ _ _ _ _ hg_v0 hc_13) rfl ⟨Nat.le_of_ble_eq_true rfl, Nat.le_of_ble_eq_true rfl⟩ (sh_g hg_v0) rfl (Nat.le_of_ble_eq_true rfl) Rc0 ?_
    refine G_goto (pc := 88) 99 X (dg dt_Q_setConjugate 31 rfl) (by decide) ?_
    exact G_vret (pc := 99) X hq (dg dt_Q_setConjugate 37 rfl) h
  · refine G_aload_n (pc := 91) 0 X (dg dt_Q_setConjugate 32 rfl) rfl rfl ?_
    refine G_iload (pc := 92) X (dg dt_Q_setConjugate 33 rfl) rfl ?_
    refine G_iload_n (pc := 94) 2 X (dg dt_Q_setConjugate 34 rfl) rfl rfl ?_
    refine G_iload_n (pc := 95) 3 X (dg dt_Q_setConjugate 35 rfl) rfl rfl ?_
    obtain ⟨r_17, σ_18, hc_16, h⟩ := cal_go h
    refine G_callV (pc := 96) (S := []) [.int v4, .int v2, .int v3] nosub X  (dg dt_Q_setConjugate 36 rfl) cb_Grid_set cv_Grid_set w_332 (s_Grid_set _ ad _ _ _ _ _ hg_v0 hc_16) rfl ⟨Nat.le_of_ble_eq_true rfl, Nat.le_of_ble_eq_true rfl⟩ (sh_g hg_v0) rfl (Nat.le_of_ble_eq_true rfl) Rc0 ?_
    exact G_vret (pc := 99) X hq (dg dt_Q_setConjugate 37 rfl) h
set_option maxRecDepth 100000 in
set_option maxHeartbeats 4000000 in
theorem s_Q_conjugate_L40 {θ : Th} {ad : Nat → Nat} (htr : θ.2.1.stackTraces = false) {rv : Except Nat Int32} {σe : St} (X : Cx θ g_strs cX11_conjugate 8 "Quasigrove" 7 122)
    {v2 : Int32} {v3 : Nat} {v4 : Nat} {v5 : Int32} (hq : Xq θ (g_SH, ad) (some .int) (xi rv) σe) (hg_v3 : gok v3) (hg_v4 : gok v4) {kx83 : St → Option (Except Nat Int32 × St)} (hkx83 : ∀ (σ : St), kx83 σ = some (rv, σe) → G θ (0, 0) (g_SH, ad) σ 83 [some (.ref (ad 0)), none, some (.int v2), some (.ref (ad v3)), some (.ref (ad v4)), some (.int v5), none, none] []) :
    ∀ (n : Nat) (v6 : Int32) (σ : St), f_Q_conjugate_L40 v2 v3 v4 v5 kx83 n v6 σ = some (rv, σe) → G θ (0, 0) (g_SH, ad) σ 40 [some (.ref (ad 0)), none, some (.int v2), some (.ref (ad v3)), some (.ref (ad v4)), some (.int v5), some (.int v6), none] [] := by
  intro n
  induction n with
  | zero => intro v6 σ h; rw [f_Q_conjugate_L40] at h; cases h
  | succ n ih =>
    intro v6 σ h
    rw [f_Q_conjugate_L40] at h
    refine G_iload (pc := 40) X (dg dt_Q_conjugate 22 rfl) rfl ?_
    refine G_aload_n (pc := 42) 3 X (dg dt_Q_conjugate 23 rfl) rfl rfl ?_
    refine G_getIN (pc := 43) 3 X (dg dt_Q_conjugate 24 rfl) fc_0 w_43 rfl (Nat.le_of_ble_eq_true rfl) (sh_g hg_v3) rfl ?_
    refine G_icmp_ge (pc := 46) 83 X (dg dt_Q_conjugate 25 rfl) (by decide) h (fun h => ?_) (fun h => ?_)
    · exact G_wk (hkx83 σ h) ⟨rfl, ⟨rfl, ⟨rfl, ⟨rfl, ⟨rfl, trivial⟩⟩⟩⟩⟩
    · refine G_aload_n (pc := 49) 3 X (dg dt_Q_conjugate 26 rfl) rfl rfl ?_
      refine G_iload (pc := 50) X (dg dt_Q_conjugate 27 rfl) rfl ?_
      refine G_iload (pc := 52) X (dg dt_Q_conjugate 28 rfl) rfl ?_
      obtain ⟨r_13, hc_12, h⟩ := cap_go h
      refine G_callV (pc := 54) (S := []) [.int v5, .int v6] nosub X  (dg dt_Q_conjugate 29 rfl) cb_Grid_signAt cv_Grid_signAt w_368 (s_Grid_signAt _ ad _ _ _ _ hg_v3 hc_12) rfl ⟨Nat.le_of_ble_eq_true rfl, Nat.le_of_ble_eq_true rfl⟩ (sh_g hg_v3) rfl (Nat.le_of_ble_eq_true rfl) Rc0 ?_
      refine G_istore (pc := 57) X (dg dt_Q_conjugate 30 rfl) (Nat.le_of_ble_eq_true rfl) rfl ?_
      refine G_iload (pc := 59) X (dg dt_Q_conjugate 31 rfl) rfl ?_
      refine G_iconst (pc := 61) (-1) X (dg dt_Q_conjugate 32 rfl) (by decide) ?_
      refine jn_go (fun j77_14 => ∀ (σ_15 : St), j77_14 σ_15 = some (rv, σe) → G θ (0, 0) (g_SH, ad) σ_15 77 [some (.ref (ad 0)), none, some (.int v2), some (.ref (ad v3)), some (.ref (ad v4)), some (.int v5), some (.int v6), none] []) h ?_ (fun j77_14 hj77_14 h => ?_)
      · intro σ_15 h
        refine G_iinc (pc := 77) (v6 + 1) X (dg dt_Q_conjugate 40 rfl) rfl (Nat.le_of_ble_eq_true rfl) rfl rfl ?_
        refine G_goto (pc := 80) 40 X (dg dt_Q_conjugate 41 rfl) (by decide) ?_
        exact G_wk (ih (v6 + 1) σ_15 h) ⟨rfl, ⟨rfl, ⟨rfl, ⟨rfl, ⟨rfl, ⟨rfl, trivial⟩⟩⟩⟩⟩⟩
      refine G_icmp_eq (pc := 62) 77 X (dg dt_Q_conjugate 33 rfl) (by decide) h (fun h => ?_) (fun h => ?_)
      · exact G_wk (hj77_14 σ h) ⟨rfl, ⟨rfl, ⟨rfl, ⟨rfl, ⟨rfl, ⟨rfl, trivial⟩⟩⟩⟩⟩⟩
      · refine G_aload (pc := 65) X (dg dt_Q_conjugate 34 rfl) rfl ?_
        refine G_iload_n (pc := 67) 2 X (dg dt_Q_conjugate 35 rfl) rfl rfl ?_
        refine G_iload (pc := 68) X (dg dt_Q_conjugate 36 rfl) rfl ?_
        refine G_iload (pc := 70) X (dg dt_Q_conjugate 37 rfl) rfl ?_
        refine G_iload (pc := 72) X (dg dt_Q_conjugate 38 rfl) rfl ?_
        obtain ⟨r_17, σ_18, hc_16, h⟩ := cal_go h
        refine G_callS (pc := 74) (S := []) [.ref (ad v4), .int v2, .int v5, .int v6, .int r_13] nosub X  (dg dt_Q_conjugate 39 rfl) cb_Q_setConjugate w_373 w_372 (s_Q_setConjugate _ ad _ _ _ _ _ _ hg_v4 hc_16) rfl ⟨Nat.le_of_ble_eq_true rfl, Nat.le_of_ble_eq_true rfl⟩  (Nat.le_of_ble_eq_true rfl) Rc0 ?_
        exact G_wk (hj77_14 σ_18 h) ⟨rfl, ⟨rfl, ⟨rfl, ⟨rfl, ⟨rfl, ⟨rfl, trivial⟩⟩⟩⟩⟩⟩
set_option maxRecDepth 100000 in
set_option maxHeartbeats 4000000 in
theorem s_Q_conjugate_L28 {θ : Th} {ad : Nat → Nat} (htr : θ.2.1.stackTraces = false) {rv : Except Nat Int32} {σe : St} (X : Cx θ g_strs cX11_conjugate 8 "Quasigrove" 7 122)
    {v2 : Int32} {v3 : Nat} {v4 : Nat} (hq : Xq θ (g_SH, ad) (some .int) (xi rv) σe) (hg_v3 : gok v3) (hg_v4 : gok v4) {kx89 : St → Option (Except Nat Int32 × St)} (hkx89 : ∀ (σ : St), kx89 σ = some (rv, σe) → G θ (0, 0) (g_SH, ad) σ 89 [some (.ref (ad 0)), none, none, none, none, none, none, none] []) :
    ∀ (n : Nat) (v5 : Int32) (σ : St), f_Q_conjugate_L28 v2 v3 v4 kx89 n v5 σ = some (rv, σe) → G θ (0, 0) (g_SH, ad) σ 28 [some (.ref (ad 0)), none, some (.int v2), some (.ref (ad v3)), some (.ref (ad v4)), some (.int v5), none, none] [] := by
  intro n
  induction n with
  | zero => intro v5 σ h; rw [f_Q_conjugate_L28] at h; cases h
  | succ n ih =>
    intro v5 σ h
    rw [f_Q_conjugate_L28] at h
    refine G_iload (pc := 28) X (dg dt_Q_conjugate 16 rfl) rfl ?_
    refine G_aload_n (pc := 30) 3 X (dg dt_Q_conjugate 17 rfl) rfl rfl ?_
    refine G_getIN (pc := 31) 3 X (dg dt_Q_conjugate 18 rfl) fc_0 w_43 rfl (Nat.le_of_ble_eq_true rfl) (sh_g hg_v3) rfl ?_
    refine G_icmp_ge (pc := 34) 89 X (dg dt_Q_conjugate 19 rfl) (by decide) h (fun h => ?_) (fun h => ?_)
    · exact G_wk (hkx89 σ h) ⟨rfl, trivial⟩
    · refine G_iconst (pc := 37) 0 X (dg dt_Q_conjugate 20 rfl) (by decide) ?_
      refine G_istore (pc := 38) X (dg dt_Q_conjugate 21 rfl) (Nat.le_of_ble_eq_true rfl) rfl ?_
      refine G_weak (L' := [some (.ref (ad 0)), none, some (.int v2), some (.ref (ad v3)), some (.ref (ad v4)), some (.int v5), some (.int 0), none]) ⟨rfl, ⟨rfl, ⟨rfl, ⟨rfl, ⟨rfl, ⟨rfl, trivial⟩⟩⟩⟩⟩⟩ ?_
      refine s_Q_conjugate_L40 htr X hq hg_v3 hg_v4 (fun σ_19 h => ?_) _ _ _ h
      refine G_iinc (pc := 83) (v5 + 1) X (dg dt_Q_conjugate 42 rfl) rfl (Nat.le_of_ble_eq_true rfl) rfl rfl ?_
      refine G_goto (pc := 86) 28 X (dg dt_Q_conjugate 43 rfl) (by decide) ?_
      exact G_wk (ih (v5 + 1) σ_19 h) ⟨rfl, ⟨rfl, ⟨rfl, ⟨rfl, ⟨rfl, trivial⟩⟩⟩⟩⟩
set_option maxRecDepth 100000 in
set_option maxHeartbeats 4000000 in
theorem s_Q_conjugate {l : Launch} (htr : l.stackTraces = false) (_ : Unit) (ad : Nat → Nat) (σ : St) (v1 : Int32) (v2 : Int32)  {rv : Except Nat Int32} {σe : St} (h : f_Q_conjugate σ v1 v2 = some (rv, σe)) : RX l g_strs yX11_conjugate cX11_conjugate 8 (some .int) 7 122 (g_SH, ad) [.ref (ad 0), .int v1, .int v2] σ (xi rv) σe := by
  refine RX.intro htr (L := [some (.ref (ad 0)), some (.int v1), some (.int v2), none, none, none, none, none]) (by decide +kernel) (Nat.le_of_ble_eq_true rfl) rfl (fun θ hl X hq => ?_)
  subst hl
  unfold f_Q_conjugate at h
  refine G_aload_n (pc := 0) 0 X (dg dt_Q_conjugate 0 rfl) rfl rfl ?_
  refine G_iload_n (pc := 1) 1 X (dg dt_Q_conjugate 1 rfl) rfl rfl ?_
  refine cax_go h (fun ex hc_1 hex => by subst hex; exact G_callVX (pc := 2) (S := []) [.int v1] (fun _ h => h) X hq (dg dt_Q_conjugate 2 rfl) cb_Q_gridAt cv_Q_gridAt w_348 (s_Q_gridAt htr () ad _ _ hc_1) rfl ⟨Nat.le_of_ble_eq_true rfl, Nat.le_of_ble_eq_true rfl⟩ sh_0 rfl (Nat.le_of_ble_eq_true rfl)) (fun r_2 σ_3 hc_1 h => ?_)
  have hg_r_2 := gk_of_Q_gridAt hc_1
  refine G_callV (pc := 2) (S := []) [.int v1] (fun _ h => h) X  (dg dt_Q_conjugate 2 rfl) cb_Q_gridAt cv_Q_gridAt w_348 (s_Q_gridAt htr () ad _ _ hc_1) rfl ⟨Nat.le_of_ble_eq_true rfl, Nat.le_of_ble_eq_true rfl⟩ sh_0 rfl (Nat.le_of_ble_eq_true rfl) Rc0 ?_
  refine G_astore_n (pc := 5) 3 X (dg dt_Q_conjugate 3 rfl) rfl (Nat.le_of_ble_eq_true rfl) rfl ?_
  refine G_iload_n (pc := 6) 2 X (dg dt_Q_conjugate 4 rfl) rfl rfl ?_
  refine G_iconst (pc := 7) 0 X (dg dt_Q_conjugate 5 rfl) (by decide) ?_
  refine G_iconst (pc := 8) 5 X (dg dt_Q_conjugate 6 rfl) (by decide) ?_
  obtain ⟨r_5, hc_4, h⟩ := cap_go h
  refine G_callS (pc := 9) (S := []) [.int v2, .int 0, .int 5] nosub X  (dg dt_Q_conjugate 7 rfl) cb_Q_isFrom w_219 w_218 (s_Q_isFrom _ ad _ _ _ _ hc_4) rfl ⟨Nat.le_of_ble_eq_true rfl, Nat.le_of_ble_eq_true rfl⟩  (Nat.le_of_ble_eq_true rfl) Rc0 ?_
  refine cax_go h (fun ex hc_6 hex => by subst hex; exact G_callSX (pc := 12) (S := []) [.int r_5] (fun _ h => h) X hq (dg dt_Q_conjugate 8 rfl) cb_Q_needArgument w_222 w_221 (s_Q_needArgument htr () ad _ _ hc_6) rfl ⟨Nat.le_of_ble_eq_true rfl, Nat.le_of_ble_eq_true rfl⟩  (Nat.le_of_ble_eq_true rfl)) (fun r_7 σ_8 hc_6 h => ?_)
  refine G_callS (pc := 12) (S := []) [.int r_5] (fun _ h => h) X  (dg dt_Q_conjugate 8 rfl) cb_Q_needArgument w_222 w_221 (s_Q_needArgument htr () ad _ _ hc_6) rfl ⟨Nat.le_of_ble_eq_true rfl, Nat.le_of_ble_eq_true rfl⟩  (Nat.le_of_ble_eq_true rfl) Rc0 ?_
  refine G_aload_n (pc := 15) 0 X (dg dt_Q_conjugate 9 rfl) rfl rfl ?_
  refine G_aload_n (pc := 16) 3 X (dg dt_Q_conjugate 10 rfl) rfl rfl ?_
  refine G_getIN (pc := 17) 3 X (dg dt_Q_conjugate 11 rfl) fc_0 w_43 rfl (Nat.le_of_ble_eq_true rfl) (sh_g hg_r_2) rfl ?_
  refine cax_go h (fun ex hc_9 hex => by subst hex; exact G_callVX (pc := 20) (S := []) [.int (σ_8 r_2 3)] (fun _ h => h) X hq (dg dt_Q_conjugate 12 rfl) cb_Q_newGrid cv_Q_newGrid w_292 (s_Q_newGrid htr () ad _ _ hc_9) rfl ⟨Nat.le_of_ble_eq_true rfl, Nat.le_of_ble_eq_true rfl⟩ sh_0 rfl (Nat.le_of_ble_eq_true rfl)) (fun r_10 σ_11 hc_9 h => ?_)
  have hg_r_10 := gk_of_Q_newGrid hc_9
  refine G_callV (pc := 20) (S := []) [.int (σ_8 r_2 3)] (fun _ h => h) X  (dg dt_Q_conjugate 12 rfl) cb_Q_newGrid cv_Q_newGrid w_292 (s_Q_newGrid htr () ad _ _ hc_9) rfl ⟨Nat.le_of_ble_eq_true rfl, Nat.le_of_ble_eq_true rfl⟩ sh_0 rfl (Nat.le_of_ble_eq_true rfl) Rc0 ?_
  refine G_astore (pc := 23) X (dg dt_Q_conjugate 13 rfl) (Nat.le_of_ble_eq_true rfl) rfl ?_
  refine G_iconst (pc := 25) 0 X (dg dt_Q_conjugate 14 rfl) (by decide) ?_
  refine G_istore (pc := 26) X (dg dt_Q_conjugate 15 rfl) (Nat.le_of_ble_eq_true rfl) rfl ?_
  refine G_weak (L' := [some (.ref (ad 0)), none, some (.int v2), some (.ref (ad r_2)), some (.ref (ad r_10)), some (.int 0), none, none]) ⟨rfl, ⟨rfl, ⟨rfl, ⟨rfl, ⟨rfl, trivial⟩⟩⟩⟩⟩ ?_
  refine s_Q_conjugate_L28 htr X hq hg_r_2 hg_r_10 (fun σ_20 h => ?_) _ _ _ h
  refine G_aload_n (pc := 89) 0 X (dg dt_Q_conjugate 44 rfl) rfl rfl ?_
  refine G_getI (pc := 90) 8 X (dg dt_Q_conjugate 45 rfl) fc_7 w_194 rfl (Nat.le_of_ble_eq_true rfl) sh_0 rfl ?_
  refine G_iconst (pc := 93) 1 X (dg dt_Q_conjugate 46 rfl) (by decide) ?_
  refine G_isub (pc := 94) X (dg dt_Q_conjugate 47 rfl) ?_
  exact G_xiret (pc := 95) X hq (dg dt_Q_conjugate 48 rfl) h
set_option maxRecDepth 100000 in
set_option maxHeartbeats 4000000 in
theorem s_Q_remainder (l : Launch) (ad : Nat → Nat) (σ : St) (v0 : Int32) (v1 : Int32)  {rv : Int32} (h : f_Q_remainder σ v0 v1 = some rv) : Rt l [] yX11_remainder cX11_remainder 2 (some .int) 0 0 (g_SH, ad) [.int v0, .int v1] σ (some (.int rv)) σ := by
  refine Rt.intro (L := [some (.int v0), some (.int v1)]) (by decide +kernel) (Nat.le_of_ble_eq_true rfl) rfl (fun θ hl X hq => ?_)
  subst hl
  unfold f_Q_remainder at h
  refine G_iload_n (pc := 0) 1 X (dg dt_Q_remainder 0 rfl) rfl rfl ?_
  refine G_if_le (pc := 1) 10 X (dg dt_Q_remainder 1 rfl) (by decide) h (fun h => ?_) (fun h => ?_)
  · refine G_iconst (pc := 10) 0 X (dg dt_Q_remainder 6 rfl) (by decide) ?_
    exact G_iretp (pc := 11) X hq (dg dt_Q_remainder 7 rfl) h
  · refine G_iload_n (pc := 4) 0 X (dg dt_Q_remainder 2 rfl) rfl rfl ?_
    refine G_iload_n (pc := 5) 1 X (dg dt_Q_remainder 3 rfl) rfl rfl ?_
    refine G_irem (pc := 6) X (dg dt_Q_remainder 4 rfl) h (fun q_1 h => ?_)
    refine G_goto (pc := 7) 11 X (dg dt_Q_remainder 5 rfl) (by decide) ?_
    exact G_iretp (pc := 11) X hq (dg dt_Q_remainder 7 rfl) h
set_option maxRecDepth 100000 in
set_option maxHeartbeats 4000000 in
theorem s_Q_reachesAll_L4 {θ : Th} {ad : Nat → Nat}  {rv : Int32} (X : Cx θ [] cX11_reachesAll 4 "Quasigrove" 1 21)
    {v0 : Int32} {v1 : Int32} {σ : St} (hq : Rq θ (g_SH, ad) (some .boolean) (some (.int rv)) σ) {kx27 : Int32 → Option Int32} (hkx27 : ∀ (v2 : Int32), kx27 v2 = some rv → G θ (0, 0) (g_SH, ad) σ 27 [none, some (.int v1), some (.int v2), none] []) :
    ∀ (n : Nat) (v2 : Int32) (v3 : Int32), f_Q_reachesAll_L4 v0 v1 σ kx27 n v2 v3 = some rv → G θ (0, 0) (g_SH, ad) σ 4 [some (.int v0), some (.int v1), some (.int v2), some (.int v3)] [] := by
  intro n
  induction n with
  | zero => intro v2 v3 h; rw [f_Q_reachesAll_L4] at h; cases h
  | succ n ih =>
    intro v2 v3 h
    rw [f_Q_reachesAll_L4] at h
    refine G_iload_n (pc := 4) 3 X (dg dt_Q_reachesAll 4 rfl) rfl rfl ?_
    refine G_iload_n (pc := 5) 1 X (dg dt_Q_reachesAll 5 rfl) rfl rfl ?_
    refine G_icmp_ge (pc := 6) 27 X (dg dt_Q_reachesAll 6 rfl) (by decide) h (fun h => ?_) (fun h => ?_)
    · exact G_wk (hkx27 v2 h) ⟨rfl, ⟨rfl, trivial⟩⟩
    · refine G_iload_n (pc := 9) 2 X (dg dt_Q_reachesAll 7 rfl) rfl rfl ?_
      refine G_iconst (pc := 10) 1 X (dg dt_Q_reachesAll 8 rfl) (by decide) ?_
      refine G_iload_n (pc := 11) 0 X (dg dt_Q_reachesAll 9 rfl) rfl rfl ?_
      refine G_iload_n (pc := 12) 3 X (dg dt_Q_reachesAll 10 rfl) rfl rfl ?_
      refine G_imul (pc := 13) X (dg dt_Q_reachesAll 11 rfl) ?_
      refine G_iload_n (pc := 14) 1 X (dg dt_Q_reachesAll 12 rfl) rfl rfl ?_
      obtain ⟨r_2, hc_1, h⟩ := cap_go h
      refine G_callS (pc := 15) (S := [.int 1, .int v2]) [.int (v0 * v3), .int v1] nosub X  (dg dt_Q_reachesAll 13 rfl) cb_Q_remainder w_330 w_329 (s_Q_remainder _ ad _ _ _ hc_1) rfl ⟨Nat.le_of_ble_eq_true rfl, Nat.le_of_ble_eq_true rfl⟩  (Nat.le_of_ble_eq_true rfl) Rc0 ?_
      refine G_ishl (pc := 18) X (dg dt_Q_reachesAll 14 rfl) ?_
      refine G_ior (pc := 19) X (dg dt_Q_reachesAll 15 rfl) ?_
      refine G_istore_n_lt (pc := 20) 2 X (dg dt_Q_reachesAll 16 rfl) rfl (Nat.le_of_ble_eq_true rfl) rfl h (fun v2_3 h => ?_)
      refine G_iinc (pc := 21) (v3 + 1) X (dg dt_Q_reachesAll 17 rfl) rfl (Nat.le_of_ble_eq_true rfl) rfl rfl ?_
      refine G_goto (pc := 24) 4 X (dg dt_Q_reachesAll 18 rfl) (by decide) ?_
      exact G_wk (ih v2_3 (v3 + 1) h) ⟨rfl, ⟨rfl, ⟨rfl, ⟨rfl, trivial⟩⟩⟩⟩
set_option maxRecDepth 100000 in
set_option maxHeartbeats 4000000 in
theorem s_Q_reachesAll (l : Launch) (ad : Nat → Nat) (σ : St) (v0 : Int32) (v1 : Int32)  {rv : Int32} (h : f_Q_reachesAll σ v0 v1 = some rv) : Rt l [] yX11_reachesAll cX11_reachesAll 4 (some .boolean) 1 21 (g_SH, ad) [.int v0, .int v1] σ (some (.int rv)) σ := by
  refine Rt.intro (L := [some (.int v0), some (.int v1), none, none]) (by decide +kernel) (Nat.le_of_ble_eq_true rfl) rfl (fun θ hl X hq => ?_)
  subst hl
  unfold f_Q_reachesAll at h
  refine G_iconst (pc := 0) 0 X (dg dt_Q_reachesAll 0 rfl) (by decide) ?_
  refine G_istore_n (pc := 1) 2 X (dg dt_Q_reachesAll 1 rfl) rfl (Nat.le_of_ble_eq_true rfl) rfl ?_
  refine G_iconst (pc := 2) 0 X (dg dt_Q_reachesAll 2 rfl) (by decide) ?_
  refine G_istore_n (pc := 3) 3 X (dg dt_Q_reachesAll 3 rfl) rfl (Nat.le_of_ble_eq_true rfl) rfl ?_
  refine G_weak (L' := [some (.int v0), some (.int v1), some (.int 0), some (.int 0)]) ⟨rfl, ⟨rfl, ⟨rfl, ⟨rfl, trivial⟩⟩⟩⟩ ?_
  refine s_Q_reachesAll_L4  X hq  (fun v2_4 h => ?_) _ _ _ h
  refine G_iload_n (pc := 27) 2 X (dg dt_Q_reachesAll 19 rfl) rfl rfl ?_
  refine G_iconst (pc := 28) 1 X (dg dt_Q_reachesAll 20 rfl) (by decide) ?_
  refine G_iload_n (pc := 29) 1 X (dg dt_Q_reachesAll 21 rfl) rfl rfl ?_
  refine G_ishl (pc := 30) X (dg dt_Q_reachesAll 22 rfl) ?_
  refine G_iconst (pc := 31) 1 X (dg dt_Q_reachesAll 23 rfl) (by decide) ?_
  refine G_isub (pc := 32) X (dg dt_Q_reachesAll 24 rfl) ?_
  refine G_icmp_ne (pc := 33) 40 X (dg dt_Q_reachesAll 25 rfl) (by decide) h (fun h => ?_) (fun h => ?_)
  · refine G_iconst (pc := 40) 0 X (dg dt_Q_reachesAll 28 rfl) (by decide) ?_
    exact G_zretlp (pc := 41) X hq (dg dt_Q_reachesAll 29 rfl) rfl h
  · refine G_iconst (pc := 36) 1 X (dg dt_Q_reachesAll 26 rfl) (by decide) ?_
    refine G_goto (pc := 37) 41 X (dg dt_Q_reachesAll 27 rfl) (by decide) ?_
    exact G_zretlp (pc := 41) X hq (dg dt_Q_reachesAll 29 rfl) rfl h
set_option maxRecDepth 100000 in
set_option maxHeartbeats 4000000 in
theorem s_Q_linear_L88 {θ : Th} {ad : Nat → Nat} (htr : θ.2.1.stackTraces = false) {rv : Except Nat Int32} {σe : St} (X : Cx θ g_strs cX11_linear 8 "Quasigrove" 7 122)
    {v1 : Int32} {v2 : Int32} {v3 : Int32} {v4 : Int32} {v5 : Nat} {v6 : Int32} (hq : Xq θ (g_SH, ad) (some .int) (xi rv) σe) (hg_v5 : gok v5) {kx125 : St → Option (Except Nat Int32 × St)} (hkx125 : ∀ (σ : St), kx125 σ = some (rv, σe) → G θ (0, 0) (g_SH, ad) σ 125 [some (.ref (ad 0)), some (.int v1), some (.int v2), some (.int v3), some (.int v4), some (.ref (ad v5)), some (.int v6), none] []) :
    ∀ (n : Nat) (v7 : Int32) (σ : St), f_Q_linear_L88 v1 v2 v3 v4 v5 v6 kx125 n v7 σ = some (rv, σe) → G θ (0, 0) (g_SH, ad) σ 88 [some (.ref (ad 0)), some (.int v1), some (.int v2), some (.int v3), some (.int v4), some (.ref (ad v5)), some (.int v6), some (.int v7)] [] := by
  intro n
  induction n with
  | zero => intro v7 σ h; rw [f_Q_linear_L88] at h; cases h
  | succ n ih =>
    intro v7 σ h
    rw [f_Q_linear_L88] at h
    refine G_iload (pc := 88) X (dg dt_Q_linear 47 rfl) rfl ?_
    refine G_iload_n (pc := 90) 1 X (dg dt_Q_linear 48 rfl) rfl rfl ?_
    refine G_icmp_ge (pc := 91) 125 X (dg dt_Q_linear 49 rfl) (by decide) h (fun h => ?_) (fun h => ?_)
    · exact G_wk (hkx125 σ h) ⟨rfl, ⟨rfl, ⟨rfl, ⟨rfl, ⟨rfl, ⟨rfl, ⟨rfl, trivial⟩⟩⟩⟩⟩⟩⟩
    · refine G_aload (pc := 94) X (dg dt_Q_linear 50 rfl) rfl ?_
      refine G_iload (pc := 96) X (dg dt_Q_linear 51 rfl) rfl ?_
      refine G_iload (pc := 98) X (dg dt_Q_linear 52 rfl) rfl ?_
      refine G_iload_n (pc := 100) 2 X (dg dt_Q_linear 53 rfl) rfl rfl ?_
      refine G_iload (pc := 101) X (dg dt_Q_linear 54 rfl) rfl ?_
      refine G_imul (pc := 103) X (dg dt_Q_linear 55 rfl) ?_
      refine G_iload_n (pc := 104) 3 X (dg dt_Q_linear 56 rfl) rfl rfl ?_
      refine G_iload (pc := 105) X (dg dt_Q_linear 57 rfl) rfl ?_
      refine G_imul (pc := 107) X (dg dt_Q_linear 58 rfl) ?_
      refine G_iadd (pc := 108) X (dg dt_Q_linear 59 rfl) ?_
      refine G_iload (pc := 109) X (dg dt_Q_linear 60 rfl) rfl ?_
      refine G_iadd (pc := 111) X (dg dt_Q_linear 61 rfl) ?_
      refine G_iload_n (pc := 112) 1 X (dg dt_Q_linear 62 rfl) rfl rfl ?_
      obtain ⟨r_24, hc_23, h⟩ := cap_go h
      refine G_callS (pc := 113) (S := [.int v7, .int v6, .ref (ad v5)]) [.int (((v2 * v6) + (v3 * v7)) + v4), .int v1] nosub X  (dg dt_Q_linear 63 rfl) cb_Q_remainder w_330 w_329 (s_Q_remainder _ ad _ _ _ hc_23) rfl ⟨Nat.le_of_ble_eq_true rfl, Nat.le_of_ble_eq_true rfl⟩  (Nat.le_of_ble_eq_true rfl) Rc0 ?_
      obtain ⟨r_26, σ_27, hc_25, h⟩ := cal_go h
      refine G_callV (pc := 116) (S := []) [.int v6, .int v7, .int r_24] nosub X  (dg dt_Q_linear 64 rfl) cb_Grid_set cv_Grid_set w_332 (s_Grid_set _ ad _ _ _ _ _ hg_v5 hc_25) rfl ⟨Nat.le_of_ble_eq_true rfl, Nat.le_of_ble_eq_true rfl⟩ (sh_g hg_v5) rfl (Nat.le_of_ble_eq_true rfl) Rc0 ?_
      refine G_iinc (pc := 119) (v7 + 1) X (dg dt_Q_linear 65 rfl) rfl (Nat.le_of_ble_eq_true rfl) rfl rfl ?_
      refine G_goto (pc := 122) 88 X (dg dt_Q_linear 66 rfl) (by decide) ?_
      exact G_wk (ih (v7 + 1) σ_27 h) ⟨rfl, ⟨rfl, ⟨rfl, ⟨rfl, ⟨rfl, ⟨rfl, ⟨rfl, ⟨rfl, trivial⟩⟩⟩⟩⟩⟩⟩⟩
set_option maxRecDepth 100000 in
set_option maxHeartbeats 4000000 in
theorem s_Q_linear_L79 {θ : Th} {ad : Nat → Nat} (htr : θ.2.1.stackTraces = false) {rv : Except Nat Int32} {σe : St} (X : Cx θ g_strs cX11_linear 8 "Quasigrove" 7 122)
    {v1 : Int32} {v2 : Int32} {v3 : Int32} {v4 : Int32} {v5 : Nat} (hq : Xq θ (g_SH, ad) (some .int) (xi rv) σe) (hg_v5 : gok v5) {kx131 : St → Option (Except Nat Int32 × St)} (hkx131 : ∀ (σ : St), kx131 σ = some (rv, σe) → G θ (0, 0) (g_SH, ad) σ 131 [some (.ref (ad 0)), none, none, none, none, none, none, none] []) :
    ∀ (n : Nat) (v6 : Int32) (σ : St), f_Q_linear_L79 v1 v2 v3 v4 v5 kx131 n v6 σ = some (rv, σe) → G θ (0, 0) (g_SH, ad) σ 79 [some (.ref (ad 0)), some (.int v1), some (.int v2), some (.int v3), some (.int v4), some (.ref (ad v5)), some (.int v6), none] [] := by
  intro n
  induction n with
  | zero => intro v6 σ h; rw [f_Q_linear_L79] at h; cases h
  | succ n ih =>
    intro v6 σ h
    rw [f_Q_linear_L79] at h
    refine G_iload (pc := 79) X (dg dt_Q_linear 42 rfl) rfl ?_
    refine G_iload_n (pc := 81) 1 X (dg dt_Q_linear 43 rfl) rfl rfl ?_
    refine G_icmp_ge (pc := 82) 131 X (dg dt_Q_linear 44 rfl) (by decide) h (fun h => ?_) (fun h => ?_)
    · exact G_wk (hkx131 σ h) ⟨rfl, trivial⟩
    · refine G_iconst (pc := 85) 0 X (dg dt_Q_linear 45 rfl) (by decide) ?_
      refine G_istore (pc := 86) X (dg dt_Q_linear 46 rfl) (Nat.le_of_ble_eq_true rfl) rfl ?_
      refine G_weak (L' := [some (.ref (ad 0)), some (.int v1), some (.int v2), some (.int v3), some (.int v4), some (.ref (ad v5)), some (.int v6), some (.int 0)]) ⟨rfl, ⟨rfl, ⟨rfl, ⟨rfl, ⟨rfl, ⟨rfl, ⟨rfl, ⟨rfl, trivial⟩⟩⟩⟩⟩⟩⟩⟩ ?_
      refine s_Q_linear_L88 htr X hq hg_v5 (fun σ_28 h => ?_) _ _ _ h
      refine G_iinc (pc := 125) (v6 + 1) X (dg dt_Q_linear 67 rfl) rfl (Nat.le_of_ble_eq_true rfl) rfl rfl ?_
      refine G_goto (pc := 128) 79 X (dg dt_Q_linear 68 rfl) (by decide) ?_
      exact G_wk (ih (v6 + 1) σ_28 h) ⟨rfl, ⟨rfl, ⟨rfl, ⟨rfl, ⟨rfl, ⟨rfl, ⟨rfl, trivial⟩⟩⟩⟩⟩⟩⟩
set_option maxRecDepth 100000 in
set_option maxHeartbeats 4000000 in
theorem s_Q_linear {l : Launch} (htr : l.stackTraces = false) (_ : Unit) (ad : Nat → Nat) (σ : St) (v1 : Int32) (v2 : Int32) (v3 : Int32) (v4 : Int32)  {rv : Except Nat Int32} {σe : St} (h : f_Q_linear σ v1 v2 v3 v4 = some (rv, σe)) : RX l g_strs yX11_linear cX11_linear 8 (some .int) 7 122 (g_SH, ad) [.ref (ad 0), .int v1, .int v2, .int v3, .int v4] σ (xi rv) σe := by
  refine RX.intro htr (L := [some (.ref (ad 0)), some (.int v1), some (.int v2), some (.int v3), some (.int v4), none, none, none]) (by decide +kernel) (Nat.le_of_ble_eq_true rfl) rfl (fun θ hl X hq => ?_)
  subst hl
  unfold f_Q_linear at h
  refine G_iload_n (pc := 0) 1 X (dg dt_Q_linear 0 rfl) rfl rfl ?_
  refine G_iconst (pc := 1) 2 X (dg dt_Q_linear 1 rfl) (by decide) ?_
  refine G_iconst (pc := 2) 5 X (dg dt_Q_linear 2 rfl) (by decide) ?_
  obtain ⟨r_2, hc_1, h⟩ := cap_go h
  refine G_callS (pc := 3) (S := []) [.int v1, .int 2, .int 5] nosub X  (dg dt_Q_linear 3 rfl) cb_Q_isFrom w_219 w_218 (s_Q_isFrom _ ad _ _ _ _ hc_1) rfl ⟨Nat.le_of_ble_eq_true rfl, Nat.le_of_ble_eq_true rfl⟩  (Nat.le_of_ble_eq_true rfl) Rc0 ?_
  refine cax_go h (fun ex hc_3 hex => by subst hex; exact G_callSX (pc := 6) (S := []) [.int r_2] (fun _ h => h) X hq (dg dt_Q_linear 4 rfl) cb_Q_needArgument w_222 w_221 (s_Q_needArgument htr () ad _ _ hc_3) rfl ⟨Nat.le_of_ble_eq_true rfl, Nat.le_of_ble_eq_true rfl⟩  (Nat.le_of_ble_eq_true rfl)) (fun r_4 σ_5 hc_3 h => ?_)
  refine G_callS (pc := 6) (S := []) [.int r_2] (fun _ h => h) X  (dg dt_Q_linear 4 rfl) cb_Q_needArgument w_222 w_221 (s_Q_needArgument htr () ad _ _ hc_3) rfl ⟨Nat.le_of_ble_eq_true rfl, Nat.le_of_ble_eq_true rfl⟩  (Nat.le_of_ble_eq_true rfl) Rc0 ?_
  refine G_iload_n (pc := 9) 2 X (dg dt_Q_linear 5 rfl) rfl rfl ?_
  refine G_iconst (pc := 10) 0 X (dg dt_Q_linear 6 rfl) (by decide) ?_
  refine G_iconst (pc := 11) 4 X (dg dt_Q_linear 7 rfl) (by decide) ?_
  obtain ⟨r_7, hc_6, h⟩ := cap_go h
  refine G_callS (pc := 12) (S := []) [.int v2, .int 0, .int 4] nosub X  (dg dt_Q_linear 8 rfl) cb_Q_isFrom w_219 w_218 (s_Q_isFrom _ ad _ _ _ _ hc_6) rfl ⟨Nat.le_of_ble_eq_true rfl, Nat.le_of_ble_eq_true rfl⟩  (Nat.le_of_ble_eq_true rfl) Rc0 ?_
  refine jn_go (fun j42_8 => ∀ (s_9 : Int32), j42_8 s_9 = some (rv, σe) → G θ (0, 0) (g_SH, ad) σ_5 42 [some (.ref (ad 0)), some (.int v1), some (.int v2), some (.int v3), some (.int v4), none, none, none] [.int s_9]) h ?_ (fun j42_8 hj42_8 h => ?_)
  · intro s_9 h
    refine cax_go h (fun ex hc_10 hex => by subst hex; exact G_callSX (pc := 42) (S := []) [.int s_9] (fun _ h => h) X hq (dg dt_Q_linear 23 rfl) cb_Q_needArgument w_222 w_221 (s_Q_needArgument htr () ad _ _ hc_10) rfl ⟨Nat.le_of_ble_eq_true rfl, Nat.le_of_ble_eq_true rfl⟩  (Nat.le_of_ble_eq_true rfl)) (fun r_11 σ_12 hc_10 h => ?_)
    refine G_callS (pc := 42) (S := []) [.int s_9] (fun _ h => h) X  (dg dt_Q_linear 23 rfl) cb_Q_needArgument w_222 w_221 (s_Q_needArgument htr () ad _ _ hc_10) rfl ⟨Nat.le_of_ble_eq_true rfl, Nat.le_of_ble_eq_true rfl⟩  (Nat.le_of_ble_eq_true rfl) Rc0 ?_
    refine G_iload_n (pc := 45) 2 X (dg dt_Q_linear 24 rfl) rfl rfl ?_
    refine G_iload_n (pc := 46) 1 X (dg dt_Q_linear 25 rfl) rfl rfl ?_
    obtain ⟨r_14, hc_13, h⟩ := cap_go h
    refine G_callS (pc := 47) (S := []) [.int v2, .int v1] nosub X  (dg dt_Q_linear 26 rfl) cb_Q_reachesAll w_327 w_326 (s_Q_reachesAll _ ad _ _ _ hc_13) rfl ⟨Nat.le_of_ble_eq_true rfl, Nat.le_of_ble_eq_true rfl⟩  (Nat.le_of_ble_eq_true rfl) Rc0 ?_
    refine jn_go (fun j66_15 => ∀ (s_16 : Int32), j66_15 s_16 = some (rv, σe) → G θ (0, 0) (g_SH, ad) σ_12 66 [some (.ref (ad 0)), some (.int v1), some (.int v2), some (.int v3), some (.int v4), none, none, none] [.int s_16]) h ?_ (fun j66_15 hj66_15 h => ?_)
    · intro s_16 h
      refine cax_go h (fun ex hc_17 hex => by subst hex; exact G_callSX (pc := 66) (S := []) [.int s_16] (fun _ h => h) X hq (dg dt_Q_linear 35 rfl) cb_Q_needArgument w_222 w_221 (s_Q_needArgument htr () ad _ _ hc_17) rfl ⟨Nat.le_of_ble_eq_true rfl, Nat.le_of_ble_eq_true rfl⟩  (Nat.le_of_ble_eq_true rfl)) (fun r_18 σ_19 hc_17 h => ?_)
      refine G_callS (pc := 66) (S := []) [.int s_16] (fun _ h => h) X  (dg dt_Q_linear 35 rfl) cb_Q_needArgument w_222 w_221 (s_Q_needArgument htr () ad _ _ hc_17) rfl ⟨Nat.le_of_ble_eq_true rfl, Nat.le_of_ble_eq_true rfl⟩  (Nat.le_of_ble_eq_true rfl) Rc0 ?_
      refine G_aload_n (pc := 69) 0 X (dg dt_Q_linear 36 rfl) rfl rfl ?_
      refine G_iload_n (pc := 70) 1 X (dg dt_Q_linear 37 rfl) rfl rfl ?_
      refine cax_go h (fun ex hc_20 hex => by subst hex; exact G_callVX (pc := 71) (S := []) [.int v1] (fun _ h => h) X hq (dg dt_Q_linear 38 rfl) cb_Q_newGrid cv_Q_newGrid w_292 (s_Q_newGrid htr () ad _ _ hc_20) rfl ⟨Nat.le_of_ble_eq_true rfl, Nat.le_of_ble_eq_true rfl⟩ sh_0 rfl (Nat.le_of_ble_eq_true rfl)) (fun r_21 σ_22 hc_20 h => ?_)
      have hg_r_21 := gk_of_Q_newGrid hc_20
      refine G_callV (pc := 71) (S := []) [.int v1] (fun _ h => h) X  (dg dt_Q_linear 38 rfl) cb_Q_newGrid cv_Q_newGrid w_292 (s_Q_newGrid htr () ad _ _ hc_20) rfl ⟨Nat.le_of_ble_eq_true rfl, Nat.le_of_ble_eq_true rfl⟩ sh_0 rfl (Nat.le_of_ble_eq_true rfl) Rc0 ?_
      refine G_astore (pc := 74) X (dg dt_Q_linear 39 rfl) (Nat.le_of_ble_eq_true rfl) rfl ?_
      refine G_iconst (pc := 76) 0 X (dg dt_Q_linear 40 rfl) (by decide) ?_
      refine G_istore (pc := 77) X (dg dt_Q_linear 41 rfl) (Nat.le_of_ble_eq_true rfl) rfl ?_
      refine G_weak (L' := [some (.ref (ad 0)), some (.int v1), some (.int v2), some (.int v3), some (.int v4), some (.ref (ad r_21)), some (.int 0), none]) ⟨rfl, ⟨rfl, ⟨rfl, ⟨rfl, ⟨rfl, ⟨rfl, ⟨rfl, trivial⟩⟩⟩⟩⟩⟩⟩ ?_
      refine s_Q_linear_L79 htr X hq hg_r_21 (fun σ_29 h => ?_) _ _ _ h
      refine G_aload_n (pc := 131) 0 X (dg dt_Q_linear 69 rfl) rfl rfl ?_
      refine G_getI (pc := 132) 8 X (dg dt_Q_linear 70 rfl) fc_7 w_194 rfl (Nat.le_of_ble_eq_true rfl) sh_0 rfl ?_
      refine G_iconst (pc := 135) 1 X (dg dt_Q_linear 71 rfl) (by decide) ?_
      refine G_isub (pc := 136) X (dg dt_Q_linear 72 rfl) ?_
      exact G_xiret (pc := 137) X hq (dg dt_Q_linear 73 rfl) h
    refine jn_go (fun j65_30 => j65_30 = some (rv, σe) → G θ (0, 0) (g_SH, ad) σ_12 65 [some (.ref (ad 0)), some (.int v1), some (.int v2), some (.int v3), some (.int v4), none, none, none] []) h ?_ (fun j65_30 hj65_30 h => ?_)
    · intro  h
      refine G_iconst (pc := 65) 0 X (dg dt_Q_linear 34 rfl) (by decide) ?_
      exact G_wk (hj66_15 0 h) ⟨rfl, ⟨rfl, ⟨rfl, ⟨rfl, ⟨rfl, trivial⟩⟩⟩⟩⟩
    refine G_if_eq (pc := 50) 65 X (dg dt_Q_linear 27 rfl) (by decide) h (fun h => ?_) (fun h => ?_)
    · exact G_wk (hj65_30  h) ⟨rfl, ⟨rfl, ⟨rfl, ⟨rfl, ⟨rfl, trivial⟩⟩⟩⟩⟩
    · refine G_iload_n (pc := 53) 3 X (dg dt_Q_linear 28 rfl) rfl rfl ?_
      refine G_iload_n (pc := 54) 1 X (dg dt_Q_linear 29 rfl) rfl rfl ?_
      obtain ⟨r_32, hc_31, h⟩ := cap_go h
      refine G_callS (pc := 55) (S := []) [.int v3, .int v1] nosub X  (dg dt_Q_linear 30 rfl) cb_Q_reachesAll w_327 w_326 (s_Q_reachesAll _ ad _ _ _ hc_31) rfl ⟨Nat.le_of_ble_eq_true rfl, Nat.le_of_ble_eq_true rfl⟩  (Nat.le_of_ble_eq_true rfl) Rc0 ?_
      refine G_if_eq (pc := 58) 65 X (dg dt_Q_linear 31 rfl) (by decide) h (fun h => ?_) (fun h => ?_)
      · exact G_wk (hj65_30  h) ⟨rfl, ⟨rfl, ⟨rfl, ⟨rfl, ⟨rfl, trivial⟩⟩⟩⟩⟩
      · refine G_iconst (pc := 61) 1 X (dg dt_Q_linear 32 rfl) (by decide) ?_
        refine G_goto (pc := 62) 66 X (dg dt_Q_linear 33 rfl) (by decide) ?_
        exact G_wk (hj66_15 1 h) ⟨rfl, ⟨rfl, ⟨rfl, ⟨rfl, ⟨rfl, trivial⟩⟩⟩⟩⟩
  refine jn_go (fun j41_33 => j41_33 = some (rv, σe) → G θ (0, 0) (g_SH, ad) σ_5 41 [some (.ref (ad 0)), some (.int v1), some (.int v2), some (.int v3), some (.int v4), none, none, none] []) h ?_ (fun j41_33 hj41_33 h => ?_)
  · intro  h
    refine G_iconst (pc := 41) 0 X (dg dt_Q_linear 22 rfl) (by decide) ?_
    exact G_wk (hj42_8 0 h) ⟨rfl, ⟨rfl, ⟨rfl, ⟨rfl, ⟨rfl, trivial⟩⟩⟩⟩⟩
  refine G_if_eq (pc := 15) 41 X (dg dt_Q_linear 9 rfl) (by decide) h (fun h => ?_) (fun h => ?_)
  · exact G_wk (hj41_33  h) ⟨rfl, ⟨rfl, ⟨rfl, ⟨rfl, ⟨rfl, trivial⟩⟩⟩⟩⟩
  · refine G_iload_n (pc := 18) 3 X (dg dt_Q_linear 10 rfl) rfl rfl ?_
    refine G_iconst (pc := 19) 0 X (dg dt_Q_linear 11 rfl) (by decide) ?_
    refine G_iconst (pc := 20) 4 X (dg dt_Q_linear 12 rfl) (by decide) ?_
    obtain ⟨r_35, hc_34, h⟩ := cap_go h
    refine G_callS (pc := 21) (S := []) [.int v3, .int 0, .int 4] nosub X  (dg dt_Q_linear 13 rfl) cb_Q_isFrom w_219 w_218 (s_Q_isFrom _ ad _ _ _ _ hc_34) rfl ⟨Nat.le_of_ble_eq_true rfl, Nat.le_of_ble_eq_true rfl⟩  (Nat.le_of_ble_eq_true rfl) Rc0 ?_
    refine G_if_eq (pc := 24) 41 X (dg dt_Q_linear 14 rfl) (by decide) h (fun h => ?_) (fun h => ?_)
    · exact G_wk (hj41_33  h) ⟨rfl, ⟨rfl, ⟨rfl, ⟨rfl, ⟨rfl, trivial⟩⟩⟩⟩⟩
    · refine G_iload (pc := 27) X (dg dt_Q_linear 15 rfl) rfl ?_
      refine G_iconst (pc := 29) 0 X (dg dt_Q_linear 16 rfl) (by decide) ?_
      refine G_iconst (pc := 30) 4 X (dg dt_Q_linear 17 rfl) (by decide) ?_
      obtain ⟨r_37, hc_36, h⟩ := cap_go h
      refine G_callS (pc := 31) (S := []) [.int v4, .int 0, .int 4] nosub X  (dg dt_Q_linear 18 rfl) cb_Q_isFrom w_219 w_218 (s_Q_isFrom _ ad _ _ _ _ hc_36) rfl ⟨Nat.le_of_ble_eq_true rfl, Nat.le_of_ble_eq_true rfl⟩  (Nat.le_of_ble_eq_true rfl) Rc0 ?_
      refine G_if_eq (pc := 34) 41 X (dg dt_Q_linear 19 rfl) (by decide) h (fun h => ?_) (fun h => ?_)
      · exact G_wk (hj41_33  h) ⟨rfl, ⟨rfl, ⟨rfl, ⟨rfl, ⟨rfl, trivial⟩⟩⟩⟩⟩
      · refine G_iconst (pc := 37) 1 X (dg dt_Q_linear 20 rfl) (by decide) ?_
        refine G_goto (pc := 38) 42 X (dg dt_Q_linear 21 rfl) (by decide) ?_
        exact G_wk (hj42_8 1 h) ⟨rfl, ⟨rfl, ⟨rfl, ⟨rfl, ⟨rfl, trivial⟩⟩⟩⟩⟩
set_option maxRecDepth 100000 in
set_option maxHeartbeats 4000000 in
theorem s_Q_grid {l : Launch} (htr : l.stackTraces = false) (_ : Unit) (ad : Nat → Nat) (σ : St) (v1 : Int32)  {rv : Except Nat Int32} {σe : St} (h : f_Q_grid σ v1 = some (rv, σe)) : RX l g_strs yX11_grid cX11_grid 2 (some .int) 7 122 (g_SH, ad) [.ref (ad 0), .int v1] σ (xi rv) σe := by
  refine RX.intro htr (L := [some (.ref (ad 0)), some (.int v1)]) (by decide +kernel) (Nat.le_of_ble_eq_true rfl) rfl (fun θ hl X hq => ?_)
  subst hl
  unfold f_Q_grid at h
  refine G_iload_n (pc := 0) 1 X (dg dt_Q_grid 0 rfl) rfl rfl ?_
  refine G_iconst (pc := 1) 2 X (dg dt_Q_grid 1 rfl) (by decide) ?_
  refine G_iconst (pc := 2) 5 X (dg dt_Q_grid 2 rfl) (by decide) ?_
  obtain ⟨r_2, hc_1, h⟩ := cap_go h
  refine G_callS (pc := 3) (S := []) [.int v1, .int 2, .int 5] nosub X  (dg dt_Q_grid 3 rfl) cb_Q_isFrom w_219 w_218 (s_Q_isFrom _ ad _ _ _ _ hc_1) rfl ⟨Nat.le_of_ble_eq_true rfl, Nat.le_of_ble_eq_true rfl⟩  (Nat.le_of_ble_eq_true rfl) Rc0 ?_
  refine cax_go h (fun ex hc_3 hex => by subst hex; exact G_callSX (pc := 6) (S := []) [.int r_2] (fun _ h => h) X hq (dg dt_Q_grid 4 rfl) cb_Q_needArgument w_222 w_221 (s_Q_needArgument htr () ad _ _ hc_3) rfl ⟨Nat.le_of_ble_eq_true rfl, Nat.le_of_ble_eq_true rfl⟩  (Nat.le_of_ble_eq_true rfl)) (fun r_4 σ_5 hc_3 h => ?_)
  refine G_callS (pc := 6) (S := []) [.int r_2] (fun _ h => h) X  (dg dt_Q_grid 4 rfl) cb_Q_needArgument w_222 w_221 (s_Q_needArgument htr () ad _ _ hc_3) rfl ⟨Nat.le_of_ble_eq_true rfl, Nat.le_of_ble_eq_true rfl⟩  (Nat.le_of_ble_eq_true rfl) Rc0 ?_
  refine G_aload_n (pc := 9) 0 X (dg dt_Q_grid 5 rfl) rfl rfl ?_
  refine G_iload_n (pc := 10) 1 X (dg dt_Q_grid 6 rfl) rfl rfl ?_
  refine cax_go h (fun ex hc_6 hex => by subst hex; exact G_callVX (pc := 11) (S := []) [.int v1] (fun _ h => h) X hq (dg dt_Q_grid 7 rfl) cb_Q_newGrid cv_Q_newGrid w_292 (s_Q_newGrid htr () ad _ _ hc_6) rfl ⟨Nat.le_of_ble_eq_true rfl, Nat.le_of_ble_eq_true rfl⟩ sh_0 rfl (Nat.le_of_ble_eq_true rfl)) (fun r_7 σ_8 hc_6 h => ?_)
  have hg_r_7 := gk_of_Q_newGrid hc_6
  refine G_callV (pc := 11) (S := []) [.int v1] (fun _ h => h) X  (dg dt_Q_grid 7 rfl) cb_Q_newGrid cv_Q_newGrid w_292 (s_Q_newGrid htr () ad _ _ hc_6) rfl ⟨Nat.le_of_ble_eq_true rfl, Nat.le_of_ble_eq_true rfl⟩ sh_0 rfl (Nat.le_of_ble_eq_true rfl) Rc0 ?_
  refine G_pop (pc := 14) X (dg dt_Q_grid 8 rfl) rfl ?_
  refine G_aload_n (pc := 15) 0 X (dg dt_Q_grid 9 rfl) rfl rfl ?_
  refine G_getI (pc := 16) 8 X (dg dt_Q_grid 10 rfl) fc_7 w_194 rfl (Nat.le_of_ble_eq_true rfl) sh_0 rfl ?_
  refine G_iconst (pc := 19) 1 X (dg dt_Q_grid 11 rfl) (by decide) ?_
  refine G_isub (pc := 20) X (dg dt_Q_grid 12 rfl) ?_
  exact G_xiret (pc := 21) X hq (dg dt_Q_grid 13 rfl) h
end
section
set_option maxRecDepth 100000 in
set_option maxHeartbeats 4000000 in
theorem s_L_set_L19 {θ : Th} {ad : Nat → Nat}  {rv : Int32} (X : Cx θ [] cL_set 7 "QuasigroveLaw" 0 0)
    {v0 : Nat} {v1 : Int32} {v2 : Int32} {σ : St} (hq : Rq θ (g_SH, ad) (some .int) (some (.int rv)) σ) (hg_v0 : aok v0) {kx91 : Int32 → Option Int32} (hkx91 : ∀ (v3 : Int32), kx91 v3 = some rv → G θ (0, 0) (g_SH, ad) σ 91 [none, none, none, some (.int v3), none, none, none] []) :
    ∀ (n : Nat) (v3 : Int32) (v4 : Int32), f_L_set_L19 v0 v1 v2 σ kx91 n v3 v4 = some rv → G θ (0, 0) (g_SH, ad) σ 19 [some (.ref (ad v0)), some (.int v1), some (.int v2), some (.int v3), some (.int v4), none, none] [] := by
  intro n
  induction n with
  | zero => intro v3 v4 h; rw [f_L_set_L19] at h; cases h
  | succ n ih =>
    intro v3 v4 h
    rw [f_L_set_L19] at h
    refine G_iload (pc := 19) X (dg dt_L_set 14 rfl) rfl ?_
    refine G_iload_n (pc := 21) 1 X (dg dt_L_set 15 rfl) rfl rfl ?_
    refine G_icmp_ge (pc := 22) 91 X (dg dt_L_set 16 rfl) (by decide) h (fun h => ?_) (fun h => ?_)
    · exact G_wk (hkx91 v3 h) ⟨rfl, trivial⟩
    · refine G_aload_n (pc := 25) 0 X (dg dt_L_set 17 rfl) rfl rfl ?_
      refine G_iload_n (pc := 26) 2 X (dg dt_L_set 18 rfl) rfl rfl ?_
      refine G_iload_n (pc := 27) 1 X (dg dt_L_set 19 rfl) rfl rfl ?_
      refine G_idiv (pc := 28) X (dg dt_L_set 20 rfl) h (fun q_4 h => ?_)
      refine G_iload_n (pc := 29) 1 X (dg dt_L_set 21 rfl) rfl rfl ?_
      refine G_imul (pc := 30) X (dg dt_L_set 22 rfl) ?_
      refine G_iload (pc := 31) X (dg dt_L_set 23 rfl) rfl ?_
      refine G_iadd (pc := 33) X (dg dt_L_set 24 rfl) ?_
      refine G_iald (pc := 34) X (dg dt_L_set 25 rfl) (sh_a hg_v0) h (fun r_5 h => ?_)
      refine G_istore (pc := 35) X (dg dt_L_set 26 rfl) (Nat.le_of_ble_eq_true rfl) rfl ?_
      refine G_aload_n (pc := 37) 0 X (dg dt_L_set 27 rfl) rfl rfl ?_
      refine G_iload_n (pc := 38) 1 X (dg dt_L_set 28 rfl) rfl rfl ?_
      refine G_iload (pc := 39) X (dg dt_L_set 29 rfl) rfl ?_
      refine G_imul (pc := 41) X (dg dt_L_set 30 rfl) ?_
      refine G_iload_n (pc := 42) 2 X (dg dt_L_set 31 rfl) rfl rfl ?_
      refine G_iload_n (pc := 43) 1 X (dg dt_L_set 32 rfl) rfl rfl ?_
      refine G_irem (pc := 44) X (dg dt_L_set 33 rfl) h (fun q_6 h => ?_)
      refine G_iadd (pc := 45) X (dg dt_L_set 34 rfl) ?_
      refine G_iald (pc := 46) X (dg dt_L_set 35 rfl) (sh_a hg_v0) h (fun r_7 h => ?_)
      refine G_istore (pc := 47) X (dg dt_L_set 36 rfl) (Nat.le_of_ble_eq_true rfl) rfl ?_
      refine G_iload_n (pc := 49) 3 X (dg dt_L_set 37 rfl) rfl rfl ?_
      refine G_iload (pc := 50) X (dg dt_L_set 38 rfl) rfl ?_
      refine jn_go (fun j65_8 => ∀ (s_9 : Int32), j65_8 s_9 = some rv → G θ (0, 0) (g_SH, ad) σ 65 [some (.ref (ad v0)), some (.int v1), some (.int v2), none, some (.int v4), none, some (.int r_7)] [.int s_9, .int v3]) h ?_ (fun j65_8 hj65_8 h => ?_)
      · intro s_9 h
        refine G_iand (pc := 65) X (dg dt_L_set 47 rfl) ?_
        refine G_istore_n (pc := 66) 3 X (dg dt_L_set 48 rfl) rfl (Nat.le_of_ble_eq_true rfl) rfl ?_
        refine G_iload_n (pc := 67) 3 X (dg dt_L_set 49 rfl) rfl rfl ?_
        refine G_iload (pc := 68) X (dg dt_L_set 50 rfl) rfl ?_
        refine jn_go (fun j83_10 => ∀ (s_11 : Int32), j83_10 s_11 = some rv → G θ (0, 0) (g_SH, ad) σ 83 [some (.ref (ad v0)), some (.int v1), some (.int v2), none, some (.int v4), none, none] [.int s_11, .int (v3 &&& s_9)]) h ?_ (fun j83_10 hj83_10 h => ?_)
        · intro s_11 h
          refine G_iand (pc := 83) X (dg dt_L_set 59 rfl) ?_
          refine G_istore_n_lt (pc := 84) 3 X (dg dt_L_set 60 rfl) rfl (Nat.le_of_ble_eq_true rfl) rfl h (fun v3_12 h => ?_)
          refine G_iinc (pc := 85) (v4 + 1) X (dg dt_L_set 61 rfl) rfl (Nat.le_of_ble_eq_true rfl) rfl rfl ?_
          refine G_goto (pc := 88) 19 X (dg dt_L_set 62 rfl) (by decide) ?_
          exact G_wk (ih v3_12 (v4 + 1) h) ⟨rfl, ⟨rfl, ⟨rfl, ⟨rfl, ⟨rfl, trivial⟩⟩⟩⟩⟩
        refine G_if_ge (pc := 70) 77 X (dg dt_L_set 51 rfl) (by decide) h (fun h => ?_) (fun h => ?_)
        · refine G_iconst (pc := 77) 1 X (dg dt_L_set 54 rfl) (by decide) ?_
          refine G_iload (pc := 78) X (dg dt_L_set 55 rfl) rfl ?_
          refine G_ishl (pc := 80) X (dg dt_L_set 56 rfl) ?_
          refine G_iconst (pc := 81) (-1) X (dg dt_L_set 57 rfl) (by decide) ?_
          refine G_ixor (pc := 82) X (dg dt_L_set 58 rfl) ?_
          exact G_wk (hj83_10 ((1 <<< (r_7 &&& 31)) ^^^ (-1)) h) ⟨rfl, ⟨rfl, ⟨rfl, ⟨rfl, trivial⟩⟩⟩⟩
        · refine G_iload_n (pc := 73) 3 X (dg dt_L_set 52 rfl) rfl rfl ?_
          refine G_goto (pc := 74) 83 X (dg dt_L_set 53 rfl) (by decide) ?_
          exact G_wk (hj83_10 (v3 &&& s_9) h) ⟨rfl, ⟨rfl, ⟨rfl, ⟨rfl, trivial⟩⟩⟩⟩
      refine G_if_ge (pc := 52) 59 X (dg dt_L_set 39 rfl) (by decide) h (fun h => ?_) (fun h => ?_)
      · refine G_iconst (pc := 59) 1 X (dg dt_L_set 42 rfl) (by decide) ?_
        refine G_iload (pc := 60) X (dg dt_L_set 43 rfl) rfl ?_
        refine G_ishl (pc := 62) X (dg dt_L_set 44 rfl) ?_
        refine G_iconst (pc := 63) (-1) X (dg dt_L_set 45 rfl) (by decide) ?_
        refine G_ixor (pc := 64) X (dg dt_L_set 46 rfl) ?_
        exact G_wk (hj65_8 ((1 <<< (r_5 &&& 31)) ^^^ (-1)) h) ⟨rfl, ⟨rfl, ⟨rfl, ⟨rfl, ⟨rfl, trivial⟩⟩⟩⟩⟩
      · refine G_iload_n (pc := 55) 3 X (dg dt_L_set 40 rfl) rfl rfl ?_
        refine G_goto (pc := 56) 65 X (dg dt_L_set 41 rfl) (by decide) ?_
        exact G_wk (hj65_8 v3 h) ⟨rfl, ⟨rfl, ⟨rfl, ⟨rfl, ⟨rfl, trivial⟩⟩⟩⟩⟩
set_option maxRecDepth 100000 in
set_option maxHeartbeats 4000000 in
theorem s_L_set (l : Launch) (ad : Nat → Nat) (σ : St) (v0 : Nat) (v1 : Int32) (v2 : Int32) (hg_v0 : aok v0) {rv : Int32} (h : f_L_set σ v0 v1 v2 = some rv) : Rt l [] yL_set cL_set 7 (some .int) 0 0 (g_SH, ad) [.ref (ad v0), .int v1, .int v2] σ (some (.int rv)) σ := by
  refine Rt.intro (L := [some (.ref (ad v0)), some (.int v1), some (.int v2), none, none, none, none]) (by decide +kernel) (Nat.le_of_ble_eq_true rfl) rfl (fun θ hl X hq => ?_)
  subst hl
  unfold f_L_set at h
  refine G_aload_n (pc := 0) 0 X (dg dt_L_set 0 rfl) rfl rfl ?_
  refine G_iload_n (pc := 1) 2 X (dg dt_L_set 1 rfl) rfl rfl ?_
  refine G_iald (pc := 2) X (dg dt_L_set 2 rfl) (sh_a hg_v0) h (fun r_1 h => ?_)
  refine jn_go (fun j15_2 => ∀ (s_3 : Int32), j15_2 s_3 = some rv → G θ (0, 0) (g_SH, ad) σ 15 [some (.ref (ad v0)), some (.int v1), some (.int v2), none, none, none, none] [.int s_3]) h ?_ (fun j15_2 hj15_2 h => ?_)
  · intro s_3 h
    refine G_istore_n (pc := 15) 3 X (dg dt_L_set 11 rfl) rfl (Nat.le_of_ble_eq_true rfl) rfl ?_
    refine G_iconst (pc := 16) 0 X (dg dt_L_set 12 rfl) (by decide) ?_
    refine G_istore (pc := 17) X (dg dt_L_set 13 rfl) (Nat.le_of_ble_eq_true rfl) rfl ?_
    refine G_weak (L' := [some (.ref (ad v0)), some (.int v1), some (.int v2), some (.int s_3), some (.int 0), none, none]) ⟨rfl, ⟨rfl, ⟨rfl, ⟨rfl, ⟨rfl, trivial⟩⟩⟩⟩⟩ ?_
    refine s_L_set_L19  X hq hg_v0 (fun v3_13 h => ?_) _ _ _ h
    refine G_iload_n (pc := 91) 3 X (dg dt_L_set 63 rfl) rfl rfl ?_
    exact G_iretp (pc := 92) X hq (dg dt_L_set 64 rfl) h
  refine G_if_ge (pc := 3) 14 X (dg dt_L_set 3 rfl) (by decide) h (fun h => ?_) (fun h => ?_)
  · refine G_iconst (pc := 14) 0 X (dg dt_L_set 10 rfl) (by decide) ?_
    exact G_wk (hj15_2 0 h) ⟨rfl, ⟨rfl, ⟨rfl, trivial⟩⟩⟩
  · refine G_iconst (pc := 6) 1 X (dg dt_L_set 4 rfl) (by decide) ?_
    refine G_iload_n (pc := 7) 1 X (dg dt_L_set 5 rfl) rfl rfl ?_
    refine G_ishl (pc := 8) X (dg dt_L_set 6 rfl) ?_
    refine G_iconst (pc := 9) 1 X (dg dt_L_set 7 rfl) (by decide) ?_
    refine G_isub (pc := 10) X (dg dt_L_set 8 rfl) ?_
    refine G_goto (pc := 11) 15 X (dg dt_L_set 9 rfl) (by decide) ?_
    exact G_wk (hj15_2 ((1 <<< (v1 &&& 31)) - 1) h) ⟨rfl, ⟨rfl, ⟨rfl, trivial⟩⟩⟩
set_option maxRecDepth 100000 in
set_option maxHeartbeats 4000000 in
theorem s_L_forced_L34 {θ : Th} {ad : Nat → Nat}  {rv : Int32} (X : Cx θ [] cL_forced 8 "QuasigroveLaw" 1 26)
    {v0 : Nat} {v1 : Int32} {v2 : Int32} {v3 : Int32} {v4 : Int32} {σ : St} (hq : Rq θ (g_SH, ad) (some .int) (some (.int rv)) σ) (hg_v0 : aok v0) {kx92 : Int32 → Int32 → Option Int32} (hkx92 : ∀ (v5 : Int32) (v6 : Int32), kx92 v5 v6 = some rv → G θ (0, 0) (g_SH, ad) σ 92 [some (.ref (ad v0)), some (.int v1), some (.int v2), some (.int v3), some (.int v4), some (.int v5), some (.int v6), none] []) :
    ∀ (n : Nat) (v5 : Int32) (v6 : Int32) (v7 : Int32), f_L_forced_L34 v0 v1 v2 v3 v4 σ kx92 n v5 v6 v7 = some rv → G θ (0, 0) (g_SH, ad) σ 34 [some (.ref (ad v0)), some (.int v1), some (.int v2), some (.int v3), some (.int v4), some (.int v5), some (.int v6), some (.int v7)] [] := by
  intro n
  induction n with
  | zero => intro v5 v6 v7 h; rw [f_L_forced_L34] at h; cases h
  | succ n ih =>
    intro v5 v6 v7 h
    rw [f_L_forced_L34] at h
    refine G_iload (pc := 34) X (dg dt_L_forced 23 rfl) rfl ?_
    refine G_iload_n (pc := 36) 1 X (dg dt_L_forced 24 rfl) rfl rfl ?_
    refine G_icmp_ge (pc := 37) 92 X (dg dt_L_forced 25 rfl) (by decide) h (fun h => ?_) (fun h => ?_)
    · exact G_wk (hkx92 v5 v6 h) ⟨rfl, ⟨rfl, ⟨rfl, ⟨rfl, ⟨rfl, ⟨rfl, ⟨rfl, trivial⟩⟩⟩⟩⟩⟩⟩
    · refine G_iload (pc := 40) X (dg dt_L_forced 26 rfl) rfl ?_
      refine G_aload_n (pc := 42) 0 X (dg dt_L_forced 27 rfl) rfl rfl ?_
      refine G_iload_n (pc := 43) 1 X (dg dt_L_forced 28 rfl) rfl rfl ?_
      refine G_iload_n (pc := 44) 2 X (dg dt_L_forced 29 rfl) rfl rfl ?_
      refine G_iload_n (pc := 45) 1 X (dg dt_L_forced 30 rfl) rfl rfl ?_
      refine G_idiv (pc := 46) X (dg dt_L_forced 31 rfl) h (fun q_3 h => ?_)
      refine G_iload_n (pc := 47) 1 X (dg dt_L_forced 32 rfl) rfl rfl ?_
      refine G_imul (pc := 48) X (dg dt_L_forced 33 rfl) ?_
      refine G_iload (pc := 49) X (dg dt_L_forced 34 rfl) rfl ?_
      refine G_iadd (pc := 51) X (dg dt_L_forced 35 rfl) ?_
      obtain ⟨r_5, hc_4, h⟩ := cap_go h
      refine G_callS (pc := 52) (S := [.int v5]) [.ref (ad v0), .int v1, .int ((q_3 * v1) + v7)] nosub X  (dg dt_L_forced 36 rfl) cb_L_set w_509 w_508 (s_L_set _ ad _ _ _ _ hg_v0 hc_4) rfl ⟨Nat.le_of_ble_eq_true rfl, Nat.le_of_ble_eq_true rfl⟩  (Nat.le_of_ble_eq_true rfl) Rc0 ?_
      refine G_iload (pc := 55) X (dg dt_L_forced 37 rfl) rfl ?_
      refine G_ishr (pc := 57) X (dg dt_L_forced 38 rfl) ?_
      refine G_iconst (pc := 58) 1 X (dg dt_L_forced 39 rfl) (by decide) ?_
      refine G_iand (pc := 59) X (dg dt_L_forced 40 rfl) ?_
      refine G_iadd (pc := 60) X (dg dt_L_forced 41 rfl) ?_
      refine G_istore_lt (pc := 61) X (dg dt_L_forced 42 rfl) (Nat.le_of_ble_eq_true rfl) rfl h (fun v5_6 h => ?_)
      refine G_iload (pc := 63) X (dg dt_L_forced 43 rfl) rfl ?_
      refine G_aload_n (pc := 65) 0 X (dg dt_L_forced 44 rfl) rfl rfl ?_
      refine G_iload_n (pc := 66) 1 X (dg dt_L_forced 45 rfl) rfl rfl ?_
      refine G_iload_n (pc := 67) 1 X (dg dt_L_forced 46 rfl) rfl rfl ?_
      refine G_iload (pc := 68) X (dg dt_L_forced 47 rfl) rfl ?_
      refine G_imul (pc := 70) X (dg dt_L_forced 48 rfl) ?_
      refine G_iload_n (pc := 71) 2 X (dg dt_L_forced 49 rfl) rfl rfl ?_
      refine G_iload_n (pc := 72) 1 X (dg dt_L_forced 50 rfl) rfl rfl ?_
      refine G_irem (pc := 73) X (dg dt_L_forced 51 rfl) h (fun q_7 h => ?_)
      refine G_iadd (pc := 74) X (dg dt_L_forced 52 rfl) ?_
      obtain ⟨r_9, hc_8, h⟩ := cap_go h
      refine G_callS (pc := 75) (S := [.int v6]) [.ref (ad v0), .int v1, .int ((v1 * v7) + q_7)] nosub X  (dg dt_L_forced 53 rfl) cb_L_set w_509 w_508 (s_L_set _ ad _ _ _ _ hg_v0 hc_8) rfl ⟨Nat.le_of_ble_eq_true rfl, Nat.le_of_ble_eq_true rfl⟩  (Nat.le_of_ble_eq_true rfl) Rc0 ?_
      refine G_iload (pc := 78) X (dg dt_L_forced 54 rfl) rfl ?_
      refine G_ishr (pc := 80) X (dg dt_L_forced 55 rfl) ?_
      refine G_iconst (pc := 81) 1 X (dg dt_L_forced 56 rfl) (by decide) ?_
      refine G_iand (pc := 82) X (dg dt_L_forced 57 rfl) ?_
      refine G_iadd (pc := 83) X (dg dt_L_forced 58 rfl) ?_
      refine G_istore_lt (pc := 84) X (dg dt_L_forced 59 rfl) (Nat.le_of_ble_eq_true rfl) rfl h (fun v6_10 h => ?_)
      refine G_iinc (pc := 86) (v7 + 1) X (dg dt_L_forced 60 rfl) rfl (Nat.le_of_ble_eq_true rfl) rfl rfl ?_
      refine G_goto (pc := 89) 34 X (dg dt_L_forced 61 rfl) (by decide) ?_
      exact G_wk (ih v5_6 v6_10 (v7 + 1) h) ⟨rfl, ⟨rfl, ⟨rfl, ⟨rfl, ⟨rfl, ⟨rfl, ⟨rfl, ⟨rfl, trivial⟩⟩⟩⟩⟩⟩⟩⟩
set_option maxRecDepth 100000 in
set_option maxHeartbeats 4000000 in
theorem s_L_forced_L19 {θ : Th} {ad : Nat → Nat}  {rv : Int32} (X : Cx θ [] cL_forced 8 "QuasigroveLaw" 1 26)
    {v0 : Nat} {v1 : Int32} {v2 : Int32} {v3 : Int32} {σ : St} (hq : Rq θ (g_SH, ad) (some .int) (some (.int rv)) σ) (hg_v0 : aok v0) {kx122 : Int32 → Option Int32} (hkx122 : ∀ (v4 : Int32), kx122 v4 = some rv → G θ (0, 0) (g_SH, ad) σ 122 [none, none, some (.int v2), none, some (.int v4), none, none, none] []) {kx136 : Option Int32} (hkx136 : kx136 = some rv → G θ (0, 0) (g_SH, ad) σ 136 [some (.ref (ad v0)), some (.int v1), some (.int v2), none, none, none, none, none] []) :
    ∀ (n : Nat) (v4 : Int32), f_L_forced_L19 v0 v1 v2 v3 σ kx122 kx136 n v4 = some rv → G θ (0, 0) (g_SH, ad) σ 19 [some (.ref (ad v0)), some (.int v1), some (.int v2), some (.int v3), some (.int v4), none, none, none] [] := by
  intro n
  induction n with
  | zero => intro v4 h; rw [f_L_forced_L19] at h; cases h
  | succ n ih =>
    intro v4 h
    rw [f_L_forced_L19] at h
    refine G_iload (pc := 19) X (dg dt_L_forced 14 rfl) rfl ?_
    refine G_iload_n (pc := 21) 1 X (dg dt_L_forced 15 rfl) rfl rfl ?_
    refine G_icmp_ge (pc := 22) 136 X (dg dt_L_forced 16 rfl) (by decide) h (fun h => ?_) (fun h => ?_)
    · exact G_wk (hkx136  h) ⟨rfl, ⟨rfl, ⟨rfl, trivial⟩⟩⟩
    · refine G_iconst (pc := 25) 0 X (dg dt_L_forced 17 rfl) (by decide) ?_
      refine G_istore (pc := 26) X (dg dt_L_forced 18 rfl) (Nat.le_of_ble_eq_true rfl) rfl ?_
      refine G_iconst (pc := 28) 0 X (dg dt_L_forced 19 rfl) (by decide) ?_
      refine G_istore (pc := 29) X (dg dt_L_forced 20 rfl) (Nat.le_of_ble_eq_true rfl) rfl ?_
      refine G_iconst (pc := 31) 0 X (dg dt_L_forced 21 rfl) (by decide) ?_
      refine G_istore (pc := 32) X (dg dt_L_forced 22 rfl) (Nat.le_of_ble_eq_true rfl) rfl ?_
      refine G_weak (L' := [some (.ref (ad v0)), some (.int v1), some (.int v2), some (.int v3), some (.int v4), some (.int 0), some (.int 0), some (.int 0)]) ⟨rfl, ⟨rfl, ⟨rfl, ⟨rfl, ⟨rfl, ⟨rfl, ⟨rfl, ⟨rfl, trivial⟩⟩⟩⟩⟩⟩⟩⟩ ?_
      refine s_L_forced_L34  X hq hg_v0 (fun v5_11 v6_12 h => ?_) _ _ _ _ h
      refine G_iload_n (pc := 92) 3 X (dg dt_L_forced 62 rfl) rfl rfl ?_
      refine G_iload (pc := 93) X (dg dt_L_forced 63 rfl) rfl ?_
      refine G_ishr (pc := 95) X (dg dt_L_forced 64 rfl) ?_
      refine G_iconst (pc := 96) 1 X (dg dt_L_forced 65 rfl) (by decide) ?_
      refine G_iand (pc := 97) X (dg dt_L_forced 66 rfl) ?_
      refine G_iconst (pc := 98) 1 X (dg dt_L_forced 67 rfl) (by decide) ?_
      refine jn_go (fun j130_13 => j130_13 = some rv → G θ (0, 0) (g_SH, ad) σ 130 [some (.ref (ad v0)), some (.int v1), some (.int v2), some (.int v3), some (.int v4), none, none, none] []) h ?_ (fun j130_13 hj130_13 h => ?_)
      · intro  h
        refine G_iinc (pc := 130) (v4 + 1) X (dg dt_L_forced 86 rfl) rfl (Nat.le_of_ble_eq_true rfl) rfl rfl ?_
        refine G_goto (pc := 133) 19 X (dg dt_L_forced 87 rfl) (by decide) ?_
        exact G_wk (ih (v4 + 1) h) ⟨rfl, ⟨rfl, ⟨rfl, ⟨rfl, ⟨rfl, trivial⟩⟩⟩⟩⟩
      refine G_icmp_ne (pc := 99) 130 X (dg dt_L_forced 68 rfl) (by decide) h (fun h => ?_) (fun h => ?_)
      · exact G_wk (hj130_13  h) ⟨rfl, ⟨rfl, ⟨rfl, ⟨rfl, ⟨rfl, trivial⟩⟩⟩⟩⟩
      · refine G_iload_n (pc := 102) 3 X (dg dt_L_forced 69 rfl) rfl rfl ?_
        refine G_iconst (pc := 103) 1 X (dg dt_L_forced 70 rfl) (by decide) ?_
        refine G_iload (pc := 104) X (dg dt_L_forced 71 rfl) rfl ?_
        refine G_ishl (pc := 106) X (dg dt_L_forced 72 rfl) ?_
        refine G_icmp_eq (pc := 107) 122 X (dg dt_L_forced 73 rfl) (by decide) h (fun h => ?_) (fun h => ?_)
        · exact G_wk (hkx122 v4 h) ⟨rfl, ⟨rfl, trivial⟩⟩
        · refine G_iload (pc := 110) X (dg dt_L_forced 74 rfl) rfl ?_
          refine G_iconst (pc := 112) 1 X (dg dt_L_forced 75 rfl) (by decide) ?_
          refine G_icmp_eq (pc := 113) 122 X (dg dt_L_forced 76 rfl) (by decide) h (fun h => ?_) (fun h => ?_)
          · exact G_wk (hkx122 v4 h) ⟨rfl, ⟨rfl, trivial⟩⟩
          · refine G_iload (pc := 116) X (dg dt_L_forced 77 rfl) rfl ?_
            refine G_iconst (pc := 118) 1 X (dg dt_L_forced 78 rfl) (by decide) ?_
            refine G_icmp_ne (pc := 119) 130 X (dg dt_L_forced 79 rfl) (by decide) h (fun h => ?_) (fun h => ?_)
            · exact G_wk (hj130_13  h) ⟨rfl, ⟨rfl, ⟨rfl, ⟨rfl, ⟨rfl, trivial⟩⟩⟩⟩⟩
            · exact G_wk (hkx122 v4 h) ⟨rfl, ⟨rfl, trivial⟩⟩
set_option maxRecDepth 100000 in
set_option maxHeartbeats 4000000 in
theorem s_L_forced_L2 {θ : Th} {ad : Nat → Nat}  {rv : Int32} (X : Cx θ [] cL_forced 8 "QuasigroveLaw" 1 26)
    {v0 : Nat} {v1 : Int32} {σ : St} (hq : Rq θ (g_SH, ad) (some .int) (some (.int rv)) σ) (hg_v0 : aok v0) {kx122 : Int32 → Int32 → Option Int32} (hkx122 : ∀ (v2 : Int32) (v4 : Int32), kx122 v2 v4 = some rv → G θ (0, 0) (g_SH, ad) σ 122 [none, none, some (.int v2), none, some (.int v4), none, none, none] []) :
    ∀ (n : Nat) (v2 : Int32), f_L_forced_L2 v0 v1 σ kx122 n v2 = some rv → G θ (0, 0) (g_SH, ad) σ 2 [some (.ref (ad v0)), some (.int v1), some (.int v2), none, none, none, none, none] [] := by
  intro n
  induction n with
  | zero => intro v2 h; rw [f_L_forced_L2] at h; cases h
  | succ n ih =>
    intro v2 h
    rw [f_L_forced_L2] at h
    refine G_iload_n (pc := 2) 2 X (dg dt_L_forced 2 rfl) rfl rfl ?_
    refine G_iload_n (pc := 3) 1 X (dg dt_L_forced 3 rfl) rfl rfl ?_
    refine G_iload_n (pc := 4) 1 X (dg dt_L_forced 4 rfl) rfl rfl ?_
    refine G_imul (pc := 5) X (dg dt_L_forced 5 rfl) ?_
    refine G_icmp_ge (pc := 6) 142 X (dg dt_L_forced 6 rfl) (by decide) h (fun h => ?_) (fun h => ?_)
    · refine G_iconst (pc := 142) (-1) X (dg dt_L_forced 90 rfl) (by decide) ?_
      exact G_iretp (pc := 143) X hq (dg dt_L_forced 91 rfl) h
    · refine G_aload_n (pc := 9) 0 X (dg dt_L_forced 7 rfl) rfl rfl ?_
      refine G_iload_n (pc := 10) 1 X (dg dt_L_forced 8 rfl) rfl rfl ?_
      refine G_iload_n (pc := 11) 2 X (dg dt_L_forced 9 rfl) rfl rfl ?_
      obtain ⟨r_2, hc_1, h⟩ := cap_go h
      refine G_callS (pc := 12) (S := []) [.ref (ad v0), .int v1, .int v2] nosub X  (dg dt_L_forced 10 rfl) cb_L_set w_509 w_508 (s_L_set _ ad _ _ _ _ hg_v0 hc_1) rfl ⟨Nat.le_of_ble_eq_true rfl, Nat.le_of_ble_eq_true rfl⟩  (Nat.le_of_ble_eq_true rfl) Rc0 ?_
      refine G_istore_n (pc := 15) 3 X (dg dt_L_forced 11 rfl) rfl (Nat.le_of_ble_eq_true rfl) rfl ?_
      refine G_iconst (pc := 16) 0 X (dg dt_L_forced 12 rfl) (by decide) ?_
      refine G_istore (pc := 17) X (dg dt_L_forced 13 rfl) (Nat.le_of_ble_eq_true rfl) rfl ?_
      refine G_weak (L' := [some (.ref (ad v0)), some (.int v1), some (.int v2), some (.int r_2), some (.int 0), none, none, none]) ⟨rfl, ⟨rfl, ⟨rfl, ⟨rfl, ⟨rfl, trivial⟩⟩⟩⟩⟩ ?_
      refine s_L_forced_L19  X hq hg_v0 (fun v4_14 h => ?_) (fun h => ?_) _ _ h
      · exact G_wk (hkx122 v2 v4_14 h) ⟨rfl, ⟨rfl, trivial⟩⟩
      · refine G_iinc (pc := 136) (v2 + 1) X (dg dt_L_forced 88 rfl) rfl (Nat.le_of_ble_eq_true rfl) rfl rfl ?_
        refine G_goto (pc := 139) 2 X (dg dt_L_forced 89 rfl) (by decide) ?_
        exact G_wk (ih (v2 + 1) h) ⟨rfl, ⟨rfl, ⟨rfl, trivial⟩⟩⟩
set_option maxRecDepth 100000 in
set_option maxHeartbeats 4000000 in
theorem s_L_forced (l : Launch) (ad : Nat → Nat) (σ : St) (v0 : Nat) (v1 : Int32) (hg_v0 : aok v0) {rv : Int32} (h : f_L_forced σ v0 v1 = some rv) : Rt l [] yL_forced cL_forced 8 (some .int) 1 26 (g_SH, ad) [.ref (ad v0), .int v1] σ (some (.int rv)) σ := by
  refine Rt.intro (L := [some (.ref (ad v0)), some (.int v1), none, none, none, none, none, none]) (by decide +kernel) (Nat.le_of_ble_eq_true rfl) rfl (fun θ hl X hq => ?_)
  subst hl
  unfold f_L_forced at h
  refine G_iconst (pc := 0) 0 X (dg dt_L_forced 0 rfl) (by decide) ?_
  refine G_istore_n (pc := 1) 2 X (dg dt_L_forced 1 rfl) rfl (Nat.le_of_ble_eq_true rfl) rfl ?_
  refine G_weak (L' := [some (.ref (ad v0)), some (.int v1), some (.int 0), none, none, none, none, none]) ⟨rfl, ⟨rfl, ⟨rfl, trivial⟩⟩⟩ ?_
  refine s_L_forced_L2  X hq hg_v0 (fun v2_15 v4_16 h => ?_) _ _ h
  refine G_bipush (pc := 122) 10 X (dg dt_L_forced 80 rfl) (by decide) ?_
  refine G_iload_n (pc := 124) 2 X (dg dt_L_forced 81 rfl) rfl rfl ?_
  refine G_imul (pc := 125) X (dg dt_L_forced 82 rfl) ?_
  refine G_iload (pc := 126) X (dg dt_L_forced 83 rfl) rfl ?_
  refine G_iadd (pc := 128) X (dg dt_L_forced 84 rfl) ?_
  exact G_iretp (pc := 129) X hq (dg dt_L_forced 85 rfl) h
set_option maxRecDepth 100000 in
set_option maxHeartbeats 4000000 in
theorem s_L_told {l : Launch} (htr : l.stackTraces = false) (_ : Unit) (ad : Nat → Nat) (σ : St) (v1 : Int32) (v2 : Int32) (v3 : Int32) (v4 : Int32) (v5 : Int32)  {rv : Except Nat Int32} {σe : St} (h : f_L_told σ v1 v2 v3 v4 v5 = some (rv, σe)) : RX l g_strs yL_told cL_told 6 (some .int) 8 148 (g_SH, ad) [.ref (ad 0), .int v1, .int v2, .int v3, .int v4, .int v5] σ (xi rv) σe := by
  refine RX.intro htr (L := [some (.ref (ad 0)), some (.int v1), some (.int v2), some (.int v3), some (.int v4), some (.int v5)]) (by decide +kernel) (Nat.le_of_ble_eq_true rfl) rfl (fun θ hl X hq => ?_)
  subst hl
  unfold f_L_told at h
  refine G_iload_n (pc := 0) 1 X (dg dt_L_told 0 rfl) rfl rfl ?_
  refine G_if_ne (pc := 1) 17 X (dg dt_L_told 1 rfl) (by decide) h (fun h => ?_) (fun h => ?_)
  · refine G_aload_n (pc := 17) 0 X (dg dt_L_told 9 rfl) rfl rfl ?_
    refine G_iload_n (pc := 18) 2 X (dg dt_L_told 10 rfl) rfl rfl ?_
    refine G_iload_n (pc := 19) 3 X (dg dt_L_told 11 rfl) rfl rfl ?_
    refine G_iload (pc := 20) X (dg dt_L_told 12 rfl) rfl ?_
    refine G_iload (pc := 22) X (dg dt_L_told 13 rfl) rfl ?_
    refine cax_go h (fun ex hc_1 hex => by subst hex; exact G_callVX (pc := 24) (S := []) [.int v2, .int v3, .int v4, .int v5] (fun _ h => h) X hq (dg dt_L_told 14 rfl) cb_Q_turn cv_Q_turn w_488 (s_Q_turn htr () ad _ _ _ _ _ hc_1) rfl ⟨Nat.le_of_ble_eq_true rfl, Nat.le_of_ble_eq_true rfl⟩ sh_0 rfl (Nat.le_of_ble_eq_true rfl)) (fun r_2 σ_3 hc_1 h => ?_)
    refine G_callV (pc := 24) (S := []) [.int v2, .int v3, .int v4, .int v5] (fun _ h => h) X  (dg dt_L_told 14 rfl) cb_Q_turn cv_Q_turn w_488 (s_Q_turn htr () ad _ _ _ _ _ hc_1) rfl ⟨Nat.le_of_ble_eq_true rfl, Nat.le_of_ble_eq_true rfl⟩ sh_0 rfl (Nat.le_of_ble_eq_true rfl) Rc0 ?_
    exact G_xiret (pc := 27) X hq (dg dt_L_told 15 rfl) h
  · refine G_aload_n (pc := 4) 0 X (dg dt_L_told 2 rfl) rfl rfl ?_
    refine G_iload_n (pc := 5) 2 X (dg dt_L_told 3 rfl) rfl rfl ?_
    refine G_iload_n (pc := 6) 3 X (dg dt_L_told 4 rfl) rfl rfl ?_
    refine G_iload (pc := 7) X (dg dt_L_told 5 rfl) rfl ?_
    refine G_iload (pc := 9) X (dg dt_L_told 6 rfl) rfl ?_
    refine cax_go h (fun ex hc_4 hex => by subst hex; exact G_callVX (pc := 11) (S := []) [.int v2, .int v3, .int v4, .int v5] (fun _ h => h) X hq (dg dt_L_told 7 rfl) cb_Q_put cv_Q_put w_475 (s_Q_put htr () ad _ _ _ _ _ hc_4) rfl ⟨Nat.le_of_ble_eq_true rfl, Nat.le_of_ble_eq_true rfl⟩ sh_0 rfl (Nat.le_of_ble_eq_true rfl)) (fun r_5 σ_6 hc_4 h => ?_)
    refine G_callV (pc := 11) (S := []) [.int v2, .int v3, .int v4, .int v5] (fun _ h => h) X  (dg dt_L_told 7 rfl) cb_Q_put cv_Q_put w_475 (s_Q_put htr () ad _ _ _ _ _ hc_4) rfl ⟨Nat.le_of_ble_eq_true rfl, Nat.le_of_ble_eq_true rfl⟩ sh_0 rfl (Nat.le_of_ble_eq_true rfl) Rc0 ?_
    refine G_goto (pc := 14) 27 X (dg dt_L_told 8 rfl) (by decide) ?_
    exact G_xiret (pc := 27) X hq (dg dt_L_told 15 rfl) h
set_option maxRecDepth 100000 in
set_option maxHeartbeats 4000000 in
theorem s_L_up (l : Launch) (ad : Nat → Nat) (σ : St) (v0 : Int32) (v1 : Int32)  {rv : Int32} (h : f_L_up σ v0 v1 = some rv) : Rt l [] yL_up cL_up 2 (some .int) 0 0 (g_SH, ad) [.int v0, .int v1] σ (some (.int rv)) σ := by
  refine Rt.intro (L := [some (.int v0), some (.int v1)]) (by decide +kernel) (Nat.le_of_ble_eq_true rfl) rfl (fun θ hl X hq => ?_)
  subst hl
  unfold f_L_up at h
  refine G_iload_n (pc := 0) 0 X (dg dt_L_up 0 rfl) rfl rfl ?_
  refine G_iconst (pc := 1) 2 X (dg dt_L_up 1 rfl) (by decide) ?_
  refine G_iushr (pc := 2) X (dg dt_L_up 2 rfl) ?_
  refine G_iload_n (pc := 3) 1 X (dg dt_L_up 3 rfl) rfl rfl ?_
  refine G_irem (pc := 4) X (dg dt_L_up 4 rfl) h (fun q_1 h => ?_)
  exact G_iretp (pc := 5) X hq (dg dt_L_up 5 rfl) h
end
section
/-! constructors: the world grows -/
def g_rb (SH : List Shp) (n : Nat) : Bool := SH.all (fun sh => match sh with
  | .inl (_, fl) => fl.all (fun o => match o with
    | some (some t) => decide (t < n)
    | _ => true)
  | .inr (.inr ts) => ts.all (fun o => match o with
    | some t => decide (t < n)
    | none => true)
  | _ => true)
theorem g_ent_ad {cA : Nat → ClassId} {ad ad' : Nat → Nat} {f : Nat → Int32} {sh : Shp} {n : Nat} (h : g_rb [sh] n = true) (ha : ∀ i, i < n → ad' i = ad i) : g_ent cA ad' f sh = g_ent cA ad f sh := by
  rcases sh with ⟨ci, fl⟩ | ⟨kd, m⟩ | ts
  · simp only [g_rb, List.all_cons, List.all_nil, Bool.and_true, List.all_eq_true] at h
    show (Sum.inr (ci, _) : va_E) = Sum.inr (ci, _)
    congr 2
    apply List.ext_getElem?
    intro i
    simp only [List.getElem?_mapIdx]
    cases hi : fl[i]? with
    | none => rfl
    | some o =>
      have := h o (List.mem_of_getElem? hi)
      rcases o with _ | _ | t
      · rfl
      · rfl
      · simp only [decide_eq_true_eq] at this
        simp [g_fv, ha t this]
  · rfl
  · simp only [g_rb, List.all_cons, List.all_nil, Bool.and_true, List.all_eq_true] at h
    show (Sum.inl _ : va_E) = Sum.inl _
    congr 7
    funext j
    rw [List.getD_eq_getElem?_getD]
    cases hi : ts[j]? with
    | none => rfl
    | some o =>
      have := h o (List.mem_of_getElem? hi)
      rcases o with _ | t
      · rfl
      · simp only [decide_eq_true_eq] at this
        simp [ha t this]
theorem g_app {cA : Nat → ClassId} {SH : List Shp} {ad ad' : Nat → Nat} {σ : St} {sh : Shp} {q : Nat} {e : va_E} (hr : g_rb SH SH.length = true) (ha : ∀ i, i < SH.length → ad' i = ad i) (hq : ad' SH.length = q) (he : g_ent cA ad' (σ SH.length) sh = e) : g_ws cA (SH ++ [sh], ad') σ = g_ws cA (SH, ad) σ ++ [(q, e)] := by
  apply List.ext_getElem?
  intro i
  rw [List.getElem?_append]
  have hl : (g_ws cA (SH, ad) σ).length = SH.length := by simp [g_ws]
  rw [hl]
  by_cases hi : i < SH.length
  · rw [if_pos hi]
    simp only [g_ws, List.getElem?_mapIdx]
    rw [List.getElem?_append_left hi]
    obtain ⟨x, hx⟩ : ∃ x, SH[i]? = some x := ⟨_, List.getElem?_eq_getElem hi⟩
    rw [hx]
    have hx1 : g_rb [x] SH.length = true := by
      simp only [g_rb, List.all_eq_true] at hr ⊢
      intro y hy
      rw [List.mem_singleton.mp hy]
      exact hr x (List.mem_of_getElem? hx)
    simp only [Option.map_some]
    rw [ha i hi, g_ent_ad hx1 ha]
  · rw [if_neg hi]
    simp only [g_ws, List.getElem?_mapIdx]
    rw [List.getElem?_append_right (Nat.not_lt.mp hi)]
    by_cases h0 : i = SH.length
    · subst h0
      simp [hq, he]
    · have : i - SH.length ≠ 0 := by omega
      rw [List.getElem?_eq_none (by simp; omega), List.getElem?_eq_none (by simp; omega)]
      rfl
def upA (ad : Nat → Nat) (n q : Nat) : Nat → Nat := fun i => if i = n then q else ad i
theorem upA_lt {ad : Nat → Nat} {n q : Nat} : ∀ i, i < n → upA ad n q i = ad i := fun i h => by simp [upA, Nat.ne_of_lt h]
theorem upA_eq {ad : Nat → Nat} {n q : Nat} : upA ad n q n = q := by simp [upA]
/-- which array class is it -/
theorem g_arr {D : va_G} {cA : Nat → ClassId} {s : State} {cB : ClassId} {ty : FieldType} {t : Nat} {c0 : ClassId} (ht : (g_tys cA)[t]? = some (c0, ty)) (hK : va_K D vwCl (g_tys cA) s) (hK' : va_K D vwCl (g_tys cA ++ [(cB, ty)]) s) : cB = c0 := by
  have h1 := (hK.2 t _ ht).2
  have h2 := (hK'.2 (g_tys cA).length (cB, ty) (by simp)).2
  cases ty with
  | object C =>
    obtain ⟨_, _, _, _, _, e1⟩ := h1
    obtain ⟨_, _, _, _, _, e2⟩ := h2
    exact Option.some.inj (e2.symm.trans e1)
  | _ => exact Option.some.inj (h2.symm.trans h1)
def Rm (θ : Th) (c n : Nat) : Prop := match θ with
  | (p, l, e, R, s, m, args, below, meth, c0, A, D, cA, Q) => c ≤ R.cells ∧ n ≤ R.slots
def AOx (θ : Th) : Prop := match θ with
  | (p, l, e, R, s, m, args, below, meth, c0, A, D, cA, Q) => va_AO "Quasigrove$Grid" s
def Ix (θ : Th) : Prop := match θ with
  | (p, l, e, R, s, m, args, below, meth, c0, A, D, cA, Q) => meth.name = "<init>"
section GN
variable {θ : Th} {cs : Nat × Nat} {SH : List Shp} {ad : Nat → Nat} {σ : St} {pc : Nat} {L : LV} {S : List Value} {strs strs' : List (String × Nat × String)} {cc : ByteArray} {nL : Nat} {own : String} {fr lo : Nat}
theorem G_new {ci N idx : Nat} {C : String} {T : u_T} {ty : Nat → FieldType} (fl : List (Option (Option Nat))) (X : Cx θ strs cc nL own fr lo) (hd : decode cc pc = .ok (.new idx, 3)) (hF : FC ci C T N ty) (h1 : Cond.classLink own idx C ∈ g_GW) (h2 : Cond.instantiable C N ∈ g_GW) (h3 : Cond.initialized C ∈ g_GW)
    (hlen : fl.length = N) (hdef : ∀ j, j < N → ∃ o, fl[j]? = some o ∧ ((o = none ∧ defaultValue (ty j) = .int 0) ∨ (o = some none ∧ defaultValue (ty j) = .null))) (hr : g_rb SH SH.length = true) (hz : ∀ j, σ SH.length j = 0) (hR : Rm θ (cs.1 + 1) (cs.2 + N))
    (kk : ∀ (ad' : Nat → Nat) (q : Nat), (∀ i, i < SH.length → ad' i = ad i) → ad' SH.length = q → G θ (cs.1 + 1, cs.2 + N) (SH ++ [.inl (ci, fl)], ad') σ (pc + 3) L (.ref q :: S)) : G θ cs (SH, ad) σ pc L S := by
  obtain ⟨p, l, e, R, s, m, args, below, meth, c, A, D, cA, Q⟩ := θ
  obtain ⟨hx, hb, hml, hown, hts, hlk, hA, hK, hfr, hlo⟩ := X
  intro H locs ls hl' hP hD hS
  obtain ⟨f1, f2, f3, f4⟩ := hF
  refine va_new (fs := fl.mapIdx (fun j o => g_fv ad (σ SH.length) j o)) hx hb hts f2 ty f3 hown (hts _ h1) (hts _ h2) (hts _ h3) hK.1 hP hD hS hA f1 ?_ hR.1 hR.2 hd (fun q H1 hP1 hD1 hS1 => ?_)
  · intro j hj
    obtain ⟨o, ho, h⟩ := hdef j hj
    rcases h with ⟨rfl, h⟩ | ⟨rfl, h⟩ <;> rw [h] <;> simp [vp_V, List.getElem?_mapIdx, ho, g_fv, hz]
  · have hw : g_ws cA (SH ++ [.inl (ci, fl)], upA ad SH.length q) σ = g_ws cA (SH, ad) σ ++ [(q, .inr (ci, fl.mapIdx (fun j o => g_fv ad (σ SH.length) j o)))] := by
      refine g_app hr upA_lt upA_eq ?_
      show (Sum.inr (ci, _) : va_E) = Sum.inr (ci, _)
      congr 2
      apply List.ext_getElem?
      intro i
      simp only [List.getElem?_mapIdx]
      by_cases hi : i < N
      · obtain ⟨o, ho, h⟩ := hdef i hi
        rw [ho]
        rcases h with ⟨rfl, h⟩ | ⟨rfl, h⟩ <;> rfl
      · rw [List.getElem?_eq_none (by omega)]; rfl
    rw [← hw] at hP1 hD1
    exact kk _ q upA_lt upA_eq H1 locs ls hl' hP1 hD1 hS1
theorem g_va_arr {cA : Nat → ClassId} {f : Nat → Int32} {n : Nat} (hz : ∀ j, f j = 0) (c : ClassId) : vp_cell c (n, .inl f) = arrV c n (fun _ => .int 0) := by
  rw [vp_cell_i]
  congr 1
  funext j
  rw [hz]
theorem G_newa {at9 : ArrayType} {kd N : Nat} {n : Int32} {ty : FieldType} (X : Cx θ strs cc nL own fr lo) (hd : decode cc pc = .ok (.newarray at9, 2)) (h1 : Cond.arrayClass ty ∈ g_GW) (hty : newarray.typeOf at9 = ty) (hkd : (kd = 0 ∧ ty = .int) ∨ (kd = 1 ∧ ty = .boolean)) (hn : ¬ n < 0) (hN : n.toNatClampNeg = N) (hb9 : N * componentBytes ty ≤ 536870912) (hr : g_rb SH SH.length = true) (hz : ∀ j, σ SH.length j = 0) (hR : Rm θ (cs.1 + 1) (cs.2 + N))
    (kk : ∀ (ad' : Nat → Nat) (q : Nat), (∀ i, i < SH.length → ad' i = ad i) → ad' SH.length = q → G θ (cs.1 + 1, cs.2 + N) (SH ++ [.inr (.inl (kd, N))], ad') σ (pc + 2) L (.ref q :: S)) : G θ cs (SH, ad) σ pc L (.int n :: S) := by
  obtain ⟨p, l, e, R, s, m, args, below, meth, c, A, D, cA, Q⟩ := θ
  obtain ⟨hx, hb, hml, hown, hts, hlk, hA, hK, hfr, hlo⟩ := X
  intro H locs ls hl' hP hD hS
  rcases hkd with ⟨rfl, rfl⟩ | ⟨rfl, rfl⟩
  · refine va_newa (a0 := (N, .inl (σ SH.length))) (ty := .int) (atype := at9) hx hb (by rw [hty]; exact hts _ h1) hty hK.1 hP hD hS hA (fun c => g_va_arr (cA := cA) hz c) hn hN hb9 hR.1 hR.2 hd (fun q cB H1 hK1 hP1 hD1 hS1 => ?_)
    have hc := g_arr (cA := cA) (t := 0) (c0 := cA 0) rfl hK.1 hK1
    subst hc
    have hw : g_ws cA (SH ++ [.inr (.inl (0, N))], upA ad SH.length q) σ = g_ws cA (SH, ad) σ ++ [(q, .inl (cA 0, N, .inl (σ SH.length)))] := g_app hr upA_lt upA_eq rfl
    rw [← hw] at hP1 hD1
    exact kk _ q upA_lt upA_eq H1 locs ls hl' hP1 hD1 hS1
  · refine va_newa (a0 := (N, .inl (σ SH.length))) (ty := .boolean) (atype := at9) hx hb (by rw [hty]; exact hts _ h1) hty hK.1 hP hD hS hA (fun c => g_va_arr (cA := cA) hz c) hn hN hb9 hR.1 hR.2 hd (fun q cB H1 hK1 hP1 hD1 hS1 => ?_)
    have hc := g_arr (cA := cA) (t := 1) (c0 := cA 1) rfl hK.1 hK1
    subst hc
    have hw : g_ws cA (SH ++ [.inr (.inl (1, N))], upA ad SH.length q) σ = g_ws cA (SH, ad) σ ++ [(q, .inl (cA 1, N, .inl (σ SH.length)))] := g_app hr upA_lt upA_eq rfl
    rw [← hw] at hP1 hD1
    exact kk _ q upA_lt upA_eq H1 locs ls hl' hP1 hD1 hS1
theorem G_newq {idx N : Nat} {n : Int32} (X : Cx θ strs cc nL own fr lo) (hd : decode cc pc = .ok (.anewarray idx, 3)) (h1 : Cond.classLink own idx "Quasigrove$Grid" ∈ g_GW) (h2 : AOx θ) (hn : ¬ n < 0) (hN : n.toNatClampNeg = N) (hb9 : N * 4 ≤ 536870912) (hr : g_rb SH SH.length = true) (hR : Rm θ (cs.1 + 1) (cs.2 + N))
    (kk : ∀ (ad' : Nat → Nat) (q : Nat), (∀ i, i < SH.length → ad' i = ad i) → ad' SH.length = q → G θ (cs.1 + 1, cs.2 + N) (SH ++ [.inr (.inr (List.replicate N none))], ad') σ (pc + 3) L (.ref q :: S)) : G θ cs (SH, ad) σ pc L (.int n :: S) := by
  obtain ⟨p, l, e, R, s, m, args, below, meth, c, A, D, cA, Q⟩ := θ
  obtain ⟨hx, hb, hml, hown, hts, hlk, hA, hK, hfr, hlo⟩ := X
  intro H locs ls hl' hP hD hS
  refine va_newq hx hb hown (hts _ h1) h2 hK.1 hP hD hS hA hn hN hb9 hR.1 hR.2 hd (fun q cB H1 hK1 hP1 hD1 hS1 => ?_)
  have hc := g_arr (cA := cA) (t := 3) (c0 := cA 3) rfl hK.1 hK1
  subst hc
  have hw : g_ws cA (SH ++ [.inr (.inr (List.replicate N none))], upA ad SH.length q) σ = g_ws cA (SH, ad) σ ++ [(q, .inl (cA 3, N, .inr (.inr (.inr (.inr (fun _ => none))))))] := by
    refine g_app hr upA_lt upA_eq ?_
    show (Sum.inl (cA 3, (List.replicate N none).length, _) : va_E) = _
    rw [List.length_replicate]
    congr 7
    funext j
    rw [List.getD_eq_getElem?_getD, List.getElem?_replicate]
    split <;> rfl
  rw [← hw] at hP1 hD1
  exact kk _ q upA_lt upA_eq H1 locs ls hl' hP1 hD1 hS1
theorem g_setR {cA : Nat → ClassId} {k ci j t : Nat} {fl : List (Option (Option Nat))} (h : SH[k]? = some (.inl (ci, fl))) : (g_ws cA (SH, ad) σ).set k (ad k, .inr (ci, (fl.mapIdx (fun j o => g_fv ad (σ k) j o)).set j (.ref (ad t)))) = g_ws cA (SH.set k (.inl (ci, fl.set j (some (some t)))), ad) σ := by
  apply List.ext_getElem?
  intro i
  rw [List.getElem?_set]
  have hlt : k < SH.length := (List.getElem?_eq_some_iff.mp h).1
  by_cases hi : k = i
  · subst hi
    have hl : k < (g_ws cA (SH, ad) σ).length := by simp [g_ws, hlt]
    rw [if_pos rfl, if_pos hl]
    simp only [g_ws, List.getElem?_mapIdx, List.getElem?_set, if_pos hlt, if_pos rfl, Option.map_some]
    congr 2
    show (Sum.inr (ci, _) : va_E) = Sum.inr (ci, _)
    congr 2
    apply List.ext_getElem?
    intro y
    simp only [List.getElem?_mapIdx, List.getElem?_set, List.length_mapIdx]
    by_cases hy : j = y
    · subst hy
      by_cases hj : j < fl.length
      · simp [hj, g_fv]
      · simp [hj]
    · simp [hy]
  · rw [if_neg hi]
    simp only [g_ws, List.getElem?_mapIdx, List.getElem?_set, if_neg hi]
/-- a final field, a reference, in the constructor -/
theorem G_putR {ci N idx k t q q' : Nat} {C : String} {T : u_T} {ty : Nat → FieldType} {fl : List (Option (Option Nat))} (j : Nat) (X : Cx θ strs cc nL own fr lo) (hI : Ix θ) (hd : decode cc pc = .ok (.putfield idx, 3)) (hF : FC ci C T N ty) (hl : Cond.fieldLink own idx C (T j).2.1 (T j).2.2.1 ∈ g_GW) (hT : (T j).1 = C) (hown9 : C = own) (hj : j < N) (hfin : (T j).2.2.2 = true) (hty : (∃ n, ty j = .object n) ∨ ∃ t, ty j = .array t) (hs : SH[k]? = some (.inl (ci, fl))) (hlen : fl.length = N) (hq : ad k = q) (ht : ad t = q')
    (kk : G θ cs (SH.set k (.inl (ci, fl.set j (some (some t)))), ad) σ (pc + 3) L S) : G θ cs (SH, ad) σ pc L (.ref q' :: .ref q :: S) := by
  obtain ⟨p, l, e, R, s, m, args, below, meth, c, A, D, cA, Q⟩ := θ
  obtain ⟨hx, hb, hml, hown, hts, hlk, hA, hK, hfr, hlo⟩ := X
  intro H locs ls hl' hP hD hS
  obtain ⟨f1, f2, f3, f4⟩ := hF
  subst hq
  refine va_putF (D := D) (ci := ci) (ref := C) (v := .ref q') (ty := ty j) hx hb hts f2 ty f3 f4 hown hK.1 hP hD hS k (g_getO hs) f1 j hj (hts _ hl) (fun _ h => by rw [hT] at h; exact h) hfin hI (by rw [hT]; exact hown9) (f3 j hj) (by rcases hty with ⟨n, e⟩ | ⟨n, e⟩ <;> rw [e] <;> rfl) (by rcases hty with ⟨n, e⟩ | ⟨n, e⟩ <;> rw [e] <;> rfl) (by simp [hlen, hj]) hd (fun H1 locs1 hP1 hD1 hS1 => ?_)
  rw [← ht] at hP1 hD1
  have e9 := g_setR (cA := cA) (ad := ad) (σ := σ) (j := j) (t := t) hs
  have hP2 : va_P D vwCl (g_ws cA (SH.set k (.inl (ci, fl.set j (some (some t)))), ad) σ) H1 := by rw [← e9]; exact hP1
  have hD2 : va_D A (g_ws cA (SH.set k (.inl (ci, fl.set j (some (some t)))), ad) σ) := by rw [← e9]; exact hD1
  exact kk H1 locs1 ls hl' hP2 hD2 hS1
theorem G_putQ {ci N idx k q : Nat} {C : String} {T : u_T} {ty : Nat → FieldType} {fl : List (Option (Option Nat))} {v : Int32} (j : Nat) (X : Cx θ strs cc nL own fr lo) (hd : decode cc pc = .ok (.putfield idx, 3)) (hF : FC ci C T N ty) (hl : Cond.fieldLink own idx C (T j).2.1 (T j).2.2.1 ∈ g_GW) (hT : (T j).1 = C) (hj : j < N) (hfin : (T j).2.2.2 = false) (hty : ty j = .int) (hs : SH[k]? = some (.inl (ci, fl))) (hf : fl[j]? = some none) (hq : ad k = q)
    (kk : G θ cs (SH, ad) (wr σ k j v) (pc + 3) L S) : G θ cs (SH, ad) σ pc L (.int v :: .ref q :: S) := by
  subst hq
  exact G_put (w := (SH, ad)) (f := id) (r := wr σ k j v) j X hd hF hl hT hj hfin hty hs hf rfl (fun σ' h => by rw [show σ' = wr σ k j v from h]; exact kk)
theorem G_getRQ {ci N idx k t q : Nat} {C : String} {T : u_T} {ty : Nat → FieldType} {fl : List (Option (Option Nat))} (j : Nat) (X : Cx θ strs cc nL own fr lo) (hd : decode cc pc = .ok (.getfield idx, 3)) (hF : FC ci C T N ty) (hl : Cond.fieldLink own idx C (T j).2.1 (T j).2.2.1 ∈ g_GW) (hT : (T j).1 = C) (hj : j < N) (hs : SH[k]? = some (.inl (ci, fl))) (hf : fl[j]? = some (some (some t))) (hq : ad k = q)
    (kk : G θ cs (SH, ad) σ (pc + 3) L (.ref (ad t) :: S)) : G θ cs (SH, ad) σ pc L (.ref q :: S) := by
  subst hq
  exact G_get (w := (SH, ad)) j X hd hF hl hT hj hs hf kk
theorem G_objInit {idx a : Nat} (X : Cx θ strs cc nL own fr lo) (hd : decode cc pc = .ok (.invokespecial idx, 3)) (h1 : Cond.methodLink own idx Lib.objectInit ∈ g_GW) (h2 : Cond.instanceMethod Lib.objectInit ∈ g_GW) (h3 : Cond.code Lib.objectInit ⟨#[0xb1]⟩ 1 none ∈ g_GW) (hfr' : 1 ≤ fr) (hlo' : (S.map fun v => v.category).sum + 12 ≤ lo)
    (kk : G θ cs (SH, ad) σ (pc + 3) L S) : G θ cs (SH, ad) σ pc L (.ref a :: S) := by
  obtain ⟨p, l, e, R, s, m, args, below, meth, c, A, D, cA, Q⟩ := θ
  obtain ⟨hx, hb, hml, hown, hts, hlk, hA, hK, hfr, hlo⟩ := X
  intro H locs ls hl' hP hD hS
  refine W.objInit hx hb hown (hts _ h1) (hts _ h2) (hts _ h3) rfl hl'.1 rfl hd (Nat.le_trans hfr' hfr) ?_ (kk H locs ls hl' hP hD hS)
  show 2 * 0 + _ + 12 ≤ _
  omega
theorem Rm_of {a b c n : Nat} (h : Rm θ a b) (h1 : c ≤ a) (h2 : n ≤ b) : Rm θ c n := by
  obtain ⟨p, l, e, R, s, m, args, below, meth, c0, A, D, cA, Q⟩ := θ
  exact ⟨Nat.le_trans h1 h.1, Nat.le_trans h2 h.2⟩
theorem Rm_rc {a b : Nat} (h : Rm θ a b) : Rc θ (a, b) := by
  obtain ⟨p, l, e, R, s, m, args, below, meth, c0, A, D, cA, Q⟩ := θ
  exact h
theorem G_alenQQ {k q : Nat} {ts : List (Option Nat)} (v : Int32) (X : Cx θ strs cc nL own fr lo) (hd : decode cc pc = .ok (.arraylength, 1)) (hs : SH[k]? = some (.inr (.inr ts))) (hv : Int32.ofNat ts.length = v) (hq : ad k = q) (kk : G θ cs (SH, ad) σ (pc + 1) L (.int v :: S)) : G θ cs (SH, ad) σ pc L (.ref q :: S) := by
  subst hq
  exact G_alenQ (w := (SH, ad)) v X hd hs hv kk
theorem g_setQ {cA : Nat → ClassId} {k i t : Nat} {ts : List (Option Nat)} (h : SH[k]? = some (.inr (.inr ts))) (hi : i < ts.length) : (g_ws cA (SH, ad) σ).set k (ad k, .inl (cA 3, ts.length, .inr (.inr (.inr (.inr (va_up (fun j => (ts.getD j none).map ad) i (some (ad t)))))))) = g_ws cA (SH.set k (.inr (.inr (ts.set i (some t)))), ad) σ := by
  apply List.ext_getElem?
  intro y
  rw [List.getElem?_set]
  have hlt : k < SH.length := (List.getElem?_eq_some_iff.mp h).1
  by_cases hy : k = y
  · subst hy
    have hl : k < (g_ws cA (SH, ad) σ).length := by simp [g_ws, hlt]
    rw [if_pos rfl, if_pos hl]
    simp only [g_ws, List.getElem?_mapIdx, List.getElem?_set, if_pos hlt, if_pos rfl, Option.map_some]
    congr 2
    show _ = (Sum.inl (cA 3, (ts.set i (some t)).length, _) : va_E)
    rw [List.length_set]
    congr 7
    funext j
    by_cases hj : j = i
    · subst hj
      simp [va_up, List.getD_eq_getElem?_getD, List.getElem?_set, hi]
    · simp [va_up, List.getD_eq_getElem?_getD, List.getElem?_set, hj, Ne.symm hj]
  · rw [if_neg hy]
    simp only [g_ws, List.getElem?_mapIdx, List.getElem?_set, if_neg hy]
theorem G_astq {k t q q' : Nat} {ts : List (Option Nat)} {fl : List (Option (Option Nat))} {i : Int32} (X : Cx θ strs cc nL own fr lo) (hd : decode cc pc = .ok (.aastore, 1)) (hs : SH[k]? = some (.inr (.inr ts))) (hin : inb i ts.length = true) (ht : SH[t]? = some (.inl (0, fl))) (hq : ad k = q) (hq' : ad t = q')
    (kk : G θ cs (SH.set k (.inr (.inr (ts.set (ix i) (some t)))), ad) σ (pc + 1) L S) : G θ cs (SH, ad) σ pc L (.ref q' :: .int i :: .ref q :: S) := by
  obtain ⟨p, l, e, R, s, m, args, below, meth, c, A, D, cA, Q⟩ := θ
  obtain ⟨hx, hb, hml, hown, hts, hlk, hA, hK, hfr, hlo⟩ := X
  intro H locs ls hl' hP hD hS
  subst hq
  subst hq'
  have hlt : ix i < ts.length := by
    simp only [inb, Bool.and_eq_true, decide_eq_true_eq] at hin
    exact hin.2
  refine va_astq (tys := g_tys cA) (t0 := 3) (qk := t) (ci := 0) (r := (RX2, TX2, 5)) hx hb hK.1 hP hD hS k (g_getQ (w := (SH, ad)) hs) rfl (g_getO (w := (SH, ad)) ht) rfl (inb_vp hin) hd (fun H1 locs1 hP1 hD1 hS1 => ?_)
  have e9 := g_setQ (cA := cA) (ad := ad) (σ := σ) (t := t) hs hlt
  have hP2 : va_P D vwCl (g_ws cA (SH.set k (.inr (.inr (ts.set (ix i) (some t)))), ad) σ) H1 := by rw [← e9]; exact hP1
  have hD2 : va_D A (g_ws cA (SH.set k (.inr (.inr (ts.set (ix i) (some t)))), ad) σ) := by rw [← e9]; exact hD1
  exact kk H1 locs1 ls hl' hP2 hD2 hS1
end GN
end
section
/-! constructors: their contracts -/
def g_QcC (D : va_G) (cA : Nat → ClassId) (A : Nat → Prop) (SH : List Shp) (ad : Nat → Nat) (SH' : List Shp) (σ' : St) : Array Value → State → Outcome → State → Prop := fun _ st oc t =>
  oc = .returned none ∧ (∃ ad' : Nat → Nat, (∀ i, i < SH.length → ad' i = ad i) ∧ va_P D vwCl (g_ws cA (SH', ad') σ') t.heap ∧ va_D A (g_ws cA (SH', ad') σ')) ∧ va_F A st t
def g_BE (E : Bool) (D : va_G) (cA : Nat → ClassId) (strs : List (String × Nat × String)) (A : Nat → Prop) (w : Wd) (σ : St) (sz : Nat) (U : State) : Prop := g_B D cA strs A w σ sz U ∧ (E = true → va_AO "Quasigrove$Grid" U)
theorem g_blindE {E : Bool} {D : va_G} {cA : Nat → ClassId} {strs : List (String × Nat × String)} {A : Nat → Prop} {w : Wd} {σ : St} {sz : Nat} {av : List Value} : FrameBlind (va_Pc av (g_BE E D cA strs A w σ sz)) := by
  intro a U g mk h
  have h1 := g_blind a U g mk ⟨h.1, h.2.1⟩
  exact ⟨h1.1, h1.2, fun e => va_AO.moved (u := U) (U := U.calling g mk a) (Vm.Alike.refl U.vm) (h.2.2 e)⟩
def RtC (E : Bool) (l : Launch) (strs : List (String × Nat × String)) (y : MethodName) (cc : ByteArray) (maxL fr lo mc ms : Nat) (SH : List Shp) (av : (Nat → Nat) → List Value) (σ : St) (SH' : List Shp) (σ' : St) : Prop :=
  ∀ (ad : Nat → Nat) (A : Nat → Prop) (D : va_G) (cA : Nat → ClassId) (sz : Nat), (∀ q, sz ≤ q → A q) →
    Met l y (Cond.code y cc maxL none :: g_GW) { frames := fr, cells := mc, slots := ms, locals := lo } (va_Pc (av ad) (g_BE E D cA strs A (SH, ad) σ sz)) (g_QcC D cA A SH ad SH' σ') mc ms A
def Cq (θ : Th) (SH : List Shp) (ad : Nat → Nat) (SH' : List Shp) (σ' : St) (mc ms : Nat) : Prop := match θ with
  | (p, l, e, R, s, m, args, below, meth, c, A, D, cA, Q) => meth.sig.returnType = none ∧ Q = MQ below (g_QcC D cA A SH ad SH' σ') args s mc ms A
theorem RtC.intro {E : Bool} {l : Launch} {strs : List (String × Nat × String)} {y : MethodName} {cc : ByteArray} {maxL fr lo mc ms : Nat} {SH : List Shp} {av : (Nat → Nat) → List Value} {σ : St} {SH' : List Shp} {σ' : St} {L : (Nat → Nat) → LV}
    (hy : plainName y.cls = true) (hyn : y.name = "<init>") (hn : ∀ ad, (lg_sl (av ad)).length ≤ maxL) (hL : ∀ ad, g_pairs (L ad) = lv_args 0 (av ad))
    (body : ∀ (ad : Nat → Nat) (θ : Th), θ.2.1 = l → Cx θ strs cc maxL y.cls fr lo → Ix θ → Rm θ mc ms → Cq θ SH ad SH' σ' mc ms → (E = true → AOx θ) → G θ (0, 0) (SH, ad) σ 0 (L ad) []) : RtC E l strs y cc maxL fr lo mc ms SH av σ SH' σ' := by
  intro ad A D cA sz hA
  refine Met.ofW (cc := cc) (maxL := maxL) (ret := none) hy rfl ?_
  intro p e s m args below meth c s₁ B hml hv
  obtain ⟨rfl, ⟨hsz, hP, hD, hK⟩, hE⟩ := hv
  have hts := atoms_spec (ws := Cond.code y cc maxL none :: g_GW) B.pre
  have hown : s.vm.findClass y.cls = some m.cls := findClass_of_methodNamed B.named
  have hin : meth.name = y.name := (name_of_methodNamed B.named B.method).1
  subst hsz
  have hb := body ad (p, l, e, (headSpec (Cond.code y cc maxL none :: g_GW) { frames := fr, cells := mc, slots := ms, locals := lo }).room, s, m, (av ad).toArray, below, meth, c, A, D, cA, MQ below (g_QcC D cA A SH ad SH' σ') (av ad).toArray s mc ms A) rfl
    ⟨B.exec, B.bytes, hml, hown, fun w hw => hts w (List.mem_cons_of_mem _ hw), B.notSynchronized, hA, hK, Nat.le_refl _, Nat.le_refl _⟩ (hin.trans hyn) ⟨Nat.le_refl _, Nat.le_refl _⟩ ⟨B.returns, rfl⟩ hE
  rw [lg_entry_eq]
  exact hb s.heap [] _ (by rw [hml]; exact LH.entry (av ad) (hn ad) (hL ad)) hP hD va_S.rf
theorem g_blindC {D : va_G} {cA : Nat → ClassId} {strs : List (String × Nat × String)} {A : Nat → Prop} {w : Wd} {σ : St} {sz : Nat} {av : List Value} : FrameBlind (va_Pc av (g_B D cA strs A w σ sz)) := g_blind
section GK
variable {E : Bool} {θ : Th} {cs : Nat × Nat} {SH SH' SH0 : List Shp} {ad ad0 : Nat → Nat} {σ σ1 : St} {pc : Nat} {L : LV} {S : List Value} {strs strs' : List (String × Nat × String)} {cc : ByteArray} {nL : Nat} {own : String} {fr lo : Nat}
theorem G_cret {mc ms : Nat} (X : Cx θ strs cc nL own fr lo) (hq : Cq θ SH0 ad0 SH σ mc ms) (hd : decode cc pc = .ok (.return_, 1)) (ha : ∀ i, i < SH0.length → ad i = ad0 i) : G θ (mc, ms) (SH, ad) σ pc L [] := by
  obtain ⟨p, l, e, R, s, m, args, below, meth, c, A, D, cA, Q⟩ := θ
  obtain ⟨hx, hb, hml, hown, hts, hlk, hA, hK, hfr, hlo⟩ := X
  obtain ⟨hr, rfl⟩ := hq
  intro H locs ls hl' hP hD hS
  exact W.vret hx hb hr (fun t ht hW => ⟨rfl, ⟨ad, ha, by rw [ht]; exact hP, hD⟩, hS.F ht⟩) hS.2.2 hd
theorem g_goC {p : Program} {l : Launch} {e : Env} {R : Room} {s : State} {m : MethodId} {args : Array Value} {below : List Frame} {meth : Method} {c : Code} {H : Heap} {locs : List Loc} {cells slots mc ms : Nat} {Q : State → Prop} {D : va_G} {cA : Nat → ClassId} {A : Nat → Prop} {a : Array Value} {ls : Array Slot} {st0 rest : List Value}
    (hr : va_Run p l e R s m args below meth c H locs cells slots mc ms (F0 m pc ls st0) rest (g_QcC D cA A SH ad SH' σ1 a) A) (hS : va_S A s.heap H locs)
    (kk : ∀ (ad' : Nat → Nat) (H1 : Heap) (locs1 : List Loc), (∀ i, i < SH.length → ad' i = ad i) → va_P D vwCl (g_ws cA (SH', ad') σ1) H1 → va_D A (g_ws cA (SH', ad') σ1) → va_S A s.heap H1 locs1 → W p l e R s m args below meth c H1 locs1 (cells + mc) (slots + ms) Q (F0 m (pc + 3) ls rest)) : W p l e R s m args below meth c H locs cells slots Q (F0 m pc ls st0) := by
  intro T hT X
  obtain ⟨v', st₀, t, T', L9, h0, X', hL, e1, e2, ⟨hv, ⟨ad', ha, hp, hD⟩, hz, hk⟩, st⟩ := hr T hT X
  cases hv
  rw [h0] at hz hk
  obtain ⟨t2, a1, b1⟩ := kk ad' T'.heap (locs ++ L9) ha (by rw [e1]; exact hp) hD
    ⟨Nat.le_trans hS.1 (by rw [e1]; exact hz), fun q h1 h2 => by rw [e1, hk q (Nat.lt_of_lt_of_le h1 hS.1) h2]; exact hS.2.1 q h1 h2, fun q hq => by
      rcases List.mem_append.mp hq with h | h
      · exact hS.2.2 q h
      · exact hL q h⟩ T' rfl X'
  exact ⟨t2, st t2 a1, b1⟩
theorem G_callC {y : MethodName} {cy : ByteArray} {maxL idx n fr' lo' mc ms b : Nat} {av : (Nat → Nat) → List Value} (As : List Value) (hsub : ∀ q ∈ strs', q ∈ strs) (X : Cx θ strs cc nL own fr lo) (hd : decode cc pc = .ok (.invokespecial idx, 3)) (hc : CBd y cy maxL none n) (hin : Cond.instanceMethod y ∈ g_GW) (hy1 : y.name = "<init>") (hl : Cond.methodLink own idx y ∈ g_GW)
    (hE : E = true → AOx θ) (hR : RtC E θ.2.1 strs' y cy maxL fr' lo' mc ms SH av σ SH' σ1) (hav : av ad = .ref b :: As) (hn : As.length = n) (hroom : fr' + 1 ≤ fr ∧ 8 + (maxL + 11) + lo' ≤ lo) (hS8 : (S.map fun v => v.category).sum ≤ 8) (hRm : Rm θ (cs.1 + mc) (cs.2 + ms))
    (kk : ∀ ad' : Nat → Nat, (∀ i, i < SH.length → ad' i = ad i) → G θ (cs.1 + mc, cs.2 + ms) (SH', ad') σ1 (pc + 3) L S) : G θ cs (SH, ad) σ pc L (As.reverse ++ .ref b :: S) := by
  obtain ⟨p, l, e, R, s, m, args, below, meth, c, A, D, cA, Q⟩ := θ
  obtain ⟨hx, hb, hml, hown, hts, hlk, hA, hK, hfr, hlo⟩ := X
  obtain ⟨c1, c2, c3⟩ := hc
  intro H locs ls hl' hP hD hS
  have hcw : CallB R s args own idx y cy maxL none (Cond.code y cy maxL none :: g_GW) { frames := fr', cells := mc, slots := ms, locals := lo' } mc ms n ∧ y.name = "<init>" ∧ (Cond.instanceMethod y).before args s = true :=
    ⟨callB_of n hts (g_goodIn c1) rfl rfl rfl (hts _ c2) (hts _ hl) c3 ⟨Nat.le_trans hroom.1 hfr, Nat.le_trans hroom.2 hlo⟩, hy1, hts _ hin⟩
  refine g_goC (a := (Value.ref b :: As).toArray) (va_runI (As := As) (rest := S) ⟨hx, hb, hml, hown, hts⟩ (hR ad A D cA H.size (fun q hq => hA q (Nat.le_trans hS.1 hq))) hcw ⟨g_blindE, fun U hU hW => ⟨by rw [hav], g_pre hsub hK hP hD hS hU hW, fun e9 => va_AO.moved hW.alike (hE e9)⟩⟩ rfl hn (by rw [← hml]; exact hl'.1) rfl (lv_room hS8) hd hRm) hS (fun ad' H1 locs1 ha hP1 hD1 hS1 => ?_)
  exact kk ad' ha H1 locs1 ls hl' hP1 hD1 hS1
theorem G_callCN {y : MethodName} {host : String} {cy : ByteArray} {maxL idx n fr' lo' mc ms b : Nat} {av : (Nat → Nat) → List Value} (As : List Value) (hsub : ∀ q ∈ strs', q ∈ strs) (X : Cx θ strs cc nL own fr lo) (hd : decode cc pc = .ok (.invokespecial idx, 3)) (hc : CBd y cy maxL none n) (hin : Cond.instanceMethod y ∈ g_GW) (hy1 : y.name = "<init>") (hl : Cond.methodLinkNest own idx y host ∈ g_NW)
    (hE : E = true → AOx θ) (hR : RtC E θ.2.1 strs' y cy maxL fr' lo' mc ms SH av σ SH' σ1) (hav : av ad = .ref b :: As) (hn : As.length = n) (hroom : fr' + 1 ≤ fr ∧ 8 + (maxL + 11) + lo' ≤ lo) (hS8 : (S.map fun v => v.category).sum ≤ 8) (hRm : Rm θ (cs.1 + mc) (cs.2 + ms))
    (kk : ∀ ad' : Nat → Nat, (∀ i, i < SH.length → ad' i = ad i) → G θ (cs.1 + mc, cs.2 + ms) (SH', ad') σ1 (pc + 3) L S) : G θ cs (SH, ad) σ pc L (As.reverse ++ .ref b :: S) := by
  obtain ⟨p, l, e, R, s, m, args, below, meth, c, A, D, cA, Q⟩ := θ
  obtain ⟨hx, hb, hml, hown, hts, hlk, hA, hK, hfr, hlo⟩ := X
  obtain ⟨c1, c2, c3⟩ := hc
  intro H locs ls hl' hP hD hS
  have hcw : va_CN R s args own idx y host cy maxL none (Cond.code y cy maxL none :: g_GW) { frames := fr', cells := mc, slots := ms, locals := lo' } mc ms n ∧ y.name = "<init>" ∧ (Cond.instanceMethod y).before args s = true :=
    ⟨va_cnB n hts (g_goodIn c1) rfl rfl rfl (hK.2.1 _ hl) (hts _ c2) c3 ⟨Nat.le_trans hroom.1 hfr, Nat.le_trans hroom.2 hlo⟩, hy1, hts _ hin⟩
  refine g_goC (a := (Value.ref b :: As).toArray) (va_runIN (As := As) (rest := S) ⟨hx, hb, hml, hown, hts⟩ (hR ad A D cA H.size (fun q hq => hA q (Nat.le_trans hS.1 hq))) hcw ⟨g_blindE, fun U hU hW => ⟨by rw [hav], g_pre hsub hK hP hD hS hU hW, fun e9 => va_AO.moved hW.alike (hE e9)⟩⟩ rfl hn (by rw [← hml]; exact hl'.1) rfl (lv_room hS8) hd hRm) hS (fun ad' H1 locs1 ha hP1 hD1 hS1 => ?_)
  exact kk ad' ha H1 locs1 ls hl' hP1 hD1 hS1
end GK
theorem g_rb_mono {SH : List Shp} {n m : Nat} (h : g_rb SH n = true) (hm : n ≤ m) : g_rb SH m = true := by
  simp only [g_rb, List.all_eq_true] at h ⊢
  intro sh hsh
  have h1 := h sh hsh
  rcases sh with ⟨ci, fl⟩ | ⟨kd, k⟩ | ts
  · simp only [List.all_eq_true] at h1 ⊢
    intro o ho
    have h2 := h1 o ho
    rcases o with _ | _ | t
    · rfl
    · rfl
    · simp only [decide_eq_true_eq] at h2 ⊢; omega
  · rfl
  · simp only [List.all_eq_true] at h1 ⊢
    intro o ho
    have h2 := h1 o ho
    rcases o with _ | t
    · rfl
    · simp only [decide_eq_true_eq] at h2 ⊢; omega
theorem g_rb_app {SH : List Shp} {sh : Shp} {n m : Nat} (h : g_rb SH n = true) (h1 : g_rb [sh] m = true) (hm : n ≤ m) : g_rb (SH ++ [sh]) m = true := by
  have h2 := g_rb_mono h hm
  simp only [g_rb, List.all_append, Bool.and_eq_true] at h1 h2 ⊢
  exact ⟨h2, h1⟩
theorem g_rb_set {SH : List Shp} {sh : Shp} {k n : Nat} (h : g_rb SH n = true) (h1 : g_rb [sh] n = true) : g_rb (SH.set k sh) n = true := by
  simp only [g_rb, List.all_eq_true] at h h1 ⊢
  intro x hx
  rcases List.mem_or_eq_of_mem_set hx with hx | rfl
  · exact h x hx
  · exact h1 _ (List.mem_singleton.mpr rfl)
end
section
/-! constructors: words, rows, tables (printed by a program) -/
theorem w_10 : Cond.initialized "Quasigrove$Tape" ∈ g_GW := g_mem (i := 10) (by decide +kernel) rfl
theorem w_11 : Cond.initialized "Quasigrove$RowFilling" ∈ g_GW := g_mem (i := 11) (by decide +kernel) rfl
theorem w_12 : Cond.initialized "Quasigrove$Telling" ∈ g_GW := g_mem (i := 12) (by decide +kernel) rfl
theorem w_13 : Cond.initialized "Quasigrove$Symmetry" ∈ g_GW := g_mem (i := 13) (by decide +kernel) rfl
theorem w_14 : Cond.initialized "Quasigrove$Mating" ∈ g_GW := g_mem (i := 14) (by decide +kernel) rfl
theorem w_28 : Cond.code yX11_init cX11_init 2 none ∈ g_GW := g_mem (i := 28) (by decide +kernel) rfl
theorem w_29 : Cond.methodLink "Quasigrove" 1 Lib.objectInit ∈ g_GW := g_mem (i := 29) (by decide +kernel) rfl
theorem w_30 : Cond.instanceMethod Lib.objectInit ∈ g_GW := g_mem (i := 30) (by decide +kernel) rfl
theorem w_31 : Cond.code Lib.objectInit ⟨#[0xb1]⟩ 1 none ∈ g_GW := g_mem (i := 31) (by decide +kernel) rfl
theorem w_32 : Cond.classLink "Quasigrove" 9 "Quasigrove$Grid" ∈ g_GW := g_mem (i := 32) (by decide +kernel) rfl
theorem w_34 : Cond.instantiable "Quasigrove$Grid" 5 ∈ g_GW := g_mem (i := 34) (by decide +kernel) rfl
theorem w_35 : Cond.methodLinkNest "Quasigrove" 15 yX2_init "Quasigrove" ∈ g_NW := g_memN (i := 35) (by decide +kernel) rfl
theorem w_36 : Cond.instanceMethod yX2_init ∈ g_GW := g_mem (i := 36) (by decide +kernel) rfl
theorem w_37 : Cond.code yX2_init cX2_init 1 none ∈ g_GW := g_mem (i := 37) (by decide +kernel) rfl
theorem w_38 : Cond.methodLink "Quasigrove$Grid" 3 Lib.objectInit ∈ g_GW := g_mem (i := 38) (by decide +kernel) rfl
theorem w_58 : Cond.arrayClass .int ∈ g_GW := g_mem (i := 58) (by decide +kernel) rfl
theorem w_59 : Cond.classLink "Quasigrove" 20 "Quasigrove$Maps" ∈ g_GW := g_mem (i := 59) (by decide +kernel) rfl
theorem w_60 : Cond.instantiable "Quasigrove$Maps" 3 ∈ g_GW := g_mem (i := 60) (by decide +kernel) rfl
theorem w_61 : Cond.methodLink "Quasigrove" 22 yX4_init ∈ g_GW := g_mem (i := 61) (by decide +kernel) rfl
theorem w_62 : Cond.instanceMethod yX4_init ∈ g_GW := g_mem (i := 62) (by decide +kernel) rfl
theorem w_63 : Cond.code yX4_init cX4_init 3 none ∈ g_GW := g_mem (i := 63) (by decide +kernel) rfl
theorem w_64 : Cond.methodLink "Quasigrove$Maps" 3 Lib.objectInit ∈ g_GW := g_mem (i := 64) (by decide +kernel) rfl
theorem w_65 : Cond.methodLink "Quasigrove$Maps" 21 yX4_arrange ∈ g_GW := g_mem (i := 65) (by decide +kernel) rfl
theorem w_70 : Cond.fieldLink "Quasigrove$Maps" 15 "Quasigrove$Maps" "pairs" "[I" ∈ g_GW := g_mem (i := 70) (by decide +kernel) rfl
theorem w_71 : Cond.fieldLink "Quasigrove$Maps" 18 "Quasigrove$Maps" "draft" "[I" ∈ g_GW := g_mem (i := 71) (by decide +kernel) rfl
theorem w_79 : Cond.classLink "Quasigrove" 27 "Quasigrove$Tape" ∈ g_GW := g_mem (i := 79) (by decide +kernel) rfl
theorem w_80 : Cond.instantiable "Quasigrove$Tape" 4 ∈ g_GW := g_mem (i := 80) (by decide +kernel) rfl
theorem w_81 : Cond.methodLinkNest "Quasigrove" 29 yX9_init "Quasigrove" ∈ g_NW := g_memN (i := 81) (by decide +kernel) rfl
theorem w_82 : Cond.instanceMethod yX9_init ∈ g_GW := g_mem (i := 82) (by decide +kernel) rfl
theorem w_83 : Cond.code yX9_init cX9_init 1 none ∈ g_GW := g_mem (i := 83) (by decide +kernel) rfl
theorem w_84 : Cond.methodLink "Quasigrove$Tape" 3 Lib.objectInit ∈ g_GW := g_mem (i := 84) (by decide +kernel) rfl
theorem w_85 : Cond.fieldLink "Quasigrove$Tape" 9 "Quasigrove$Tape" "characters" "[I" ∈ g_GW := g_mem (i := 85) (by decide +kernel) rfl
theorem w_86 : Cond.fieldLink "Quasigrove$Tape" 15 "Quasigrove$Tape" "wordsAt" "[I" ∈ g_GW := g_mem (i := 86) (by decide +kernel) rfl
theorem w_87 : Cond.fieldLink "Quasigrove$Tape" 18 "Quasigrove$Tape" "values" "[I" ∈ g_GW := g_mem (i := 87) (by decide +kernel) rfl
theorem w_88 : Cond.fieldLink "Quasigrove$Tape" 21 "Quasigrove$Tape" "length" "I" ∈ g_GW := g_mem (i := 88) (by decide +kernel) rfl
theorem w_98 : Cond.classLink "Quasigrove" 34 "Quasigrove$RowFilling" ∈ g_GW := g_mem (i := 98) (by decide +kernel) rfl
theorem w_99 : Cond.instantiable "Quasigrove$RowFilling" 2 ∈ g_GW := g_mem (i := 99) (by decide +kernel) rfl
theorem w_100 : Cond.methodLink "Quasigrove" 36 yX7_init ∈ g_GW := g_mem (i := 100) (by decide +kernel) rfl
theorem w_101 : Cond.instanceMethod yX7_init ∈ g_GW := g_mem (i := 101) (by decide +kernel) rfl
theorem w_102 : Cond.code yX7_init cX7_init 2 none ∈ g_GW := g_mem (i := 102) (by decide +kernel) rfl
theorem w_103 : Cond.methodLink "Quasigrove$RowFilling" 3 Lib.objectInit ∈ g_GW := g_mem (i := 103) (by decide +kernel) rfl
theorem w_104 : Cond.fieldLink "Quasigrove$RowFilling" 15 "Quasigrove$RowFilling" "maps" "LQuasigrove$Maps;" ∈ g_GW := g_mem (i := 104) (by decide +kernel) rfl
theorem w_105 : Cond.fieldLink "Quasigrove$RowFilling" 9 "Quasigrove$RowFilling" "allowed" "[I" ∈ g_GW := g_mem (i := 105) (by decide +kernel) rfl
theorem w_111 : Cond.classLink "Quasigrove" 43 "Quasigrove$Telling" ∈ g_GW := g_mem (i := 111) (by decide +kernel) rfl
theorem w_112 : Cond.instantiable "Quasigrove$Telling" 3 ∈ g_GW := g_mem (i := 112) (by decide +kernel) rfl
theorem w_113 : Cond.methodLink "Quasigrove" 45 yX10_init ∈ g_GW := g_mem (i := 113) (by decide +kernel) rfl
theorem w_114 : Cond.instanceMethod yX10_init ∈ g_GW := g_mem (i := 114) (by decide +kernel) rfl
theorem w_115 : Cond.code yX10_init cX10_init 2 none ∈ g_GW := g_mem (i := 115) (by decide +kernel) rfl
theorem w_116 : Cond.methodLink "Quasigrove$Telling" 1 Lib.objectInit ∈ g_GW := g_mem (i := 116) (by decide +kernel) rfl
theorem w_117 : Cond.fieldLink "Quasigrove$Telling" 17 "Quasigrove$Telling" "maps" "LQuasigrove$Maps;" ∈ g_GW := g_mem (i := 117) (by decide +kernel) rfl
theorem w_118 : Cond.fieldLink "Quasigrove$Telling" 9 "Quasigrove$Telling" "trades" "[I" ∈ g_GW := g_mem (i := 118) (by decide +kernel) rfl
theorem w_119 : Cond.fieldLink "Quasigrove$Telling" 13 "Quasigrove$Telling" "kept" "I" ∈ g_GW := g_mem (i := 119) (by decide +kernel) rfl
theorem w_127 : Cond.classLink "Quasigrove" 50 "Quasigrove$Symmetry" ∈ g_GW := g_mem (i := 127) (by decide +kernel) rfl
theorem w_128 : Cond.instantiable "Quasigrove$Symmetry" 7 ∈ g_GW := g_mem (i := 128) (by decide +kernel) rfl
theorem w_129 : Cond.methodLink "Quasigrove" 52 yX8_init ∈ g_GW := g_mem (i := 129) (by decide +kernel) rfl
theorem w_130 : Cond.instanceMethod yX8_init ∈ g_GW := g_mem (i := 130) (by decide +kernel) rfl
theorem w_131 : Cond.code yX8_init cX8_init 2 none ∈ g_GW := g_mem (i := 131) (by decide +kernel) rfl
theorem w_132 : Cond.methodLink "Quasigrove$Symmetry" 3 Lib.objectInit ∈ g_GW := g_mem (i := 132) (by decide +kernel) rfl
theorem w_133 : Cond.fieldLink "Quasigrove$Symmetry" 32 "Quasigrove$Symmetry" "maps" "LQuasigrove$Maps;" ∈ g_GW := g_mem (i := 133) (by decide +kernel) rfl
theorem w_134 : Cond.fieldLink "Quasigrove$Symmetry" 9 "Quasigrove$Symmetry" "makers" "[I" ∈ g_GW := g_mem (i := 134) (by decide +kernel) rfl
theorem w_135 : Cond.fieldLink "Quasigrove$Symmetry" 15 "Quasigrove$Symmetry" "members" "[I" ∈ g_GW := g_mem (i := 135) (by decide +kernel) rfl
theorem w_136 : Cond.fieldLink "Quasigrove$Symmetry" 18 "Quasigrove$Symmetry" "isMember" "[Z" ∈ g_GW := g_mem (i := 136) (by decide +kernel) rfl
theorem w_137 : Cond.fieldLink "Quasigrove$Symmetry" 22 "Quasigrove$Symmetry" "signMap" "[I" ∈ g_GW := g_mem (i := 137) (by decide +kernel) rfl
theorem w_138 : Cond.fieldLink "Quasigrove$Symmetry" 25 "Quasigrove$Symmetry" "makerCount" "I" ∈ g_GW := g_mem (i := 138) (by decide +kernel) rfl
theorem w_139 : Cond.fieldLink "Quasigrove$Symmetry" 29 "Quasigrove$Symmetry" "memberCount" "I" ∈ g_GW := g_mem (i := 139) (by decide +kernel) rfl
theorem w_155 : Cond.arrayClass .boolean ∈ g_GW := g_mem (i := 155) (by decide +kernel) rfl
theorem w_156 : Cond.classLink "Quasigrove" 57 "Quasigrove$Mating" ∈ g_GW := g_mem (i := 156) (by decide +kernel) rfl
theorem w_157 : Cond.instantiable "Quasigrove$Mating" 7 ∈ g_GW := g_mem (i := 157) (by decide +kernel) rfl
theorem w_158 : Cond.methodLink "Quasigrove" 59 yX5_init ∈ g_GW := g_mem (i := 158) (by decide +kernel) rfl
theorem w_159 : Cond.instanceMethod yX5_init ∈ g_GW := g_mem (i := 159) (by decide +kernel) rfl
theorem w_160 : Cond.code yX5_init cX5_init 2 none ∈ g_GW := g_mem (i := 160) (by decide +kernel) rfl
theorem w_161 : Cond.methodLink "Quasigrove$Mating" 3 Lib.objectInit ∈ g_GW := g_mem (i := 161) (by decide +kernel) rfl
theorem w_162 : Cond.classLink "Quasigrove$Mating" 18 "Quasigrove$Grid" ∈ g_GW := g_mem (i := 162) (by decide +kernel) rfl
theorem w_163 : Cond.methodLinkNest "Quasigrove$Mating" 20 yX2_init "Quasigrove" ∈ g_NW := g_memN (i := 163) (by decide +kernel) rfl
theorem w_164 : Cond.fieldLink "Quasigrove$Mating" 35 "Quasigrove$Mating" "maps" "LQuasigrove$Maps;" ∈ g_GW := g_mem (i := 164) (by decide +kernel) rfl
theorem w_165 : Cond.fieldLink "Quasigrove$Mating" 9 "Quasigrove$Mating" "transversals" "[I" ∈ g_GW := g_mem (i := 165) (by decide +kernel) rfl
theorem w_166 : Cond.fieldLink "Quasigrove$Mating" 15 "Quasigrove$Mating" "chosen" "[I" ∈ g_GW := g_mem (i := 166) (by decide +kernel) rfl
theorem w_167 : Cond.fieldLink "Quasigrove$Mating" 21 "Quasigrove$Mating" "draft" "LQuasigrove$Grid;" ∈ g_GW := g_mem (i := 167) (by decide +kernel) rfl
theorem w_168 : Cond.fieldLink "Quasigrove$Mating" 25 "Quasigrove$Mating" "lowest" "LQuasigrove$Grid;" ∈ g_GW := g_mem (i := 168) (by decide +kernel) rfl
theorem w_169 : Cond.fieldLink "Quasigrove$Mating" 28 "Quasigrove$Mating" "found" "I" ∈ g_GW := g_mem (i := 169) (by decide +kernel) rfl
theorem w_170 : Cond.fieldLink "Quasigrove$Mating" 32 "Quasigrove$Mating" "laid" "I" ∈ g_GW := g_mem (i := 170) (by decide +kernel) rfl
theorem w_188 : Cond.fieldLink "Quasigrove" 23 "Quasigrove" "maps" "LQuasigrove$Maps;" ∈ g_GW := g_mem (i := 188) (by decide +kernel) rfl
theorem w_189 : Cond.fieldLink "Quasigrove" 30 "Quasigrove" "tape" "LQuasigrove$Tape;" ∈ g_GW := g_mem (i := 189) (by decide +kernel) rfl
theorem w_190 : Cond.fieldLink "Quasigrove" 39 "Quasigrove" "rowFilling" "LQuasigrove$RowFilling;" ∈ g_GW := g_mem (i := 190) (by decide +kernel) rfl
theorem w_191 : Cond.fieldLink "Quasigrove" 46 "Quasigrove" "telling" "LQuasigrove$Telling;" ∈ g_GW := g_mem (i := 191) (by decide +kernel) rfl
theorem w_192 : Cond.fieldLink "Quasigrove" 53 "Quasigrove" "symmetry" "LQuasigrove$Symmetry;" ∈ g_GW := g_mem (i := 192) (by decide +kernel) rfl
theorem w_193 : Cond.fieldLink "Quasigrove" 60 "Quasigrove" "mating" "LQuasigrove$Mating;" ∈ g_GW := g_mem (i := 193) (by decide +kernel) rfl
def tb_C_Grid : List (Nat × Instr × Nat) := [(0, .aload_n 0, 1), (1, .invokespecial 3, 3), (4, .aload_n 0, 1), (5, .bipush 25, 2), (7, .newarray .int, 2), (9, .putfield 9, 3), (12, .aload_n 0, 1), (13, .iconst 5, 1), (14, .newarray .int, 2), (16, .putfield 15, 3), (19, .aload_n 0, 1), (20, .iconst 5, 1), (21, .newarray .int, 2), (23, .putfield 18, 3), (26, .aload_n 0, 1), (27, .iconst 2, 1), (28, .putfield 21, 3), (31, .aload_n 0, 1), (32, .iconst 0, 1), (33, .putfield 25, 3), (36, .return_, 1)]
theorem dt_C_Grid : decAll cX2_init tb_C_Grid := by unfold decAll tb_C_Grid; decide +kernel
theorem cb_C_Grid : CBd yX2_init cX2_init 1 none 0 := ⟨w_37, w_8, by decide +kernel, by decide +kernel, by decide +kernel⟩
def tb_C_Maps : List (Nat × Instr × Nat) := [(0, .aload_n 0, 1), (1, .invokespecial 3, 3), (4, .aload_n 0, 1), (5, .sipush 600, 3), (8, .newarray .int, 2), (10, .putfield 9, 3), (13, .aload_n 0, 1), (14, .bipush 120, 2), (16, .newarray .int, 2), (18, .putfield 15, 3), (21, .aload_n 0, 1), (22, .iconst 5, 1), (23, .newarray .int, 2), (25, .putfield 18, 3), (28, .iconst 0, 1), (29, .istore_n 1, 1), (30, .iload_n 1, 1), (31, .bipush 120, 2), (33, .if_icmp .ge 52, 3), (36, .aload_n 0, 1), (37, .iload_n 1, 1), (38, .invokevirtual 21, 3), (41, .iconst 0, 1), (42, .istore_n 2, 1), (43, .iload_n 2, 1), (44, .iconst 5, 1), (45, .if_icmp .ge 34, 3), (48, .aload_n 0, 1), (49, .getfield 15, 3), (52, .iload_n 1, 1), (53, .dup2, 1), (54, .iaload, 1), (55, .iconst 1, 1), (56, .iconst 5, 1), (57, .iload_n 2, 1), (58, .imul, 1), (59, .aload_n 0, 1), (60, .getfield 9, 3), (63, .iconst 5, 1), (64, .iload_n 1, 1), (65, .imul, 1), (66, .iload_n 2, 1), (67, .iadd, 1), (68, .iaload, 1), (69, .iadd, 1), (70, .ishl, 1), (71, .ior, 1), (72, .iastore, 1), (73, .iinc 2 1, 3), (76, .goto (-33), 3), (79, .iinc 1 1, 3), (82, .goto (-52), 3), (85, .return_, 1)]
theorem dt_C_Maps : decAll cX4_init tb_C_Maps := by unfold decAll tb_C_Maps; decide +kernel
theorem cb_C_Maps : CBd yX4_init cX4_init 3 none 0 := ⟨w_63, w_9, by decide +kernel, by decide +kernel, by decide +kernel⟩
def tb_C_Tape : List (Nat × Instr × Nat) := [(0, .aload_n 0, 1), (1, .invokespecial 3, 3), (4, .aload_n 0, 1), (5, .bipush 40, 2), (7, .newarray .int, 2), (9, .putfield 9, 3), (12, .aload_n 0, 1), (13, .bipush 41, 2), (15, .newarray .int, 2), (17, .putfield 15, 3), (20, .aload_n 0, 1), (21, .bipush 40, 2), (23, .newarray .int, 2), (25, .putfield 18, 3), (28, .aload_n 0, 1), (29, .iconst 0, 1), (30, .putfield 21, 3), (33, .return_, 1)]
theorem dt_C_Tape : decAll cX9_init tb_C_Tape := by unfold decAll tb_C_Tape; decide +kernel
theorem cb_C_Tape : CBd yX9_init cX9_init 1 none 0 := ⟨w_83, w_10, by decide +kernel, by decide +kernel, by decide +kernel⟩
def tb_C_RowFilling : List (Nat × Instr × Nat) := [(0, .aload_n 0, 1), (1, .invokespecial 3, 3), (4, .aload_n 0, 1), (5, .iconst 5, 1), (6, .newarray .int, 2), (8, .putfield 9, 3), (11, .aload_n 0, 1), (12, .aload_n 1, 1), (13, .putfield 15, 3), (16, .return_, 1)]
theorem dt_C_RowFilling : decAll cX7_init tb_C_RowFilling := by unfold decAll tb_C_RowFilling; decide +kernel
theorem cb_C_RowFilling : CBd yX7_init cX7_init 2 none 1 := ⟨w_102, w_11, by decide +kernel, by decide +kernel, by decide +kernel⟩
def tb_C_Telling : List (Nat × Instr × Nat) := [(0, .aload_n 0, 1), (1, .invokespecial 1, 3), (4, .aload_n 0, 1), (5, .sipush 576, 3), (8, .newarray .int, 2), (10, .putfield 9, 3), (13, .aload_n 0, 1), (14, .iconst 0, 1), (15, .putfield 13, 3), (18, .aload_n 0, 1), (19, .aload_n 1, 1), (20, .putfield 17, 3), (23, .return_, 1)]
theorem dt_C_Telling : decAll cX10_init tb_C_Telling := by unfold decAll tb_C_Telling; decide +kernel
theorem cb_C_Telling : CBd yX10_init cX10_init 2 none 1 := ⟨w_115, w_12, by decide +kernel, by decide +kernel, by decide +kernel⟩
def tb_C_Symmetry : List (Nat × Instr × Nat) := [(0, .aload_n 0, 1), (1, .invokespecial 3, 3), (4, .aload_n 0, 1), (5, .bipush 10, 2), (7, .newarray .int, 2), (9, .putfield 9, 3), (12, .aload_n 0, 1), (13, .bipush 120, 2), (15, .newarray .int, 2), (17, .putfield 15, 3), (20, .aload_n 0, 1), (21, .bipush 120, 2), (23, .newarray .boolean, 2), (25, .putfield 18, 3), (28, .aload_n 0, 1), (29, .iconst 5, 1), (30, .newarray .int, 2), (32, .putfield 22, 3), (35, .aload_n 0, 1), (36, .iconst 0, 1), (37, .putfield 25, 3), (40, .aload_n 0, 1), (41, .iconst 0, 1), (42, .putfield 29, 3), (45, .aload_n 0, 1), (46, .aload_n 1, 1), (47, .putfield 32, 3), (50, .return_, 1)]
theorem dt_C_Symmetry : decAll cX8_init tb_C_Symmetry := by unfold decAll tb_C_Symmetry; decide +kernel
theorem cb_C_Symmetry : CBd yX8_init cX8_init 2 none 1 := ⟨w_131, w_13, by decide +kernel, by decide +kernel, by decide +kernel⟩
def tb_C_Mating : List (Nat × Instr × Nat) := [(0, .aload_n 0, 1), (1, .invokespecial 3, 3), (4, .aload_n 0, 1), (5, .bipush 120, 2), (7, .newarray .int, 2), (9, .putfield 9, 3), (12, .aload_n 0, 1), (13, .iconst 5, 1), (14, .newarray .int, 2), (16, .putfield 15, 3), (19, .aload_n 0, 1), (20, .new 18, 3), (23, .dup, 1), (24, .invokespecial 20, 3), (27, .putfield 21, 3), (30, .aload_n 0, 1), (31, .new 18, 3), (34, .dup, 1), (35, .invokespecial 20, 3), (38, .putfield 25, 3), (41, .aload_n 0, 1), (42, .iconst 0, 1), (43, .putfield 28, 3), (46, .aload_n 0, 1), (47, .iconst 0, 1), (48, .putfield 32, 3), (51, .aload_n 0, 1), (52, .aload_n 1, 1), (53, .putfield 35, 3), (56, .return_, 1)]
theorem dt_C_Mating : decAll cX5_init tb_C_Mating := by unfold decAll tb_C_Mating; decide +kernel
theorem cb_C_Mating : CBd yX5_init cX5_init 2 none 1 := ⟨w_160, w_14, by decide +kernel, by decide +kernel, by decide +kernel⟩
def tb_C_Q : List (Nat × Instr × Nat) := [(0, .aload_n 0, 1), (1, .invokespecial 1, 3), (4, .aload_n 0, 1), (5, .bipush 12, 2), (7, .anewarray 9, 3), (10, .putfield 11, 3), (13, .aload_n 0, 1), (14, .new 9, 3), (17, .dup, 1), (18, .invokespecial 15, 3), (21, .putfield 16, 3), (24, .aload_n 0, 1), (25, .new 20, 3), (28, .dup, 1), (29, .invokespecial 22, 3), (32, .putfield 23, 3), (35, .aload_n 0, 1), (36, .new 27, 3), (39, .dup, 1), (40, .invokespecial 29, 3), (43, .putfield 30, 3), (46, .aload_n 0, 1), (47, .new 34, 3), (50, .dup, 1), (51, .aload_n 0, 1), (52, .getfield 23, 3), (55, .invokespecial 36, 3), (58, .putfield 39, 3), (61, .aload_n 0, 1), (62, .new 43, 3), (65, .dup, 1), (66, .aload_n 0, 1), (67, .getfield 23, 3), (70, .invokespecial 45, 3), (73, .putfield 46, 3), (76, .aload_n 0, 1), (77, .new 50, 3), (80, .dup, 1), (81, .aload_n 0, 1), (82, .getfield 23, 3), (85, .invokespecial 52, 3), (88, .putfield 53, 3), (91, .aload_n 0, 1), (92, .new 57, 3), (95, .dup, 1), (96, .aload_n 0, 1), (97, .getfield 23, 3), (100, .invokespecial 59, 3), (103, .putfield 60, 3), (106, .aload_n 0, 1), (107, .iconst 0, 1), (108, .putfield 64, 3), (111, .iconst 0, 1), (112, .istore_n 1, 1), (113, .iload_n 1, 1), (114, .aload_n 0, 1), (115, .getfield 11, 3), (118, .arraylength, 1), (119, .if_icmp .ge 22, 3), (122, .aload_n 0, 1), (123, .getfield 11, 3), (126, .iload_n 1, 1), (127, .new 9, 3), (130, .dup, 1), (131, .invokespecial 15, 3), (134, .aastore, 1), (135, .iinc 1 1, 3), (138, .goto (-25), 3), (141, .return_, 1)]
theorem dt_C_Q : decAll cX11_init tb_C_Q := by unfold decAll tb_C_Q; decide +kernel
theorem cb_C_Q : CBd yX11_init cX11_init 2 none 0 := ⟨w_28, w_7, by decide +kernel, by decide +kernel, by decide +kernel⟩
theorem df_0 : ∀ j, j < 5 → ∃ o, ([some none, some none, some none, none, none] : List (Option (Option Nat)))[j]? = some o ∧ ((o = none ∧ defaultValue (tyX2 j) = .int 0) ∨ (o = some none ∧ defaultValue (tyX2 j) = .null)) := by
  intro j hj
  match j, hj with
  | 0, _ => exact ⟨_, rfl, Or.inr ⟨rfl, rfl⟩⟩
  | 1, _ => exact ⟨_, rfl, Or.inr ⟨rfl, rfl⟩⟩
  | 2, _ => exact ⟨_, rfl, Or.inr ⟨rfl, rfl⟩⟩
  | 3, _ => exact ⟨_, rfl, Or.inl ⟨rfl, rfl⟩⟩
  | 4, _ => exact ⟨_, rfl, Or.inl ⟨rfl, rfl⟩⟩
  | n + 5, h => exact absurd h (by omega)
theorem df_1 : ∀ j, j < 3 → ∃ o, ([some none, some none, some none] : List (Option (Option Nat)))[j]? = some o ∧ ((o = none ∧ defaultValue (tyX4 j) = .int 0) ∨ (o = some none ∧ defaultValue (tyX4 j) = .null)) := by
  intro j hj
  match j, hj with
  | 0, _ => exact ⟨_, rfl, Or.inr ⟨rfl, rfl⟩⟩
  | 1, _ => exact ⟨_, rfl, Or.inr ⟨rfl, rfl⟩⟩
  | 2, _ => exact ⟨_, rfl, Or.inr ⟨rfl, rfl⟩⟩
  | n + 3, h => exact absurd h (by omega)
theorem df_2 : ∀ j, j < 7 → ∃ o, ([some none, some none, some none, some none, some none, none, none] : List (Option (Option Nat)))[j]? = some o ∧ ((o = none ∧ defaultValue (tyX5 j) = .int 0) ∨ (o = some none ∧ defaultValue (tyX5 j) = .null)) := by
  intro j hj
  match j, hj with
  | 0, _ => exact ⟨_, rfl, Or.inr ⟨rfl, rfl⟩⟩
  | 1, _ => exact ⟨_, rfl, Or.inr ⟨rfl, rfl⟩⟩
  | 2, _ => exact ⟨_, rfl, Or.inr ⟨rfl, rfl⟩⟩
  | 3, _ => exact ⟨_, rfl, Or.inr ⟨rfl, rfl⟩⟩
  | 4, _ => exact ⟨_, rfl, Or.inr ⟨rfl, rfl⟩⟩
  | 5, _ => exact ⟨_, rfl, Or.inl ⟨rfl, rfl⟩⟩
  | 6, _ => exact ⟨_, rfl, Or.inl ⟨rfl, rfl⟩⟩
  | n + 7, h => exact absurd h (by omega)
theorem df_3 : ∀ j, j < 2 → ∃ o, ([some none, some none] : List (Option (Option Nat)))[j]? = some o ∧ ((o = none ∧ defaultValue (tyX7 j) = .int 0) ∨ (o = some none ∧ defaultValue (tyX7 j) = .null)) := by
  intro j hj
  match j, hj with
  | 0, _ => exact ⟨_, rfl, Or.inr ⟨rfl, rfl⟩⟩
  | 1, _ => exact ⟨_, rfl, Or.inr ⟨rfl, rfl⟩⟩
  | n + 2, h => exact absurd h (by omega)
theorem df_4 : ∀ j, j < 7 → ∃ o, ([some none, some none, some none, some none, some none, none, none] : List (Option (Option Nat)))[j]? = some o ∧ ((o = none ∧ defaultValue (tyX8 j) = .int 0) ∨ (o = some none ∧ defaultValue (tyX8 j) = .null)) := by
  intro j hj
  match j, hj with
  | 0, _ => exact ⟨_, rfl, Or.inr ⟨rfl, rfl⟩⟩
  | 1, _ => exact ⟨_, rfl, Or.inr ⟨rfl, rfl⟩⟩
  | 2, _ => exact ⟨_, rfl, Or.inr ⟨rfl, rfl⟩⟩
  | 3, _ => exact ⟨_, rfl, Or.inr ⟨rfl, rfl⟩⟩
  | 4, _ => exact ⟨_, rfl, Or.inr ⟨rfl, rfl⟩⟩
  | 5, _ => exact ⟨_, rfl, Or.inl ⟨rfl, rfl⟩⟩
  | 6, _ => exact ⟨_, rfl, Or.inl ⟨rfl, rfl⟩⟩
  | n + 7, h => exact absurd h (by omega)
theorem df_5 : ∀ j, j < 4 → ∃ o, ([some none, some none, some none, none] : List (Option (Option Nat)))[j]? = some o ∧ ((o = none ∧ defaultValue (tyX9 j) = .int 0) ∨ (o = some none ∧ defaultValue (tyX9 j) = .null)) := by
  intro j hj
  match j, hj with
  | 0, _ => exact ⟨_, rfl, Or.inr ⟨rfl, rfl⟩⟩
  | 1, _ => exact ⟨_, rfl, Or.inr ⟨rfl, rfl⟩⟩
  | 2, _ => exact ⟨_, rfl, Or.inr ⟨rfl, rfl⟩⟩
  | 3, _ => exact ⟨_, rfl, Or.inl ⟨rfl, rfl⟩⟩
  | n + 4, h => exact absurd h (by omega)
theorem df_6 : ∀ j, j < 3 → ∃ o, ([some none, some none, none] : List (Option (Option Nat)))[j]? = some o ∧ ((o = none ∧ defaultValue (tyX10 j) = .int 0) ∨ (o = some none ∧ defaultValue (tyX10 j) = .null)) := by
  intro j hj
  match j, hj with
  | 0, _ => exact ⟨_, rfl, Or.inr ⟨rfl, rfl⟩⟩
  | 1, _ => exact ⟨_, rfl, Or.inr ⟨rfl, rfl⟩⟩
  | 2, _ => exact ⟨_, rfl, Or.inl ⟨rfl, rfl⟩⟩
  | n + 3, h => exact absurd h (by omega)
theorem df_7 : ∀ j, j < 9 → ∃ o, ([some none, some none, some none, some none, some none, some none, some none, some none, none] : List (Option (Option Nat)))[j]? = some o ∧ ((o = none ∧ defaultValue (tyX11 j) = .int 0) ∨ (o = some none ∧ defaultValue (tyX11 j) = .null)) := by
  intro j hj
  match j, hj with
  | 0, _ => exact ⟨_, rfl, Or.inr ⟨rfl, rfl⟩⟩
  | 1, _ => exact ⟨_, rfl, Or.inr ⟨rfl, rfl⟩⟩
  | 2, _ => exact ⟨_, rfl, Or.inr ⟨rfl, rfl⟩⟩
  | 3, _ => exact ⟨_, rfl, Or.inr ⟨rfl, rfl⟩⟩
  | 4, _ => exact ⟨_, rfl, Or.inr ⟨rfl, rfl⟩⟩
  | 5, _ => exact ⟨_, rfl, Or.inr ⟨rfl, rfl⟩⟩
  | 6, _ => exact ⟨_, rfl, Or.inr ⟨rfl, rfl⟩⟩
  | 7, _ => exact ⟨_, rfl, Or.inr ⟨rfl, rfl⟩⟩
  | 8, _ => exact ⟨_, rfl, Or.inl ⟨rfl, rfl⟩⟩
  | n + 9, h => exact absurd h (by omega)
def qt_Maps_0 : List Shp := [.inl (7, [some (some 1), some (some 2), some none, some none, some none, some none, some none, some none, none]), .inr (.inr [none, none, none, none, none, none, none, none, none, none, none, none]), .inl (0, [some (some 3), some (some 4), some (some 5), none, none]), .inr (.inl (0, 25)), .inr (.inl (0, 5)), .inr (.inl (0, 5)), .inl (1, [some none, some none, some none])]
def qt_Maps_1 : List Shp := [.inl (7, [some (some 1), some (some 2), some none, some none, some none, some none, some none, some none, none]), .inr (.inr [none, none, none, none, none, none, none, none, none, none, none, none]), .inl (0, [some (some 3), some (some 4), some (some 5), none, none]), .inr (.inl (0, 25)), .inr (.inl (0, 5)), .inr (.inl (0, 5)), .inl (1, [some none, some none, some none]), .inr (.inl (0, 600))]
def qt_Maps_2 : List Shp := [.inl (7, [some (some 1), some (some 2), some none, some none, some none, some none, some none, some none, none]), .inr (.inr [none, none, none, none, none, none, none, none, none, none, none, none]), .inl (0, [some (some 3), some (some 4), some (some 5), none, none]), .inr (.inl (0, 25)), .inr (.inl (0, 5)), .inr (.inl (0, 5)), .inl (1, [some (some 7), some none, some none]), .inr (.inl (0, 600))]
def qt_Maps_3 : List Shp := [.inl (7, [some (some 1), some (some 2), some none, some none, some none, some none, some none, some none, none]), .inr (.inr [none, none, none, none, none, none, none, none, none, none, none, none]), .inl (0, [some (some 3), some (some 4), some (some 5), none, none]), .inr (.inl (0, 25)), .inr (.inl (0, 5)), .inr (.inl (0, 5)), .inl (1, [some (some 7), some none, some none]), .inr (.inl (0, 600)), .inr (.inl (0, 120))]
def qt_Maps_4 : List Shp := [.inl (7, [some (some 1), some (some 2), some none, some none, some none, some none, some none, some none, none]), .inr (.inr [none, none, none, none, none, none, none, none, none, none, none, none]), .inl (0, [some (some 3), some (some 4), some (some 5), none, none]), .inr (.inl (0, 25)), .inr (.inl (0, 5)), .inr (.inl (0, 5)), .inl (1, [some (some 7), some (some 8), some none]), .inr (.inl (0, 600)), .inr (.inl (0, 120))]
def qt_Maps_5 : List Shp := [.inl (7, [some (some 1), some (some 2), some none, some none, some none, some none, some none, some none, none]), .inr (.inr [none, none, none, none, none, none, none, none, none, none, none, none]), .inl (0, [some (some 3), some (some 4), some (some 5), none, none]), .inr (.inl (0, 25)), .inr (.inl (0, 5)), .inr (.inl (0, 5)), .inl (1, [some (some 7), some (some 8), some none]), .inr (.inl (0, 600)), .inr (.inl (0, 120)), .inr (.inl (0, 5))]
def qt_Maps_6 : List Shp := [.inl (7, [some (some 1), some (some 2), some none, some none, some none, some none, some none, some none, none]), .inr (.inr [none, none, none, none, none, none, none, none, none, none, none, none]), .inl (0, [some (some 3), some (some 4), some (some 5), none, none]), .inr (.inl (0, 25)), .inr (.inl (0, 5)), .inr (.inl (0, 5)), .inl (1, [some (some 7), some (some 8), some (some 9)]), .inr (.inl (0, 600)), .inr (.inl (0, 120)), .inr (.inl (0, 5))]
def qt_Tape_0 : List Shp := [.inl (7, [some (some 1), some (some 2), some (some 6), some none, some none, some none, some none, some none, none]), .inr (.inr [none, none, none, none, none, none, none, none, none, none, none, none]), .inl (0, [some (some 3), some (some 4), some (some 5), none, none]), .inr (.inl (0, 25)), .inr (.inl (0, 5)), .inr (.inl (0, 5)), .inl (1, [some (some 7), some (some 8), some (some 9)]), .inr (.inl (0, 600)), .inr (.inl (0, 120)), .inr (.inl (0, 5)), .inl (5, [some none, some none, some none, none])]
def qt_Tape_1 : List Shp := [.inl (7, [some (some 1), some (some 2), some (some 6), some none, some none, some none, some none, some none, none]), .inr (.inr [none, none, none, none, none, none, none, none, none, none, none, none]), .inl (0, [some (some 3), some (some 4), some (some 5), none, none]), .inr (.inl (0, 25)), .inr (.inl (0, 5)), .inr (.inl (0, 5)), .inl (1, [some (some 7), some (some 8), some (some 9)]), .inr (.inl (0, 600)), .inr (.inl (0, 120)), .inr (.inl (0, 5)), .inl (5, [some none, some none, some none, none]), .inr (.inl (0, 40))]
def qt_Tape_2 : List Shp := [.inl (7, [some (some 1), some (some 2), some (some 6), some none, some none, some none, some none, some none, none]), .inr (.inr [none, none, none, none, none, none, none, none, none, none, none, none]), .inl (0, [some (some 3), some (some 4), some (some 5), none, none]), .inr (.inl (0, 25)), .inr (.inl (0, 5)), .inr (.inl (0, 5)), .inl (1, [some (some 7), some (some 8), some (some 9)]), .inr (.inl (0, 600)), .inr (.inl (0, 120)), .inr (.inl (0, 5)), .inl (5, [some (some 11), some none, some none, none]), .inr (.inl (0, 40))]
def qt_Tape_3 : List Shp := [.inl (7, [some (some 1), some (some 2), some (some 6), some none, some none, some none, some none, some none, none]), .inr (.inr [none, none, none, none, none, none, none, none, none, none, none, none]), .inl (0, [some (some 3), some (some 4), some (some 5), none, none]), .inr (.inl (0, 25)), .inr (.inl (0, 5)), .inr (.inl (0, 5)), .inl (1, [some (some 7), some (some 8), some (some 9)]), .inr (.inl (0, 600)), .inr (.inl (0, 120)), .inr (.inl (0, 5)), .inl (5, [some (some 11), some none, some none, none]), .inr (.inl (0, 40)), .inr (.inl (0, 41))]
def qt_Tape_4 : List Shp := [.inl (7, [some (some 1), some (some 2), some (some 6), some none, some none, some none, some none, some none, none]), .inr (.inr [none, none, none, none, none, none, none, none, none, none, none, none]), .inl (0, [some (some 3), some (some 4), some (some 5), none, none]), .inr (.inl (0, 25)), .inr (.inl (0, 5)), .inr (.inl (0, 5)), .inl (1, [some (some 7), some (some 8), some (some 9)]), .inr (.inl (0, 600)), .inr (.inl (0, 120)), .inr (.inl (0, 5)), .inl (5, [some (some 11), some (some 12), some none, none]), .inr (.inl (0, 40)), .inr (.inl (0, 41))]
def qt_Tape_5 : List Shp := [.inl (7, [some (some 1), some (some 2), some (some 6), some none, some none, some none, some none, some none, none]), .inr (.inr [none, none, none, none, none, none, none, none, none, none, none, none]), .inl (0, [some (some 3), some (some 4), some (some 5), none, none]), .inr (.inl (0, 25)), .inr (.inl (0, 5)), .inr (.inl (0, 5)), .inl (1, [some (some 7), some (some 8), some (some 9)]), .inr (.inl (0, 600)), .inr (.inl (0, 120)), .inr (.inl (0, 5)), .inl (5, [some (some 11), some (some 12), some none, none]), .inr (.inl (0, 40)), .inr (.inl (0, 41)), .inr (.inl (0, 40))]
def qt_Tape_6 : List Shp := [.inl (7, [some (some 1), some (some 2), some (some 6), some none, some none, some none, some none, some none, none]), .inr (.inr [none, none, none, none, none, none, none, none, none, none, none, none]), .inl (0, [some (some 3), some (some 4), some (some 5), none, none]), .inr (.inl (0, 25)), .inr (.inl (0, 5)), .inr (.inl (0, 5)), .inl (1, [some (some 7), some (some 8), some (some 9)]), .inr (.inl (0, 600)), .inr (.inl (0, 120)), .inr (.inl (0, 5)), .inl (5, [some (some 11), some (some 12), some (some 13), none]), .inr (.inl (0, 40)), .inr (.inl (0, 41)), .inr (.inl (0, 40))]
def qt_RowFilling_0 : List Shp := [.inl (7, [some (some 1), some (some 2), some (some 6), some (some 10), some none, some none, some none, some none, none]), .inr (.inr [none, none, none, none, none, none, none, none, none, none, none, none]), .inl (0, [some (some 3), some (some 4), some (some 5), none, none]), .inr (.inl (0, 25)), .inr (.inl (0, 5)), .inr (.inl (0, 5)), .inl (1, [some (some 7), some (some 8), some (some 9)]), .inr (.inl (0, 600)), .inr (.inl (0, 120)), .inr (.inl (0, 5)), .inl (5, [some (some 11), some (some 12), some (some 13), none]), .inr (.inl (0, 40)), .inr (.inl (0, 41)), .inr (.inl (0, 40)), .inl (3, [some none, some none])]
def qt_RowFilling_1 : List Shp := [.inl (7, [some (some 1), some (some 2), some (some 6), some (some 10), some none, some none, some none, some none, none]), .inr (.inr [none, none, none, none, none, none, none, none, none, none, none, none]), .inl (0, [some (some 3), some (some 4), some (some 5), none, none]), .inr (.inl (0, 25)), .inr (.inl (0, 5)), .inr (.inl (0, 5)), .inl (1, [some (some 7), some (some 8), some (some 9)]), .inr (.inl (0, 600)), .inr (.inl (0, 120)), .inr (.inl (0, 5)), .inl (5, [some (some 11), some (some 12), some (some 13), none]), .inr (.inl (0, 40)), .inr (.inl (0, 41)), .inr (.inl (0, 40)), .inl (3, [some none, some none]), .inr (.inl (0, 5))]
def qt_RowFilling_2 : List Shp := [.inl (7, [some (some 1), some (some 2), some (some 6), some (some 10), some none, some none, some none, some none, none]), .inr (.inr [none, none, none, none, none, none, none, none, none, none, none, none]), .inl (0, [some (some 3), some (some 4), some (some 5), none, none]), .inr (.inl (0, 25)), .inr (.inl (0, 5)), .inr (.inl (0, 5)), .inl (1, [some (some 7), some (some 8), some (some 9)]), .inr (.inl (0, 600)), .inr (.inl (0, 120)), .inr (.inl (0, 5)), .inl (5, [some (some 11), some (some 12), some (some 13), none]), .inr (.inl (0, 40)), .inr (.inl (0, 41)), .inr (.inl (0, 40)), .inl (3, [some none, some (some 15)]), .inr (.inl (0, 5))]
def qt_RowFilling_3 : List Shp := [.inl (7, [some (some 1), some (some 2), some (some 6), some (some 10), some none, some none, some none, some none, none]), .inr (.inr [none, none, none, none, none, none, none, none, none, none, none, none]), .inl (0, [some (some 3), some (some 4), some (some 5), none, none]), .inr (.inl (0, 25)), .inr (.inl (0, 5)), .inr (.inl (0, 5)), .inl (1, [some (some 7), some (some 8), some (some 9)]), .inr (.inl (0, 600)), .inr (.inl (0, 120)), .inr (.inl (0, 5)), .inl (5, [some (some 11), some (some 12), some (some 13), none]), .inr (.inl (0, 40)), .inr (.inl (0, 41)), .inr (.inl (0, 40)), .inl (3, [some (some 6), some (some 15)]), .inr (.inl (0, 5))]
def qt_Telling_0 : List Shp := [.inl (7, [some (some 1), some (some 2), some (some 6), some (some 10), some (some 14), some none, some none, some none, none]), .inr (.inr [none, none, none, none, none, none, none, none, none, none, none, none]), .inl (0, [some (some 3), some (some 4), some (some 5), none, none]), .inr (.inl (0, 25)), .inr (.inl (0, 5)), .inr (.inl (0, 5)), .inl (1, [some (some 7), some (some 8), some (some 9)]), .inr (.inl (0, 600)), .inr (.inl (0, 120)), .inr (.inl (0, 5)), .inl (5, [some (some 11), some (some 12), some (some 13), none]), .inr (.inl (0, 40)), .inr (.inl (0, 41)), .inr (.inl (0, 40)), .inl (3, [some (some 6), some (some 15)]), .inr (.inl (0, 5)), .inl (6, [some none, some none, none])]
def qt_Telling_1 : List Shp := [.inl (7, [some (some 1), some (some 2), some (some 6), some (some 10), some (some 14), some none, some none, some none, none]), .inr (.inr [none, none, none, none, none, none, none, none, none, none, none, none]), .inl (0, [some (some 3), some (some 4), some (some 5), none, none]), .inr (.inl (0, 25)), .inr (.inl (0, 5)), .inr (.inl (0, 5)), .inl (1, [some (some 7), some (some 8), some (some 9)]), .inr (.inl (0, 600)), .inr (.inl (0, 120)), .inr (.inl (0, 5)), .inl (5, [some (some 11), some (some 12), some (some 13), none]), .inr (.inl (0, 40)), .inr (.inl (0, 41)), .inr (.inl (0, 40)), .inl (3, [some (some 6), some (some 15)]), .inr (.inl (0, 5)), .inl (6, [some none, some none, none]), .inr (.inl (0, 576))]
def qt_Telling_2 : List Shp := [.inl (7, [some (some 1), some (some 2), some (some 6), some (some 10), some (some 14), some none, some none, some none, none]), .inr (.inr [none, none, none, none, none, none, none, none, none, none, none, none]), .inl (0, [some (some 3), some (some 4), some (some 5), none, none]), .inr (.inl (0, 25)), .inr (.inl (0, 5)), .inr (.inl (0, 5)), .inl (1, [some (some 7), some (some 8), some (some 9)]), .inr (.inl (0, 600)), .inr (.inl (0, 120)), .inr (.inl (0, 5)), .inl (5, [some (some 11), some (some 12), some (some 13), none]), .inr (.inl (0, 40)), .inr (.inl (0, 41)), .inr (.inl (0, 40)), .inl (3, [some (some 6), some (some 15)]), .inr (.inl (0, 5)), .inl (6, [some none, some (some 17), none]), .inr (.inl (0, 576))]
def qt_Telling_3 : List Shp := [.inl (7, [some (some 1), some (some 2), some (some 6), some (some 10), some (some 14), some none, some none, some none, none]), .inr (.inr [none, none, none, none, none, none, none, none, none, none, none, none]), .inl (0, [some (some 3), some (some 4), some (some 5), none, none]), .inr (.inl (0, 25)), .inr (.inl (0, 5)), .inr (.inl (0, 5)), .inl (1, [some (some 7), some (some 8), some (some 9)]), .inr (.inl (0, 600)), .inr (.inl (0, 120)), .inr (.inl (0, 5)), .inl (5, [some (some 11), some (some 12), some (some 13), none]), .inr (.inl (0, 40)), .inr (.inl (0, 41)), .inr (.inl (0, 40)), .inl (3, [some (some 6), some (some 15)]), .inr (.inl (0, 5)), .inl (6, [some (some 6), some (some 17), none]), .inr (.inl (0, 576))]
def qt_Symmetry_0 : List Shp := [.inl (7, [some (some 1), some (some 2), some (some 6), some (some 10), some (some 14), some (some 16), some none, some none, none]), .inr (.inr [none, none, none, none, none, none, none, none, none, none, none, none]), .inl (0, [some (some 3), some (some 4), some (some 5), none, none]), .inr (.inl (0, 25)), .inr (.inl (0, 5)), .inr (.inl (0, 5)), .inl (1, [some (some 7), some (some 8), some (some 9)]), .inr (.inl (0, 600)), .inr (.inl (0, 120)), .inr (.inl (0, 5)), .inl (5, [some (some 11), some (some 12), some (some 13), none]), .inr (.inl (0, 40)), .inr (.inl (0, 41)), .inr (.inl (0, 40)), .inl (3, [some (some 6), some (some 15)]), .inr (.inl (0, 5)), .inl (6, [some (some 6), some (some 17), none]), .inr (.inl (0, 576)), .inl (4, [some none, some none, some none, some none, some none, none, none])]
def qt_Symmetry_1 : List Shp := [.inl (7, [some (some 1), some (some 2), some (some 6), some (some 10), some (some 14), some (some 16), some none, some none, none]), .inr (.inr [none, none, none, none, none, none, none, none, none, none, none, none]), .inl (0, [some (some 3), some (some 4), some (some 5), none, none]), .inr (.inl (0, 25)), .inr (.inl (0, 5)), .inr (.inl (0, 5)), .inl (1, [some (some 7), some (some 8), some (some 9)]), .inr (.inl (0, 600)), .inr (.inl (0, 120)), .inr (.inl (0, 5)), .inl (5, [some (some 11), some (some 12), some (some 13), none]), .inr (.inl (0, 40)), .inr (.inl (0, 41)), .inr (.inl (0, 40)), .inl (3, [some (some 6), some (some 15)]), .inr (.inl (0, 5)), .inl (6, [some (some 6), some (some 17), none]), .inr (.inl (0, 576)), .inl (4, [some none, some none, some none, some none, some none, none, none]), .inr (.inl (0, 10))]
def qt_Symmetry_2 : List Shp := [.inl (7, [some (some 1), some (some 2), some (some 6), some (some 10), some (some 14), some (some 16), some none, some none, none]), .inr (.inr [none, none, none, none, none, none, none, none, none, none, none, none]), .inl (0, [some (some 3), some (some 4), some (some 5), none, none]), .inr (.inl (0, 25)), .inr (.inl (0, 5)), .inr (.inl (0, 5)), .inl (1, [some (some 7), some (some 8), some (some 9)]), .inr (.inl (0, 600)), .inr (.inl (0, 120)), .inr (.inl (0, 5)), .inl (5, [some (some 11), some (some 12), some (some 13), none]), .inr (.inl (0, 40)), .inr (.inl (0, 41)), .inr (.inl (0, 40)), .inl (3, [some (some 6), some (some 15)]), .inr (.inl (0, 5)), .inl (6, [some (some 6), some (some 17), none]), .inr (.inl (0, 576)), .inl (4, [some none, some (some 19), some none, some none, some none, none, none]), .inr (.inl (0, 10))]
def qt_Symmetry_3 : List Shp := [.inl (7, [some (some 1), some (some 2), some (some 6), some (some 10), some (some 14), some (some 16), some none, some none, none]), .inr (.inr [none, none, none, none, none, none, none, none, none, none, none, none]), .inl (0, [some (some 3), some (some 4), some (some 5), none, none]), .inr (.inl (0, 25)), .inr (.inl (0, 5)), .inr (.inl (0, 5)), .inl (1, [some (some 7), some (some 8), some (some 9)]), .inr (.inl (0, 600)), .inr (.inl (0, 120)), .inr (.inl (0, 5)), .inl (5, [some (some 11), some (some 12), some (some 13), none]), .inr (.inl (0, 40)), .inr (.inl (0, 41)), .inr (.inl (0, 40)), .inl (3, [some (some 6), some (some 15)]), .inr (.inl (0, 5)), .inl (6, [some (some 6), some (some 17), none]), .inr (.inl (0, 576)), .inl (4, [some none, some (some 19), some none, some none, some none, none, none]), .inr (.inl (0, 10)), .inr (.inl (0, 120))]
def qt_Symmetry_4 : List Shp := [.inl (7, [some (some 1), some (some 2), some (some 6), some (some 10), some (some 14), some (some 16), some none, some none, none]), .inr (.inr [none, none, none, none, none, none, none, none, none, none, none, none]), .inl (0, [some (some 3), some (some 4), some (some 5), none, none]), .inr (.inl (0, 25)), .inr (.inl (0, 5)), .inr (.inl (0, 5)), .inl (1, [some (some 7), some (some 8), some (some 9)]), .inr (.inl (0, 600)), .inr (.inl (0, 120)), .inr (.inl (0, 5)), .inl (5, [some (some 11), some (some 12), some (some 13), none]), .inr (.inl (0, 40)), .inr (.inl (0, 41)), .inr (.inl (0, 40)), .inl (3, [some (some 6), some (some 15)]), .inr (.inl (0, 5)), .inl (6, [some (some 6), some (some 17), none]), .inr (.inl (0, 576)), .inl (4, [some none, some (some 19), some (some 20), some none, some none, none, none]), .inr (.inl (0, 10)), .inr (.inl (0, 120))]
def qt_Symmetry_5 : List Shp := [.inl (7, [some (some 1), some (some 2), some (some 6), some (some 10), some (some 14), some (some 16), some none, some none, none]), .inr (.inr [none, none, none, none, none, none, none, none, none, none, none, none]), .inl (0, [some (some 3), some (some 4), some (some 5), none, none]), .inr (.inl (0, 25)), .inr (.inl (0, 5)), .inr (.inl (0, 5)), .inl (1, [some (some 7), some (some 8), some (some 9)]), .inr (.inl (0, 600)), .inr (.inl (0, 120)), .inr (.inl (0, 5)), .inl (5, [some (some 11), some (some 12), some (some 13), none]), .inr (.inl (0, 40)), .inr (.inl (0, 41)), .inr (.inl (0, 40)), .inl (3, [some (some 6), some (some 15)]), .inr (.inl (0, 5)), .inl (6, [some (some 6), some (some 17), none]), .inr (.inl (0, 576)), .inl (4, [some none, some (some 19), some (some 20), some none, some none, none, none]), .inr (.inl (0, 10)), .inr (.inl (0, 120)), .inr (.inl (1, 120))]
def qt_Symmetry_6 : List Shp := [.inl (7, [some (some 1), some (some 2), some (some 6), some (some 10), some (some 14), some (some 16), some none, some none, none]), .inr (.inr [none, none, none, none, none, none, none, none, none, none, none, none]), .inl (0, [some (some 3), some (some 4), some (some 5), none, none]), .inr (.inl (0, 25)), .inr (.inl (0, 5)), .inr (.inl (0, 5)), .inl (1, [some (some 7), some (some 8), some (some 9)]), .inr (.inl (0, 600)), .inr (.inl (0, 120)), .inr (.inl (0, 5)), .inl (5, [some (some 11), some (some 12), some (some 13), none]), .inr (.inl (0, 40)), .inr (.inl (0, 41)), .inr (.inl (0, 40)), .inl (3, [some (some 6), some (some 15)]), .inr (.inl (0, 5)), .inl (6, [some (some 6), some (some 17), none]), .inr (.inl (0, 576)), .inl (4, [some none, some (some 19), some (some 20), some (some 21), some none, none, none]), .inr (.inl (0, 10)), .inr (.inl (0, 120)), .inr (.inl (1, 120))]
def qt_Symmetry_7 : List Shp := [.inl (7, [some (some 1), some (some 2), some (some 6), some (some 10), some (some 14), some (some 16), some none, some none, none]), .inr (.inr [none, none, none, none, none, none, none, none, none, none, none, none]), .inl (0, [some (some 3), some (some 4), some (some 5), none, none]), .inr (.inl (0, 25)), .inr (.inl (0, 5)), .inr (.inl (0, 5)), .inl (1, [some (some 7), some (some 8), some (some 9)]), .inr (.inl (0, 600)), .inr (.inl (0, 120)), .inr (.inl (0, 5)), .inl (5, [some (some 11), some (some 12), some (some 13), none]), .inr (.inl (0, 40)), .inr (.inl (0, 41)), .inr (.inl (0, 40)), .inl (3, [some (some 6), some (some 15)]), .inr (.inl (0, 5)), .inl (6, [some (some 6), some (some 17), none]), .inr (.inl (0, 576)), .inl (4, [some none, some (some 19), some (some 20), some (some 21), some none, none, none]), .inr (.inl (0, 10)), .inr (.inl (0, 120)), .inr (.inl (1, 120)), .inr (.inl (0, 5))]
def qt_Symmetry_8 : List Shp := [.inl (7, [some (some 1), some (some 2), some (some 6), some (some 10), some (some 14), some (some 16), some none, some none, none]), .inr (.inr [none, none, none, none, none, none, none, none, none, none, none, none]), .inl (0, [some (some 3), some (some 4), some (some 5), none, none]), .inr (.inl (0, 25)), .inr (.inl (0, 5)), .inr (.inl (0, 5)), .inl (1, [some (some 7), some (some 8), some (some 9)]), .inr (.inl (0, 600)), .inr (.inl (0, 120)), .inr (.inl (0, 5)), .inl (5, [some (some 11), some (some 12), some (some 13), none]), .inr (.inl (0, 40)), .inr (.inl (0, 41)), .inr (.inl (0, 40)), .inl (3, [some (some 6), some (some 15)]), .inr (.inl (0, 5)), .inl (6, [some (some 6), some (some 17), none]), .inr (.inl (0, 576)), .inl (4, [some none, some (some 19), some (some 20), some (some 21), some (some 22), none, none]), .inr (.inl (0, 10)), .inr (.inl (0, 120)), .inr (.inl (1, 120)), .inr (.inl (0, 5))]
def qt_Symmetry_9 : List Shp := [.inl (7, [some (some 1), some (some 2), some (some 6), some (some 10), some (some 14), some (some 16), some none, some none, none]), .inr (.inr [none, none, none, none, none, none, none, none, none, none, none, none]), .inl (0, [some (some 3), some (some 4), some (some 5), none, none]), .inr (.inl (0, 25)), .inr (.inl (0, 5)), .inr (.inl (0, 5)), .inl (1, [some (some 7), some (some 8), some (some 9)]), .inr (.inl (0, 600)), .inr (.inl (0, 120)), .inr (.inl (0, 5)), .inl (5, [some (some 11), some (some 12), some (some 13), none]), .inr (.inl (0, 40)), .inr (.inl (0, 41)), .inr (.inl (0, 40)), .inl (3, [some (some 6), some (some 15)]), .inr (.inl (0, 5)), .inl (6, [some (some 6), some (some 17), none]), .inr (.inl (0, 576)), .inl (4, [some (some 6), some (some 19), some (some 20), some (some 21), some (some 22), none, none]), .inr (.inl (0, 10)), .inr (.inl (0, 120)), .inr (.inl (1, 120)), .inr (.inl (0, 5))]
def qt_Mating_0 : List Shp := [.inl (7, [some (some 1), some (some 2), some (some 6), some (some 10), some (some 14), some (some 16), some (some 18), some none, none]), .inr (.inr [none, none, none, none, none, none, none, none, none, none, none, none]), .inl (0, [some (some 3), some (some 4), some (some 5), none, none]), .inr (.inl (0, 25)), .inr (.inl (0, 5)), .inr (.inl (0, 5)), .inl (1, [some (some 7), some (some 8), some (some 9)]), .inr (.inl (0, 600)), .inr (.inl (0, 120)), .inr (.inl (0, 5)), .inl (5, [some (some 11), some (some 12), some (some 13), none]), .inr (.inl (0, 40)), .inr (.inl (0, 41)), .inr (.inl (0, 40)), .inl (3, [some (some 6), some (some 15)]), .inr (.inl (0, 5)), .inl (6, [some (some 6), some (some 17), none]), .inr (.inl (0, 576)), .inl (4, [some (some 6), some (some 19), some (some 20), some (some 21), some (some 22), none, none]), .inr (.inl (0, 10)), .inr (.inl (0, 120)), .inr (.inl (1, 120)), .inr (.inl (0, 5)), .inl (2, [some none, some none, some none, some none, some none, none, none])]
def qt_Mating_1 : List Shp := [.inl (7, [some (some 1), some (some 2), some (some 6), some (some 10), some (some 14), some (some 16), some (some 18), some none, none]), .inr (.inr [none, none, none, none, none, none, none, none, none, none, none, none]), .inl (0, [some (some 3), some (some 4), some (some 5), none, none]), .inr (.inl (0, 25)), .inr (.inl (0, 5)), .inr (.inl (0, 5)), .inl (1, [some (some 7), some (some 8), some (some 9)]), .inr (.inl (0, 600)), .inr (.inl (0, 120)), .inr (.inl (0, 5)), .inl (5, [some (some 11), some (some 12), some (some 13), none]), .inr (.inl (0, 40)), .inr (.inl (0, 41)), .inr (.inl (0, 40)), .inl (3, [some (some 6), some (some 15)]), .inr (.inl (0, 5)), .inl (6, [some (some 6), some (some 17), none]), .inr (.inl (0, 576)), .inl (4, [some (some 6), some (some 19), some (some 20), some (some 21), some (some 22), none, none]), .inr (.inl (0, 10)), .inr (.inl (0, 120)), .inr (.inl (1, 120)), .inr (.inl (0, 5)), .inl (2, [some none, some none, some none, some none, some none, none, none]), .inr (.inl (0, 120))]
def qt_Mating_2 : List Shp := [.inl (7, [some (some 1), some (some 2), some (some 6), some (some 10), some (some 14), some (some 16), some (some 18), some none, none]), .inr (.inr [none, none, none, none, none, none, none, none, none, none, none, none]), .inl (0, [some (some 3), some (some 4), some (some 5), none, none]), .inr (.inl (0, 25)), .inr (.inl (0, 5)), .inr (.inl (0, 5)), .inl (1, [some (some 7), some (some 8), some (some 9)]), .inr (.inl (0, 600)), .inr (.inl (0, 120)), .inr (.inl (0, 5)), .inl (5, [some (some 11), some (some 12), some (some 13), none]), .inr (.inl (0, 40)), .inr (.inl (0, 41)), .inr (.inl (0, 40)), .inl (3, [some (some 6), some (some 15)]), .inr (.inl (0, 5)), .inl (6, [some (some 6), some (some 17), none]), .inr (.inl (0, 576)), .inl (4, [some (some 6), some (some 19), some (some 20), some (some 21), some (some 22), none, none]), .inr (.inl (0, 10)), .inr (.inl (0, 120)), .inr (.inl (1, 120)), .inr (.inl (0, 5)), .inl (2, [some none, some (some 24), some none, some none, some none, none, none]), .inr (.inl (0, 120))]
def qt_Mating_3 : List Shp := [.inl (7, [some (some 1), some (some 2), some (some 6), some (some 10), some (some 14), some (some 16), some (some 18), some none, none]), .inr (.inr [none, none, none, none, none, none, none, none, none, none, none, none]), .inl (0, [some (some 3), some (some 4), some (some 5), none, none]), .inr (.inl (0, 25)), .inr (.inl (0, 5)), .inr (.inl (0, 5)), .inl (1, [some (some 7), some (some 8), some (some 9)]), .inr (.inl (0, 600)), .inr (.inl (0, 120)), .inr (.inl (0, 5)), .inl (5, [some (some 11), some (some 12), some (some 13), none]), .inr (.inl (0, 40)), .inr (.inl (0, 41)), .inr (.inl (0, 40)), .inl (3, [some (some 6), some (some 15)]), .inr (.inl (0, 5)), .inl (6, [some (some 6), some (some 17), none]), .inr (.inl (0, 576)), .inl (4, [some (some 6), some (some 19), some (some 20), some (some 21), some (some 22), none, none]), .inr (.inl (0, 10)), .inr (.inl (0, 120)), .inr (.inl (1, 120)), .inr (.inl (0, 5)), .inl (2, [some none, some (some 24), some none, some none, some none, none, none]), .inr (.inl (0, 120)), .inr (.inl (0, 5))]
def qt_Mating_4 : List Shp := [.inl (7, [some (some 1), some (some 2), some (some 6), some (some 10), some (some 14), some (some 16), some (some 18), some none, none]), .inr (.inr [none, none, none, none, none, none, none, none, none, none, none, none]), .inl (0, [some (some 3), some (some 4), some (some 5), none, none]), .inr (.inl (0, 25)), .inr (.inl (0, 5)), .inr (.inl (0, 5)), .inl (1, [some (some 7), some (some 8), some (some 9)]), .inr (.inl (0, 600)), .inr (.inl (0, 120)), .inr (.inl (0, 5)), .inl (5, [some (some 11), some (some 12), some (some 13), none]), .inr (.inl (0, 40)), .inr (.inl (0, 41)), .inr (.inl (0, 40)), .inl (3, [some (some 6), some (some 15)]), .inr (.inl (0, 5)), .inl (6, [some (some 6), some (some 17), none]), .inr (.inl (0, 576)), .inl (4, [some (some 6), some (some 19), some (some 20), some (some 21), some (some 22), none, none]), .inr (.inl (0, 10)), .inr (.inl (0, 120)), .inr (.inl (1, 120)), .inr (.inl (0, 5)), .inl (2, [some none, some (some 24), some (some 25), some none, some none, none, none]), .inr (.inl (0, 120)), .inr (.inl (0, 5))]
def qt_Mating_5 : List Shp := [.inl (7, [some (some 1), some (some 2), some (some 6), some (some 10), some (some 14), some (some 16), some (some 18), some none, none]), .inr (.inr [none, none, none, none, none, none, none, none, none, none, none, none]), .inl (0, [some (some 3), some (some 4), some (some 5), none, none]), .inr (.inl (0, 25)), .inr (.inl (0, 5)), .inr (.inl (0, 5)), .inl (1, [some (some 7), some (some 8), some (some 9)]), .inr (.inl (0, 600)), .inr (.inl (0, 120)), .inr (.inl (0, 5)), .inl (5, [some (some 11), some (some 12), some (some 13), none]), .inr (.inl (0, 40)), .inr (.inl (0, 41)), .inr (.inl (0, 40)), .inl (3, [some (some 6), some (some 15)]), .inr (.inl (0, 5)), .inl (6, [some (some 6), some (some 17), none]), .inr (.inl (0, 576)), .inl (4, [some (some 6), some (some 19), some (some 20), some (some 21), some (some 22), none, none]), .inr (.inl (0, 10)), .inr (.inl (0, 120)), .inr (.inl (1, 120)), .inr (.inl (0, 5)), .inl (2, [some none, some (some 24), some (some 25), some none, some none, none, none]), .inr (.inl (0, 120)), .inr (.inl (0, 5)), .inl (0, [some none, some none, some none, none, none])]
def qt_Mating_6 : List Shp := [.inl (7, [some (some 1), some (some 2), some (some 6), some (some 10), some (some 14), some (some 16), some (some 18), some none, none]), .inr (.inr [none, none, none, none, none, none, none, none, none, none, none, none]), .inl (0, [some (some 3), some (some 4), some (some 5), none, none]), .inr (.inl (0, 25)), .inr (.inl (0, 5)), .inr (.inl (0, 5)), .inl (1, [some (some 7), some (some 8), some (some 9)]), .inr (.inl (0, 600)), .inr (.inl (0, 120)), .inr (.inl (0, 5)), .inl (5, [some (some 11), some (some 12), some (some 13), none]), .inr (.inl (0, 40)), .inr (.inl (0, 41)), .inr (.inl (0, 40)), .inl (3, [some (some 6), some (some 15)]), .inr (.inl (0, 5)), .inl (6, [some (some 6), some (some 17), none]), .inr (.inl (0, 576)), .inl (4, [some (some 6), some (some 19), some (some 20), some (some 21), some (some 22), none, none]), .inr (.inl (0, 10)), .inr (.inl (0, 120)), .inr (.inl (1, 120)), .inr (.inl (0, 5)), .inl (2, [some none, some (some 24), some (some 25), some none, some none, none, none]), .inr (.inl (0, 120)), .inr (.inl (0, 5)), .inl (0, [some (some 27), some (some 28), some (some 29), none, none]), .inr (.inl (0, 25)), .inr (.inl (0, 5)), .inr (.inl (0, 5))]
def qt_Mating_7 : List Shp := [.inl (7, [some (some 1), some (some 2), some (some 6), some (some 10), some (some 14), some (some 16), some (some 18), some none, none]), .inr (.inr [none, none, none, none, none, none, none, none, none, none, none, none]), .inl (0, [some (some 3), some (some 4), some (some 5), none, none]), .inr (.inl (0, 25)), .inr (.inl (0, 5)), .inr (.inl (0, 5)), .inl (1, [some (some 7), some (some 8), some (some 9)]), .inr (.inl (0, 600)), .inr (.inl (0, 120)), .inr (.inl (0, 5)), .inl (5, [some (some 11), some (some 12), some (some 13), none]), .inr (.inl (0, 40)), .inr (.inl (0, 41)), .inr (.inl (0, 40)), .inl (3, [some (some 6), some (some 15)]), .inr (.inl (0, 5)), .inl (6, [some (some 6), some (some 17), none]), .inr (.inl (0, 576)), .inl (4, [some (some 6), some (some 19), some (some 20), some (some 21), some (some 22), none, none]), .inr (.inl (0, 10)), .inr (.inl (0, 120)), .inr (.inl (1, 120)), .inr (.inl (0, 5)), .inl (2, [some none, some (some 24), some (some 25), some (some 26), some none, none, none]), .inr (.inl (0, 120)), .inr (.inl (0, 5)), .inl (0, [some (some 27), some (some 28), some (some 29), none, none]), .inr (.inl (0, 25)), .inr (.inl (0, 5)), .inr (.inl (0, 5))]
def qt_Mating_8 : List Shp := [.inl (7, [some (some 1), some (some 2), some (some 6), some (some 10), some (some 14), some (some 16), some (some 18), some none, none]), .inr (.inr [none, none, none, none, none, none, none, none, none, none, none, none]), .inl (0, [some (some 3), some (some 4), some (some 5), none, none]), .inr (.inl (0, 25)), .inr (.inl (0, 5)), .inr (.inl (0, 5)), .inl (1, [some (some 7), some (some 8), some (some 9)]), .inr (.inl (0, 600)), .inr (.inl (0, 120)), .inr (.inl (0, 5)), .inl (5, [some (some 11), some (some 12), some (some 13), none]), .inr (.inl (0, 40)), .inr (.inl (0, 41)), .inr (.inl (0, 40)), .inl (3, [some (some 6), some (some 15)]), .inr (.inl (0, 5)), .inl (6, [some (some 6), some (some 17), none]), .inr (.inl (0, 576)), .inl (4, [some (some 6), some (some 19), some (some 20), some (some 21), some (some 22), none, none]), .inr (.inl (0, 10)), .inr (.inl (0, 120)), .inr (.inl (1, 120)), .inr (.inl (0, 5)), .inl (2, [some none, some (some 24), some (some 25), some (some 26), some none, none, none]), .inr (.inl (0, 120)), .inr (.inl (0, 5)), .inl (0, [some (some 27), some (some 28), some (some 29), none, none]), .inr (.inl (0, 25)), .inr (.inl (0, 5)), .inr (.inl (0, 5)), .inl (0, [some none, some none, some none, none, none])]
def qt_Mating_9 : List Shp := [.inl (7, [some (some 1), some (some 2), some (some 6), some (some 10), some (some 14), some (some 16), some (some 18), some none, none]), .inr (.inr [none, none, none, none, none, none, none, none, none, none, none, none]), .inl (0, [some (some 3), some (some 4), some (some 5), none, none]), .inr (.inl (0, 25)), .inr (.inl (0, 5)), .inr (.inl (0, 5)), .inl (1, [some (some 7), some (some 8), some (some 9)]), .inr (.inl (0, 600)), .inr (.inl (0, 120)), .inr (.inl (0, 5)), .inl (5, [some (some 11), some (some 12), some (some 13), none]), .inr (.inl (0, 40)), .inr (.inl (0, 41)), .inr (.inl (0, 40)), .inl (3, [some (some 6), some (some 15)]), .inr (.inl (0, 5)), .inl (6, [some (some 6), some (some 17), none]), .inr (.inl (0, 576)), .inl (4, [some (some 6), some (some 19), some (some 20), some (some 21), some (some 22), none, none]), .inr (.inl (0, 10)), .inr (.inl (0, 120)), .inr (.inl (1, 120)), .inr (.inl (0, 5)), .inl (2, [some none, some (some 24), some (some 25), some (some 26), some none, none, none]), .inr (.inl (0, 120)), .inr (.inl (0, 5)), .inl (0, [some (some 27), some (some 28), some (some 29), none, none]), .inr (.inl (0, 25)), .inr (.inl (0, 5)), .inr (.inl (0, 5)), .inl (0, [some (some 31), some (some 32), some (some 33), none, none]), .inr (.inl (0, 25)), .inr (.inl (0, 5)), .inr (.inl (0, 5))]
def qt_Mating_10 : List Shp := [.inl (7, [some (some 1), some (some 2), some (some 6), some (some 10), some (some 14), some (some 16), some (some 18), some none, none]), .inr (.inr [none, none, none, none, none, none, none, none, none, none, none, none]), .inl (0, [some (some 3), some (some 4), some (some 5), none, none]), .inr (.inl (0, 25)), .inr (.inl (0, 5)), .inr (.inl (0, 5)), .inl (1, [some (some 7), some (some 8), some (some 9)]), .inr (.inl (0, 600)), .inr (.inl (0, 120)), .inr (.inl (0, 5)), .inl (5, [some (some 11), some (some 12), some (some 13), none]), .inr (.inl (0, 40)), .inr (.inl (0, 41)), .inr (.inl (0, 40)), .inl (3, [some (some 6), some (some 15)]), .inr (.inl (0, 5)), .inl (6, [some (some 6), some (some 17), none]), .inr (.inl (0, 576)), .inl (4, [some (some 6), some (some 19), some (some 20), some (some 21), some (some 22), none, none]), .inr (.inl (0, 10)), .inr (.inl (0, 120)), .inr (.inl (1, 120)), .inr (.inl (0, 5)), .inl (2, [some none, some (some 24), some (some 25), some (some 26), some (some 30), none, none]), .inr (.inl (0, 120)), .inr (.inl (0, 5)), .inl (0, [some (some 27), some (some 28), some (some 29), none, none]), .inr (.inl (0, 25)), .inr (.inl (0, 5)), .inr (.inl (0, 5)), .inl (0, [some (some 31), some (some 32), some (some 33), none, none]), .inr (.inl (0, 25)), .inr (.inl (0, 5)), .inr (.inl (0, 5))]
def qt_Mating_11 : List Shp := [.inl (7, [some (some 1), some (some 2), some (some 6), some (some 10), some (some 14), some (some 16), some (some 18), some none, none]), .inr (.inr [none, none, none, none, none, none, none, none, none, none, none, none]), .inl (0, [some (some 3), some (some 4), some (some 5), none, none]), .inr (.inl (0, 25)), .inr (.inl (0, 5)), .inr (.inl (0, 5)), .inl (1, [some (some 7), some (some 8), some (some 9)]), .inr (.inl (0, 600)), .inr (.inl (0, 120)), .inr (.inl (0, 5)), .inl (5, [some (some 11), some (some 12), some (some 13), none]), .inr (.inl (0, 40)), .inr (.inl (0, 41)), .inr (.inl (0, 40)), .inl (3, [some (some 6), some (some 15)]), .inr (.inl (0, 5)), .inl (6, [some (some 6), some (some 17), none]), .inr (.inl (0, 576)), .inl (4, [some (some 6), some (some 19), some (some 20), some (some 21), some (some 22), none, none]), .inr (.inl (0, 10)), .inr (.inl (0, 120)), .inr (.inl (1, 120)), .inr (.inl (0, 5)), .inl (2, [some (some 6), some (some 24), some (some 25), some (some 26), some (some 30), none, none]), .inr (.inl (0, 120)), .inr (.inl (0, 5)), .inl (0, [some (some 27), some (some 28), some (some 29), none, none]), .inr (.inl (0, 25)), .inr (.inl (0, 5)), .inr (.inl (0, 5)), .inl (0, [some (some 31), some (some 32), some (some 33), none, none]), .inr (.inl (0, 25)), .inr (.inl (0, 5)), .inr (.inl (0, 5))]
def qt_Q_0 : List Shp := [.inl (7, [some none, some none, some none, some none, some none, some none, some none, some none, none])]
def qt_Q_1 : List Shp := [.inl (7, [some none, some none, some none, some none, some none, some none, some none, some none, none]), .inr (.inr [none, none, none, none, none, none, none, none, none, none, none, none])]
def qt_Q_2 : List Shp := [.inl (7, [some (some 1), some none, some none, some none, some none, some none, some none, some none, none]), .inr (.inr [none, none, none, none, none, none, none, none, none, none, none, none])]
def qt_Q_3 : List Shp := [.inl (7, [some (some 1), some none, some none, some none, some none, some none, some none, some none, none]), .inr (.inr [none, none, none, none, none, none, none, none, none, none, none, none]), .inl (0, [some none, some none, some none, none, none])]
def qt_Q_4 : List Shp := [.inl (7, [some (some 1), some none, some none, some none, some none, some none, some none, some none, none]), .inr (.inr [none, none, none, none, none, none, none, none, none, none, none, none]), .inl (0, [some (some 3), some (some 4), some (some 5), none, none]), .inr (.inl (0, 25)), .inr (.inl (0, 5)), .inr (.inl (0, 5))]
def qt_Q_5 : List Shp := [.inl (7, [some (some 1), some (some 2), some none, some none, some none, some none, some none, some none, none]), .inr (.inr [none, none, none, none, none, none, none, none, none, none, none, none]), .inl (0, [some (some 3), some (some 4), some (some 5), none, none]), .inr (.inl (0, 25)), .inr (.inl (0, 5)), .inr (.inl (0, 5))]
def qt_Q_6 : List Shp := [.inl (7, [some (some 1), some (some 2), some none, some none, some none, some none, some none, some none, none]), .inr (.inr [none, none, none, none, none, none, none, none, none, none, none, none]), .inl (0, [some (some 3), some (some 4), some (some 5), none, none]), .inr (.inl (0, 25)), .inr (.inl (0, 5)), .inr (.inl (0, 5)), .inl (1, [some none, some none, some none])]
def qt_Q_7 : List Shp := [.inl (7, [some (some 1), some (some 2), some none, some none, some none, some none, some none, some none, none]), .inr (.inr [none, none, none, none, none, none, none, none, none, none, none, none]), .inl (0, [some (some 3), some (some 4), some (some 5), none, none]), .inr (.inl (0, 25)), .inr (.inl (0, 5)), .inr (.inl (0, 5)), .inl (1, [some (some 7), some (some 8), some (some 9)]), .inr (.inl (0, 600)), .inr (.inl (0, 120)), .inr (.inl (0, 5))]
def qt_Q_8 : List Shp := [.inl (7, [some (some 1), some (some 2), some (some 6), some none, some none, some none, some none, some none, none]), .inr (.inr [none, none, none, none, none, none, none, none, none, none, none, none]), .inl (0, [some (some 3), some (some 4), some (some 5), none, none]), .inr (.inl (0, 25)), .inr (.inl (0, 5)), .inr (.inl (0, 5)), .inl (1, [some (some 7), some (some 8), some (some 9)]), .inr (.inl (0, 600)), .inr (.inl (0, 120)), .inr (.inl (0, 5))]
def qt_Q_9 : List Shp := [.inl (7, [some (some 1), some (some 2), some (some 6), some none, some none, some none, some none, some none, none]), .inr (.inr [none, none, none, none, none, none, none, none, none, none, none, none]), .inl (0, [some (some 3), some (some 4), some (some 5), none, none]), .inr (.inl (0, 25)), .inr (.inl (0, 5)), .inr (.inl (0, 5)), .inl (1, [some (some 7), some (some 8), some (some 9)]), .inr (.inl (0, 600)), .inr (.inl (0, 120)), .inr (.inl (0, 5)), .inl (5, [some none, some none, some none, none])]
def qt_Q_10 : List Shp := [.inl (7, [some (some 1), some (some 2), some (some 6), some none, some none, some none, some none, some none, none]), .inr (.inr [none, none, none, none, none, none, none, none, none, none, none, none]), .inl (0, [some (some 3), some (some 4), some (some 5), none, none]), .inr (.inl (0, 25)), .inr (.inl (0, 5)), .inr (.inl (0, 5)), .inl (1, [some (some 7), some (some 8), some (some 9)]), .inr (.inl (0, 600)), .inr (.inl (0, 120)), .inr (.inl (0, 5)), .inl (5, [some (some 11), some (some 12), some (some 13), none]), .inr (.inl (0, 40)), .inr (.inl (0, 41)), .inr (.inl (0, 40))]
def qt_Q_11 : List Shp := [.inl (7, [some (some 1), some (some 2), some (some 6), some (some 10), some none, some none, some none, some none, none]), .inr (.inr [none, none, none, none, none, none, none, none, none, none, none, none]), .inl (0, [some (some 3), some (some 4), some (some 5), none, none]), .inr (.inl (0, 25)), .inr (.inl (0, 5)), .inr (.inl (0, 5)), .inl (1, [some (some 7), some (some 8), some (some 9)]), .inr (.inl (0, 600)), .inr (.inl (0, 120)), .inr (.inl (0, 5)), .inl (5, [some (some 11), some (some 12), some (some 13), none]), .inr (.inl (0, 40)), .inr (.inl (0, 41)), .inr (.inl (0, 40))]
def qt_Q_12 : List Shp := [.inl (7, [some (some 1), some (some 2), some (some 6), some (some 10), some none, some none, some none, some none, none]), .inr (.inr [none, none, none, none, none, none, none, none, none, none, none, none]), .inl (0, [some (some 3), some (some 4), some (some 5), none, none]), .inr (.inl (0, 25)), .inr (.inl (0, 5)), .inr (.inl (0, 5)), .inl (1, [some (some 7), some (some 8), some (some 9)]), .inr (.inl (0, 600)), .inr (.inl (0, 120)), .inr (.inl (0, 5)), .inl (5, [some (some 11), some (some 12), some (some 13), none]), .inr (.inl (0, 40)), .inr (.inl (0, 41)), .inr (.inl (0, 40)), .inl (3, [some none, some none])]
def qt_Q_13 : List Shp := [.inl (7, [some (some 1), some (some 2), some (some 6), some (some 10), some none, some none, some none, some none, none]), .inr (.inr [none, none, none, none, none, none, none, none, none, none, none, none]), .inl (0, [some (some 3), some (some 4), some (some 5), none, none]), .inr (.inl (0, 25)), .inr (.inl (0, 5)), .inr (.inl (0, 5)), .inl (1, [some (some 7), some (some 8), some (some 9)]), .inr (.inl (0, 600)), .inr (.inl (0, 120)), .inr (.inl (0, 5)), .inl (5, [some (some 11), some (some 12), some (some 13), none]), .inr (.inl (0, 40)), .inr (.inl (0, 41)), .inr (.inl (0, 40)), .inl (3, [some (some 6), some (some 15)]), .inr (.inl (0, 5))]
def qt_Q_14 : List Shp := [.inl (7, [some (some 1), some (some 2), some (some 6), some (some 10), some (some 14), some none, some none, some none, none]), .inr (.inr [none, none, none, none, none, none, none, none, none, none, none, none]), .inl (0, [some (some 3), some (some 4), some (some 5), none, none]), .inr (.inl (0, 25)), .inr (.inl (0, 5)), .inr (.inl (0, 5)), .inl (1, [some (some 7), some (some 8), some (some 9)]), .inr (.inl (0, 600)), .inr (.inl (0, 120)), .inr (.inl (0, 5)), .inl (5, [some (some 11), some (some 12), some (some 13), none]), .inr (.inl (0, 40)), .inr (.inl (0, 41)), .inr (.inl (0, 40)), .inl (3, [some (some 6), some (some 15)]), .inr (.inl (0, 5))]
def qt_Q_15 : List Shp := [.inl (7, [some (some 1), some (some 2), some (some 6), some (some 10), some (some 14), some none, some none, some none, none]), .inr (.inr [none, none, none, none, none, none, none, none, none, none, none, none]), .inl (0, [some (some 3), some (some 4), some (some 5), none, none]), .inr (.inl (0, 25)), .inr (.inl (0, 5)), .inr (.inl (0, 5)), .inl (1, [some (some 7), some (some 8), some (some 9)]), .inr (.inl (0, 600)), .inr (.inl (0, 120)), .inr (.inl (0, 5)), .inl (5, [some (some 11), some (some 12), some (some 13), none]), .inr (.inl (0, 40)), .inr (.inl (0, 41)), .inr (.inl (0, 40)), .inl (3, [some (some 6), some (some 15)]), .inr (.inl (0, 5)), .inl (6, [some none, some none, none])]
def qt_Q_16 : List Shp := [.inl (7, [some (some 1), some (some 2), some (some 6), some (some 10), some (some 14), some none, some none, some none, none]), .inr (.inr [none, none, none, none, none, none, none, none, none, none, none, none]), .inl (0, [some (some 3), some (some 4), some (some 5), none, none]), .inr (.inl (0, 25)), .inr (.inl (0, 5)), .inr (.inl (0, 5)), .inl (1, [some (some 7), some (some 8), some (some 9)]), .inr (.inl (0, 600)), .inr (.inl (0, 120)), .inr (.inl (0, 5)), .inl (5, [some (some 11), some (some 12), some (some 13), none]), .inr (.inl (0, 40)), .inr (.inl (0, 41)), .inr (.inl (0, 40)), .inl (3, [some (some 6), some (some 15)]), .inr (.inl (0, 5)), .inl (6, [some (some 6), some (some 17), none]), .inr (.inl (0, 576))]
def qt_Q_17 : List Shp := [.inl (7, [some (some 1), some (some 2), some (some 6), some (some 10), some (some 14), some (some 16), some none, some none, none]), .inr (.inr [none, none, none, none, none, none, none, none, none, none, none, none]), .inl (0, [some (some 3), some (some 4), some (some 5), none, none]), .inr (.inl (0, 25)), .inr (.inl (0, 5)), .inr (.inl (0, 5)), .inl (1, [some (some 7), some (some 8), some (some 9)]), .inr (.inl (0, 600)), .inr (.inl (0, 120)), .inr (.inl (0, 5)), .inl (5, [some (some 11), some (some 12), some (some 13), none]), .inr (.inl (0, 40)), .inr (.inl (0, 41)), .inr (.inl (0, 40)), .inl (3, [some (some 6), some (some 15)]), .inr (.inl (0, 5)), .inl (6, [some (some 6), some (some 17), none]), .inr (.inl (0, 576))]
def qt_Q_18 : List Shp := [.inl (7, [some (some 1), some (some 2), some (some 6), some (some 10), some (some 14), some (some 16), some none, some none, none]), .inr (.inr [none, none, none, none, none, none, none, none, none, none, none, none]), .inl (0, [some (some 3), some (some 4), some (some 5), none, none]), .inr (.inl (0, 25)), .inr (.inl (0, 5)), .inr (.inl (0, 5)), .inl (1, [some (some 7), some (some 8), some (some 9)]), .inr (.inl (0, 600)), .inr (.inl (0, 120)), .inr (.inl (0, 5)), .inl (5, [some (some 11), some (some 12), some (some 13), none]), .inr (.inl (0, 40)), .inr (.inl (0, 41)), .inr (.inl (0, 40)), .inl (3, [some (some 6), some (some 15)]), .inr (.inl (0, 5)), .inl (6, [some (some 6), some (some 17), none]), .inr (.inl (0, 576)), .inl (4, [some none, some none, some none, some none, some none, none, none])]
def qt_Q_19 : List Shp := [.inl (7, [some (some 1), some (some 2), some (some 6), some (some 10), some (some 14), some (some 16), some none, some none, none]), .inr (.inr [none, none, none, none, none, none, none, none, none, none, none, none]), .inl (0, [some (some 3), some (some 4), some (some 5), none, none]), .inr (.inl (0, 25)), .inr (.inl (0, 5)), .inr (.inl (0, 5)), .inl (1, [some (some 7), some (some 8), some (some 9)]), .inr (.inl (0, 600)), .inr (.inl (0, 120)), .inr (.inl (0, 5)), .inl (5, [some (some 11), some (some 12), some (some 13), none]), .inr (.inl (0, 40)), .inr (.inl (0, 41)), .inr (.inl (0, 40)), .inl (3, [some (some 6), some (some 15)]), .inr (.inl (0, 5)), .inl (6, [some (some 6), some (some 17), none]), .inr (.inl (0, 576)), .inl (4, [some (some 6), some (some 19), some (some 20), some (some 21), some (some 22), none, none]), .inr (.inl (0, 10)), .inr (.inl (0, 120)), .inr (.inl (1, 120)), .inr (.inl (0, 5))]
def qt_Q_20 : List Shp := [.inl (7, [some (some 1), some (some 2), some (some 6), some (some 10), some (some 14), some (some 16), some (some 18), some none, none]), .inr (.inr [none, none, none, none, none, none, none, none, none, none, none, none]), .inl (0, [some (some 3), some (some 4), some (some 5), none, none]), .inr (.inl (0, 25)), .inr (.inl (0, 5)), .inr (.inl (0, 5)), .inl (1, [some (some 7), some (some 8), some (some 9)]), .inr (.inl (0, 600)), .inr (.inl (0, 120)), .inr (.inl (0, 5)), .inl (5, [some (some 11), some (some 12), some (some 13), none]), .inr (.inl (0, 40)), .inr (.inl (0, 41)), .inr (.inl (0, 40)), .inl (3, [some (some 6), some (some 15)]), .inr (.inl (0, 5)), .inl (6, [some (some 6), some (some 17), none]), .inr (.inl (0, 576)), .inl (4, [some (some 6), some (some 19), some (some 20), some (some 21), some (some 22), none, none]), .inr (.inl (0, 10)), .inr (.inl (0, 120)), .inr (.inl (1, 120)), .inr (.inl (0, 5))]
def qt_Q_21 : List Shp := [.inl (7, [some (some 1), some (some 2), some (some 6), some (some 10), some (some 14), some (some 16), some (some 18), some none, none]), .inr (.inr [none, none, none, none, none, none, none, none, none, none, none, none]), .inl (0, [some (some 3), some (some 4), some (some 5), none, none]), .inr (.inl (0, 25)), .inr (.inl (0, 5)), .inr (.inl (0, 5)), .inl (1, [some (some 7), some (some 8), some (some 9)]), .inr (.inl (0, 600)), .inr (.inl (0, 120)), .inr (.inl (0, 5)), .inl (5, [some (some 11), some (some 12), some (some 13), none]), .inr (.inl (0, 40)), .inr (.inl (0, 41)), .inr (.inl (0, 40)), .inl (3, [some (some 6), some (some 15)]), .inr (.inl (0, 5)), .inl (6, [some (some 6), some (some 17), none]), .inr (.inl (0, 576)), .inl (4, [some (some 6), some (some 19), some (some 20), some (some 21), some (some 22), none, none]), .inr (.inl (0, 10)), .inr (.inl (0, 120)), .inr (.inl (1, 120)), .inr (.inl (0, 5)), .inl (2, [some none, some none, some none, some none, some none, none, none])]
def qt_Q_22 : List Shp := [.inl (7, [some (some 1), some (some 2), some (some 6), some (some 10), some (some 14), some (some 16), some (some 18), some none, none]), .inr (.inr [none, none, none, none, none, none, none, none, none, none, none, none]), .inl (0, [some (some 3), some (some 4), some (some 5), none, none]), .inr (.inl (0, 25)), .inr (.inl (0, 5)), .inr (.inl (0, 5)), .inl (1, [some (some 7), some (some 8), some (some 9)]), .inr (.inl (0, 600)), .inr (.inl (0, 120)), .inr (.inl (0, 5)), .inl (5, [some (some 11), some (some 12), some (some 13), none]), .inr (.inl (0, 40)), .inr (.inl (0, 41)), .inr (.inl (0, 40)), .inl (3, [some (some 6), some (some 15)]), .inr (.inl (0, 5)), .inl (6, [some (some 6), some (some 17), none]), .inr (.inl (0, 576)), .inl (4, [some (some 6), some (some 19), some (some 20), some (some 21), some (some 22), none, none]), .inr (.inl (0, 10)), .inr (.inl (0, 120)), .inr (.inl (1, 120)), .inr (.inl (0, 5)), .inl (2, [some (some 6), some (some 24), some (some 25), some (some 26), some (some 30), none, none]), .inr (.inl (0, 120)), .inr (.inl (0, 5)), .inl (0, [some (some 27), some (some 28), some (some 29), none, none]), .inr (.inl (0, 25)), .inr (.inl (0, 5)), .inr (.inl (0, 5)), .inl (0, [some (some 31), some (some 32), some (some 33), none, none]), .inr (.inl (0, 25)), .inr (.inl (0, 5)), .inr (.inl (0, 5))]
def qt_Q_23 : List Shp := [.inl (7, [some (some 1), some (some 2), some (some 6), some (some 10), some (some 14), some (some 16), some (some 18), some (some 23), none]), .inr (.inr [none, none, none, none, none, none, none, none, none, none, none, none]), .inl (0, [some (some 3), some (some 4), some (some 5), none, none]), .inr (.inl (0, 25)), .inr (.inl (0, 5)), .inr (.inl (0, 5)), .inl (1, [some (some 7), some (some 8), some (some 9)]), .inr (.inl (0, 600)), .inr (.inl (0, 120)), .inr (.inl (0, 5)), .inl (5, [some (some 11), some (some 12), some (some 13), none]), .inr (.inl (0, 40)), .inr (.inl (0, 41)), .inr (.inl (0, 40)), .inl (3, [some (some 6), some (some 15)]), .inr (.inl (0, 5)), .inl (6, [some (some 6), some (some 17), none]), .inr (.inl (0, 576)), .inl (4, [some (some 6), some (some 19), some (some 20), some (some 21), some (some 22), none, none]), .inr (.inl (0, 10)), .inr (.inl (0, 120)), .inr (.inl (1, 120)), .inr (.inl (0, 5)), .inl (2, [some (some 6), some (some 24), some (some 25), some (some 26), some (some 30), none, none]), .inr (.inl (0, 120)), .inr (.inl (0, 5)), .inl (0, [some (some 27), some (some 28), some (some 29), none, none]), .inr (.inl (0, 25)), .inr (.inl (0, 5)), .inr (.inl (0, 5)), .inl (0, [some (some 31), some (some 32), some (some 33), none, none]), .inr (.inl (0, 25)), .inr (.inl (0, 5)), .inr (.inl (0, 5))]
def qt_Q_24 : List Shp := [.inl (7, [some (some 1), some (some 2), some (some 6), some (some 10), some (some 14), some (some 16), some (some 18), some (some 23), none]), .inr (.inr [none, none, none, none, none, none, none, none, none, none, none, none]), .inl (0, [some (some 3), some (some 4), some (some 5), none, none]), .inr (.inl (0, 25)), .inr (.inl (0, 5)), .inr (.inl (0, 5)), .inl (1, [some (some 7), some (some 8), some (some 9)]), .inr (.inl (0, 600)), .inr (.inl (0, 120)), .inr (.inl (0, 5)), .inl (5, [some (some 11), some (some 12), some (some 13), none]), .inr (.inl (0, 40)), .inr (.inl (0, 41)), .inr (.inl (0, 40)), .inl (3, [some (some 6), some (some 15)]), .inr (.inl (0, 5)), .inl (6, [some (some 6), some (some 17), none]), .inr (.inl (0, 576)), .inl (4, [some (some 6), some (some 19), some (some 20), some (some 21), some (some 22), none, none]), .inr (.inl (0, 10)), .inr (.inl (0, 120)), .inr (.inl (1, 120)), .inr (.inl (0, 5)), .inl (2, [some (some 6), some (some 24), some (some 25), some (some 26), some (some 30), none, none]), .inr (.inl (0, 120)), .inr (.inl (0, 5)), .inl (0, [some (some 27), some (some 28), some (some 29), none, none]), .inr (.inl (0, 25)), .inr (.inl (0, 5)), .inr (.inl (0, 5)), .inl (0, [some (some 31), some (some 32), some (some 33), none, none]), .inr (.inl (0, 25)), .inr (.inl (0, 5)), .inr (.inl (0, 5)), .inl (0, [some none, some none, some none, none, none])]
def qt_Q_25 : List Shp := [.inl (7, [some (some 1), some (some 2), some (some 6), some (some 10), some (some 14), some (some 16), some (some 18), some (some 23), none]), .inr (.inr [none, none, none, none, none, none, none, none, none, none, none, none]), .inl (0, [some (some 3), some (some 4), some (some 5), none, none]), .inr (.inl (0, 25)), .inr (.inl (0, 5)), .inr (.inl (0, 5)), .inl (1, [some (some 7), some (some 8), some (some 9)]), .inr (.inl (0, 600)), .inr (.inl (0, 120)), .inr (.inl (0, 5)), .inl (5, [some (some 11), some (some 12), some (some 13), none]), .inr (.inl (0, 40)), .inr (.inl (0, 41)), .inr (.inl (0, 40)), .inl (3, [some (some 6), some (some 15)]), .inr (.inl (0, 5)), .inl (6, [some (some 6), some (some 17), none]), .inr (.inl (0, 576)), .inl (4, [some (some 6), some (some 19), some (some 20), some (some 21), some (some 22), none, none]), .inr (.inl (0, 10)), .inr (.inl (0, 120)), .inr (.inl (1, 120)), .inr (.inl (0, 5)), .inl (2, [some (some 6), some (some 24), some (some 25), some (some 26), some (some 30), none, none]), .inr (.inl (0, 120)), .inr (.inl (0, 5)), .inl (0, [some (some 27), some (some 28), some (some 29), none, none]), .inr (.inl (0, 25)), .inr (.inl (0, 5)), .inr (.inl (0, 5)), .inl (0, [some (some 31), some (some 32), some (some 33), none, none]), .inr (.inl (0, 25)), .inr (.inl (0, 5)), .inr (.inl (0, 5)), .inl (0, [some (some 35), some (some 36), some (some 37), none, none]), .inr (.inl (0, 25)), .inr (.inl (0, 5)), .inr (.inl (0, 5))]
def qt_Q_26 : List Shp := [.inl (7, [some (some 1), some (some 2), some (some 6), some (some 10), some (some 14), some (some 16), some (some 18), some (some 23), none]), .inr (.inr [some 34, none, none, none, none, none, none, none, none, none, none, none]), .inl (0, [some (some 3), some (some 4), some (some 5), none, none]), .inr (.inl (0, 25)), .inr (.inl (0, 5)), .inr (.inl (0, 5)), .inl (1, [some (some 7), some (some 8), some (some 9)]), .inr (.inl (0, 600)), .inr (.inl (0, 120)), .inr (.inl (0, 5)), .inl (5, [some (some 11), some (some 12), some (some 13), none]), .inr (.inl (0, 40)), .inr (.inl (0, 41)), .inr (.inl (0, 40)), .inl (3, [some (some 6), some (some 15)]), .inr (.inl (0, 5)), .inl (6, [some (some 6), some (some 17), none]), .inr (.inl (0, 576)), .inl (4, [some (some 6), some (some 19), some (some 20), some (some 21), some (some 22), none, none]), .inr (.inl (0, 10)), .inr (.inl (0, 120)), .inr (.inl (1, 120)), .inr (.inl (0, 5)), .inl (2, [some (some 6), some (some 24), some (some 25), some (some 26), some (some 30), none, none]), .inr (.inl (0, 120)), .inr (.inl (0, 5)), .inl (0, [some (some 27), some (some 28), some (some 29), none, none]), .inr (.inl (0, 25)), .inr (.inl (0, 5)), .inr (.inl (0, 5)), .inl (0, [some (some 31), some (some 32), some (some 33), none, none]), .inr (.inl (0, 25)), .inr (.inl (0, 5)), .inr (.inl (0, 5)), .inl (0, [some (some 35), some (some 36), some (some 37), none, none]), .inr (.inl (0, 25)), .inr (.inl (0, 5)), .inr (.inl (0, 5))]
def qt_Q_27 : List Shp := [.inl (7, [some (some 1), some (some 2), some (some 6), some (some 10), some (some 14), some (some 16), some (some 18), some (some 23), none]), .inr (.inr [some 34, none, none, none, none, none, none, none, none, none, none, none]), .inl (0, [some (some 3), some (some 4), some (some 5), none, none]), .inr (.inl (0, 25)), .inr (.inl (0, 5)), .inr (.inl (0, 5)), .inl (1, [some (some 7), some (some 8), some (some 9)]), .inr (.inl (0, 600)), .inr (.inl (0, 120)), .inr (.inl (0, 5)), .inl (5, [some (some 11), some (some 12), some (some 13), none]), .inr (.inl (0, 40)), .inr (.inl (0, 41)), .inr (.inl (0, 40)), .inl (3, [some (some 6), some (some 15)]), .inr (.inl (0, 5)), .inl (6, [some (some 6), some (some 17), none]), .inr (.inl (0, 576)), .inl (4, [some (some 6), some (some 19), some (some 20), some (some 21), some (some 22), none, none]), .inr (.inl (0, 10)), .inr (.inl (0, 120)), .inr (.inl (1, 120)), .inr (.inl (0, 5)), .inl (2, [some (some 6), some (some 24), some (some 25), some (some 26), some (some 30), none, none]), .inr (.inl (0, 120)), .inr (.inl (0, 5)), .inl (0, [some (some 27), some (some 28), some (some 29), none, none]), .inr (.inl (0, 25)), .inr (.inl (0, 5)), .inr (.inl (0, 5)), .inl (0, [some (some 31), some (some 32), some (some 33), none, none]), .inr (.inl (0, 25)), .inr (.inl (0, 5)), .inr (.inl (0, 5)), .inl (0, [some (some 35), some (some 36), some (some 37), none, none]), .inr (.inl (0, 25)), .inr (.inl (0, 5)), .inr (.inl (0, 5)), .inl (0, [some none, some none, some none, none, none])]
def qt_Q_28 : List Shp := [.inl (7, [some (some 1), some (some 2), some (some 6), some (some 10), some (some 14), some (some 16), some (some 18), some (some 23), none]), .inr (.inr [some 34, none, none, none, none, none, none, none, none, none, none, none]), .inl (0, [some (some 3), some (some 4), some (some 5), none, none]), .inr (.inl (0, 25)), .inr (.inl (0, 5)), .inr (.inl (0, 5)), .inl (1, [some (some 7), some (some 8), some (some 9)]), .inr (.inl (0, 600)), .inr (.inl (0, 120)), .inr (.inl (0, 5)), .inl (5, [some (some 11), some (some 12), some (some 13), none]), .inr (.inl (0, 40)), .inr (.inl (0, 41)), .inr (.inl (0, 40)), .inl (3, [some (some 6), some (some 15)]), .inr (.inl (0, 5)), .inl (6, [some (some 6), some (some 17), none]), .inr (.inl (0, 576)), .inl (4, [some (some 6), some (some 19), some (some 20), some (some 21), some (some 22), none, none]), .inr (.inl (0, 10)), .inr (.inl (0, 120)), .inr (.inl (1, 120)), .inr (.inl (0, 5)), .inl (2, [some (some 6), some (some 24), some (some 25), some (some 26), some (some 30), none, none]), .inr (.inl (0, 120)), .inr (.inl (0, 5)), .inl (0, [some (some 27), some (some 28), some (some 29), none, none]), .inr (.inl (0, 25)), .inr (.inl (0, 5)), .inr (.inl (0, 5)), .inl (0, [some (some 31), some (some 32), some (some 33), none, none]), .inr (.inl (0, 25)), .inr (.inl (0, 5)), .inr (.inl (0, 5)), .inl (0, [some (some 35), some (some 36), some (some 37), none, none]), .inr (.inl (0, 25)), .inr (.inl (0, 5)), .inr (.inl (0, 5)), .inl (0, [some (some 39), some (some 40), some (some 41), none, none]), .inr (.inl (0, 25)), .inr (.inl (0, 5)), .inr (.inl (0, 5))]
def qt_Q_29 : List Shp := [.inl (7, [some (some 1), some (some 2), some (some 6), some (some 10), some (some 14), some (some 16), some (some 18), some (some 23), none]), .inr (.inr [some 34, some 38, none, none, none, none, none, none, none, none, none, none]), .inl (0, [some (some 3), some (some 4), some (some 5), none, none]), .inr (.inl (0, 25)), .inr (.inl (0, 5)), .inr (.inl (0, 5)), .inl (1, [some (some 7), some (some 8), some (some 9)]), .inr (.inl (0, 600)), .inr (.inl (0, 120)), .inr (.inl (0, 5)), .inl (5, [some (some 11), some (some 12), some (some 13), none]), .inr (.inl (0, 40)), .inr (.inl (0, 41)), .inr (.inl (0, 40)), .inl (3, [some (some 6), some (some 15)]), .inr (.inl (0, 5)), .inl (6, [some (some 6), some (some 17), none]), .inr (.inl (0, 576)), .inl (4, [some (some 6), some (some 19), some (some 20), some (some 21), some (some 22), none, none]), .inr (.inl (0, 10)), .inr (.inl (0, 120)), .inr (.inl (1, 120)), .inr (.inl (0, 5)), .inl (2, [some (some 6), some (some 24), some (some 25), some (some 26), some (some 30), none, none]), .inr (.inl (0, 120)), .inr (.inl (0, 5)), .inl (0, [some (some 27), some (some 28), some (some 29), none, none]), .inr (.inl (0, 25)), .inr (.inl (0, 5)), .inr (.inl (0, 5)), .inl (0, [some (some 31), some (some 32), some (some 33), none, none]), .inr (.inl (0, 25)), .inr (.inl (0, 5)), .inr (.inl (0, 5)), .inl (0, [some (some 35), some (some 36), some (some 37), none, none]), .inr (.inl (0, 25)), .inr (.inl (0, 5)), .inr (.inl (0, 5)), .inl (0, [some (some 39), some (some 40), some (some 41), none, none]), .inr (.inl (0, 25)), .inr (.inl (0, 5)), .inr (.inl (0, 5))]
def qt_Q_30 : List Shp := [.inl (7, [some (some 1), some (some 2), some (some 6), some (some 10), some (some 14), some (some 16), some (some 18), some (some 23), none]), .inr (.inr [some 34, some 38, none, none, none, none, none, none, none, none, none, none]), .inl (0, [some (some 3), some (some 4), some (some 5), none, none]), .inr (.inl (0, 25)), .inr (.inl (0, 5)), .inr (.inl (0, 5)), .inl (1, [some (some 7), some (some 8), some (some 9)]), .inr (.inl (0, 600)), .inr (.inl (0, 120)), .inr (.inl (0, 5)), .inl (5, [some (some 11), some (some 12), some (some 13), none]), .inr (.inl (0, 40)), .inr (.inl (0, 41)), .inr (.inl (0, 40)), .inl (3, [some (some 6), some (some 15)]), .inr (.inl (0, 5)), .inl (6, [some (some 6), some (some 17), none]), .inr (.inl (0, 576)), .inl (4, [some (some 6), some (some 19), some (some 20), some (some 21), some (some 22), none, none]), .inr (.inl (0, 10)), .inr (.inl (0, 120)), .inr (.inl (1, 120)), .inr (.inl (0, 5)), .inl (2, [some (some 6), some (some 24), some (some 25), some (some 26), some (some 30), none, none]), .inr (.inl (0, 120)), .inr (.inl (0, 5)), .inl (0, [some (some 27), some (some 28), some (some 29), none, none]), .inr (.inl (0, 25)), .inr (.inl (0, 5)), .inr (.inl (0, 5)), .inl (0, [some (some 31), some (some 32), some (some 33), none, none]), .inr (.inl (0, 25)), .inr (.inl (0, 5)), .inr (.inl (0, 5)), .inl (0, [some (some 35), some (some 36), some (some 37), none, none]), .inr (.inl (0, 25)), .inr (.inl (0, 5)), .inr (.inl (0, 5)), .inl (0, [some (some 39), some (some 40), some (some 41), none, none]), .inr (.inl (0, 25)), .inr (.inl (0, 5)), .inr (.inl (0, 5)), .inl (0, [some none, some none, some none, none, none])]
def qt_Q_31 : List Shp := [.inl (7, [some (some 1), some (some 2), some (some 6), some (some 10), some (some 14), some (some 16), some (some 18), some (some 23), none]), .inr (.inr [some 34, some 38, none, none, none, none, none, none, none, none, none, none]), .inl (0, [some (some 3), some (some 4), some (some 5), none, none]), .inr (.inl (0, 25)), .inr (.inl (0, 5)), .inr (.inl (0, 5)), .inl (1, [some (some 7), some (some 8), some (some 9)]), .inr (.inl (0, 600)), .inr (.inl (0, 120)), .inr (.inl (0, 5)), .inl (5, [some (some 11), some (some 12), some (some 13), none]), .inr (.inl (0, 40)), .inr (.inl (0, 41)), .inr (.inl (0, 40)), .inl (3, [some (some 6), some (some 15)]), .inr (.inl (0, 5)), .inl (6, [some (some 6), some (some 17), none]), .inr (.inl (0, 576)), .inl (4, [some (some 6), some (some 19), some (some 20), some (some 21), some (some 22), none, none]), .inr (.inl (0, 10)), .inr (.inl (0, 120)), .inr (.inl (1, 120)), .inr (.inl (0, 5)), .inl (2, [some (some 6), some (some 24), some (some 25), some (some 26), some (some 30), none, none]), .inr (.inl (0, 120)), .inr (.inl (0, 5)), .inl (0, [some (some 27), some (some 28), some (some 29), none, none]), .inr (.inl (0, 25)), .inr (.inl (0, 5)), .inr (.inl (0, 5)), .inl (0, [some (some 31), some (some 32), some (some 33), none, none]), .inr (.inl (0, 25)), .inr (.inl (0, 5)), .inr (.inl (0, 5)), .inl (0, [some (some 35), some (some 36), some (some 37), none, none]), .inr (.inl (0, 25)), .inr (.inl (0, 5)), .inr (.inl (0, 5)), .inl (0, [some (some 39), some (some 40), some (some 41), none, none]), .inr (.inl (0, 25)), .inr (.inl (0, 5)), .inr (.inl (0, 5)), .inl (0, [some (some 43), some (some 44), some (some 45), none, none]), .inr (.inl (0, 25)), .inr (.inl (0, 5)), .inr (.inl (0, 5))]
def qt_Q_32 : List Shp := [.inl (7, [some (some 1), some (some 2), some (some 6), some (some 10), some (some 14), some (some 16), some (some 18), some (some 23), none]), .inr (.inr [some 34, some 38, some 42, none, none, none, none, none, none, none, none, none]), .inl (0, [some (some 3), some (some 4), some (some 5), none, none]), .inr (.inl (0, 25)), .inr (.inl (0, 5)), .inr (.inl (0, 5)), .inl (1, [some (some 7), some (some 8), some (some 9)]), .inr (.inl (0, 600)), .inr (.inl (0, 120)), .inr (.inl (0, 5)), .inl (5, [some (some 11), some (some 12), some (some 13), none]), .inr (.inl (0, 40)), .inr (.inl (0, 41)), .inr (.inl (0, 40)), .inl (3, [some (some 6), some (some 15)]), .inr (.inl (0, 5)), .inl (6, [some (some 6), some (some 17), none]), .inr (.inl (0, 576)), .inl (4, [some (some 6), some (some 19), some (some 20), some (some 21), some (some 22), none, none]), .inr (.inl (0, 10)), .inr (.inl (0, 120)), .inr (.inl (1, 120)), .inr (.inl (0, 5)), .inl (2, [some (some 6), some (some 24), some (some 25), some (some 26), some (some 30), none, none]), .inr (.inl (0, 120)), .inr (.inl (0, 5)), .inl (0, [some (some 27), some (some 28), some (some 29), none, none]), .inr (.inl (0, 25)), .inr (.inl (0, 5)), .inr (.inl (0, 5)), .inl (0, [some (some 31), some (some 32), some (some 33), none, none]), .inr (.inl (0, 25)), .inr (.inl (0, 5)), .inr (.inl (0, 5)), .inl (0, [some (some 35), some (some 36), some (some 37), none, none]), .inr (.inl (0, 25)), .inr (.inl (0, 5)), .inr (.inl (0, 5)), .inl (0, [some (some 39), some (some 40), some (some 41), none, none]), .inr (.inl (0, 25)), .inr (.inl (0, 5)), .inr (.inl (0, 5)), .inl (0, [some (some 43), some (some 44), some (some 45), none, none]), .inr (.inl (0, 25)), .inr (.inl (0, 5)), .inr (.inl (0, 5))]
def qt_Q_33 : List Shp := [.inl (7, [some (some 1), some (some 2), some (some 6), some (some 10), some (some 14), some (some 16), some (some 18), some (some 23), none]), .inr (.inr [some 34, some 38, some 42, none, none, none, none, none, none, none, none, none]), .inl (0, [some (some 3), some (some 4), some (some 5), none, none]), .inr (.inl (0, 25)), .inr (.inl (0, 5)), .inr (.inl (0, 5)), .inl (1, [some (some 7), some (some 8), some (some 9)]), .inr (.inl (0, 600)), .inr (.inl (0, 120)), .inr (.inl (0, 5)), .inl (5, [some (some 11), some (some 12), some (some 13), none]), .inr (.inl (0, 40)), .inr (.inl (0, 41)), .inr (.inl (0, 40)), .inl (3, [some (some 6), some (some 15)]), .inr (.inl (0, 5)), .inl (6, [some (some 6), some (some 17), none]), .inr (.inl (0, 576)), .inl (4, [some (some 6), some (some 19), some (some 20), some (some 21), some (some 22), none, none]), .inr (.inl (0, 10)), .inr (.inl (0, 120)), .inr (.inl (1, 120)), .inr (.inl (0, 5)), .inl (2, [some (some 6), some (some 24), some (some 25), some (some 26), some (some 30), none, none]), .inr (.inl (0, 120)), .inr (.inl (0, 5)), .inl (0, [some (some 27), some (some 28), some (some 29), none, none]), .inr (.inl (0, 25)), .inr (.inl (0, 5)), .inr (.inl (0, 5)), .inl (0, [some (some 31), some (some 32), some (some 33), none, none]), .inr (.inl (0, 25)), .inr (.inl (0, 5)), .inr (.inl (0, 5)), .inl (0, [some (some 35), some (some 36), some (some 37), none, none]), .inr (.inl (0, 25)), .inr (.inl (0, 5)), .inr (.inl (0, 5)), .inl (0, [some (some 39), some (some 40), some (some 41), none, none]), .inr (.inl (0, 25)), .inr (.inl (0, 5)), .inr (.inl (0, 5)), .inl (0, [some (some 43), some (some 44), some (some 45), none, none]), .inr (.inl (0, 25)), .inr (.inl (0, 5)), .inr (.inl (0, 5)), .inl (0, [some none, some none, some none, none, none])]
def qt_Q_34 : List Shp := [.inl (7, [some (some 1), some (some 2), some (some 6), some (some 10), some (some 14), some (some 16), some (some 18), some (some 23), none]), .inr (.inr [some 34, some 38, some 42, none, none, none, none, none, none, none, none, none]), .inl (0, [some (some 3), some (some 4), some (some 5), none, none]), .inr (.inl (0, 25)), .inr (.inl (0, 5)), .inr (.inl (0, 5)), .inl (1, [some (some 7), some (some 8), some (some 9)]), .inr (.inl (0, 600)), .inr (.inl (0, 120)), .inr (.inl (0, 5)), .inl (5, [some (some 11), some (some 12), some (some 13), none]), .inr (.inl (0, 40)), .inr (.inl (0, 41)), .inr (.inl (0, 40)), .inl (3, [some (some 6), some (some 15)]), .inr (.inl (0, 5)), .inl (6, [some (some 6), some (some 17), none]), .inr (.inl (0, 576)), .inl (4, [some (some 6), some (some 19), some (some 20), some (some 21), some (some 22), none, none]), .inr (.inl (0, 10)), .inr (.inl (0, 120)), .inr (.inl (1, 120)), .inr (.inl (0, 5)), .inl (2, [some (some 6), some (some 24), some (some 25), some (some 26), some (some 30), none, none]), .inr (.inl (0, 120)), .inr (.inl (0, 5)), .inl (0, [some (some 27), some (some 28), some (some 29), none, none]), .inr (.inl (0, 25)), .inr (.inl (0, 5)), .inr (.inl (0, 5)), .inl (0, [some (some 31), some (some 32), some (some 33), none, none]), .inr (.inl (0, 25)), .inr (.inl (0, 5)), .inr (.inl (0, 5)), .inl (0, [some (some 35), some (some 36), some (some 37), none, none]), .inr (.inl (0, 25)), .inr (.inl (0, 5)), .inr (.inl (0, 5)), .inl (0, [some (some 39), some (some 40), some (some 41), none, none]), .inr (.inl (0, 25)), .inr (.inl (0, 5)), .inr (.inl (0, 5)), .inl (0, [some (some 43), some (some 44), some (some 45), none, none]), .inr (.inl (0, 25)), .inr (.inl (0, 5)), .inr (.inl (0, 5)), .inl (0, [some (some 47), some (some 48), some (some 49), none, none]), .inr (.inl (0, 25)), .inr (.inl (0, 5)), .inr (.inl (0, 5))]
def qt_Q_35 : List Shp := [.inl (7, [some (some 1), some (some 2), some (some 6), some (some 10), some (some 14), some (some 16), some (some 18), some (some 23), none]), .inr (.inr [some 34, some 38, some 42, some 46, none, none, none, none, none, none, none, none]), .inl (0, [some (some 3), some (some 4), some (some 5), none, none]), .inr (.inl (0, 25)), .inr (.inl (0, 5)), .inr (.inl (0, 5)), .inl (1, [some (some 7), some (some 8), some (some 9)]), .inr (.inl (0, 600)), .inr (.inl (0, 120)), .inr (.inl (0, 5)), .inl (5, [some (some 11), some (some 12), some (some 13), none]), .inr (.inl (0, 40)), .inr (.inl (0, 41)), .inr (.inl (0, 40)), .inl (3, [some (some 6), some (some 15)]), .inr (.inl (0, 5)), .inl (6, [some (some 6), some (some 17), none]), .inr (.inl (0, 576)), .inl (4, [some (some 6), some (some 19), some (some 20), some (some 21), some (some 22), none, none]), .inr (.inl (0, 10)), .inr (.inl (0, 120)), .inr (.inl (1, 120)), .inr (.inl (0, 5)), .inl (2, [some (some 6), some (some 24), some (some 25), some (some 26), some (some 30), none, none]), .inr (.inl (0, 120)), .inr (.inl (0, 5)), .inl (0, [some (some 27), some (some 28), some (some 29), none, none]), .inr (.inl (0, 25)), .inr (.inl (0, 5)), .inr (.inl (0, 5)), .inl (0, [some (some 31), some (some 32), some (some 33), none, none]), .inr (.inl (0, 25)), .inr (.inl (0, 5)), .inr (.inl (0, 5)), .inl (0, [some (some 35), some (some 36), some (some 37), none, none]), .inr (.inl (0, 25)), .inr (.inl (0, 5)), .inr (.inl (0, 5)), .inl (0, [some (some 39), some (some 40), some (some 41), none, none]), .inr (.inl (0, 25)), .inr (.inl (0, 5)), .inr (.inl (0, 5)), .inl (0, [some (some 43), some (some 44), some (some 45), none, none]), .inr (.inl (0, 25)), .inr (.inl (0, 5)), .inr (.inl (0, 5)), .inl (0, [some (some 47), some (some 48), some (some 49), none, none]), .inr (.inl (0, 25)), .inr (.inl (0, 5)), .inr (.inl (0, 5))]
def qt_Q_36 : List Shp := [.inl (7, [some (some 1), some (some 2), some (some 6), some (some 10), some (some 14), some (some 16), some (some 18), some (some 23), none]), .inr (.inr [some 34, some 38, some 42, some 46, none, none, none, none, none, none, none, none]), .inl (0, [some (some 3), some (some 4), some (some 5), none, none]), .inr (.inl (0, 25)), .inr (.inl (0, 5)), .inr (.inl (0, 5)), .inl (1, [some (some 7), some (some 8), some (some 9)]), .inr (.inl (0, 600)), .inr (.inl (0, 120)), .inr (.inl (0, 5)), .inl (5, [some (some 11), some (some 12), some (some 13), none]), .inr (.inl (0, 40)), .inr (.inl (0, 41)), .inr (.inl (0, 40)), .inl (3, [some (some 6), some (some 15)]), .inr (.inl (0, 5)), .inl (6, [some (some 6), some (some 17), none]), .inr (.inl (0, 576)), .inl (4, [some (some 6), some (some 19), some (some 20), some (some 21), some (some 22), none, none]), .inr (.inl (0, 10)), .inr (.inl (0, 120)), .inr (.inl (1, 120)), .inr (.inl (0, 5)), .inl (2, [some (some 6), some (some 24), some (some 25), some (some 26), some (some 30), none, none]), .inr (.inl (0, 120)), .inr (.inl (0, 5)), .inl (0, [some (some 27), some (some 28), some (some 29), none, none]), .inr (.inl (0, 25)), .inr (.inl (0, 5)), .inr (.inl (0, 5)), .inl (0, [some (some 31), some (some 32), some (some 33), none, none]), .inr (.inl (0, 25)), .inr (.inl (0, 5)), .inr (.inl (0, 5)), .inl (0, [some (some 35), some (some 36), some (some 37), none, none]), .inr (.inl (0, 25)), .inr (.inl (0, 5)), .inr (.inl (0, 5)), .inl (0, [some (some 39), some (some 40), some (some 41), none, none]), .inr (.inl (0, 25)), .inr (.inl (0, 5)), .inr (.inl (0, 5)), .inl (0, [some (some 43), some (some 44), some (some 45), none, none]), .inr (.inl (0, 25)), .inr (.inl (0, 5)), .inr (.inl (0, 5)), .inl (0, [some (some 47), some (some 48), some (some 49), none, none]), .inr (.inl (0, 25)), .inr (.inl (0, 5)), .inr (.inl (0, 5)), .inl (0, [some none, some none, some none, none, none])]
def qt_Q_37 : List Shp := [.inl (7, [some (some 1), some (some 2), some (some 6), some (some 10), some (some 14), some (some 16), some (some 18), some (some 23), none]), .inr (.inr [some 34, some 38, some 42, some 46, none, none, none, none, none, none, none, none]), .inl (0, [some (some 3), some (some 4), some (some 5), none, none]), .inr (.inl (0, 25)), .inr (.inl (0, 5)), .inr (.inl (0, 5)), .inl (1, [some (some 7), some (some 8), some (some 9)]), .inr (.inl (0, 600)), .inr (.inl (0, 120)), .inr (.inl (0, 5)), .inl (5, [some (some 11), some (some 12), some (some 13), none]), .inr (.inl (0, 40)), .inr (.inl (0, 41)), .inr (.inl (0, 40)), .inl (3, [some (some 6), some (some 15)]), .inr (.inl (0, 5)), .inl (6, [some (some 6), some (some 17), none]), .inr (.inl (0, 576)), .inl (4, [some (some 6), some (some 19), some (some 20), some (some 21), some (some 22), none, none]), .inr (.inl (0, 10)), .inr (.inl (0, 120)), .inr (.inl (1, 120)), .inr (.inl (0, 5)), .inl (2, [some (some 6), some (some 24), some (some 25), some (some 26), some (some 30), none, none]), .inr (.inl (0, 120)), .inr (.inl (0, 5)), .inl (0, [some (some 27), some (some 28), some (some 29), none, none]), .inr (.inl (0, 25)), .inr (.inl (0, 5)), .inr (.inl (0, 5)), .inl (0, [some (some 31), some (some 32), some (some 33), none, none]), .inr (.inl (0, 25)), .inr (.inl (0, 5)), .inr (.inl (0, 5)), .inl (0, [some (some 35), some (some 36), some (some 37), none, none]), .inr (.inl (0, 25)), .inr (.inl (0, 5)), .inr (.inl (0, 5)), .inl (0, [some (some 39), some (some 40), some (some 41), none, none]), .inr (.inl (0, 25)), .inr (.inl (0, 5)), .inr (.inl (0, 5)), .inl (0, [some (some 43), some (some 44), some (some 45), none, none]), .inr (.inl (0, 25)), .inr (.inl (0, 5)), .inr (.inl (0, 5)), .inl (0, [some (some 47), some (some 48), some (some 49), none, none]), .inr (.inl (0, 25)), .inr (.inl (0, 5)), .inr (.inl (0, 5)), .inl (0, [some (some 51), some (some 52), some (some 53), none, none]), .inr (.inl (0, 25)), .inr (.inl (0, 5)), .inr (.inl (0, 5))]
def qt_Q_38 : List Shp := [.inl (7, [some (some 1), some (some 2), some (some 6), some (some 10), some (some 14), some (some 16), some (some 18), some (some 23), none]), .inr (.inr [some 34, some 38, some 42, some 46, some 50, none, none, none, none, none, none, none]), .inl (0, [some (some 3), some (some 4), some (some 5), none, none]), .inr (.inl (0, 25)), .inr (.inl (0, 5)), .inr (.inl (0, 5)), .inl (1, [some (some 7), some (some 8), some (some 9)]), .inr (.inl (0, 600)), .inr (.inl (0, 120)), .inr (.inl (0, 5)), .inl (5, [some (some 11), some (some 12), some (some 13), none]), .inr (.inl (0, 40)), .inr (.inl (0, 41)), .inr (.inl (0, 40)), .inl (3, [some (some 6), some (some 15)]), .inr (.inl (0, 5)), .inl (6, [some (some 6), some (some 17), none]), .inr (.inl (0, 576)), .inl (4, [some (some 6), some (some 19), some (some 20), some (some 21), some (some 22), none, none]), .inr (.inl (0, 10)), .inr (.inl (0, 120)), .inr (.inl (1, 120)), .inr (.inl (0, 5)), .inl (2, [some (some 6), some (some 24), some (some 25), some (some 26), some (some 30), none, none]), .inr (.inl (0, 120)), .inr (.inl (0, 5)), .inl (0, [some (some 27), some (some 28), some (some 29), none, none]), .inr (.inl (0, 25)), .inr (.inl (0, 5)), .inr (.inl (0, 5)), .inl (0, [some (some 31), some (some 32), some (some 33), none, none]), .inr (.inl (0, 25)), .inr (.inl (0, 5)), .inr (.inl (0, 5)), .inl (0, [some (some 35), some (some 36), some (some 37), none, none]), .inr (.inl (0, 25)), .inr (.inl (0, 5)), .inr (.inl (0, 5)), .inl (0, [some (some 39), some (some 40), some (some 41), none, none]), .inr (.inl (0, 25)), .inr (.inl (0, 5)), .inr (.inl (0, 5)), .inl (0, [some (some 43), some (some 44), some (some 45), none, none]), .inr (.inl (0, 25)), .inr (.inl (0, 5)), .inr (.inl (0, 5)), .inl (0, [some (some 47), some (some 48), some (some 49), none, none]), .inr (.inl (0, 25)), .inr (.inl (0, 5)), .inr (.inl (0, 5)), .inl (0, [some (some 51), some (some 52), some (some 53), none, none]), .inr (.inl (0, 25)), .inr (.inl (0, 5)), .inr (.inl (0, 5))]
def qt_Q_39 : List Shp := [.inl (7, [some (some 1), some (some 2), some (some 6), some (some 10), some (some 14), some (some 16), some (some 18), some (some 23), none]), .inr (.inr [some 34, some 38, some 42, some 46, some 50, none, none, none, none, none, none, none]), .inl (0, [some (some 3), some (some 4), some (some 5), none, none]), .inr (.inl (0, 25)), .inr (.inl (0, 5)), .inr (.inl (0, 5)), .inl (1, [some (some 7), some (some 8), some (some 9)]), .inr (.inl (0, 600)), .inr (.inl (0, 120)), .inr (.inl (0, 5)), .inl (5, [some (some 11), some (some 12), some (some 13), none]), .inr (.inl (0, 40)), .inr (.inl (0, 41)), .inr (.inl (0, 40)), .inl (3, [some (some 6), some (some 15)]), .inr (.inl (0, 5)), .inl (6, [some (some 6), some (some 17), none]), .inr (.inl (0, 576)), .inl (4, [some (some 6), some (some 19), some (some 20), some (some 21), some (some 22), none, none]), .inr (.inl (0, 10)), .inr (.inl (0, 120)), .inr (.inl (1, 120)), .inr (.inl (0, 5)), .inl (2, [some (some 6), some (some 24), some (some 25), some (some 26), some (some 30), none, none]), .inr (.inl (0, 120)), .inr (.inl (0, 5)), .inl (0, [some (some 27), some (some 28), some (some 29), none, none]), .inr (.inl (0, 25)), .inr (.inl (0, 5)), .inr (.inl (0, 5)), .inl (0, [some (some 31), some (some 32), some (some 33), none, none]), .inr (.inl (0, 25)), .inr (.inl (0, 5)), .inr (.inl (0, 5)), .inl (0, [some (some 35), some (some 36), some (some 37), none, none]), .inr (.inl (0, 25)), .inr (.inl (0, 5)), .inr (.inl (0, 5)), .inl (0, [some (some 39), some (some 40), some (some 41), none, none]), .inr (.inl (0, 25)), .inr (.inl (0, 5)), .inr (.inl (0, 5)), .inl (0, [some (some 43), some (some 44), some (some 45), none, none]), .inr (.inl (0, 25)), .inr (.inl (0, 5)), .inr (.inl (0, 5)), .inl (0, [some (some 47), some (some 48), some (some 49), none, none]), .inr (.inl (0, 25)), .inr (.inl (0, 5)), .inr (.inl (0, 5)), .inl (0, [some (some 51), some (some 52), some (some 53), none, none]), .inr (.inl (0, 25)), .inr (.inl (0, 5)), .inr (.inl (0, 5)), .inl (0, [some none, some none, some none, none, none])]
def qt_Q_40 : List Shp := [.inl (7, [some (some 1), some (some 2), some (some 6), some (some 10), some (some 14), some (some 16), some (some 18), some (some 23), none]), .inr (.inr [some 34, some 38, some 42, some 46, some 50, none, none, none, none, none, none, none]), .inl (0, [some (some 3), some (some 4), some (some 5), none, none]), .inr (.inl (0, 25)), .inr (.inl (0, 5)), .inr (.inl (0, 5)), .inl (1, [some (some 7), some (some 8), some (some 9)]), .inr (.inl (0, 600)), .inr (.inl (0, 120)), .inr (.inl (0, 5)), .inl (5, [some (some 11), some (some 12), some (some 13), none]), .inr (.inl (0, 40)), .inr (.inl (0, 41)), .inr (.inl (0, 40)), .inl (3, [some (some 6), some (some 15)]), .inr (.inl (0, 5)), .inl (6, [some (some 6), some (some 17), none]), .inr (.inl (0, 576)), .inl (4, [some (some 6), some (some 19), some (some 20), some (some 21), some (some 22), none, none]), .inr (.inl (0, 10)), .inr (.inl (0, 120)), .inr (.inl (1, 120)), .inr (.inl (0, 5)), .inl (2, [some (some 6), some (some 24), some (some 25), some (some 26), some (some 30), none, none]), .inr (.inl (0, 120)), .inr (.inl (0, 5)), .inl (0, [some (some 27), some (some 28), some (some 29), none, none]), .inr (.inl (0, 25)), .inr (.inl (0, 5)), .inr (.inl (0, 5)), .inl (0, [some (some 31), some (some 32), some (some 33), none, none]), .inr (.inl (0, 25)), .inr (.inl (0, 5)), .inr (.inl (0, 5)), .inl (0, [some (some 35), some (some 36), some (some 37), none, none]), .inr (.inl (0, 25)), .inr (.inl (0, 5)), .inr (.inl (0, 5)), .inl (0, [some (some 39), some (some 40), some (some 41), none, none]), .inr (.inl (0, 25)), .inr (.inl (0, 5)), .inr (.inl (0, 5)), .inl (0, [some (some 43), some (some 44), some (some 45), none, none]), .inr (.inl (0, 25)), .inr (.inl (0, 5)), .inr (.inl (0, 5)), .inl (0, [some (some 47), some (some 48), some (some 49), none, none]), .inr (.inl (0, 25)), .inr (.inl (0, 5)), .inr (.inl (0, 5)), .inl (0, [some (some 51), some (some 52), some (some 53), none, none]), .inr (.inl (0, 25)), .inr (.inl (0, 5)), .inr (.inl (0, 5)), .inl (0, [some (some 55), some (some 56), some (some 57), none, none]), .inr (.inl (0, 25)), .inr (.inl (0, 5)), .inr (.inl (0, 5))]
def qt_Q_41 : List Shp := [.inl (7, [some (some 1), some (some 2), some (some 6), some (some 10), some (some 14), some (some 16), some (some 18), some (some 23), none]), .inr (.inr [some 34, some 38, some 42, some 46, some 50, some 54, none, none, none, none, none, none]), .inl (0, [some (some 3), some (some 4), some (some 5), none, none]), .inr (.inl (0, 25)), .inr (.inl (0, 5)), .inr (.inl (0, 5)), .inl (1, [some (some 7), some (some 8), some (some 9)]), .inr (.inl (0, 600)), .inr (.inl (0, 120)), .inr (.inl (0, 5)), .inl (5, [some (some 11), some (some 12), some (some 13), none]), .inr (.inl (0, 40)), .inr (.inl (0, 41)), .inr (.inl (0, 40)), .inl (3, [some (some 6), some (some 15)]), .inr (.inl (0, 5)), .inl (6, [some (some 6), some (some 17), none]), .inr (.inl (0, 576)), .inl (4, [some (some 6), some (some 19), some (some 20), some (some 21), some (some 22), none, none]), .inr (.inl (0, 10)), .inr (.inl (0, 120)), .inr (.inl (1, 120)), .inr (.inl (0, 5)), .inl (2, [some (some 6), some (some 24), some (some 25), some (some 26), some (some 30), none, none]), .inr (.inl (0, 120)), .inr (.inl (0, 5)), .inl (0, [some (some 27), some (some 28), some (some 29), none, none]), .inr (.inl (0, 25)), .inr (.inl (0, 5)), .inr (.inl (0, 5)), .inl (0, [some (some 31), some (some 32), some (some 33), none, none]), .inr (.inl (0, 25)), .inr (.inl (0, 5)), .inr (.inl (0, 5)), .inl (0, [some (some 35), some (some 36), some (some 37), none, none]), .inr (.inl (0, 25)), .inr (.inl (0, 5)), .inr (.inl (0, 5)), .inl (0, [some (some 39), some (some 40), some (some 41), none, none]), .inr (.inl (0, 25)), .inr (.inl (0, 5)), .inr (.inl (0, 5)), .inl (0, [some (some 43), some (some 44), some (some 45), none, none]), .inr (.inl (0, 25)), .inr (.inl (0, 5)), .inr (.inl (0, 5)), .inl (0, [some (some 47), some (some 48), some (some 49), none, none]), .inr (.inl (0, 25)), .inr (.inl (0, 5)), .inr (.inl (0, 5)), .inl (0, [some (some 51), some (some 52), some (some 53), none, none]), .inr (.inl (0, 25)), .inr (.inl (0, 5)), .inr (.inl (0, 5)), .inl (0, [some (some 55), some (some 56), some (some 57), none, none]), .inr (.inl (0, 25)), .inr (.inl (0, 5)), .inr (.inl (0, 5))]
def qt_Q_42 : List Shp := [.inl (7, [some (some 1), some (some 2), some (some 6), some (some 10), some (some 14), some (some 16), some (some 18), some (some 23), none]), .inr (.inr [some 34, some 38, some 42, some 46, some 50, some 54, none, none, none, none, none, none]), .inl (0, [some (some 3), some (some 4), some (some 5), none, none]), .inr (.inl (0, 25)), .inr (.inl (0, 5)), .inr (.inl (0, 5)), .inl (1, [some (some 7), some (some 8), some (some 9)]), .inr (.inl (0, 600)), .inr (.inl (0, 120)), .inr (.inl (0, 5)), .inl (5, [some (some 11), some (some 12), some (some 13), none]), .inr (.inl (0, 40)), .inr (.inl (0, 41)), .inr (.inl (0, 40)), .inl (3, [some (some 6), some (some 15)]), .inr (.inl (0, 5)), .inl (6, [some (some 6), some (some 17), none]), .inr (.inl (0, 576)), .inl (4, [some (some 6), some (some 19), some (some 20), some (some 21), some (some 22), none, none]), .inr (.inl (0, 10)), .inr (.inl (0, 120)), .inr (.inl (1, 120)), .inr (.inl (0, 5)), .inl (2, [some (some 6), some (some 24), some (some 25), some (some 26), some (some 30), none, none]), .inr (.inl (0, 120)), .inr (.inl (0, 5)), .inl (0, [some (some 27), some (some 28), some (some 29), none, none]), .inr (.inl (0, 25)), .inr (.inl (0, 5)), .inr (.inl (0, 5)), .inl (0, [some (some 31), some (some 32), some (some 33), none, none]), .inr (.inl (0, 25)), .inr (.inl (0, 5)), .inr (.inl (0, 5)), .inl (0, [some (some 35), some (some 36), some (some 37), none, none]), .inr (.inl (0, 25)), .inr (.inl (0, 5)), .inr (.inl (0, 5)), .inl (0, [some (some 39), some (some 40), some (some 41), none, none]), .inr (.inl (0, 25)), .inr (.inl (0, 5)), .inr (.inl (0, 5)), .inl (0, [some (some 43), some (some 44), some (some 45), none, none]), .inr (.inl (0, 25)), .inr (.inl (0, 5)), .inr (.inl (0, 5)), .inl (0, [some (some 47), some (some 48), some (some 49), none, none]), .inr (.inl (0, 25)), .inr (.inl (0, 5)), .inr (.inl (0, 5)), .inl (0, [some (some 51), some (some 52), some (some 53), none, none]), .inr (.inl (0, 25)), .inr (.inl (0, 5)), .inr (.inl (0, 5)), .inl (0, [some (some 55), some (some 56), some (some 57), none, none]), .inr (.inl (0, 25)), .inr (.inl (0, 5)), .inr (.inl (0, 5)), .inl (0, [some none, some none, some none, none, none])]
def qt_Q_43 : List Shp := [.inl (7, [some (some 1), some (some 2), some (some 6), some (some 10), some (some 14), some (some 16), some (some 18), some (some 23), none]), .inr (.inr [some 34, some 38, some 42, some 46, some 50, some 54, none, none, none, none, none, none]), .inl (0, [some (some 3), some (some 4), some (some 5), none, none]), .inr (.inl (0, 25)), .inr (.inl (0, 5)), .inr (.inl (0, 5)), .inl (1, [some (some 7), some (some 8), some (some 9)]), .inr (.inl (0, 600)), .inr (.inl (0, 120)), .inr (.inl (0, 5)), .inl (5, [some (some 11), some (some 12), some (some 13), none]), .inr (.inl (0, 40)), .inr (.inl (0, 41)), .inr (.inl (0, 40)), .inl (3, [some (some 6), some (some 15)]), .inr (.inl (0, 5)), .inl (6, [some (some 6), some (some 17), none]), .inr (.inl (0, 576)), .inl (4, [some (some 6), some (some 19), some (some 20), some (some 21), some (some 22), none, none]), .inr (.inl (0, 10)), .inr (.inl (0, 120)), .inr (.inl (1, 120)), .inr (.inl (0, 5)), .inl (2, [some (some 6), some (some 24), some (some 25), some (some 26), some (some 30), none, none]), .inr (.inl (0, 120)), .inr (.inl (0, 5)), .inl (0, [some (some 27), some (some 28), some (some 29), none, none]), .inr (.inl (0, 25)), .inr (.inl (0, 5)), .inr (.inl (0, 5)), .inl (0, [some (some 31), some (some 32), some (some 33), none, none]), .inr (.inl (0, 25)), .inr (.inl (0, 5)), .inr (.inl (0, 5)), .inl (0, [some (some 35), some (some 36), some (some 37), none, none]), .inr (.inl (0, 25)), .inr (.inl (0, 5)), .inr (.inl (0, 5)), .inl (0, [some (some 39), some (some 40), some (some 41), none, none]), .inr (.inl (0, 25)), .inr (.inl (0, 5)), .inr (.inl (0, 5)), .inl (0, [some (some 43), some (some 44), some (some 45), none, none]), .inr (.inl (0, 25)), .inr (.inl (0, 5)), .inr (.inl (0, 5)), .inl (0, [some (some 47), some (some 48), some (some 49), none, none]), .inr (.inl (0, 25)), .inr (.inl (0, 5)), .inr (.inl (0, 5)), .inl (0, [some (some 51), some (some 52), some (some 53), none, none]), .inr (.inl (0, 25)), .inr (.inl (0, 5)), .inr (.inl (0, 5)), .inl (0, [some (some 55), some (some 56), some (some 57), none, none]), .inr (.inl (0, 25)), .inr (.inl (0, 5)), .inr (.inl (0, 5)), .inl (0, [some (some 59), some (some 60), some (some 61), none, none]), .inr (.inl (0, 25)), .inr (.inl (0, 5)), .inr (.inl (0, 5))]
def qt_Q_44 : List Shp := [.inl (7, [some (some 1), some (some 2), some (some 6), some (some 10), some (some 14), some (some 16), some (some 18), some (some 23), none]), .inr (.inr [some 34, some 38, some 42, some 46, some 50, some 54, some 58, none, none, none, none, none]), .inl (0, [some (some 3), some (some 4), some (some 5), none, none]), .inr (.inl (0, 25)), .inr (.inl (0, 5)), .inr (.inl (0, 5)), .inl (1, [some (some 7), some (some 8), some (some 9)]), .inr (.inl (0, 600)), .inr (.inl (0, 120)), .inr (.inl (0, 5)), .inl (5, [some (some 11), some (some 12), some (some 13), none]), .inr (.inl (0, 40)), .inr (.inl (0, 41)), .inr (.inl (0, 40)), .inl (3, [some (some 6), some (some 15)]), .inr (.inl (0, 5)), .inl (6, [some (some 6), some (some 17), none]), .inr (.inl (0, 576)), .inl (4, [some (some 6), some (some 19), some (some 20), some (some 21), some (some 22), none, none]), .inr (.inl (0, 10)), .inr (.inl (0, 120)), .inr (.inl (1, 120)), .inr (.inl (0, 5)), .inl (2, [some (some 6), some (some 24), some (some 25), some (some 26), some (some 30), none, none]), .inr (.inl (0, 120)), .inr (.inl (0, 5)), .inl (0, [some (some 27), some (some 28), some (some 29), none, none]), .inr (.inl (0, 25)), .inr (.inl (0, 5)), .inr (.inl (0, 5)), .inl (0, [some (some 31), some (some 32), some (some 33), none, none]), .inr (.inl (0, 25)), .inr (.inl (0, 5)), .inr (.inl (0, 5)), .inl (0, [some (some 35), some (some 36), some (some 37), none, none]), .inr (.inl (0, 25)), .inr (.inl (0, 5)), .inr (.inl (0, 5)), .inl (0, [some (some 39), some (some 40), some (some 41), none, none]), .inr (.inl (0, 25)), .inr (.inl (0, 5)), .inr (.inl (0, 5)), .inl (0, [some (some 43), some (some 44), some (some 45), none, none]), .inr (.inl (0, 25)), .inr (.inl (0, 5)), .inr (.inl (0, 5)), .inl (0, [some (some 47), some (some 48), some (some 49), none, none]), .inr (.inl (0, 25)), .inr (.inl (0, 5)), .inr (.inl (0, 5)), .inl (0, [some (some 51), some (some 52), some (some 53), none, none]), .inr (.inl (0, 25)), .inr (.inl (0, 5)), .inr (.inl (0, 5)), .inl (0, [some (some 55), some (some 56), some (some 57), none, none]), .inr (.inl (0, 25)), .inr (.inl (0, 5)), .inr (.inl (0, 5)), .inl (0, [some (some 59), some (some 60), some (some 61), none, none]), .inr (.inl (0, 25)), .inr (.inl (0, 5)), .inr (.inl (0, 5))]
def qt_Q_45 : List Shp := [.inl (7, [some (some 1), some (some 2), some (some 6), some (some 10), some (some 14), some (some 16), some (some 18), some (some 23), none]), .inr (.inr [some 34, some 38, some 42, some 46, some 50, some 54, some 58, none, none, none, none, none]), .inl (0, [some (some 3), some (some 4), some (some 5), none, none]), .inr (.inl (0, 25)), .inr (.inl (0, 5)), .inr (.inl (0, 5)), .inl (1, [some (some 7), some (some 8), some (some 9)]), .inr (.inl (0, 600)), .inr (.inl (0, 120)), .inr (.inl (0, 5)), .inl (5, [some (some 11), some (some 12), some (some 13), none]), .inr (.inl (0, 40)), .inr (.inl (0, 41)), .inr (.inl (0, 40)), .inl (3, [some (some 6), some (some 15)]), .inr (.inl (0, 5)), .inl (6, [some (some 6), some (some 17), none]), .inr (.inl (0, 576)), .inl (4, [some (some 6), some (some 19), some (some 20), some (some 21), some (some 22), none, none]), .inr (.inl (0, 10)), .inr (.inl (0, 120)), .inr (.inl (1, 120)), .inr (.inl (0, 5)), .inl (2, [some (some 6), some (some 24), some (some 25), some (some 26), some (some 30), none, none]), .inr (.inl (0, 120)), .inr (.inl (0, 5)), .inl (0, [some (some 27), some (some 28), some (some 29), none, none]), .inr (.inl (0, 25)), .inr (.inl (0, 5)), .inr (.inl (0, 5)), .inl (0, [some (some 31), some (some 32), some (some 33), none, none]), .inr (.inl (0, 25)), .inr (.inl (0, 5)), .inr (.inl (0, 5)), .inl (0, [some (some 35), some (some 36), some (some 37), none, none]), .inr (.inl (0, 25)), .inr (.inl (0, 5)), .inr (.inl (0, 5)), .inl (0, [some (some 39), some (some 40), some (some 41), none, none]), .inr (.inl (0, 25)), .inr (.inl (0, 5)), .inr (.inl (0, 5)), .inl (0, [some (some 43), some (some 44), some (some 45), none, none]), .inr (.inl (0, 25)), .inr (.inl (0, 5)), .inr (.inl (0, 5)), .inl (0, [some (some 47), some (some 48), some (some 49), none, none]), .inr (.inl (0, 25)), .inr (.inl (0, 5)), .inr (.inl (0, 5)), .inl (0, [some (some 51), some (some 52), some (some 53), none, none]), .inr (.inl (0, 25)), .inr (.inl (0, 5)), .inr (.inl (0, 5)), .inl (0, [some (some 55), some (some 56), some (some 57), none, none]), .inr (.inl (0, 25)), .inr (.inl (0, 5)), .inr (.inl (0, 5)), .inl (0, [some (some 59), some (some 60), some (some 61), none, none]), .inr (.inl (0, 25)), .inr (.inl (0, 5)), .inr (.inl (0, 5)), .inl (0, [some none, some none, some none, none, none])]
def qt_Q_46 : List Shp := [.inl (7, [some (some 1), some (some 2), some (some 6), some (some 10), some (some 14), some (some 16), some (some 18), some (some 23), none]), .inr (.inr [some 34, some 38, some 42, some 46, some 50, some 54, some 58, none, none, none, none, none]), .inl (0, [some (some 3), some (some 4), some (some 5), none, none]), .inr (.inl (0, 25)), .inr (.inl (0, 5)), .inr (.inl (0, 5)), .inl (1, [some (some 7), some (some 8), some (some 9)]), .inr (.inl (0, 600)), .inr (.inl (0, 120)), .inr (.inl (0, 5)), .inl (5, [some (some 11), some (some 12), some (some 13), none]), .inr (.inl (0, 40)), .inr (.inl (0, 41)), .inr (.inl (0, 40)), .inl (3, [some (some 6), some (some 15)]), .inr (.inl (0, 5)), .inl (6, [some (some 6), some (some 17), none]), .inr (.inl (0, 576)), .inl (4, [some (some 6), some (some 19), some (some 20), some (some 21), some (some 22), none, none]), .inr (.inl (0, 10)), .inr (.inl (0, 120)), .inr (.inl (1, 120)), .inr (.inl (0, 5)), .inl (2, [some (some 6), some (some 24), some (some 25), some (some 26), some (some 30), none, none]), .inr (.inl (0, 120)), .inr (.inl (0, 5)), .inl (0, [some (some 27), some (some 28), some (some 29), none, none]), .inr (.inl (0, 25)), .inr (.inl (0, 5)), .inr (.inl (0, 5)), .inl (0, [some (some 31), some (some 32), some (some 33), none, none]), .inr (.inl (0, 25)), .inr (.inl (0, 5)), .inr (.inl (0, 5)), .inl (0, [some (some 35), some (some 36), some (some 37), none, none]), .inr (.inl (0, 25)), .inr (.inl (0, 5)), .inr (.inl (0, 5)), .inl (0, [some (some 39), some (some 40), some (some 41), none, none]), .inr (.inl (0, 25)), .inr (.inl (0, 5)), .inr (.inl (0, 5)), .inl (0, [some (some 43), some (some 44), some (some 45), none, none]), .inr (.inl (0, 25)), .inr (.inl (0, 5)), .inr (.inl (0, 5)), .inl (0, [some (some 47), some (some 48), some (some 49), none, none]), .inr (.inl (0, 25)), .inr (.inl (0, 5)), .inr (.inl (0, 5)), .inl (0, [some (some 51), some (some 52), some (some 53), none, none]), .inr (.inl (0, 25)), .inr (.inl (0, 5)), .inr (.inl (0, 5)), .inl (0, [some (some 55), some (some 56), some (some 57), none, none]), .inr (.inl (0, 25)), .inr (.inl (0, 5)), .inr (.inl (0, 5)), .inl (0, [some (some 59), some (some 60), some (some 61), none, none]), .inr (.inl (0, 25)), .inr (.inl (0, 5)), .inr (.inl (0, 5)), .inl (0, [some (some 63), some (some 64), some (some 65), none, none]), .inr (.inl (0, 25)), .inr (.inl (0, 5)), .inr (.inl (0, 5))]
def qt_Q_47 : List Shp := [.inl (7, [some (some 1), some (some 2), some (some 6), some (some 10), some (some 14), some (some 16), some (some 18), some (some 23), none]), .inr (.inr [some 34, some 38, some 42, some 46, some 50, some 54, some 58, some 62, none, none, none, none]), .inl (0, [some (some 3), some (some 4), some (some 5), none, none]), .inr (.inl (0, 25)), .inr (.inl (0, 5)), .inr (.inl (0, 5)), .inl (1, [some (some 7), some (some 8), some (some 9)]), .inr (.inl (0, 600)), .inr (.inl (0, 120)), .inr (.inl (0, 5)), .inl (5, [some (some 11), some (some 12), some (some 13), none]), .inr (.inl (0, 40)), .inr (.inl (0, 41)), .inr (.inl (0, 40)), .inl (3, [some (some 6), some (some 15)]), .inr (.inl (0, 5)), .inl (6, [some (some 6), some (some 17), none]), .inr (.inl (0, 576)), .inl (4, [some (some 6), some (some 19), some (some 20), some (some 21), some (some 22), none, none]), .inr (.inl (0, 10)), .inr (.inl (0, 120)), .inr (.inl (1, 120)), .inr (.inl (0, 5)), .inl (2, [some (some 6), some (some 24), some (some 25), some (some 26), some (some 30), none, none]), .inr (.inl (0, 120)), .inr (.inl (0, 5)), .inl (0, [some (some 27), some (some 28), some (some 29), none, none]), .inr (.inl (0, 25)), .inr (.inl (0, 5)), .inr (.inl (0, 5)), .inl (0, [some (some 31), some (some 32), some (some 33), none, none]), .inr (.inl (0, 25)), .inr (.inl (0, 5)), .inr (.inl (0, 5)), .inl (0, [some (some 35), some (some 36), some (some 37), none, none]), .inr (.inl (0, 25)), .inr (.inl (0, 5)), .inr (.inl (0, 5)), .inl (0, [some (some 39), some (some 40), some (some 41), none, none]), .inr (.inl (0, 25)), .inr (.inl (0, 5)), .inr (.inl (0, 5)), .inl (0, [some (some 43), some (some 44), some (some 45), none, none]), .inr (.inl (0, 25)), .inr (.inl (0, 5)), .inr (.inl (0, 5)), .inl (0, [some (some 47), some (some 48), some (some 49), none, none]), .inr (.inl (0, 25)), .inr (.inl (0, 5)), .inr (.inl (0, 5)), .inl (0, [some (some 51), some (some 52), some (some 53), none, none]), .inr (.inl (0, 25)), .inr (.inl (0, 5)), .inr (.inl (0, 5)), .inl (0, [some (some 55), some (some 56), some (some 57), none, none]), .inr (.inl (0, 25)), .inr (.inl (0, 5)), .inr (.inl (0, 5)), .inl (0, [some (some 59), some (some 60), some (some 61), none, none]), .inr (.inl (0, 25)), .inr (.inl (0, 5)), .inr (.inl (0, 5)), .inl (0, [some (some 63), some (some 64), some (some 65), none, none]), .inr (.inl (0, 25)), .inr (.inl (0, 5)), .inr (.inl (0, 5))]
def qt_Q_48 : List Shp := [.inl (7, [some (some 1), some (some 2), some (some 6), some (some 10), some (some 14), some (some 16), some (some 18), some (some 23), none]), .inr (.inr [some 34, some 38, some 42, some 46, some 50, some 54, some 58, some 62, none, none, none, none]), .inl (0, [some (some 3), some (some 4), some (some 5), none, none]), .inr (.inl (0, 25)), .inr (.inl (0, 5)), .inr (.inl (0, 5)), .inl (1, [some (some 7), some (some 8), some (some 9)]), .inr (.inl (0, 600)), .inr (.inl (0, 120)), .inr (.inl (0, 5)), .inl (5, [some (some 11), some (some 12), some (some 13), none]), .inr (.inl (0, 40)), .inr (.inl (0, 41)), .inr (.inl (0, 40)), .inl (3, [some (some 6), some (some 15)]), .inr (.inl (0, 5)), .inl (6, [some (some 6), some (some 17), none]), .inr (.inl (0, 576)), .inl (4, [some (some 6), some (some 19), some (some 20), some (some 21), some (some 22), none, none]), .inr (.inl (0, 10)), .inr (.inl (0, 120)), .inr (.inl (1, 120)), .inr (.inl (0, 5)), .inl (2, [some (some 6), some (some 24), some (some 25), some (some 26), some (some 30), none, none]), .inr (.inl (0, 120)), .inr (.inl (0, 5)), .inl (0, [some (some 27), some (some 28), some (some 29), none, none]), .inr (.inl (0, 25)), .inr (.inl (0, 5)), .inr (.inl (0, 5)), .inl (0, [some (some 31), some (some 32), some (some 33), none, none]), .inr (.inl (0, 25)), .inr (.inl (0, 5)), .inr (.inl (0, 5)), .inl (0, [some (some 35), some (some 36), some (some 37), none, none]), .inr (.inl (0, 25)), .inr (.inl (0, 5)), .inr (.inl (0, 5)), .inl (0, [some (some 39), some (some 40), some (some 41), none, none]), .inr (.inl (0, 25)), .inr (.inl (0, 5)), .inr (.inl (0, 5)), .inl (0, [some (some 43), some (some 44), some (some 45), none, none]), .inr (.inl (0, 25)), .inr (.inl (0, 5)), .inr (.inl (0, 5)), .inl (0, [some (some 47), some (some 48), some (some 49), none, none]), .inr (.inl (0, 25)), .inr (.inl (0, 5)), .inr (.inl (0, 5)), .inl (0, [some (some 51), some (some 52), some (some 53), none, none]), .inr (.inl (0, 25)), .inr (.inl (0, 5)), .inr (.inl (0, 5)), .inl (0, [some (some 55), some (some 56), some (some 57), none, none]), .inr (.inl (0, 25)), .inr (.inl (0, 5)), .inr (.inl (0, 5)), .inl (0, [some (some 59), some (some 60), some (some 61), none, none]), .inr (.inl (0, 25)), .inr (.inl (0, 5)), .inr (.inl (0, 5)), .inl (0, [some (some 63), some (some 64), some (some 65), none, none]), .inr (.inl (0, 25)), .inr (.inl (0, 5)), .inr (.inl (0, 5)), .inl (0, [some none, some none, some none, none, none])]
def qt_Q_49 : List Shp := [.inl (7, [some (some 1), some (some 2), some (some 6), some (some 10), some (some 14), some (some 16), some (some 18), some (some 23), none]), .inr (.inr [some 34, some 38, some 42, some 46, some 50, some 54, some 58, some 62, none, none, none, none]), .inl (0, [some (some 3), some (some 4), some (some 5), none, none]), .inr (.inl (0, 25)), .inr (.inl (0, 5)), .inr (.inl (0, 5)), .inl (1, [some (some 7), some (some 8), some (some 9)]), .inr (.inl (0, 600)), .inr (.inl (0, 120)), .inr (.inl (0, 5)), .inl (5, [some (some 11), some (some 12), some (some 13), none]), .inr (.inl (0, 40)), .inr (.inl (0, 41)), .inr (.inl (0, 40)), .inl (3, [some (some 6), some (some 15)]), .inr (.inl (0, 5)), .inl (6, [some (some 6), some (some 17), none]), .inr (.inl (0, 576)), .inl (4, [some (some 6), some (some 19), some (some 20), some (some 21), some (some 22), none, none]), .inr (.inl (0, 10)), .inr (.inl (0, 120)), .inr (.inl (1, 120)), .inr (.inl (0, 5)), .inl (2, [some (some 6), some (some 24), some (some 25), some (some 26), some (some 30), none, none]), .inr (.inl (0, 120)), .inr (.inl (0, 5)), .inl (0, [some (some 27), some (some 28), some (some 29), none, none]), .inr (.inl (0, 25)), .inr (.inl (0, 5)), .inr (.inl (0, 5)), .inl (0, [some (some 31), some (some 32), some (some 33), none, none]), .inr (.inl (0, 25)), .inr (.inl (0, 5)), .inr (.inl (0, 5)), .inl (0, [some (some 35), some (some 36), some (some 37), none, none]), .inr (.inl (0, 25)), .inr (.inl (0, 5)), .inr (.inl (0, 5)), .inl (0, [some (some 39), some (some 40), some (some 41), none, none]), .inr (.inl (0, 25)), .inr (.inl (0, 5)), .inr (.inl (0, 5)), .inl (0, [some (some 43), some (some 44), some (some 45), none, none]), .inr (.inl (0, 25)), .inr (.inl (0, 5)), .inr (.inl (0, 5)), .inl (0, [some (some 47), some (some 48), some (some 49), none, none]), .inr (.inl (0, 25)), .inr (.inl (0, 5)), .inr (.inl (0, 5)), .inl (0, [some (some 51), some (some 52), some (some 53), none, none]), .inr (.inl (0, 25)), .inr (.inl (0, 5)), .inr (.inl (0, 5)), .inl (0, [some (some 55), some (some 56), some (some 57), none, none]), .inr (.inl (0, 25)), .inr (.inl (0, 5)), .inr (.inl (0, 5)), .inl (0, [some (some 59), some (some 60), some (some 61), none, none]), .inr (.inl (0, 25)), .inr (.inl (0, 5)), .inr (.inl (0, 5)), .inl (0, [some (some 63), some (some 64), some (some 65), none, none]), .inr (.inl (0, 25)), .inr (.inl (0, 5)), .inr (.inl (0, 5)), .inl (0, [some (some 67), some (some 68), some (some 69), none, none]), .inr (.inl (0, 25)), .inr (.inl (0, 5)), .inr (.inl (0, 5))]
def qt_Q_50 : List Shp := [.inl (7, [some (some 1), some (some 2), some (some 6), some (some 10), some (some 14), some (some 16), some (some 18), some (some 23), none]), .inr (.inr [some 34, some 38, some 42, some 46, some 50, some 54, some 58, some 62, some 66, none, none, none]), .inl (0, [some (some 3), some (some 4), some (some 5), none, none]), .inr (.inl (0, 25)), .inr (.inl (0, 5)), .inr (.inl (0, 5)), .inl (1, [some (some 7), some (some 8), some (some 9)]), .inr (.inl (0, 600)), .inr (.inl (0, 120)), .inr (.inl (0, 5)), .inl (5, [some (some 11), some (some 12), some (some 13), none]), .inr (.inl (0, 40)), .inr (.inl (0, 41)), .inr (.inl (0, 40)), .inl (3, [some (some 6), some (some 15)]), .inr (.inl (0, 5)), .inl (6, [some (some 6), some (some 17), none]), .inr (.inl (0, 576)), .inl (4, [some (some 6), some (some 19), some (some 20), some (some 21), some (some 22), none, none]), .inr (.inl (0, 10)), .inr (.inl (0, 120)), .inr (.inl (1, 120)), .inr (.inl (0, 5)), .inl (2, [some (some 6), some (some 24), some (some 25), some (some 26), some (some 30), none, none]), .inr (.inl (0, 120)), .inr (.inl (0, 5)), .inl (0, [some (some 27), some (some 28), some (some 29), none, none]), .inr (.inl (0, 25)), .inr (.inl (0, 5)), .inr (.inl (0, 5)), .inl (0, [some (some 31), some (some 32), some (some 33), none, none]), .inr (.inl (0, 25)), .inr (.inl (0, 5)), .inr (.inl (0, 5)), .inl (0, [some (some 35), some (some 36), some (some 37), none, none]), .inr (.inl (0, 25)), .inr (.inl (0, 5)), .inr (.inl (0, 5)), .inl (0, [some (some 39), some (some 40), some (some 41), none, none]), .inr (.inl (0, 25)), .inr (.inl (0, 5)), .inr (.inl (0, 5)), .inl (0, [some (some 43), some (some 44), some (some 45), none, none]), .inr (.inl (0, 25)), .inr (.inl (0, 5)), .inr (.inl (0, 5)), .inl (0, [some (some 47), some (some 48), some (some 49), none, none]), .inr (.inl (0, 25)), .inr (.inl (0, 5)), .inr (.inl (0, 5)), .inl (0, [some (some 51), some (some 52), some (some 53), none, none]), .inr (.inl (0, 25)), .inr (.inl (0, 5)), .inr (.inl (0, 5)), .inl (0, [some (some 55), some (some 56), some (some 57), none, none]), .inr (.inl (0, 25)), .inr (.inl (0, 5)), .inr (.inl (0, 5)), .inl (0, [some (some 59), some (some 60), some (some 61), none, none]), .inr (.inl (0, 25)), .inr (.inl (0, 5)), .inr (.inl (0, 5)), .inl (0, [some (some 63), some (some 64), some (some 65), none, none]), .inr (.inl (0, 25)), .inr (.inl (0, 5)), .inr (.inl (0, 5)), .inl (0, [some (some 67), some (some 68), some (some 69), none, none]), .inr (.inl (0, 25)), .inr (.inl (0, 5)), .inr (.inl (0, 5))]
def qt_Q_51 : List Shp := [.inl (7, [some (some 1), some (some 2), some (some 6), some (some 10), some (some 14), some (some 16), some (some 18), some (some 23), none]), .inr (.inr [some 34, some 38, some 42, some 46, some 50, some 54, some 58, some 62, some 66, none, none, none]), .inl (0, [some (some 3), some (some 4), some (some 5), none, none]), .inr (.inl (0, 25)), .inr (.inl (0, 5)), .inr (.inl (0, 5)), .inl (1, [some (some 7), some (some 8), some (some 9)]), .inr (.inl (0, 600)), .inr (.inl (0, 120)), .inr (.inl (0, 5)), .inl (5, [some (some 11), some (some 12), some (some 13), none]), .inr (.inl (0, 40)), .inr (.inl (0, 41)), .inr (.inl (0, 40)), .inl (3, [some (some 6), some (some 15)]), .inr (.inl (0, 5)), .inl (6, [some (some 6), some (some 17), none]), .inr (.inl (0, 576)), .inl (4, [some (some 6), some (some 19), some (some 20), some (some 21), some (some 22), none, none]), .inr (.inl (0, 10)), .inr (.inl (0, 120)), .inr (.inl (1, 120)), .inr (.inl (0, 5)), .inl (2, [some (some 6), some (some 24), some (some 25), some (some 26), some (some 30), none, none]), .inr (.inl (0, 120)), .inr (.inl (0, 5)), .inl (0, [some (some 27), some (some 28), some (some 29), none, none]), .inr (.inl (0, 25)), .inr (.inl (0, 5)), .inr (.inl (0, 5)), .inl (0, [some (some 31), some (some 32), some (some 33), none, none]), .inr (.inl (0, 25)), .inr (.inl (0, 5)), .inr (.inl (0, 5)), .inl (0, [some (some 35), some (some 36), some (some 37), none, none]), .inr (.inl (0, 25)), .inr (.inl (0, 5)), .inr (.inl (0, 5)), .inl (0, [some (some 39), some (some 40), some (some 41), none, none]), .inr (.inl (0, 25)), .inr (.inl (0, 5)), .inr (.inl (0, 5)), .inl (0, [some (some 43), some (some 44), some (some 45), none, none]), .inr (.inl (0, 25)), .inr (.inl (0, 5)), .inr (.inl (0, 5)), .inl (0, [some (some 47), some (some 48), some (some 49), none, none]), .inr (.inl (0, 25)), .inr (.inl (0, 5)), .inr (.inl (0, 5)), .inl (0, [some (some 51), some (some 52), some (some 53), none, none]), .inr (.inl (0, 25)), .inr (.inl (0, 5)), .inr (.inl (0, 5)), .inl (0, [some (some 55), some (some 56), some (some 57), none, none]), .inr (.inl (0, 25)), .inr (.inl (0, 5)), .inr (.inl (0, 5)), .inl (0, [some (some 59), some (some 60), some (some 61), none, none]), .inr (.inl (0, 25)), .inr (.inl (0, 5)), .inr (.inl (0, 5)), .inl (0, [some (some 63), some (some 64), some (some 65), none, none]), .inr (.inl (0, 25)), .inr (.inl (0, 5)), .inr (.inl (0, 5)), .inl (0, [some (some 67), some (some 68), some (some 69), none, none]), .inr (.inl (0, 25)), .inr (.inl (0, 5)), .inr (.inl (0, 5)), .inl (0, [some none, some none, some none, none, none])]
def qt_Q_52 : List Shp := [.inl (7, [some (some 1), some (some 2), some (some 6), some (some 10), some (some 14), some (some 16), some (some 18), some (some 23), none]), .inr (.inr [some 34, some 38, some 42, some 46, some 50, some 54, some 58, some 62, some 66, none, none, none]), .inl (0, [some (some 3), some (some 4), some (some 5), none, none]), .inr (.inl (0, 25)), .inr (.inl (0, 5)), .inr (.inl (0, 5)), .inl (1, [some (some 7), some (some 8), some (some 9)]), .inr (.inl (0, 600)), .inr (.inl (0, 120)), .inr (.inl (0, 5)), .inl (5, [some (some 11), some (some 12), some (some 13), none]), .inr (.inl (0, 40)), .inr (.inl (0, 41)), .inr (.inl (0, 40)), .inl (3, [some (some 6), some (some 15)]), .inr (.inl (0, 5)), .inl (6, [some (some 6), some (some 17), none]), .inr (.inl (0, 576)), .inl (4, [some (some 6), some (some 19), some (some 20), some (some 21), some (some 22), none, none]), .inr (.inl (0, 10)), .inr (.inl (0, 120)), .inr (.inl (1, 120)), .inr (.inl (0, 5)), .inl (2, [some (some 6), some (some 24), some (some 25), some (some 26), some (some 30), none, none]), .inr (.inl (0, 120)), .inr (.inl (0, 5)), .inl (0, [some (some 27), some (some 28), some (some 29), none, none]), .inr (.inl (0, 25)), .inr (.inl (0, 5)), .inr (.inl (0, 5)), .inl (0, [some (some 31), some (some 32), some (some 33), none, none]), .inr (.inl (0, 25)), .inr (.inl (0, 5)), .inr (.inl (0, 5)), .inl (0, [some (some 35), some (some 36), some (some 37), none, none]), .inr (.inl (0, 25)), .inr (.inl (0, 5)), .inr (.inl (0, 5)), .inl (0, [some (some 39), some (some 40), some (some 41), none, none]), .inr (.inl (0, 25)), .inr (.inl (0, 5)), .inr (.inl (0, 5)), .inl (0, [some (some 43), some (some 44), some (some 45), none, none]), .inr (.inl (0, 25)), .inr (.inl (0, 5)), .inr (.inl (0, 5)), .inl (0, [some (some 47), some (some 48), some (some 49), none, none]), .inr (.inl (0, 25)), .inr (.inl (0, 5)), .inr (.inl (0, 5)), .inl (0, [some (some 51), some (some 52), some (some 53), none, none]), .inr (.inl (0, 25)), .inr (.inl (0, 5)), .inr (.inl (0, 5)), .inl (0, [some (some 55), some (some 56), some (some 57), none, none]), .inr (.inl (0, 25)), .inr (.inl (0, 5)), .inr (.inl (0, 5)), .inl (0, [some (some 59), some (some 60), some (some 61), none, none]), .inr (.inl (0, 25)), .inr (.inl (0, 5)), .inr (.inl (0, 5)), .inl (0, [some (some 63), some (some 64), some (some 65), none, none]), .inr (.inl (0, 25)), .inr (.inl (0, 5)), .inr (.inl (0, 5)), .inl (0, [some (some 67), some (some 68), some (some 69), none, none]), .inr (.inl (0, 25)), .inr (.inl (0, 5)), .inr (.inl (0, 5)), .inl (0, [some (some 71), some (some 72), some (some 73), none, none]), .inr (.inl (0, 25)), .inr (.inl (0, 5)), .inr (.inl (0, 5))]
def qt_Q_53 : List Shp := [.inl (7, [some (some 1), some (some 2), some (some 6), some (some 10), some (some 14), some (some 16), some (some 18), some (some 23), none]), .inr (.inr [some 34, some 38, some 42, some 46, some 50, some 54, some 58, some 62, some 66, some 70, none, none]), .inl (0, [some (some 3), some (some 4), some (some 5), none, none]), .inr (.inl (0, 25)), .inr (.inl (0, 5)), .inr (.inl (0, 5)), .inl (1, [some (some 7), some (some 8), some (some 9)]), .inr (.inl (0, 600)), .inr (.inl (0, 120)), .inr (.inl (0, 5)), .inl (5, [some (some 11), some (some 12), some (some 13), none]), .inr (.inl (0, 40)), .inr (.inl (0, 41)), .inr (.inl (0, 40)), .inl (3, [some (some 6), some (some 15)]), .inr (.inl (0, 5)), .inl (6, [some (some 6), some (some 17), none]), .inr (.inl (0, 576)), .inl (4, [some (some 6), some (some 19), some (some 20), some (some 21), some (some 22), none, none]), .inr (.inl (0, 10)), .inr (.inl (0, 120)), .inr (.inl (1, 120)), .inr (.inl (0, 5)), .inl (2, [some (some 6), some (some 24), some (some 25), some (some 26), some (some 30), none, none]), .inr (.inl (0, 120)), .inr (.inl (0, 5)), .inl (0, [some (some 27), some (some 28), some (some 29), none, none]), .inr (.inl (0, 25)), .inr (.inl (0, 5)), .inr (.inl (0, 5)), .inl (0, [some (some 31), some (some 32), some (some 33), none, none]), .inr (.inl (0, 25)), .inr (.inl (0, 5)), .inr (.inl (0, 5)), .inl (0, [some (some 35), some (some 36), some (some 37), none, none]), .inr (.inl (0, 25)), .inr (.inl (0, 5)), .inr (.inl (0, 5)), .inl (0, [some (some 39), some (some 40), some (some 41), none, none]), .inr (.inl (0, 25)), .inr (.inl (0, 5)), .inr (.inl (0, 5)), .inl (0, [some (some 43), some (some 44), some (some 45), none, none]), .inr (.inl (0, 25)), .inr (.inl (0, 5)), .inr (.inl (0, 5)), .inl (0, [some (some 47), some (some 48), some (some 49), none, none]), .inr (.inl (0, 25)), .inr (.inl (0, 5)), .inr (.inl (0, 5)), .inl (0, [some (some 51), some (some 52), some (some 53), none, none]), .inr (.inl (0, 25)), .inr (.inl (0, 5)), .inr (.inl (0, 5)), .inl (0, [some (some 55), some (some 56), some (some 57), none, none]), .inr (.inl (0, 25)), .inr (.inl (0, 5)), .inr (.inl (0, 5)), .inl (0, [some (some 59), some (some 60), some (some 61), none, none]), .inr (.inl (0, 25)), .inr (.inl (0, 5)), .inr (.inl (0, 5)), .inl (0, [some (some 63), some (some 64), some (some 65), none, none]), .inr (.inl (0, 25)), .inr (.inl (0, 5)), .inr (.inl (0, 5)), .inl (0, [some (some 67), some (some 68), some (some 69), none, none]), .inr (.inl (0, 25)), .inr (.inl (0, 5)), .inr (.inl (0, 5)), .inl (0, [some (some 71), some (some 72), some (some 73), none, none]), .inr (.inl (0, 25)), .inr (.inl (0, 5)), .inr (.inl (0, 5))]
def qt_Q_54 : List Shp := [.inl (7, [some (some 1), some (some 2), some (some 6), some (some 10), some (some 14), some (some 16), some (some 18), some (some 23), none]), .inr (.inr [some 34, some 38, some 42, some 46, some 50, some 54, some 58, some 62, some 66, some 70, none, none]), .inl (0, [some (some 3), some (some 4), some (some 5), none, none]), .inr (.inl (0, 25)), .inr (.inl (0, 5)), .inr (.inl (0, 5)), .inl (1, [some (some 7), some (some 8), some (some 9)]), .inr (.inl (0, 600)), .inr (.inl (0, 120)), .inr (.inl (0, 5)), .inl (5, [some (some 11), some (some 12), some (some 13), none]), .inr (.inl (0, 40)), .inr (.inl (0, 41)), .inr (.inl (0, 40)), .inl (3, [some (some 6), some (some 15)]), .inr (.inl (0, 5)), .inl (6, [some (some 6), some (some 17), none]), .inr (.inl (0, 576)), .inl (4, [some (some 6), some (some 19), some (some 20), some (some 21), some (some 22), none, none]), .inr (.inl (0, 10)), .inr (.inl (0, 120)), .inr (.inl (1, 120)), .inr (.inl (0, 5)), .inl (2, [some (some 6), some (some 24), some (some 25), some (some 26), some (some 30), none, none]), .inr (.inl (0, 120)), .inr (.inl (0, 5)), .inl (0, [some (some 27), some (some 28), some (some 29), none, none]), .inr (.inl (0, 25)), .inr (.inl (0, 5)), .inr (.inl (0, 5)), .inl (0, [some (some 31), some (some 32), some (some 33), none, none]), .inr (.inl (0, 25)), .inr (.inl (0, 5)), .inr (.inl (0, 5)), .inl (0, [some (some 35), some (some 36), some (some 37), none, none]), .inr (.inl (0, 25)), .inr (.inl (0, 5)), .inr (.inl (0, 5)), .inl (0, [some (some 39), some (some 40), some (some 41), none, none]), .inr (.inl (0, 25)), .inr (.inl (0, 5)), .inr (.inl (0, 5)), .inl (0, [some (some 43), some (some 44), some (some 45), none, none]), .inr (.inl (0, 25)), .inr (.inl (0, 5)), .inr (.inl (0, 5)), .inl (0, [some (some 47), some (some 48), some (some 49), none, none]), .inr (.inl (0, 25)), .inr (.inl (0, 5)), .inr (.inl (0, 5)), .inl (0, [some (some 51), some (some 52), some (some 53), none, none]), .inr (.inl (0, 25)), .inr (.inl (0, 5)), .inr (.inl (0, 5)), .inl (0, [some (some 55), some (some 56), some (some 57), none, none]), .inr (.inl (0, 25)), .inr (.inl (0, 5)), .inr (.inl (0, 5)), .inl (0, [some (some 59), some (some 60), some (some 61), none, none]), .inr (.inl (0, 25)), .inr (.inl (0, 5)), .inr (.inl (0, 5)), .inl (0, [some (some 63), some (some 64), some (some 65), none, none]), .inr (.inl (0, 25)), .inr (.inl (0, 5)), .inr (.inl (0, 5)), .inl (0, [some (some 67), some (some 68), some (some 69), none, none]), .inr (.inl (0, 25)), .inr (.inl (0, 5)), .inr (.inl (0, 5)), .inl (0, [some (some 71), some (some 72), some (some 73), none, none]), .inr (.inl (0, 25)), .inr (.inl (0, 5)), .inr (.inl (0, 5)), .inl (0, [some none, some none, some none, none, none])]
def qt_Q_55 : List Shp := [.inl (7, [some (some 1), some (some 2), some (some 6), some (some 10), some (some 14), some (some 16), some (some 18), some (some 23), none]), .inr (.inr [some 34, some 38, some 42, some 46, some 50, some 54, some 58, some 62, some 66, some 70, none, none]), .inl (0, [some (some 3), some (some 4), some (some 5), none, none]), .inr (.inl (0, 25)), .inr (.inl (0, 5)), .inr (.inl (0, 5)), .inl (1, [some (some 7), some (some 8), some (some 9)]), .inr (.inl (0, 600)), .inr (.inl (0, 120)), .inr (.inl (0, 5)), .inl (5, [some (some 11), some (some 12), some (some 13), none]), .inr (.inl (0, 40)), .inr (.inl (0, 41)), .inr (.inl (0, 40)), .inl (3, [some (some 6), some (some 15)]), .inr (.inl (0, 5)), .inl (6, [some (some 6), some (some 17), none]), .inr (.inl (0, 576)), .inl (4, [some (some 6), some (some 19), some (some 20), some (some 21), some (some 22), none, none]), .inr (.inl (0, 10)), .inr (.inl (0, 120)), .inr (.inl (1, 120)), .inr (.inl (0, 5)), .inl (2, [some (some 6), some (some 24), some (some 25), some (some 26), some (some 30), none, none]), .inr (.inl (0, 120)), .inr (.inl (0, 5)), .inl (0, [some (some 27), some (some 28), some (some 29), none, none]), .inr (.inl (0, 25)), .inr (.inl (0, 5)), .inr (.inl (0, 5)), .inl (0, [some (some 31), some (some 32), some (some 33), none, none]), .inr (.inl (0, 25)), .inr (.inl (0, 5)), .inr (.inl (0, 5)), .inl (0, [some (some 35), some (some 36), some (some 37), none, none]), .inr (.inl (0, 25)), .inr (.inl (0, 5)), .inr (.inl (0, 5)), .inl (0, [some (some 39), some (some 40), some (some 41), none, none]), .inr (.inl (0, 25)), .inr (.inl (0, 5)), .inr (.inl (0, 5)), .inl (0, [some (some 43), some (some 44), some (some 45), none, none]), .inr (.inl (0, 25)), .inr (.inl (0, 5)), .inr (.inl (0, 5)), .inl (0, [some (some 47), some (some 48), some (some 49), none, none]), .inr (.inl (0, 25)), .inr (.inl (0, 5)), .inr (.inl (0, 5)), .inl (0, [some (some 51), some (some 52), some (some 53), none, none]), .inr (.inl (0, 25)), .inr (.inl (0, 5)), .inr (.inl (0, 5)), .inl (0, [some (some 55), some (some 56), some (some 57), none, none]), .inr (.inl (0, 25)), .inr (.inl (0, 5)), .inr (.inl (0, 5)), .inl (0, [some (some 59), some (some 60), some (some 61), none, none]), .inr (.inl (0, 25)), .inr (.inl (0, 5)), .inr (.inl (0, 5)), .inl (0, [some (some 63), some (some 64), some (some 65), none, none]), .inr (.inl (0, 25)), .inr (.inl (0, 5)), .inr (.inl (0, 5)), .inl (0, [some (some 67), some (some 68), some (some 69), none, none]), .inr (.inl (0, 25)), .inr (.inl (0, 5)), .inr (.inl (0, 5)), .inl (0, [some (some 71), some (some 72), some (some 73), none, none]), .inr (.inl (0, 25)), .inr (.inl (0, 5)), .inr (.inl (0, 5)), .inl (0, [some (some 75), some (some 76), some (some 77), none, none]), .inr (.inl (0, 25)), .inr (.inl (0, 5)), .inr (.inl (0, 5))]
def qt_Q_56 : List Shp := [.inl (7, [some (some 1), some (some 2), some (some 6), some (some 10), some (some 14), some (some 16), some (some 18), some (some 23), none]), .inr (.inr [some 34, some 38, some 42, some 46, some 50, some 54, some 58, some 62, some 66, some 70, some 74, none]), .inl (0, [some (some 3), some (some 4), some (some 5), none, none]), .inr (.inl (0, 25)), .inr (.inl (0, 5)), .inr (.inl (0, 5)), .inl (1, [some (some 7), some (some 8), some (some 9)]), .inr (.inl (0, 600)), .inr (.inl (0, 120)), .inr (.inl (0, 5)), .inl (5, [some (some 11), some (some 12), some (some 13), none]), .inr (.inl (0, 40)), .inr (.inl (0, 41)), .inr (.inl (0, 40)), .inl (3, [some (some 6), some (some 15)]), .inr (.inl (0, 5)), .inl (6, [some (some 6), some (some 17), none]), .inr (.inl (0, 576)), .inl (4, [some (some 6), some (some 19), some (some 20), some (some 21), some (some 22), none, none]), .inr (.inl (0, 10)), .inr (.inl (0, 120)), .inr (.inl (1, 120)), .inr (.inl (0, 5)), .inl (2, [some (some 6), some (some 24), some (some 25), some (some 26), some (some 30), none, none]), .inr (.inl (0, 120)), .inr (.inl (0, 5)), .inl (0, [some (some 27), some (some 28), some (some 29), none, none]), .inr (.inl (0, 25)), .inr (.inl (0, 5)), .inr (.inl (0, 5)), .inl (0, [some (some 31), some (some 32), some (some 33), none, none]), .inr (.inl (0, 25)), .inr (.inl (0, 5)), .inr (.inl (0, 5)), .inl (0, [some (some 35), some (some 36), some (some 37), none, none]), .inr (.inl (0, 25)), .inr (.inl (0, 5)), .inr (.inl (0, 5)), .inl (0, [some (some 39), some (some 40), some (some 41), none, none]), .inr (.inl (0, 25)), .inr (.inl (0, 5)), .inr (.inl (0, 5)), .inl (0, [some (some 43), some (some 44), some (some 45), none, none]), .inr (.inl (0, 25)), .inr (.inl (0, 5)), .inr (.inl (0, 5)), .inl (0, [some (some 47), some (some 48), some (some 49), none, none]), .inr (.inl (0, 25)), .inr (.inl (0, 5)), .inr (.inl (0, 5)), .inl (0, [some (some 51), some (some 52), some (some 53), none, none]), .inr (.inl (0, 25)), .inr (.inl (0, 5)), .inr (.inl (0, 5)), .inl (0, [some (some 55), some (some 56), some (some 57), none, none]), .inr (.inl (0, 25)), .inr (.inl (0, 5)), .inr (.inl (0, 5)), .inl (0, [some (some 59), some (some 60), some (some 61), none, none]), .inr (.inl (0, 25)), .inr (.inl (0, 5)), .inr (.inl (0, 5)), .inl (0, [some (some 63), some (some 64), some (some 65), none, none]), .inr (.inl (0, 25)), .inr (.inl (0, 5)), .inr (.inl (0, 5)), .inl (0, [some (some 67), some (some 68), some (some 69), none, none]), .inr (.inl (0, 25)), .inr (.inl (0, 5)), .inr (.inl (0, 5)), .inl (0, [some (some 71), some (some 72), some (some 73), none, none]), .inr (.inl (0, 25)), .inr (.inl (0, 5)), .inr (.inl (0, 5)), .inl (0, [some (some 75), some (some 76), some (some 77), none, none]), .inr (.inl (0, 25)), .inr (.inl (0, 5)), .inr (.inl (0, 5))]
def qt_Q_57 : List Shp := [.inl (7, [some (some 1), some (some 2), some (some 6), some (some 10), some (some 14), some (some 16), some (some 18), some (some 23), none]), .inr (.inr [some 34, some 38, some 42, some 46, some 50, some 54, some 58, some 62, some 66, some 70, some 74, none]), .inl (0, [some (some 3), some (some 4), some (some 5), none, none]), .inr (.inl (0, 25)), .inr (.inl (0, 5)), .inr (.inl (0, 5)), .inl (1, [some (some 7), some (some 8), some (some 9)]), .inr (.inl (0, 600)), .inr (.inl (0, 120)), .inr (.inl (0, 5)), .inl (5, [some (some 11), some (some 12), some (some 13), none]), .inr (.inl (0, 40)), .inr (.inl (0, 41)), .inr (.inl (0, 40)), .inl (3, [some (some 6), some (some 15)]), .inr (.inl (0, 5)), .inl (6, [some (some 6), some (some 17), none]), .inr (.inl (0, 576)), .inl (4, [some (some 6), some (some 19), some (some 20), some (some 21), some (some 22), none, none]), .inr (.inl (0, 10)), .inr (.inl (0, 120)), .inr (.inl (1, 120)), .inr (.inl (0, 5)), .inl (2, [some (some 6), some (some 24), some (some 25), some (some 26), some (some 30), none, none]), .inr (.inl (0, 120)), .inr (.inl (0, 5)), .inl (0, [some (some 27), some (some 28), some (some 29), none, none]), .inr (.inl (0, 25)), .inr (.inl (0, 5)), .inr (.inl (0, 5)), .inl (0, [some (some 31), some (some 32), some (some 33), none, none]), .inr (.inl (0, 25)), .inr (.inl (0, 5)), .inr (.inl (0, 5)), .inl (0, [some (some 35), some (some 36), some (some 37), none, none]), .inr (.inl (0, 25)), .inr (.inl (0, 5)), .inr (.inl (0, 5)), .inl (0, [some (some 39), some (some 40), some (some 41), none, none]), .inr (.inl (0, 25)), .inr (.inl (0, 5)), .inr (.inl (0, 5)), .inl (0, [some (some 43), some (some 44), some (some 45), none, none]), .inr (.inl (0, 25)), .inr (.inl (0, 5)), .inr (.inl (0, 5)), .inl (0, [some (some 47), some (some 48), some (some 49), none, none]), .inr (.inl (0, 25)), .inr (.inl (0, 5)), .inr (.inl (0, 5)), .inl (0, [some (some 51), some (some 52), some (some 53), none, none]), .inr (.inl (0, 25)), .inr (.inl (0, 5)), .inr (.inl (0, 5)), .inl (0, [some (some 55), some (some 56), some (some 57), none, none]), .inr (.inl (0, 25)), .inr (.inl (0, 5)), .inr (.inl (0, 5)), .inl (0, [some (some 59), some (some 60), some (some 61), none, none]), .inr (.inl (0, 25)), .inr (.inl (0, 5)), .inr (.inl (0, 5)), .inl (0, [some (some 63), some (some 64), some (some 65), none, none]), .inr (.inl (0, 25)), .inr (.inl (0, 5)), .inr (.inl (0, 5)), .inl (0, [some (some 67), some (some 68), some (some 69), none, none]), .inr (.inl (0, 25)), .inr (.inl (0, 5)), .inr (.inl (0, 5)), .inl (0, [some (some 71), some (some 72), some (some 73), none, none]), .inr (.inl (0, 25)), .inr (.inl (0, 5)), .inr (.inl (0, 5)), .inl (0, [some (some 75), some (some 76), some (some 77), none, none]), .inr (.inl (0, 25)), .inr (.inl (0, 5)), .inr (.inl (0, 5)), .inl (0, [some none, some none, some none, none, none])]
def qt_Q_58 : List Shp := [.inl (7, [some (some 1), some (some 2), some (some 6), some (some 10), some (some 14), some (some 16), some (some 18), some (some 23), none]), .inr (.inr [some 34, some 38, some 42, some 46, some 50, some 54, some 58, some 62, some 66, some 70, some 74, none]), .inl (0, [some (some 3), some (some 4), some (some 5), none, none]), .inr (.inl (0, 25)), .inr (.inl (0, 5)), .inr (.inl (0, 5)), .inl (1, [some (some 7), some (some 8), some (some 9)]), .inr (.inl (0, 600)), .inr (.inl (0, 120)), .inr (.inl (0, 5)), .inl (5, [some (some 11), some (some 12), some (some 13), none]), .inr (.inl (0, 40)), .inr (.inl (0, 41)), .inr (.inl (0, 40)), .inl (3, [some (some 6), some (some 15)]), .inr (.inl (0, 5)), .inl (6, [some (some 6), some (some 17), none]), .inr (.inl (0, 576)), .inl (4, [some (some 6), some (some 19), some (some 20), some (some 21), some (some 22), none, none]), .inr (.inl (0, 10)), .inr (.inl (0, 120)), .inr (.inl (1, 120)), .inr (.inl (0, 5)), .inl (2, [some (some 6), some (some 24), some (some 25), some (some 26), some (some 30), none, none]), .inr (.inl (0, 120)), .inr (.inl (0, 5)), .inl (0, [some (some 27), some (some 28), some (some 29), none, none]), .inr (.inl (0, 25)), .inr (.inl (0, 5)), .inr (.inl (0, 5)), .inl (0, [some (some 31), some (some 32), some (some 33), none, none]), .inr (.inl (0, 25)), .inr (.inl (0, 5)), .inr (.inl (0, 5)), .inl (0, [some (some 35), some (some 36), some (some 37), none, none]), .inr (.inl (0, 25)), .inr (.inl (0, 5)), .inr (.inl (0, 5)), .inl (0, [some (some 39), some (some 40), some (some 41), none, none]), .inr (.inl (0, 25)), .inr (.inl (0, 5)), .inr (.inl (0, 5)), .inl (0, [some (some 43), some (some 44), some (some 45), none, none]), .inr (.inl (0, 25)), .inr (.inl (0, 5)), .inr (.inl (0, 5)), .inl (0, [some (some 47), some (some 48), some (some 49), none, none]), .inr (.inl (0, 25)), .inr (.inl (0, 5)), .inr (.inl (0, 5)), .inl (0, [some (some 51), some (some 52), some (some 53), none, none]), .inr (.inl (0, 25)), .inr (.inl (0, 5)), .inr (.inl (0, 5)), .inl (0, [some (some 55), some (some 56), some (some 57), none, none]), .inr (.inl (0, 25)), .inr (.inl (0, 5)), .inr (.inl (0, 5)), .inl (0, [some (some 59), some (some 60), some (some 61), none, none]), .inr (.inl (0, 25)), .inr (.inl (0, 5)), .inr (.inl (0, 5)), .inl (0, [some (some 63), some (some 64), some (some 65), none, none]), .inr (.inl (0, 25)), .inr (.inl (0, 5)), .inr (.inl (0, 5)), .inl (0, [some (some 67), some (some 68), some (some 69), none, none]), .inr (.inl (0, 25)), .inr (.inl (0, 5)), .inr (.inl (0, 5)), .inl (0, [some (some 71), some (some 72), some (some 73), none, none]), .inr (.inl (0, 25)), .inr (.inl (0, 5)), .inr (.inl (0, 5)), .inl (0, [some (some 75), some (some 76), some (some 77), none, none]), .inr (.inl (0, 25)), .inr (.inl (0, 5)), .inr (.inl (0, 5)), .inl (0, [some (some 79), some (some 80), some (some 81), none, none]), .inr (.inl (0, 25)), .inr (.inl (0, 5)), .inr (.inl (0, 5))]
def qt_Q_59 : List Shp := [.inl (7, [some (some 1), some (some 2), some (some 6), some (some 10), some (some 14), some (some 16), some (some 18), some (some 23), none]), .inr (.inr [some 34, some 38, some 42, some 46, some 50, some 54, some 58, some 62, some 66, some 70, some 74, some 78]), .inl (0, [some (some 3), some (some 4), some (some 5), none, none]), .inr (.inl (0, 25)), .inr (.inl (0, 5)), .inr (.inl (0, 5)), .inl (1, [some (some 7), some (some 8), some (some 9)]), .inr (.inl (0, 600)), .inr (.inl (0, 120)), .inr (.inl (0, 5)), .inl (5, [some (some 11), some (some 12), some (some 13), none]), .inr (.inl (0, 40)), .inr (.inl (0, 41)), .inr (.inl (0, 40)), .inl (3, [some (some 6), some (some 15)]), .inr (.inl (0, 5)), .inl (6, [some (some 6), some (some 17), none]), .inr (.inl (0, 576)), .inl (4, [some (some 6), some (some 19), some (some 20), some (some 21), some (some 22), none, none]), .inr (.inl (0, 10)), .inr (.inl (0, 120)), .inr (.inl (1, 120)), .inr (.inl (0, 5)), .inl (2, [some (some 6), some (some 24), some (some 25), some (some 26), some (some 30), none, none]), .inr (.inl (0, 120)), .inr (.inl (0, 5)), .inl (0, [some (some 27), some (some 28), some (some 29), none, none]), .inr (.inl (0, 25)), .inr (.inl (0, 5)), .inr (.inl (0, 5)), .inl (0, [some (some 31), some (some 32), some (some 33), none, none]), .inr (.inl (0, 25)), .inr (.inl (0, 5)), .inr (.inl (0, 5)), .inl (0, [some (some 35), some (some 36), some (some 37), none, none]), .inr (.inl (0, 25)), .inr (.inl (0, 5)), .inr (.inl (0, 5)), .inl (0, [some (some 39), some (some 40), some (some 41), none, none]), .inr (.inl (0, 25)), .inr (.inl (0, 5)), .inr (.inl (0, 5)), .inl (0, [some (some 43), some (some 44), some (some 45), none, none]), .inr (.inl (0, 25)), .inr (.inl (0, 5)), .inr (.inl (0, 5)), .inl (0, [some (some 47), some (some 48), some (some 49), none, none]), .inr (.inl (0, 25)), .inr (.inl (0, 5)), .inr (.inl (0, 5)), .inl (0, [some (some 51), some (some 52), some (some 53), none, none]), .inr (.inl (0, 25)), .inr (.inl (0, 5)), .inr (.inl (0, 5)), .inl (0, [some (some 55), some (some 56), some (some 57), none, none]), .inr (.inl (0, 25)), .inr (.inl (0, 5)), .inr (.inl (0, 5)), .inl (0, [some (some 59), some (some 60), some (some 61), none, none]), .inr (.inl (0, 25)), .inr (.inl (0, 5)), .inr (.inl (0, 5)), .inl (0, [some (some 63), some (some 64), some (some 65), none, none]), .inr (.inl (0, 25)), .inr (.inl (0, 5)), .inr (.inl (0, 5)), .inl (0, [some (some 67), some (some 68), some (some 69), none, none]), .inr (.inl (0, 25)), .inr (.inl (0, 5)), .inr (.inl (0, 5)), .inl (0, [some (some 71), some (some 72), some (some 73), none, none]), .inr (.inl (0, 25)), .inr (.inl (0, 5)), .inr (.inl (0, 5)), .inl (0, [some (some 75), some (some 76), some (some 77), none, none]), .inr (.inl (0, 25)), .inr (.inl (0, 5)), .inr (.inl (0, 5)), .inl (0, [some (some 79), some (some 80), some (some 81), none, none]), .inr (.inl (0, 25)), .inr (.inl (0, 5)), .inr (.inl (0, 5))]
end
section
def f_Maps_init_L43 (v1 : Int32) (kx79 : St → Option (Unit × St)) : Nat → Int32 → St → Option (Unit × St)
  | 0, _, _ => none
  | n + 1, v2, σ =>     if v2 < 5 then
      ald σ 8 120 v1 fun r_4 =>
      ald σ 7 600 ((5 * v1) + v2) fun r_5 =>
      ast σ 8 120 v1 (r_4 ||| (1 <<< (((5 * v2) + r_5) &&& 31))) fun σ_6 =>
      f_Maps_init_L43 v1 kx79 n (v2 + 1) σ_6
    else
      kx79 σ

def f_Maps_init_L30 (kx85 : St → Option (Unit × St)) : Nat → Int32 → St → Option (Unit × St)
  | 0, _, _ => none
  | n + 1, v1, σ =>     if v1 < 120 then
      cal (f_Maps_arrange σ v1) fun r_2 σ_3 =>
      f_Maps_init_L43 v1 (fun (σ_7 : St) => f_Maps_init_L30 kx85 n (v1 + 1) σ_7) FU 0 σ_3
    else
      kx85 σ

def f_Maps_init (σ : St) : Option (Unit × St) :=
  f_Maps_init_L30 (fun (σ_8 : St) => some ((), σ_8)) FU 0 σ

set_option maxRecDepth 100000 in
set_option maxHeartbeats 4000000 in
theorem sC_Maps_arrange_L39 {SH : List Shp} (hm6 : SH[6]? = some (.inl (1, [some (some 7), some (some 8), some (some 9)]))) (hm7 : SH[7]? = some (.inr (.inl (0, 600)))) (hm8 : SH[8]? = some (.inr (.inl (0, 120)))) (hm9 : SH[9]? = some (.inr (.inl (0, 5)))) {θ : Th} {ad : Nat → Nat}  {rv : Unit} {σe : St} (X : Cx θ [] cX4_arrange 8 "Quasigrove$Maps" 0 0)
    {v2 : Int32} {v3 : Int32} {v4 : Int32} {v6 : Int32} (hq : Rq θ (SH, ad) none none σe) {kx86 : Int32 → St → Option (Unit × St)} (hkx86 : ∀ (v5 : Int32) (σ : St), kx86 v5 σ = some (rv, σe) → G θ (0, 0) (SH, ad) σ 86 [some (.ref (ad 6)), none, some (.int v2), some (.int v3), some (.int v4), some (.int v5), none, none] []) :
    ∀ (n : Nat) (v5 : Int32) (v7 : Int32) (σ : St), f_Maps_arrange_L39 v2 v3 v4 v6 kx86 n v5 v7 σ = some (rv, σe) → G θ (0, 0) (SH, ad) σ 39 [some (.ref (ad 6)), none, some (.int v2), some (.int v3), some (.int v4), some (.int v5), some (.int v6), some (.int v7)] [] := by
  intro n
  induction n with
  | zero => intro v5 v7 σ h; rw [f_Maps_arrange_L39] at h; cases h
  | succ n ih =>
    intro v5 v7 σ h
    rw [f_Maps_arrange_L39] at h
    refine G_iload (pc := 39) X (dg dt_Maps_arrange 29 rfl) rfl ?_
    refine G_iload (pc := 41) X (dg dt_Maps_arrange 30 rfl) rfl ?_
    refine G_icmp_ge (pc := 43) 86 X (dg dt_Maps_arrange 31 rfl) (by decide) h (fun h => ?_) (fun h => ?_)
    · exact G_wk (hkx86 v5 σ h) ⟨rfl, ⟨rfl, ⟨rfl, ⟨rfl, ⟨rfl, trivial⟩⟩⟩⟩⟩
    · refine G_iload (pc := 46) X (dg dt_Maps_arrange 32 rfl) rfl ?_
      refine G_if_le (pc := 48) 86 X (dg dt_Maps_arrange 33 rfl) (by decide) h (fun h => ?_) (fun h => ?_)
      · exact G_wk (hkx86 v5 σ h) ⟨rfl, ⟨rfl, ⟨rfl, ⟨rfl, ⟨rfl, trivial⟩⟩⟩⟩⟩
      · refine G_iload (pc := 51) X (dg dt_Maps_arrange 34 rfl) rfl ?_
        refine G_aload_n (pc := 53) 0 X (dg dt_Maps_arrange 35 rfl) rfl rfl ?_
        refine G_getR (pc := 54) 0 X (dg dt_Maps_arrange 36 rfl) fc_1 w_69 rfl (Nat.le_of_ble_eq_true rfl) hm6 rfl ?_
        refine G_alen (pc := 57) 600 X (dg dt_Maps_arrange 37 rfl) hm7 (by decide) (by decide) ?_
        refine G_icmp_ge (pc := 58) 86 X (dg dt_Maps_arrange 38 rfl) (by decide) h (fun h => ?_) (fun h => ?_)
        · exact G_wk (hkx86 v5 σ h) ⟨rfl, ⟨rfl, ⟨rfl, ⟨rfl, ⟨rfl, trivial⟩⟩⟩⟩⟩
        · refine G_aload_n (pc := 61) 0 X (dg dt_Maps_arrange 39 rfl) rfl rfl ?_
          refine G_getR (pc := 62) 0 X (dg dt_Maps_arrange 40 rfl) fc_1 w_69 rfl (Nat.le_of_ble_eq_true rfl) hm6 rfl ?_
          refine G_iload (pc := 65) X (dg dt_Maps_arrange 41 rfl) rfl ?_
          refine G_aload_n (pc := 67) 0 X (dg dt_Maps_arrange 42 rfl) rfl rfl ?_
          refine G_getR (pc := 68) 0 X (dg dt_Maps_arrange 43 rfl) fc_1 w_69 rfl (Nat.le_of_ble_eq_true rfl) hm6 rfl ?_
          refine G_iload (pc := 71) X (dg dt_Maps_arrange 44 rfl) rfl ?_
          refine G_iconst (pc := 73) 1 X (dg dt_Maps_arrange 45 rfl) (by decide) ?_
          refine G_isub (pc := 74) X (dg dt_Maps_arrange 46 rfl) ?_
          refine G_iald (pc := 75) X (dg dt_Maps_arrange 47 rfl) hm7 h (fun r_3 h => ?_)
          refine G_iast (pc := 76) X (dg dt_Maps_arrange 48 rfl) hm7 h (fun σ_4 h => ?_)
          refine G_iinc (pc := 77) (v5 + (-1)) X (dg dt_Maps_arrange 49 rfl) rfl (Nat.le_of_ble_eq_true rfl) rfl rfl ?_
          refine G_iinc (pc := 80) (v7 + 1) X (dg dt_Maps_arrange 50 rfl) rfl (Nat.le_of_ble_eq_true rfl) rfl rfl ?_
          refine G_goto (pc := 83) 39 X (dg dt_Maps_arrange 51 rfl) (by decide) ?_
          exact G_wk (ih (v5 + (-1)) (v7 + 1) σ_4 h) ⟨rfl, ⟨rfl, ⟨rfl, ⟨rfl, ⟨rfl, ⟨rfl, ⟨rfl, trivial⟩⟩⟩⟩⟩⟩⟩
set_option maxRecDepth 100000 in
set_option maxHeartbeats 4000000 in
theorem sC_Maps_arrange_L9 {SH : List Shp} (hm6 : SH[6]? = some (.inl (1, [some (some 7), some (some 8), some (some 9)]))) (hm7 : SH[7]? = some (.inr (.inl (0, 600)))) (hm8 : SH[8]? = some (.inr (.inl (0, 120)))) (hm9 : SH[9]? = some (.inr (.inl (0, 5)))) {θ : Th} {ad : Nat → Nat}  {rv : Unit} {σe : St} (X : Cx θ [] cX4_arrange 8 "Quasigrove$Maps" 0 0)
    {v2 : Int32} (hq : Rq θ (SH, ad) none none σe)  :
    ∀ (n : Nat) (v3 : Int32) (v4 : Int32) (σ : St), f_Maps_arrange_L9 v2 n v3 v4 σ = some (rv, σe) → G θ (0, 0) (SH, ad) σ 9 [some (.ref (ad 6)), none, some (.int v2), some (.int v3), some (.int v4), none, none, none] [] := by
  intro n
  induction n with
  | zero => intro v3 v4 σ h; rw [f_Maps_arrange_L9] at h; cases h
  | succ n ih =>
    intro v3 v4 σ h
    rw [f_Maps_arrange_L9] at h
    refine G_iload (pc := 9) X (dg dt_Maps_arrange 8 rfl) rfl ?_
    refine G_iconst (pc := 11) 5 X (dg dt_Maps_arrange 9 rfl) (by decide) ?_
    refine G_icmp_ge (pc := 12) 116 X (dg dt_Maps_arrange 10 rfl) (by decide) h (fun h => ?_) (fun h => ?_)
    · exact G_vret (pc := 116) X hq (dg dt_Maps_arrange 66 rfl) h
    · refine G_iload_n (pc := 15) 2 X (dg dt_Maps_arrange 11 rfl) rfl rfl ?_
      refine G_iload (pc := 16) X (dg dt_Maps_arrange 12 rfl) rfl ?_
      refine G_iadd (pc := 18) X (dg dt_Maps_arrange 13 rfl) ?_
      refine G_istore (pc := 19) X (dg dt_Maps_arrange 14 rfl) (Nat.le_of_ble_eq_true rfl) rfl ?_
      refine G_iload_n (pc := 21) 3 X (dg dt_Maps_arrange 15 rfl) rfl rfl ?_
      refine G_iload (pc := 22) X (dg dt_Maps_arrange 16 rfl) rfl ?_
      refine G_iconst (pc := 24) 1 X (dg dt_Maps_arrange 17 rfl) (by decide) ?_
      refine G_iadd (pc := 25) X (dg dt_Maps_arrange 18 rfl) ?_
      refine G_irem (pc := 26) X (dg dt_Maps_arrange 19 rfl) h (fun q_1 h => ?_)
      refine G_istore (pc := 27) X (dg dt_Maps_arrange 20 rfl) (Nat.le_of_ble_eq_true rfl) rfl ?_
      refine G_iload_n (pc := 29) 3 X (dg dt_Maps_arrange 21 rfl) rfl rfl ?_
      refine G_iload (pc := 30) X (dg dt_Maps_arrange 22 rfl) rfl ?_
      refine G_iconst (pc := 32) 1 X (dg dt_Maps_arrange 23 rfl) (by decide) ?_
      refine G_iadd (pc := 33) X (dg dt_Maps_arrange 24 rfl) ?_
      refine G_idiv (pc := 34) X (dg dt_Maps_arrange 25 rfl) h (fun q_2 h => ?_)
      refine G_istore_n (pc := 35) 3 X (dg dt_Maps_arrange 26 rfl) rfl (Nat.le_of_ble_eq_true rfl) rfl ?_
      refine G_iconst (pc := 36) 0 X (dg dt_Maps_arrange 27 rfl) (by decide) ?_
      refine G_istore (pc := 37) X (dg dt_Maps_arrange 28 rfl) (Nat.le_of_ble_eq_true rfl) rfl ?_
      refine G_weak (L' := [some (.ref (ad 6)), none, some (.int v2), some (.int q_2), some (.int v4), some (.int (v2 + v4)), some (.int q_1), some (.int 0)]) ⟨rfl, ⟨rfl, ⟨rfl, ⟨rfl, ⟨rfl, ⟨rfl, ⟨rfl, trivial⟩⟩⟩⟩⟩⟩⟩ ?_
      refine sC_Maps_arrange_L39 hm6 hm7 hm8 hm9 X hq  (fun v5_5 σ_6 h => ?_) _ _ _ _ h
      refine G_iload (pc := 86) X (dg dt_Maps_arrange 52 rfl) rfl ?_
      refine jn_go (fun j110_7 => ∀ (σ_8 : St), j110_7 σ_8 = some (rv, σe) → G θ (0, 0) (SH, ad) σ_8 110 [some (.ref (ad 6)), none, some (.int v2), some (.int q_2), some (.int v4), none, none, none] []) h ?_ (fun j110_7 hj110_7 h => ?_)
      · intro σ_8 h
        refine G_iinc (pc := 110) (v4 + 1) X (dg dt_Maps_arrange 64 rfl) rfl (Nat.le_of_ble_eq_true rfl) rfl rfl ?_
        refine G_goto (pc := 113) 9 X (dg dt_Maps_arrange 65 rfl) (by decide) ?_
        exact G_wk (ih q_2 (v4 + 1) σ_8 h) ⟨rfl, ⟨rfl, ⟨rfl, ⟨rfl, trivial⟩⟩⟩⟩
      refine G_if_lt (pc := 88) 110 X (dg dt_Maps_arrange 53 rfl) (by decide) h (fun h => ?_) (fun h => ?_)
      · exact G_wk (hj110_7 σ_6 h) ⟨rfl, ⟨rfl, ⟨rfl, ⟨rfl, trivial⟩⟩⟩⟩
      · refine G_iload (pc := 91) X (dg dt_Maps_arrange 54 rfl) rfl ?_
        refine G_aload_n (pc := 93) 0 X (dg dt_Maps_arrange 55 rfl) rfl rfl ?_
        refine G_getR (pc := 94) 0 X (dg dt_Maps_arrange 56 rfl) fc_1 w_69 rfl (Nat.le_of_ble_eq_true rfl) hm6 rfl ?_
        refine G_alen (pc := 97) 600 X (dg dt_Maps_arrange 57 rfl) hm7 (by decide) (by decide) ?_
        refine G_icmp_ge (pc := 98) 110 X (dg dt_Maps_arrange 58 rfl) (by decide) h (fun h => ?_) (fun h => ?_)
        · exact G_wk (hj110_7 σ_6 h) ⟨rfl, ⟨rfl, ⟨rfl, ⟨rfl, trivial⟩⟩⟩⟩
        · refine G_aload_n (pc := 101) 0 X (dg dt_Maps_arrange 59 rfl) rfl rfl ?_
          refine G_getR (pc := 102) 0 X (dg dt_Maps_arrange 60 rfl) fc_1 w_69 rfl (Nat.le_of_ble_eq_true rfl) hm6 rfl ?_
          refine G_iload (pc := 105) X (dg dt_Maps_arrange 61 rfl) rfl ?_
          refine G_iload (pc := 107) X (dg dt_Maps_arrange 62 rfl) rfl ?_
          refine G_iast (pc := 109) X (dg dt_Maps_arrange 63 rfl) hm7 h (fun σ_9 h => ?_)
          exact G_wk (hj110_7 σ_9 h) ⟨rfl, ⟨rfl, ⟨rfl, ⟨rfl, trivial⟩⟩⟩⟩
set_option maxRecDepth 100000 in
set_option maxHeartbeats 4000000 in
theorem sC_Maps_arrange {SH : List Shp} (hm6 : SH[6]? = some (.inl (1, [some (some 7), some (some 8), some (some 9)]))) (hm7 : SH[7]? = some (.inr (.inl (0, 600)))) (hm8 : SH[8]? = some (.inr (.inl (0, 120)))) (hm9 : SH[9]? = some (.inr (.inl (0, 5)))) (l : Launch) (ad : Nat → Nat) (σ : St) (v1 : Int32)  {rv : Unit} {σe : St} (h : f_Maps_arrange σ v1 = some (rv, σe)) : Rt l [] yX4_arrange cX4_arrange 8 none 0 0 (SH, ad) [.ref (ad 6), .int v1] σ none σe := by
  refine Rt.intro (L := [some (.ref (ad 6)), some (.int v1), none, none, none, none, none, none]) (by decide +kernel) (Nat.le_of_ble_eq_true rfl) rfl (fun θ hl X hq => ?_)
  subst hl
  unfold f_Maps_arrange at h
  refine G_iconst (pc := 0) 5 X (dg dt_Maps_arrange 0 rfl) (by decide) ?_
  refine G_iload_n (pc := 1) 1 X (dg dt_Maps_arrange 1 rfl) rfl rfl ?_
  refine G_imul (pc := 2) X (dg dt_Maps_arrange 2 rfl) ?_
  refine G_istore_n (pc := 3) 2 X (dg dt_Maps_arrange 3 rfl) rfl (Nat.le_of_ble_eq_true rfl) rfl ?_
  refine G_iload_n (pc := 4) 1 X (dg dt_Maps_arrange 4 rfl) rfl rfl ?_
  refine G_istore_n (pc := 5) 3 X (dg dt_Maps_arrange 5 rfl) rfl (Nat.le_of_ble_eq_true rfl) rfl ?_
  refine G_iconst (pc := 6) 0 X (dg dt_Maps_arrange 6 rfl) (by decide) ?_
  refine G_istore (pc := 7) X (dg dt_Maps_arrange 7 rfl) (Nat.le_of_ble_eq_true rfl) rfl ?_
  refine G_weak (L' := [some (.ref (ad 6)), none, some (.int (5 * v1)), some (.int v1), some (.int 0), none, none, none]) ⟨rfl, ⟨rfl, ⟨rfl, ⟨rfl, trivial⟩⟩⟩⟩ ?_
  refine sC_Maps_arrange_L9 hm6 hm7 hm8 hm9 X hq   _ _ _ _ h
set_option maxRecDepth 100000 in
set_option maxHeartbeats 4000000 in
theorem sC_Maps_init_L43 {θ : Th} {SH : List Shp} {cs : Nat × Nat} (hRc : Rc θ cs) (hm6 : SH[6]? = some (.inl (1, [some (some 7), some (some 8), some (some 9)]))) (hm7 : SH[7]? = some (.inr (.inl (0, 600)))) (hm8 : SH[8]? = some (.inr (.inl (0, 120)))) (hm9 : SH[9]? = some (.inr (.inl (0, 5)))) {ad : Nat → Nat}  {rv : Unit} {σe : St} (X : Cx θ [] cX4_init 3 "Quasigrove$Maps" 1 27)
    {v1 : Int32}  {kx79 : St → Option (Unit × St)} (hkx79 : ∀ (σ : St), kx79 σ = some (rv, σe) → G θ cs (SH, ad) σ 79 [some (.ref (ad 6)), some (.int v1), none] []) :
    ∀ (n : Nat) (v2 : Int32) (σ : St), f_Maps_init_L43 v1 kx79 n v2 σ = some (rv, σe) → G θ cs (SH, ad) σ 43 [some (.ref (ad 6)), some (.int v1), some (.int v2)] [] := by
  intro n
  induction n with
  | zero => intro v2 σ h; rw [f_Maps_init_L43] at h; cases h
  | succ n ih =>
    intro v2 σ h
    rw [f_Maps_init_L43] at h
    refine G_iload_n (pc := 43) 2 X (dg dt_C_Maps 24 rfl) rfl rfl ?_
    refine G_iconst (pc := 44) 5 X (dg dt_C_Maps 25 rfl) (by decide) ?_
    refine G_icmp_ge (pc := 45) 79 X (dg dt_C_Maps 26 rfl) (by decide) h (fun h => ?_) (fun h => ?_)
    · exact G_wk (hkx79 σ h) ⟨rfl, ⟨rfl, trivial⟩⟩
    · refine G_aload_n (pc := 48) 0 X (dg dt_C_Maps 27 rfl) rfl rfl ?_
      refine G_getR (pc := 49) 1 X (dg dt_C_Maps 28 rfl) fc_1 w_70 rfl (Nat.le_of_ble_eq_true rfl) hm6 rfl ?_
      refine G_iload_n (pc := 52) 1 X (dg dt_C_Maps 29 rfl) rfl rfl ?_
      refine G_dup2 (pc := 53) X (dg dt_C_Maps 30 rfl) rfl rfl ?_
      refine G_iald (pc := 54) X (dg dt_C_Maps 31 rfl) hm8 h (fun r_4 h => ?_)
      refine G_iconst (pc := 55) 1 X (dg dt_C_Maps 32 rfl) (by decide) ?_
      refine G_iconst (pc := 56) 5 X (dg dt_C_Maps 33 rfl) (by decide) ?_
      refine G_iload_n (pc := 57) 2 X (dg dt_C_Maps 34 rfl) rfl rfl ?_
      refine G_imul (pc := 58) X (dg dt_C_Maps 35 rfl) ?_
      refine G_aload_n (pc := 59) 0 X (dg dt_C_Maps 36 rfl) rfl rfl ?_
      refine G_getR (pc := 60) 0 X (dg dt_C_Maps 37 rfl) fc_1 w_69 rfl (Nat.le_of_ble_eq_true rfl) hm6 rfl ?_
      refine G_iconst (pc := 63) 5 X (dg dt_C_Maps 38 rfl) (by decide) ?_
      refine G_iload_n (pc := 64) 1 X (dg dt_C_Maps 39 rfl) rfl rfl ?_
      refine G_imul (pc := 65) X (dg dt_C_Maps 40 rfl) ?_
      refine G_iload_n (pc := 66) 2 X (dg dt_C_Maps 41 rfl) rfl rfl ?_
      refine G_iadd (pc := 67) X (dg dt_C_Maps 42 rfl) ?_
      refine G_iald (pc := 68) X (dg dt_C_Maps 43 rfl) hm7 h (fun r_5 h => ?_)
      refine G_iadd (pc := 69) X (dg dt_C_Maps 44 rfl) ?_
      refine G_ishl (pc := 70) X (dg dt_C_Maps 45 rfl) ?_
      refine G_ior (pc := 71) X (dg dt_C_Maps 46 rfl) ?_
      refine G_iast (pc := 72) X (dg dt_C_Maps 47 rfl) hm8 h (fun σ_6 h => ?_)
      refine G_iinc (pc := 73) (v2 + 1) X (dg dt_C_Maps 48 rfl) rfl (Nat.le_of_ble_eq_true rfl) rfl rfl ?_
      refine G_goto (pc := 76) 43 X (dg dt_C_Maps 49 rfl) (by decide) ?_
      exact G_wk (ih (v2 + 1) σ_6 h) ⟨rfl, ⟨rfl, ⟨rfl, trivial⟩⟩⟩
set_option maxRecDepth 100000 in
set_option maxHeartbeats 4000000 in
theorem sC_Maps_init_L30 {θ : Th} {SH : List Shp} {cs : Nat × Nat} (hRc : Rc θ cs) (hm6 : SH[6]? = some (.inl (1, [some (some 7), some (some 8), some (some 9)]))) (hm7 : SH[7]? = some (.inr (.inl (0, 600)))) (hm8 : SH[8]? = some (.inr (.inl (0, 120)))) (hm9 : SH[9]? = some (.inr (.inl (0, 5)))) {ad : Nat → Nat}  {rv : Unit} {σe : St} (X : Cx θ [] cX4_init 3 "Quasigrove$Maps" 1 27)
      {kx85 : St → Option (Unit × St)} (hkx85 : ∀ (σ : St), kx85 σ = some (rv, σe) → G θ cs (SH, ad) σ 85 [none, none, none] []) :
    ∀ (n : Nat) (v1 : Int32) (σ : St), f_Maps_init_L30 kx85 n v1 σ = some (rv, σe) → G θ cs (SH, ad) σ 30 [some (.ref (ad 6)), some (.int v1), none] [] := by
  intro n
  induction n with
  | zero => intro v1 σ h; rw [f_Maps_init_L30] at h; cases h
  | succ n ih =>
    intro v1 σ h
    rw [f_Maps_init_L30] at h
    refine G_iload_n (pc := 30) 1 X (dg dt_C_Maps 16 rfl) rfl rfl ?_
    refine G_bipush (pc := 31) 120 X (dg dt_C_Maps 17 rfl) (by decide) ?_
    refine G_icmp_ge (pc := 33) 85 X (dg dt_C_Maps 18 rfl) (by decide) h (fun h => ?_) (fun h => ?_)
    · exact G_wk (hkx85 σ h) trivial
    · refine G_aload_n (pc := 36) 0 X (dg dt_C_Maps 19 rfl) rfl rfl ?_
      refine G_iload_n (pc := 37) 1 X (dg dt_C_Maps 20 rfl) rfl rfl ?_
      obtain ⟨r_2, σ_3, hc_1, h⟩ := cal_go h
      refine G_callV (pc := 38) (S := []) [.int v1] nosub X  (dg dt_C_Maps 21 rfl) cb_Maps_arrange cv_Maps_arrange w_65 (sC_Maps_arrange hm6 hm7 hm8 hm9 _ ad _ _ hc_1) rfl ⟨Nat.le_of_ble_eq_true rfl, Nat.le_of_ble_eq_true rfl⟩ hm6 rfl (Nat.le_of_ble_eq_true rfl) hRc ?_
      refine G_iconst (pc := 41) 0 X (dg dt_C_Maps 22 rfl) (by decide) ?_
      refine G_istore_n (pc := 42) 2 X (dg dt_C_Maps 23 rfl) rfl (Nat.le_of_ble_eq_true rfl) rfl ?_
      refine G_weak (L' := [some (.ref (ad 6)), some (.int v1), some (.int 0)]) ⟨rfl, ⟨rfl, ⟨rfl, trivial⟩⟩⟩ ?_
      refine sC_Maps_init_L43 hRc hm6 hm7 hm8 hm9 X  (fun σ_7 h => ?_) _ _ _ h
      refine G_iinc (pc := 79) (v1 + 1) X (dg dt_C_Maps 50 rfl) rfl (Nat.le_of_ble_eq_true rfl) rfl rfl ?_
      refine G_goto (pc := 82) 30 X (dg dt_C_Maps 51 rfl) (by decide) ?_
      exact G_wk (ih (v1 + 1) σ_7 h) ⟨rfl, ⟨rfl, trivial⟩⟩
set_option maxRecDepth 100000 in
set_option maxHeartbeats 4000000 in
theorem s_C_MapsLoops {θ : Th} {SH SH0 : List Shp} {cs : Nat × Nat} {ad ad0 : Nat → Nat} {σ σm : St} (X : Cx θ [] cX4_init 3 "Quasigrove$Maps" 1 27) (hRc : Rc θ cs) (hq : Cq θ SH0 ad0 SH σm cs.1 cs.2) (hm6 : SH[6]? = some (.inl (1, [some (some 7), some (some 8), some (some 9)]))) (hm7 : SH[7]? = some (.inr (.inl (0, 600)))) (hm8 : SH[8]? = some (.inr (.inl (0, 120)))) (hm9 : SH[9]? = some (.inr (.inl (0, 5)))) (ha : ∀ i, i < SH0.length → ad i = ad0 i) {q6 : Nat} (hq6 : ad 6 = q6) (h : f_Maps_init σ = some ((), σm)) : G θ cs (SH, ad) σ 30 [some (.ref q6), some (.int 0), none] [] := by
  subst hq6
  unfold f_Maps_init at h
  refine G_weak (L' := [some (.ref (ad 6)), some (.int 0), none]) ⟨rfl, ⟨rfl, trivial⟩⟩ ?_
  refine sC_Maps_init_L30 hRc hm6 hm7 hm8 hm9 X  (fun σ_8 h => ?_) _ _ _ h
  exact (by cases h; exact G_cret (pc := 85) X hq (dg dt_C_Maps 52 rfl) ha)
end
section
/-! the constructor of a grid, wherever it lies in the table -/
def gridAfter (SH : List Shp) (k : Nat) : List Shp :=
  (((((SH ++ [Sum.inr (Sum.inl (0, 25))] : List Shp).set k (Sum.inl (0, [some (some SH.length), some none, some none, none, none]))) ++ [Sum.inr (Sum.inl (0, 5))]).set k (Sum.inl (0, [some (some SH.length), some (some (SH.length + 1)), some none, none, none]))) ++ [Sum.inr (Sum.inl (0, 5))]).set k (Sum.inl (0, [some (some SH.length), some (some (SH.length + 1)), some (some (SH.length + 2)), none, none]))
theorem gs_at {SH : List Shp} {k : Nat} {x y : Shp} (h : k < SH.length) : ((SH.set k x) ++ [y])[k]? = some x := by
  rw [List.getElem?_append_left (by simpa using h)]
  simp [h]
set_option maxRecDepth 100000 in
set_option maxHeartbeats 8000000 in
theorem s_C_Grid (l : Launch) {SH : List Shp} {k : Nat} {σ : St} (hs : SH[k]? = some (.inl (0, [some none, some none, some none, none, none]))) (hr : g_rb SH SH.length = true) (hz : ∀ m j, SH.length ≤ m → σ m j = 0) : RtC false l [] yX2_init cX2_init 1 1 20 3 35 SH (fun ad => [.ref (ad k)]) σ (gridAfter SH k) (wr (wr σ k 3 2) k 4 0) := by
  have hk : k < SH.length := (List.getElem?_eq_some_iff.mp hs).1
  refine RtC.intro (L := fun ad => [some (.ref (ad k))]) (by decide +kernel) rfl (fun _ => Nat.le_of_ble_eq_true rfl) (fun _ => rfl) (fun ad0 θ hl X hI hR hq _ => ?_)
  subst hl
  refine G_aload_n (pc := 0) 0 X (dg dt_C_Grid 0 rfl) rfl rfl ?_
  refine G_objInit (pc := 1) X (dg dt_C_Grid 1 rfl) w_38 w_30 w_31 (Nat.le_of_ble_eq_true rfl) (Nat.le_of_ble_eq_true rfl) ?_
  refine G_aload_n (pc := 4) 0 X (dg dt_C_Grid 2 rfl) rfl rfl ?_
  refine G_bipush (pc := 5) 25 X (dg dt_C_Grid 3 rfl) (by decide) ?_
  refine G_newa (pc := 7) (N := 25) X (dg dt_C_Grid 4 rfl) w_58 rfl (Or.inl ⟨rfl, rfl⟩) (by decide) (by decide) (by decide) hr (fun j => hz _ j (Nat.le_refl _)) (Rm_of hR (Nat.le_of_ble_eq_true rfl) (Nat.le_of_ble_eq_true rfl)) (fun ad1 q1 ag1 e1 => ?_)
  have hl1 : (SH ++ [Sum.inr (Sum.inl (0, 25))] : List Shp).length = SH.length + 1 := by simp
  have hk1 : (SH ++ [Sum.inr (Sum.inl (0, 25))] : List Shp)[k]? = some (.inl (0, [some none, some none, some none, none, none])) := by rw [List.getElem?_append_left hk]; exact hs
  have r1 : g_rb (SH ++ [Sum.inr (Sum.inl (0, 25))] : List Shp) (SH.length + 1) = true := g_rb_app hr rfl (Nat.le_succ _)
  refine G_putR (pc := 9) (k := k) (t := SH.length) 0 X hI (dg dt_C_Grid 5 rfl) fc_0 w_39 rfl rfl (Nat.le_of_ble_eq_true rfl) rfl (Or.inr ⟨_, rfl⟩) hk1 rfl (ag1 k hk) e1 ?_
  refine G_aload_n (pc := 12) 0 X (dg dt_C_Grid 6 rfl) rfl rfl ?_
  refine G_iconst (pc := 13) 5 X (dg dt_C_Grid 7 rfl) (by decide) ?_
  have r2 : g_rb ((SH ++ [Sum.inr (Sum.inl (0, 25))] : List Shp).set k (.inl (0, [some (some SH.length), some none, some none, none, none]))) (SH.length + 1) = true := g_rb_set r1 (by simp [g_rb])
  have hl2 : ((SH ++ [Sum.inr (Sum.inl (0, 25))] : List Shp).set k (.inl (0, [some (some SH.length), some none, some none, none, none]))).length = SH.length + 1 := by simp
  refine G_newa (pc := 14) (N := 5) X (dg dt_C_Grid 8 rfl) w_58 rfl (Or.inl ⟨rfl, rfl⟩) (by decide) (by decide) (by decide) (g_rb_mono r2 (Nat.le_of_eq hl2.symm)) (fun j => hz _ j (Nat.le_trans (Nat.le_succ _) (Nat.le_of_eq hl2.symm))) (Rm_of hR (Nat.le_of_ble_eq_true rfl) (Nat.le_of_ble_eq_true rfl)) (fun ad2 q2 ag2 e2 => ?_)
  have ag2 : ∀ i, i < SH.length + 1 → ad2 i = ad1 i := fun i hi => ag2 i (Nat.lt_of_lt_of_eq hi hl2.symm)
  have e2 : ad2 (SH.length + 1) = q2 := by rw [← hl2]; exact e2
  have hk2 : (((SH ++ [Sum.inr (Sum.inl (0, 25))] : List Shp).set k (.inl (0, [some (some SH.length), some none, some none, none, none]))) ++ [Sum.inr (Sum.inl (0, 5))])[k]? = some (.inl (0, [some (some SH.length), some none, some none, none, none])) := gs_at (by rw [hl1]; omega)
  have r3 : g_rb (((SH ++ [Sum.inr (Sum.inl (0, 25))] : List Shp).set k (.inl (0, [some (some SH.length), some none, some none, none, none]))) ++ [Sum.inr (Sum.inl (0, 5))]) (SH.length + 2) = true := g_rb_app r2 rfl (Nat.le_succ _)
  refine G_putR (pc := 16) (k := k) (t := SH.length + 1) 1 X hI (dg dt_C_Grid 9 rfl) fc_0 w_40 rfl rfl (Nat.le_of_ble_eq_true rfl) rfl (Or.inr ⟨_, rfl⟩) hk2 rfl ((ag2 k (by omega)).trans (ag1 k hk)) e2 ?_
  refine G_aload_n (pc := 19) 0 X (dg dt_C_Grid 10 rfl) rfl rfl ?_
  refine G_iconst (pc := 20) 5 X (dg dt_C_Grid 11 rfl) (by decide) ?_
  have r4 : g_rb ((((SH ++ [Sum.inr (Sum.inl (0, 25))] : List Shp).set k (.inl (0, [some (some SH.length), some none, some none, none, none]))) ++ [Sum.inr (Sum.inl (0, 5))]).set k (.inl (0, [some (some SH.length), some (some (SH.length + 1)), some none, none, none]))) (SH.length + 2) = true := g_rb_set r3 (by simp [g_rb])
  have hl4 : ((((SH ++ [Sum.inr (Sum.inl (0, 25))] : List Shp).set k (.inl (0, [some (some SH.length), some none, some none, none, none]))) ++ [Sum.inr (Sum.inl (0, 5))]).set k (.inl (0, [some (some SH.length), some (some (SH.length + 1)), some none, none, none]))).length = SH.length + 2 := by simp
  refine G_newa (pc := 21) (N := 5) X (dg dt_C_Grid 12 rfl) w_58 rfl (Or.inl ⟨rfl, rfl⟩) (by decide) (by decide) (by decide) (g_rb_mono r4 (Nat.le_of_eq hl4.symm)) (fun j => hz _ j (Nat.le_trans (Nat.le_add_right _ 2) (Nat.le_of_eq hl4.symm))) (Rm_of hR (Nat.le_of_ble_eq_true rfl) (Nat.le_of_ble_eq_true rfl)) (fun ad3 q3 ag3 e3 => ?_)
  have ag3 : ∀ i, i < SH.length + 2 → ad3 i = ad2 i := fun i hi => ag3 i (Nat.lt_of_lt_of_eq hi hl4.symm)
  have e3 : ad3 (SH.length + 2) = q3 := by rw [← hl4]; exact e3
  have hk3 : (((((SH ++ [Sum.inr (Sum.inl (0, 25))] : List Shp).set k (.inl (0, [some (some SH.length), some none, some none, none, none]))) ++ [Sum.inr (Sum.inl (0, 5))]).set k (.inl (0, [some (some SH.length), some (some (SH.length + 1)), some none, none, none]))) ++ [Sum.inr (Sum.inl (0, 5))])[k]? = some (.inl (0, [some (some SH.length), some (some (SH.length + 1)), some none, none, none])) := gs_at (by simp; omega)
  have a3 : ad3 k = ad0 k := (ag3 k (by omega)).trans ((ag2 k (by omega)).trans (ag1 k hk))
  refine G_putR (pc := 23) (k := k) (t := SH.length + 2) 2 X hI (dg dt_C_Grid 13 rfl) fc_0 w_41 rfl rfl (Nat.le_of_ble_eq_true rfl) rfl (Or.inr ⟨_, rfl⟩) hk3 rfl a3 e3 ?_
  have hk4 : (gridAfter SH k)[k]? = some (.inl (0, [some (some SH.length), some (some (SH.length + 1)), some (some (SH.length + 2)), none, none])) := by
    unfold gridAfter
    rw [List.getElem?_set]
    rw [if_pos rfl, if_pos (by simp; omega)]
  show G θ (3, 35) (gridAfter SH k, ad3) σ 26 _ _
  refine G_aload_n (pc := 26) 0 X (dg dt_C_Grid 14 rfl) rfl rfl ?_
  refine G_iconst (pc := 27) 2 X (dg dt_C_Grid 15 rfl) (by decide) ?_
  refine G_putQ (pc := 28) (k := k) 3 X (dg dt_C_Grid 16 rfl) fc_0 w_42 rfl (Nat.le_of_ble_eq_true rfl) rfl rfl hk4 rfl a3 ?_
  refine G_aload_n (pc := 31) 0 X (dg dt_C_Grid 17 rfl) rfl rfl ?_
  refine G_iconst (pc := 32) 0 X (dg dt_C_Grid 18 rfl) (by decide) ?_
  refine G_putQ (pc := 33) (k := k) 4 X (dg dt_C_Grid 19 rfl) fc_0 w_45 rfl (Nat.le_of_ble_eq_true rfl) rfl rfl hk4 rfl a3 ?_
  exact G_cret (pc := 36) X hq (dg dt_C_Grid 20 rfl) (fun i hi => (ag3 i (by omega)).trans ((ag2 i (by omega)).trans (ag1 i hi)))
end
section
set_option maxRecDepth 100000 in
set_option maxHeartbeats 8000000 in
theorem s_C_Maps (l : Launch) {σ : St} (hz : ∀ m j, 7 ≤ m → σ m j = 0) {σm : St} (hm : f_Maps_init σ = some ((), σm)) : RtC false l [] yX4_init cX4_init 3 1 27 3 725 qt_Maps_0 (fun ad => [.ref (ad 6)]) σ qt_Maps_6 σm := by
  refine RtC.intro (L := (fun ad => [some (.ref (ad 6)), none, none])) (by decide +kernel) rfl (fun _ => Nat.le_of_ble_eq_true rfl) (fun _ => rfl) (fun ad0 θ hl X hI hR hq hE => ?_)
  subst hl
  have hq6_0 : ad0 6 = ad0 6 := rfl
  refine G_aload_n (pc := 0) 0 X (dg dt_C_Maps 0 rfl) rfl rfl ?_
  refine G_objInit (pc := 1) X (dg dt_C_Maps 1 rfl) w_64 w_30 w_31 (Nat.le_of_ble_eq_true rfl) (Nat.le_of_ble_eq_true rfl) ?_
  refine G_aload_n (pc := 4) 0 X (dg dt_C_Maps 2 rfl) rfl rfl ?_
  refine G_sipush (pc := 5) 600 X (dg dt_C_Maps 3 rfl) (by decide) ?_
  refine G_newa (pc := 8) (N := 600) X (dg dt_C_Maps 4 rfl) w_58 rfl (Or.inl ⟨rfl, rfl⟩) (by decide) (by decide) (by decide) (by decide +kernel) (fun j => hz 7 j (by decide)) (Rm_of hR (Nat.le_of_ble_eq_true rfl) (Nat.le_of_ble_eq_true rfl)) (fun ad1 q1 ag1 e1 => ?_)
  have hq6_1 : ad1 6 = ad0 6 := (ag1 6 (by decide)).trans hq6_0
  have hq7_1 : ad1 7 = q1 := e1
  show G θ (1, 600) (qt_Maps_1, ad1) _ _ _ _
  refine G_putR (pc := 10) (k := 6) (t := 7) 0 X hI (dg dt_C_Maps 5 rfl) fc_1 w_69 rfl rfl (Nat.le_of_ble_eq_true rfl) rfl (Or.inr ⟨_, rfl⟩) rfl rfl hq6_1 hq7_1 ?_
  show G θ (1, 600) (qt_Maps_2, ad1) _ _ _ _
  refine G_aload_n (pc := 13) 0 X (dg dt_C_Maps 6 rfl) rfl rfl ?_
  refine G_bipush (pc := 14) 120 X (dg dt_C_Maps 7 rfl) (by decide) ?_
  refine G_newa (pc := 16) (N := 120) X (dg dt_C_Maps 8 rfl) w_58 rfl (Or.inl ⟨rfl, rfl⟩) (by decide) (by decide) (by decide) (by decide +kernel) (fun j => hz 8 j (by decide)) (Rm_of hR (Nat.le_of_ble_eq_true rfl) (Nat.le_of_ble_eq_true rfl)) (fun ad2 q2 ag2 e2 => ?_)
  have hq6_2 : ad2 6 = ad0 6 := (ag2 6 (by decide)).trans hq6_1
  have hq8_2 : ad2 8 = q2 := e2
  show G θ (2, 720) (qt_Maps_3, ad2) _ _ _ _
  refine G_putR (pc := 18) (k := 6) (t := 8) 1 X hI (dg dt_C_Maps 9 rfl) fc_1 w_70 rfl rfl (Nat.le_of_ble_eq_true rfl) rfl (Or.inr ⟨_, rfl⟩) rfl rfl hq6_2 hq8_2 ?_
  show G θ (2, 720) (qt_Maps_4, ad2) _ _ _ _
  refine G_aload_n (pc := 21) 0 X (dg dt_C_Maps 10 rfl) rfl rfl ?_
  refine G_iconst (pc := 22) 5 X (dg dt_C_Maps 11 rfl) (by decide) ?_
  refine G_newa (pc := 23) (N := 5) X (dg dt_C_Maps 12 rfl) w_58 rfl (Or.inl ⟨rfl, rfl⟩) (by decide) (by decide) (by decide) (by decide +kernel) (fun j => hz 9 j (by decide)) (Rm_of hR (Nat.le_of_ble_eq_true rfl) (Nat.le_of_ble_eq_true rfl)) (fun ad3 q3 ag3 e3 => ?_)
  have hq6_3 : ad3 6 = ad0 6 := (ag3 6 (by decide)).trans hq6_2
  have hq9_3 : ad3 9 = q3 := e3
  show G θ (3, 725) (qt_Maps_5, ad3) _ _ _ _
  refine G_putR (pc := 25) (k := 6) (t := 9) 2 X hI (dg dt_C_Maps 13 rfl) fc_1 w_71 rfl rfl (Nat.le_of_ble_eq_true rfl) rfl (Or.inr ⟨_, rfl⟩) rfl rfl hq6_3 hq9_3 ?_
  show G θ (3, 725) (qt_Maps_6, ad3) _ _ _ _
  refine G_iconst (pc := 28) 0 X (dg dt_C_Maps 14 rfl) (by decide) ?_
  refine G_istore_n (pc := 29) 1 X (dg dt_C_Maps 15 rfl) rfl (Nat.le_of_ble_eq_true rfl) rfl ?_
  exact s_C_MapsLoops (SH0 := qt_Maps_0) X (Rm_rc (Rm_of hR (Nat.le_of_ble_eq_true rfl) (Nat.le_of_ble_eq_true rfl))) hq rfl rfl rfl rfl (fun i hi => ((ag3 i (Nat.lt_of_lt_of_le hi (by decide))).trans ((ag2 i (Nat.lt_of_lt_of_le hi (by decide))).trans (ag1 i (Nat.lt_of_lt_of_le hi (by decide)))))) hq6_3 hm
set_option maxRecDepth 100000 in
set_option maxHeartbeats 8000000 in
theorem s_C_Tape (l : Launch) {σ : St} (hz : ∀ m j, 11 ≤ m → σ m j = 0) : RtC false l [] yX9_init cX9_init 1 1 20 3 121 qt_Tape_0 (fun ad => [.ref (ad 10)]) σ qt_Tape_6 (wr σ 10 3 0) := by
  refine RtC.intro (L := (fun ad => [some (.ref (ad 10))])) (by decide +kernel) rfl (fun _ => Nat.le_of_ble_eq_true rfl) (fun _ => rfl) (fun ad0 θ hl X hI hR hq hE => ?_)
  subst hl
  have hq10_0 : ad0 10 = ad0 10 := rfl
  refine G_aload_n (pc := 0) 0 X (dg dt_C_Tape 0 rfl) rfl rfl ?_
  refine G_objInit (pc := 1) X (dg dt_C_Tape 1 rfl) w_84 w_30 w_31 (Nat.le_of_ble_eq_true rfl) (Nat.le_of_ble_eq_true rfl) ?_
  refine G_aload_n (pc := 4) 0 X (dg dt_C_Tape 2 rfl) rfl rfl ?_
  refine G_bipush (pc := 5) 40 X (dg dt_C_Tape 3 rfl) (by decide) ?_
  refine G_newa (pc := 7) (N := 40) X (dg dt_C_Tape 4 rfl) w_58 rfl (Or.inl ⟨rfl, rfl⟩) (by decide) (by decide) (by decide) (by decide +kernel) (fun j => hz 11 j (by decide)) (Rm_of hR (Nat.le_of_ble_eq_true rfl) (Nat.le_of_ble_eq_true rfl)) (fun ad1 q1 ag1 e1 => ?_)
  have hq10_1 : ad1 10 = ad0 10 := (ag1 10 (by decide)).trans hq10_0
  have hq11_1 : ad1 11 = q1 := e1
  show G θ (1, 40) (qt_Tape_1, ad1) _ _ _ _
  refine G_putR (pc := 9) (k := 10) (t := 11) 0 X hI (dg dt_C_Tape 5 rfl) fc_5 w_85 rfl rfl (Nat.le_of_ble_eq_true rfl) rfl (Or.inr ⟨_, rfl⟩) rfl rfl hq10_1 hq11_1 ?_
  show G θ (1, 40) (qt_Tape_2, ad1) _ _ _ _
  refine G_aload_n (pc := 12) 0 X (dg dt_C_Tape 6 rfl) rfl rfl ?_
  refine G_bipush (pc := 13) 41 X (dg dt_C_Tape 7 rfl) (by decide) ?_
  refine G_newa (pc := 15) (N := 41) X (dg dt_C_Tape 8 rfl) w_58 rfl (Or.inl ⟨rfl, rfl⟩) (by decide) (by decide) (by decide) (by decide +kernel) (fun j => hz 12 j (by decide)) (Rm_of hR (Nat.le_of_ble_eq_true rfl) (Nat.le_of_ble_eq_true rfl)) (fun ad2 q2 ag2 e2 => ?_)
  have hq10_2 : ad2 10 = ad0 10 := (ag2 10 (by decide)).trans hq10_1
  have hq12_2 : ad2 12 = q2 := e2
  show G θ (2, 81) (qt_Tape_3, ad2) _ _ _ _
  refine G_putR (pc := 17) (k := 10) (t := 12) 1 X hI (dg dt_C_Tape 9 rfl) fc_5 w_86 rfl rfl (Nat.le_of_ble_eq_true rfl) rfl (Or.inr ⟨_, rfl⟩) rfl rfl hq10_2 hq12_2 ?_
  show G θ (2, 81) (qt_Tape_4, ad2) _ _ _ _
  refine G_aload_n (pc := 20) 0 X (dg dt_C_Tape 10 rfl) rfl rfl ?_
  refine G_bipush (pc := 21) 40 X (dg dt_C_Tape 11 rfl) (by decide) ?_
  refine G_newa (pc := 23) (N := 40) X (dg dt_C_Tape 12 rfl) w_58 rfl (Or.inl ⟨rfl, rfl⟩) (by decide) (by decide) (by decide) (by decide +kernel) (fun j => hz 13 j (by decide)) (Rm_of hR (Nat.le_of_ble_eq_true rfl) (Nat.le_of_ble_eq_true rfl)) (fun ad3 q3 ag3 e3 => ?_)
  have hq10_3 : ad3 10 = ad0 10 := (ag3 10 (by decide)).trans hq10_2
  have hq13_3 : ad3 13 = q3 := e3
  show G θ (3, 121) (qt_Tape_5, ad3) _ _ _ _
  refine G_putR (pc := 25) (k := 10) (t := 13) 2 X hI (dg dt_C_Tape 13 rfl) fc_5 w_87 rfl rfl (Nat.le_of_ble_eq_true rfl) rfl (Or.inr ⟨_, rfl⟩) rfl rfl hq10_3 hq13_3 ?_
  show G θ (3, 121) (qt_Tape_6, ad3) _ _ _ _
  refine G_aload_n (pc := 28) 0 X (dg dt_C_Tape 14 rfl) rfl rfl ?_
  refine G_iconst (pc := 29) 0 X (dg dt_C_Tape 15 rfl) (by decide) ?_
  refine G_putQ (pc := 30) (k := 10) 3 X (dg dt_C_Tape 16 rfl) fc_5 w_88 rfl (Nat.le_of_ble_eq_true rfl) rfl rfl rfl rfl hq10_3 ?_
  exact G_cret (pc := 33) X hq (dg dt_C_Tape 17 rfl) (fun i hi => ((ag3 i (Nat.lt_of_lt_of_le hi (by decide))).trans ((ag2 i (Nat.lt_of_lt_of_le hi (by decide))).trans (ag1 i (Nat.lt_of_lt_of_le hi (by decide))))))
set_option maxRecDepth 100000 in
set_option maxHeartbeats 8000000 in
theorem s_C_RowFilling (l : Launch) {σ : St} (hz : ∀ m j, 15 ≤ m → σ m j = 0) : RtC false l [] yX7_init cX7_init 2 1 20 1 5 qt_RowFilling_0 (fun ad => [.ref (ad 14), .ref (ad 6)]) σ qt_RowFilling_3 σ := by
  refine RtC.intro (L := (fun ad => [some (.ref (ad 14)), some (.ref (ad 6))])) (by decide +kernel) rfl (fun _ => Nat.le_of_ble_eq_true rfl) (fun _ => rfl) (fun ad0 θ hl X hI hR hq hE => ?_)
  subst hl
  have hq14_0 : ad0 14 = ad0 14 := rfl
  have hq6_0 : ad0 6 = ad0 6 := rfl
  refine G_aload_n (pc := 0) 0 X (dg dt_C_RowFilling 0 rfl) rfl rfl ?_
  refine G_objInit (pc := 1) X (dg dt_C_RowFilling 1 rfl) w_103 w_30 w_31 (Nat.le_of_ble_eq_true rfl) (Nat.le_of_ble_eq_true rfl) ?_
  refine G_aload_n (pc := 4) 0 X (dg dt_C_RowFilling 2 rfl) rfl rfl ?_
  refine G_iconst (pc := 5) 5 X (dg dt_C_RowFilling 3 rfl) (by decide) ?_
  refine G_newa (pc := 6) (N := 5) X (dg dt_C_RowFilling 4 rfl) w_58 rfl (Or.inl ⟨rfl, rfl⟩) (by decide) (by decide) (by decide) (by decide +kernel) (fun j => hz 15 j (by decide)) (Rm_of hR (Nat.le_of_ble_eq_true rfl) (Nat.le_of_ble_eq_true rfl)) (fun ad1 q1 ag1 e1 => ?_)
  have hq14_1 : ad1 14 = ad0 14 := (ag1 14 (by decide)).trans hq14_0
  have hq6_1 : ad1 6 = ad0 6 := (ag1 6 (by decide)).trans hq6_0
  have hq15_1 : ad1 15 = q1 := e1
  show G θ (1, 5) (qt_RowFilling_1, ad1) _ _ _ _
  refine G_putR (pc := 8) (k := 14) (t := 15) 1 X hI (dg dt_C_RowFilling 5 rfl) fc_3 w_105 rfl rfl (Nat.le_of_ble_eq_true rfl) rfl (Or.inr ⟨_, rfl⟩) rfl rfl hq14_1 hq15_1 ?_
  show G θ (1, 5) (qt_RowFilling_2, ad1) _ _ _ _
  refine G_aload_n (pc := 11) 0 X (dg dt_C_RowFilling 6 rfl) rfl rfl ?_
  refine G_aload_n (pc := 12) 1 X (dg dt_C_RowFilling 7 rfl) rfl rfl ?_
  refine G_putR (pc := 13) (k := 14) (t := 6) 0 X hI (dg dt_C_RowFilling 8 rfl) fc_3 w_104 rfl rfl (Nat.le_of_ble_eq_true rfl) rfl (Or.inl ⟨_, rfl⟩) rfl rfl hq14_1 hq6_1 ?_
  show G θ (1, 5) (qt_RowFilling_3, ad1) _ _ _ _
  exact G_cret (pc := 16) X hq (dg dt_C_RowFilling 9 rfl) (fun i hi => (ag1 i (Nat.lt_of_lt_of_le hi (by decide))))
set_option maxRecDepth 100000 in
set_option maxHeartbeats 8000000 in
theorem s_C_Telling (l : Launch) {σ : St} (hz : ∀ m j, 17 ≤ m → σ m j = 0) : RtC false l [] yX10_init cX10_init 2 1 20 1 576 qt_Telling_0 (fun ad => [.ref (ad 16), .ref (ad 6)]) σ qt_Telling_3 (wr σ 16 2 0) := by
  refine RtC.intro (L := (fun ad => [some (.ref (ad 16)), some (.ref (ad 6))])) (by decide +kernel) rfl (fun _ => Nat.le_of_ble_eq_true rfl) (fun _ => rfl) (fun ad0 θ hl X hI hR hq hE => ?_)
  subst hl
  have hq16_0 : ad0 16 = ad0 16 := rfl
  have hq6_0 : ad0 6 = ad0 6 := rfl
  refine G_aload_n (pc := 0) 0 X (dg dt_C_Telling 0 rfl) rfl rfl ?_
  refine G_objInit (pc := 1) X (dg dt_C_Telling 1 rfl) w_116 w_30 w_31 (Nat.le_of_ble_eq_true rfl) (Nat.le_of_ble_eq_true rfl) ?_
  refine G_aload_n (pc := 4) 0 X (dg dt_C_Telling 2 rfl) rfl rfl ?_
  refine G_sipush (pc := 5) 576 X (dg dt_C_Telling 3 rfl) (by decide) ?_
  refine G_newa (pc := 8) (N := 576) X (dg dt_C_Telling 4 rfl) w_58 rfl (Or.inl ⟨rfl, rfl⟩) (by decide) (by decide) (by decide) (by decide +kernel) (fun j => hz 17 j (by decide)) (Rm_of hR (Nat.le_of_ble_eq_true rfl) (Nat.le_of_ble_eq_true rfl)) (fun ad1 q1 ag1 e1 => ?_)
  have hq16_1 : ad1 16 = ad0 16 := (ag1 16 (by decide)).trans hq16_0
  have hq6_1 : ad1 6 = ad0 6 := (ag1 6 (by decide)).trans hq6_0
  have hq17_1 : ad1 17 = q1 := e1
  show G θ (1, 576) (qt_Telling_1, ad1) _ _ _ _
  refine G_putR (pc := 10) (k := 16) (t := 17) 1 X hI (dg dt_C_Telling 5 rfl) fc_6 w_118 rfl rfl (Nat.le_of_ble_eq_true rfl) rfl (Or.inr ⟨_, rfl⟩) rfl rfl hq16_1 hq17_1 ?_
  show G θ (1, 576) (qt_Telling_2, ad1) _ _ _ _
  refine G_aload_n (pc := 13) 0 X (dg dt_C_Telling 6 rfl) rfl rfl ?_
  refine G_iconst (pc := 14) 0 X (dg dt_C_Telling 7 rfl) (by decide) ?_
  refine G_putQ (pc := 15) (k := 16) 2 X (dg dt_C_Telling 8 rfl) fc_6 w_119 rfl (Nat.le_of_ble_eq_true rfl) rfl rfl rfl rfl hq16_1 ?_
  refine G_aload_n (pc := 18) 0 X (dg dt_C_Telling 9 rfl) rfl rfl ?_
  refine G_aload_n (pc := 19) 1 X (dg dt_C_Telling 10 rfl) rfl rfl ?_
  refine G_putR (pc := 20) (k := 16) (t := 6) 0 X hI (dg dt_C_Telling 11 rfl) fc_6 w_117 rfl rfl (Nat.le_of_ble_eq_true rfl) rfl (Or.inl ⟨_, rfl⟩) rfl rfl hq16_1 hq6_1 ?_
  show G θ (1, 576) (qt_Telling_3, ad1) _ _ _ _
  exact G_cret (pc := 23) X hq (dg dt_C_Telling 12 rfl) (fun i hi => (ag1 i (Nat.lt_of_lt_of_le hi (by decide))))
set_option maxRecDepth 100000 in
set_option maxHeartbeats 8000000 in
theorem s_C_Symmetry (l : Launch) {σ : St} (hz : ∀ m j, 19 ≤ m → σ m j = 0) : RtC false l [] yX8_init cX8_init 2 1 20 4 255 qt_Symmetry_0 (fun ad => [.ref (ad 18), .ref (ad 6)]) σ qt_Symmetry_9 (wr (wr σ 18 5 0) 18 6 0) := by
  refine RtC.intro (L := (fun ad => [some (.ref (ad 18)), some (.ref (ad 6))])) (by decide +kernel) rfl (fun _ => Nat.le_of_ble_eq_true rfl) (fun _ => rfl) (fun ad0 θ hl X hI hR hq hE => ?_)
  subst hl
  have hq18_0 : ad0 18 = ad0 18 := rfl
  have hq6_0 : ad0 6 = ad0 6 := rfl
  refine G_aload_n (pc := 0) 0 X (dg dt_C_Symmetry 0 rfl) rfl rfl ?_
  refine G_objInit (pc := 1) X (dg dt_C_Symmetry 1 rfl) w_132 w_30 w_31 (Nat.le_of_ble_eq_true rfl) (Nat.le_of_ble_eq_true rfl) ?_
  refine G_aload_n (pc := 4) 0 X (dg dt_C_Symmetry 2 rfl) rfl rfl ?_
  refine G_bipush (pc := 5) 10 X (dg dt_C_Symmetry 3 rfl) (by decide) ?_
  refine G_newa (pc := 7) (N := 10) X (dg dt_C_Symmetry 4 rfl) w_58 rfl (Or.inl ⟨rfl, rfl⟩) (by decide) (by decide) (by decide) (by decide +kernel) (fun j => hz 19 j (by decide)) (Rm_of hR (Nat.le_of_ble_eq_true rfl) (Nat.le_of_ble_eq_true rfl)) (fun ad1 q1 ag1 e1 => ?_)
  have hq18_1 : ad1 18 = ad0 18 := (ag1 18 (by decide)).trans hq18_0
  have hq6_1 : ad1 6 = ad0 6 := (ag1 6 (by decide)).trans hq6_0
  have hq19_1 : ad1 19 = q1 := e1
  show G θ (1, 10) (qt_Symmetry_1, ad1) _ _ _ _
  refine G_putR (pc := 9) (k := 18) (t := 19) 1 X hI (dg dt_C_Symmetry 5 rfl) fc_4 w_134 rfl rfl (Nat.le_of_ble_eq_true rfl) rfl (Or.inr ⟨_, rfl⟩) rfl rfl hq18_1 hq19_1 ?_
  show G θ (1, 10) (qt_Symmetry_2, ad1) _ _ _ _
  refine G_aload_n (pc := 12) 0 X (dg dt_C_Symmetry 6 rfl) rfl rfl ?_
  refine G_bipush (pc := 13) 120 X (dg dt_C_Symmetry 7 rfl) (by decide) ?_
  refine G_newa (pc := 15) (N := 120) X (dg dt_C_Symmetry 8 rfl) w_58 rfl (Or.inl ⟨rfl, rfl⟩) (by decide) (by decide) (by decide) (by decide +kernel) (fun j => hz 20 j (by decide)) (Rm_of hR (Nat.le_of_ble_eq_true rfl) (Nat.le_of_ble_eq_true rfl)) (fun ad2 q2 ag2 e2 => ?_)
  have hq18_2 : ad2 18 = ad0 18 := (ag2 18 (by decide)).trans hq18_1
  have hq6_2 : ad2 6 = ad0 6 := (ag2 6 (by decide)).trans hq6_1
  have hq20_2 : ad2 20 = q2 := e2
  show G θ (2, 130) (qt_Symmetry_3, ad2) _ _ _ _
  refine G_putR (pc := 17) (k := 18) (t := 20) 2 X hI (dg dt_C_Symmetry 9 rfl) fc_4 w_135 rfl rfl (Nat.le_of_ble_eq_true rfl) rfl (Or.inr ⟨_, rfl⟩) rfl rfl hq18_2 hq20_2 ?_
  show G θ (2, 130) (qt_Symmetry_4, ad2) _ _ _ _
  refine G_aload_n (pc := 20) 0 X (dg dt_C_Symmetry 10 rfl) rfl rfl ?_
  refine G_bipush (pc := 21) 120 X (dg dt_C_Symmetry 11 rfl) (by decide) ?_
  refine G_newa (pc := 23) (N := 120) X (dg dt_C_Symmetry 12 rfl) w_155 rfl (Or.inr ⟨rfl, rfl⟩) (by decide) (by decide) (by decide) (by decide +kernel) (fun j => hz 21 j (by decide)) (Rm_of hR (Nat.le_of_ble_eq_true rfl) (Nat.le_of_ble_eq_true rfl)) (fun ad3 q3 ag3 e3 => ?_)
  have hq18_3 : ad3 18 = ad0 18 := (ag3 18 (by decide)).trans hq18_2
  have hq6_3 : ad3 6 = ad0 6 := (ag3 6 (by decide)).trans hq6_2
  have hq21_3 : ad3 21 = q3 := e3
  show G θ (3, 250) (qt_Symmetry_5, ad3) _ _ _ _
  refine G_putR (pc := 25) (k := 18) (t := 21) 3 X hI (dg dt_C_Symmetry 13 rfl) fc_4 w_136 rfl rfl (Nat.le_of_ble_eq_true rfl) rfl (Or.inr ⟨_, rfl⟩) rfl rfl hq18_3 hq21_3 ?_
  show G θ (3, 250) (qt_Symmetry_6, ad3) _ _ _ _
  refine G_aload_n (pc := 28) 0 X (dg dt_C_Symmetry 14 rfl) rfl rfl ?_
  refine G_iconst (pc := 29) 5 X (dg dt_C_Symmetry 15 rfl) (by decide) ?_
  refine G_newa (pc := 30) (N := 5) X (dg dt_C_Symmetry 16 rfl) w_58 rfl (Or.inl ⟨rfl, rfl⟩) (by decide) (by decide) (by decide) (by decide +kernel) (fun j => hz 22 j (by decide)) (Rm_of hR (Nat.le_of_ble_eq_true rfl) (Nat.le_of_ble_eq_true rfl)) (fun ad4 q4 ag4 e4 => ?_)
  have hq18_4 : ad4 18 = ad0 18 := (ag4 18 (by decide)).trans hq18_3
  have hq6_4 : ad4 6 = ad0 6 := (ag4 6 (by decide)).trans hq6_3
  have hq22_4 : ad4 22 = q4 := e4
  show G θ (4, 255) (qt_Symmetry_7, ad4) _ _ _ _
  refine G_putR (pc := 32) (k := 18) (t := 22) 4 X hI (dg dt_C_Symmetry 17 rfl) fc_4 w_137 rfl rfl (Nat.le_of_ble_eq_true rfl) rfl (Or.inr ⟨_, rfl⟩) rfl rfl hq18_4 hq22_4 ?_
  show G θ (4, 255) (qt_Symmetry_8, ad4) _ _ _ _
  refine G_aload_n (pc := 35) 0 X (dg dt_C_Symmetry 18 rfl) rfl rfl ?_
  refine G_iconst (pc := 36) 0 X (dg dt_C_Symmetry 19 rfl) (by decide) ?_
  refine G_putQ (pc := 37) (k := 18) 5 X (dg dt_C_Symmetry 20 rfl) fc_4 w_138 rfl (Nat.le_of_ble_eq_true rfl) rfl rfl rfl rfl hq18_4 ?_
  refine G_aload_n (pc := 40) 0 X (dg dt_C_Symmetry 21 rfl) rfl rfl ?_
  refine G_iconst (pc := 41) 0 X (dg dt_C_Symmetry 22 rfl) (by decide) ?_
  refine G_putQ (pc := 42) (k := 18) 6 X (dg dt_C_Symmetry 23 rfl) fc_4 w_139 rfl (Nat.le_of_ble_eq_true rfl) rfl rfl rfl rfl hq18_4 ?_
  refine G_aload_n (pc := 45) 0 X (dg dt_C_Symmetry 24 rfl) rfl rfl ?_
  refine G_aload_n (pc := 46) 1 X (dg dt_C_Symmetry 25 rfl) rfl rfl ?_
  refine G_putR (pc := 47) (k := 18) (t := 6) 0 X hI (dg dt_C_Symmetry 26 rfl) fc_4 w_133 rfl rfl (Nat.le_of_ble_eq_true rfl) rfl (Or.inl ⟨_, rfl⟩) rfl rfl hq18_4 hq6_4 ?_
  show G θ (4, 255) (qt_Symmetry_9, ad4) _ _ _ _
  exact G_cret (pc := 50) X hq (dg dt_C_Symmetry 27 rfl) (fun i hi => ((ag4 i (Nat.lt_of_lt_of_le hi (by decide))).trans ((ag3 i (Nat.lt_of_lt_of_le hi (by decide))).trans ((ag2 i (Nat.lt_of_lt_of_le hi (by decide))).trans (ag1 i (Nat.lt_of_lt_of_le hi (by decide)))))))
set_option maxRecDepth 100000 in
set_option maxHeartbeats 8000000 in
theorem s_C_Mating (l : Launch) {σ : St} (hz : ∀ m j, 24 ≤ m → σ m j = 0) : RtC false l [] yX5_init cX5_init 2 2 40 10 205 qt_Mating_0 (fun ad => [.ref (ad 23), .ref (ad 6)]) σ qt_Mating_11 (wr (wr (wr (wr (wr (wr σ 26 3 2) 26 4 0) 30 3 2) 30 4 0) 23 5 0) 23 6 0) := by
  refine RtC.intro (L := (fun ad => [some (.ref (ad 23)), some (.ref (ad 6))])) (by decide +kernel) rfl (fun _ => Nat.le_of_ble_eq_true rfl) (fun _ => rfl) (fun ad0 θ hl X hI hR hq hE => ?_)
  subst hl
  have hq23_0 : ad0 23 = ad0 23 := rfl
  have hq6_0 : ad0 6 = ad0 6 := rfl
  refine G_aload_n (pc := 0) 0 X (dg dt_C_Mating 0 rfl) rfl rfl ?_
  refine G_objInit (pc := 1) X (dg dt_C_Mating 1 rfl) w_161 w_30 w_31 (Nat.le_of_ble_eq_true rfl) (Nat.le_of_ble_eq_true rfl) ?_
  refine G_aload_n (pc := 4) 0 X (dg dt_C_Mating 2 rfl) rfl rfl ?_
  refine G_bipush (pc := 5) 120 X (dg dt_C_Mating 3 rfl) (by decide) ?_
  refine G_newa (pc := 7) (N := 120) X (dg dt_C_Mating 4 rfl) w_58 rfl (Or.inl ⟨rfl, rfl⟩) (by decide) (by decide) (by decide) (by decide +kernel) (fun j => hz 24 j (by decide)) (Rm_of hR (Nat.le_of_ble_eq_true rfl) (Nat.le_of_ble_eq_true rfl)) (fun ad1 q1 ag1 e1 => ?_)
  have hq23_1 : ad1 23 = ad0 23 := (ag1 23 (by decide)).trans hq23_0
  have hq6_1 : ad1 6 = ad0 6 := (ag1 6 (by decide)).trans hq6_0
  have hq24_1 : ad1 24 = q1 := e1
  show G θ (1, 120) (qt_Mating_1, ad1) _ _ _ _
  refine G_putR (pc := 9) (k := 23) (t := 24) 1 X hI (dg dt_C_Mating 5 rfl) fc_2 w_165 rfl rfl (Nat.le_of_ble_eq_true rfl) rfl (Or.inr ⟨_, rfl⟩) rfl rfl hq23_1 hq24_1 ?_
  show G θ (1, 120) (qt_Mating_2, ad1) _ _ _ _
  refine G_aload_n (pc := 12) 0 X (dg dt_C_Mating 6 rfl) rfl rfl ?_
  refine G_iconst (pc := 13) 5 X (dg dt_C_Mating 7 rfl) (by decide) ?_
  refine G_newa (pc := 14) (N := 5) X (dg dt_C_Mating 8 rfl) w_58 rfl (Or.inl ⟨rfl, rfl⟩) (by decide) (by decide) (by decide) (by decide +kernel) (fun j => hz 25 j (by decide)) (Rm_of hR (Nat.le_of_ble_eq_true rfl) (Nat.le_of_ble_eq_true rfl)) (fun ad2 q2 ag2 e2 => ?_)
  have hq23_2 : ad2 23 = ad0 23 := (ag2 23 (by decide)).trans hq23_1
  have hq6_2 : ad2 6 = ad0 6 := (ag2 6 (by decide)).trans hq6_1
  have hq25_2 : ad2 25 = q2 := e2
  show G θ (2, 125) (qt_Mating_3, ad2) _ _ _ _
  refine G_putR (pc := 16) (k := 23) (t := 25) 2 X hI (dg dt_C_Mating 9 rfl) fc_2 w_166 rfl rfl (Nat.le_of_ble_eq_true rfl) rfl (Or.inr ⟨_, rfl⟩) rfl rfl hq23_2 hq25_2 ?_
  show G θ (2, 125) (qt_Mating_4, ad2) _ _ _ _
  refine G_aload_n (pc := 19) 0 X (dg dt_C_Mating 10 rfl) rfl rfl ?_
  refine G_new (pc := 20) [some none, some none, some none, none, none] X (dg dt_C_Mating 11 rfl) fc_0 w_162 w_34 w_8 rfl df_0 (by decide +kernel) (fun j => hz 26 j (by decide)) (Rm_of hR (Nat.le_of_ble_eq_true rfl) (Nat.le_of_ble_eq_true rfl)) (fun ad3 q3 ag3 e3 => ?_)
  have hq23_3 : ad3 23 = ad0 23 := (ag3 23 (by decide)).trans hq23_2
  have hq6_3 : ad3 6 = ad0 6 := (ag3 6 (by decide)).trans hq6_2
  have hq26_3 : ad3 26 = q3 := e3
  show G θ (3, 130) (qt_Mating_5, ad3) _ _ _ _
  refine G_dup (pc := 23) X (dg dt_C_Mating 12 rfl) rfl ?_
  refine G_callCN (pc := 24) (b := q3) (S := [.ref (q3), .ref (ad0 23)]) [] nosub X (dg dt_C_Mating 13 rfl) cb_C_Grid w_36 rfl w_163 (fun h9 => absurd h9 (by decide)) (s_C_Grid _ rfl (by decide +kernel) (fun m j hm => hz m j (Nat.le_trans (by decide) hm))) (by show [Value.ref (ad3 26)] = _; rw [hq26_3]) rfl ⟨Nat.le_of_ble_eq_true rfl, Nat.le_of_ble_eq_true rfl⟩ (Nat.le_of_ble_eq_true rfl) (Rm_of hR (Nat.le_of_ble_eq_true rfl) (Nat.le_of_ble_eq_true rfl)) (fun ad4 ag4 => ?_)
  have hq23_4 : ad4 23 = ad0 23 := (ag4 23 (by decide)).trans hq23_3
  have hq6_4 : ad4 6 = ad0 6 := (ag4 6 (by decide)).trans hq6_3
  have hq26_4 : ad4 26 = q3 := (ag4 26 (by decide)).trans hq26_3
  show G θ (6, 165) (qt_Mating_6, ad4) _ _ _ _
  refine G_putR (pc := 27) (k := 23) (t := 26) 3 X hI (dg dt_C_Mating 14 rfl) fc_2 w_167 rfl rfl (Nat.le_of_ble_eq_true rfl) rfl (Or.inl ⟨_, rfl⟩) rfl rfl hq23_4 hq26_4 ?_
  show G θ (6, 165) (qt_Mating_7, ad4) _ _ _ _
  refine G_aload_n (pc := 30) 0 X (dg dt_C_Mating 15 rfl) rfl rfl ?_
  refine G_new (pc := 31) [some none, some none, some none, none, none] X (dg dt_C_Mating 16 rfl) fc_0 w_162 w_34 w_8 rfl df_0 (by decide +kernel) (show ∀ j, (wr (wr σ 26 3 2) 26 4 0) 30 j = 0 from fun j => by rw [wr_ne (by decide), wr_ne (by decide)]; exact hz _ _ (by decide)) (Rm_of hR (Nat.le_of_ble_eq_true rfl) (Nat.le_of_ble_eq_true rfl)) (fun ad5 q5 ag5 e5 => ?_)
  have hq23_5 : ad5 23 = ad0 23 := (ag5 23 (by decide)).trans hq23_4
  have hq6_5 : ad5 6 = ad0 6 := (ag5 6 (by decide)).trans hq6_4
  have hq30_5 : ad5 30 = q5 := e5
  show G θ (7, 170) (qt_Mating_8, ad5) _ _ _ _
  refine G_dup (pc := 34) X (dg dt_C_Mating 17 rfl) rfl ?_
  refine G_callCN (pc := 35) (b := q5) (S := [.ref (q5), .ref (ad0 23)]) [] nosub X (dg dt_C_Mating 18 rfl) cb_C_Grid w_36 rfl w_163 (fun h9 => absurd h9 (by decide)) (s_C_Grid _ rfl (by decide +kernel) (fun m j hm => by have hm : 31 ≤ m := hm; rw [wr_ne (k' := m) (by omega), wr_ne (k' := m) (by omega)]; exact hz m j (by omega))) (by show [Value.ref (ad5 30)] = _; rw [hq30_5]) rfl ⟨Nat.le_of_ble_eq_true rfl, Nat.le_of_ble_eq_true rfl⟩ (Nat.le_of_ble_eq_true rfl) (Rm_of hR (Nat.le_of_ble_eq_true rfl) (Nat.le_of_ble_eq_true rfl)) (fun ad6 ag6 => ?_)
  have hq23_6 : ad6 23 = ad0 23 := (ag6 23 (by decide)).trans hq23_5
  have hq6_6 : ad6 6 = ad0 6 := (ag6 6 (by decide)).trans hq6_5
  have hq30_6 : ad6 30 = q5 := (ag6 30 (by decide)).trans hq30_5
  show G θ (10, 205) (qt_Mating_9, ad6) _ _ _ _
  refine G_putR (pc := 38) (k := 23) (t := 30) 4 X hI (dg dt_C_Mating 19 rfl) fc_2 w_168 rfl rfl (Nat.le_of_ble_eq_true rfl) rfl (Or.inl ⟨_, rfl⟩) rfl rfl hq23_6 hq30_6 ?_
  show G θ (10, 205) (qt_Mating_10, ad6) _ _ _ _
  refine G_aload_n (pc := 41) 0 X (dg dt_C_Mating 20 rfl) rfl rfl ?_
  refine G_iconst (pc := 42) 0 X (dg dt_C_Mating 21 rfl) (by decide) ?_
  refine G_putQ (pc := 43) (k := 23) 5 X (dg dt_C_Mating 22 rfl) fc_2 w_169 rfl (Nat.le_of_ble_eq_true rfl) rfl rfl rfl rfl hq23_6 ?_
  refine G_aload_n (pc := 46) 0 X (dg dt_C_Mating 23 rfl) rfl rfl ?_
  refine G_iconst (pc := 47) 0 X (dg dt_C_Mating 24 rfl) (by decide) ?_
  refine G_putQ (pc := 48) (k := 23) 6 X (dg dt_C_Mating 25 rfl) fc_2 w_170 rfl (Nat.le_of_ble_eq_true rfl) rfl rfl rfl rfl hq23_6 ?_
  refine G_aload_n (pc := 51) 0 X (dg dt_C_Mating 26 rfl) rfl rfl ?_
  refine G_aload_n (pc := 52) 1 X (dg dt_C_Mating 27 rfl) rfl rfl ?_
  refine G_putR (pc := 53) (k := 23) (t := 6) 0 X hI (dg dt_C_Mating 28 rfl) fc_2 w_164 rfl rfl (Nat.le_of_ble_eq_true rfl) rfl (Or.inl ⟨_, rfl⟩) rfl rfl hq23_6 hq6_6 ?_
  show G θ (10, 205) (qt_Mating_11, ad6) _ _ _ _
  exact G_cret (pc := 56) X hq (dg dt_C_Mating 29 rfl) (fun i hi => ((ag6 i (Nat.lt_of_lt_of_le hi (by decide))).trans ((ag5 i (Nat.lt_of_lt_of_le hi (by decide))).trans ((ag4 i (Nat.lt_of_lt_of_le hi (by decide))).trans ((ag3 i (Nat.lt_of_lt_of_le hi (by decide))).trans ((ag2 i (Nat.lt_of_lt_of_le hi (by decide))).trans (ag1 i (Nat.lt_of_lt_of_le hi (by decide)))))))))
set_option maxRecDepth 100000 in
set_option maxHeartbeats 8000000 in
theorem s_C_Q (l : Launch) {σ : St} (hz : ∀ m j, 1 ≤ m → σ m j = 0) {σm : St} (hm : f_Maps_init (wr (wr σ 2 3 2) 2 4 0) = some ((), σm)) (hzm : ∀ m j, 10 ≤ m → σm m j = 0) : RtC true l [] yX11_init cX11_init 2 3 61 81 2445 qt_Q_0 (fun ad => [.ref (ad 0)]) σ qt_Q_59 (wr (wr (wr (wr (wr (wr (wr (wr (wr (wr (wr (wr (wr (wr (wr (wr (wr (wr (wr (wr (wr (wr (wr (wr (wr (wr (wr (wr (wr (wr (wr (wr (wr (wr (wr σm 10 3 0) 16 2 0) 18 5 0) 18 6 0) 26 3 2) 26 4 0) 30 3 2) 30 4 0) 23 5 0) 23 6 0) 0 8 0) 34 3 2) 34 4 0) 38 3 2) 38 4 0) 42 3 2) 42 4 0) 46 3 2) 46 4 0) 50 3 2) 50 4 0) 54 3 2) 54 4 0) 58 3 2) 58 4 0) 62 3 2) 62 4 0) 66 3 2) 66 4 0) 70 3 2) 70 4 0) 74 3 2) 74 4 0) 78 3 2) 78 4 0) := by
  refine RtC.intro (L := (fun ad => [some (.ref (ad 0)), none])) (by decide +kernel) rfl (fun _ => Nat.le_of_ble_eq_true rfl) (fun _ => rfl) (fun ad0 θ hl X hI hR hq hE => ?_)
  subst hl
  have hq0_0 : ad0 0 = ad0 0 := rfl
  refine G_aload_n (pc := 0) 0 X (dg dt_C_Q 0 rfl) rfl rfl ?_
  refine G_objInit (pc := 1) X (dg dt_C_Q 1 rfl) w_29 w_30 w_31 (Nat.le_of_ble_eq_true rfl) (Nat.le_of_ble_eq_true rfl) ?_
  refine G_aload_n (pc := 4) 0 X (dg dt_C_Q 2 rfl) rfl rfl ?_
  refine G_bipush (pc := 5) 12 X (dg dt_C_Q 3 rfl) (by decide) ?_
  refine G_newq (pc := 7) (N := 12) X (dg dt_C_Q 4 rfl) w_32 (hE rfl) (by decide) (by decide) (by decide) (by decide +kernel) (Rm_of hR (Nat.le_of_ble_eq_true rfl) (Nat.le_of_ble_eq_true rfl)) (fun ad1 q1 ag1 e1 => ?_)
  have hq0_1 : ad1 0 = ad0 0 := (ag1 0 (by decide)).trans hq0_0
  have hq1_1 : ad1 1 = q1 := e1
  show G θ (1, 12) (qt_Q_1, ad1) _ _ _ _
  refine G_putR (pc := 10) (k := 0) (t := 1) 0 X hI (dg dt_C_Q 5 rfl) fc_7 w_186 rfl rfl (Nat.le_of_ble_eq_true rfl) rfl (Or.inr ⟨_, rfl⟩) rfl rfl hq0_1 hq1_1 ?_
  show G θ (1, 12) (qt_Q_2, ad1) _ _ _ _
  refine G_aload_n (pc := 13) 0 X (dg dt_C_Q 6 rfl) rfl rfl ?_
  refine G_new (pc := 14) [some none, some none, some none, none, none] X (dg dt_C_Q 7 rfl) fc_0 w_32 w_34 w_8 rfl df_0 (by decide +kernel) (fun j => hz 2 j (by decide)) (Rm_of hR (Nat.le_of_ble_eq_true rfl) (Nat.le_of_ble_eq_true rfl)) (fun ad2 q2 ag2 e2 => ?_)
  have hq0_2 : ad2 0 = ad0 0 := (ag2 0 (by decide)).trans hq0_1
  have hq2_2 : ad2 2 = q2 := e2
  show G θ (2, 17) (qt_Q_3, ad2) _ _ _ _
  refine G_dup (pc := 17) X (dg dt_C_Q 8 rfl) rfl ?_
  refine G_callCN (pc := 18) (b := q2) (S := [.ref (q2), .ref (ad0 0)]) [] nosub X (dg dt_C_Q 9 rfl) cb_C_Grid w_36 rfl w_35 (fun h9 => absurd h9 (by decide)) (s_C_Grid _ rfl (by decide +kernel) (fun m j hm => hz m j (Nat.le_trans (by decide) hm))) (by show [Value.ref (ad2 2)] = _; rw [hq2_2]) rfl ⟨Nat.le_of_ble_eq_true rfl, Nat.le_of_ble_eq_true rfl⟩ (Nat.le_of_ble_eq_true rfl) (Rm_of hR (Nat.le_of_ble_eq_true rfl) (Nat.le_of_ble_eq_true rfl)) (fun ad3 ag3 => ?_)
  have hq0_3 : ad3 0 = ad0 0 := (ag3 0 (by decide)).trans hq0_2
  have hq2_3 : ad3 2 = q2 := (ag3 2 (by decide)).trans hq2_2
  show G θ (5, 52) (qt_Q_4, ad3) _ _ _ _
  refine G_putR (pc := 21) (k := 0) (t := 2) 1 X hI (dg dt_C_Q 10 rfl) fc_7 w_187 rfl rfl (Nat.le_of_ble_eq_true rfl) rfl (Or.inl ⟨_, rfl⟩) rfl rfl hq0_3 hq2_3 ?_
  show G θ (5, 52) (qt_Q_5, ad3) _ _ _ _
  refine G_aload_n (pc := 24) 0 X (dg dt_C_Q 11 rfl) rfl rfl ?_
  refine G_new (pc := 25) [some none, some none, some none] X (dg dt_C_Q 12 rfl) fc_1 w_59 w_60 w_9 rfl df_1 (by decide +kernel) (show ∀ j, (wr (wr σ 2 3 2) 2 4 0) 6 j = 0 from fun j => by rw [wr_ne (by decide), wr_ne (by decide)]; exact hz _ _ (by decide)) (Rm_of hR (Nat.le_of_ble_eq_true rfl) (Nat.le_of_ble_eq_true rfl)) (fun ad4 q4 ag4 e4 => ?_)
  have hq0_4 : ad4 0 = ad0 0 := (ag4 0 (by decide)).trans hq0_3
  have hq6_4 : ad4 6 = q4 := e4
  show G θ (6, 55) (qt_Q_6, ad4) _ _ _ _
  refine G_dup (pc := 28) X (dg dt_C_Q 13 rfl) rfl ?_
  refine G_callC (pc := 29) (b := q4) (S := [.ref (q4), .ref (ad0 0)]) [] nosub X (dg dt_C_Q 14 rfl) cb_C_Maps w_62 rfl w_61 (fun h9 => absurd h9 (by decide)) (s_C_Maps _ (fun m j hm => by have hm : 7 ≤ m := hm; rw [wr_ne (k' := m) (by omega), wr_ne (k' := m) (by omega)]; exact hz m j (by omega)) hm) (by show [Value.ref (ad4 6)] = _; rw [hq6_4]) rfl ⟨Nat.le_of_ble_eq_true rfl, Nat.le_of_ble_eq_true rfl⟩ (Nat.le_of_ble_eq_true rfl) (Rm_of hR (Nat.le_of_ble_eq_true rfl) (Nat.le_of_ble_eq_true rfl)) (fun ad5 ag5 => ?_)
  have hq0_5 : ad5 0 = ad0 0 := (ag5 0 (by decide)).trans hq0_4
  have hq6_5 : ad5 6 = q4 := (ag5 6 (by decide)).trans hq6_4
  show G θ (9, 780) (qt_Q_7, ad5) _ _ _ _
  refine G_putR (pc := 32) (k := 0) (t := 6) 2 X hI (dg dt_C_Q 15 rfl) fc_7 w_188 rfl rfl (Nat.le_of_ble_eq_true rfl) rfl (Or.inl ⟨_, rfl⟩) rfl rfl hq0_5 hq6_5 ?_
  show G θ (9, 780) (qt_Q_8, ad5) _ _ _ _
  refine G_aload_n (pc := 35) 0 X (dg dt_C_Q 16 rfl) rfl rfl ?_
  refine G_new (pc := 36) [some none, some none, some none, none] X (dg dt_C_Q 17 rfl) fc_5 w_79 w_80 w_10 rfl df_5 (by decide +kernel) (fun j => hzm 10 j (by decide)) (Rm_of hR (Nat.le_of_ble_eq_true rfl) (Nat.le_of_ble_eq_true rfl)) (fun ad6 q6 ag6 e6 => ?_)
  have hq0_6 : ad6 0 = ad0 0 := (ag6 0 (by decide)).trans hq0_5
  have hq10_6 : ad6 10 = q6 := e6
  show G θ (10, 784) (qt_Q_9, ad6) _ _ _ _
  refine G_dup (pc := 39) X (dg dt_C_Q 18 rfl) rfl ?_
  refine G_callCN (pc := 40) (b := q6) (S := [.ref (q6), .ref (ad0 0)]) [] nosub X (dg dt_C_Q 19 rfl) cb_C_Tape w_82 rfl w_81 (fun h9 => absurd h9 (by decide)) (s_C_Tape _ (fun m j hm => hzm m j (Nat.le_trans (by decide) hm))) (by show [Value.ref (ad6 10)] = _; rw [hq10_6]) rfl ⟨Nat.le_of_ble_eq_true rfl, Nat.le_of_ble_eq_true rfl⟩ (Nat.le_of_ble_eq_true rfl) (Rm_of hR (Nat.le_of_ble_eq_true rfl) (Nat.le_of_ble_eq_true rfl)) (fun ad7 ag7 => ?_)
  have hq0_7 : ad7 0 = ad0 0 := (ag7 0 (by decide)).trans hq0_6
  have hq10_7 : ad7 10 = q6 := (ag7 10 (by decide)).trans hq10_6
  show G θ (13, 905) (qt_Q_10, ad7) _ _ _ _
  refine G_putR (pc := 43) (k := 0) (t := 10) 3 X hI (dg dt_C_Q 20 rfl) fc_7 w_189 rfl rfl (Nat.le_of_ble_eq_true rfl) rfl (Or.inl ⟨_, rfl⟩) rfl rfl hq0_7 hq10_7 ?_
  show G θ (13, 905) (qt_Q_11, ad7) _ _ _ _
  refine G_aload_n (pc := 46) 0 X (dg dt_C_Q 21 rfl) rfl rfl ?_
  refine G_new (pc := 47) [some none, some none] X (dg dt_C_Q 22 rfl) fc_3 w_98 w_99 w_11 rfl df_3 (by decide +kernel) (show ∀ j, (wr σm 10 3 0) 14 j = 0 from fun j => by rw [wr_ne (by decide)]; exact hzm _ _ (by decide)) (Rm_of hR (Nat.le_of_ble_eq_true rfl) (Nat.le_of_ble_eq_true rfl)) (fun ad8 q8 ag8 e8 => ?_)
  have hq0_8 : ad8 0 = ad0 0 := (ag8 0 (by decide)).trans hq0_7
  have hq14_8 : ad8 14 = q8 := e8
  show G θ (14, 907) (qt_Q_12, ad8) _ _ _ _
  refine G_dup (pc := 50) X (dg dt_C_Q 23 rfl) rfl ?_
  refine G_aload_n (pc := 51) 0 X (dg dt_C_Q 24 rfl) rfl rfl ?_
  refine G_getRQ (pc := 52) (k := 0) 2 X (dg dt_C_Q 25 rfl) fc_7 w_188 rfl (Nat.le_of_ble_eq_true rfl) rfl rfl hq0_8 ?_
  have hq6_8 : ad8 6 = ad8 6 := rfl
  refine G_callC (pc := 55) (b := q8) (S := [.ref (q8), .ref (ad0 0)]) [.ref (ad8 6)] nosub X (dg dt_C_Q 26 rfl) cb_C_RowFilling w_101 rfl w_100 (fun h9 => absurd h9 (by decide)) (s_C_RowFilling _ (fun m j hm => by have hm : 15 ≤ m := hm; rw [wr_ne (k' := m) (by omega)]; exact hzm m j (by omega))) (by show [Value.ref (ad8 14), Value.ref (ad8 6)] = _; rw [hq14_8, hq6_8]) rfl ⟨Nat.le_of_ble_eq_true rfl, Nat.le_of_ble_eq_true rfl⟩ (Nat.le_of_ble_eq_true rfl) (Rm_of hR (Nat.le_of_ble_eq_true rfl) (Nat.le_of_ble_eq_true rfl)) (fun ad9 ag9 => ?_)
  have hq0_9 : ad9 0 = ad0 0 := (ag9 0 (by decide)).trans hq0_8
  have hq14_9 : ad9 14 = q8 := (ag9 14 (by decide)).trans hq14_8
  have hq6_9 : ad9 6 = ad8 6 := (ag9 6 (by decide)).trans hq6_8
  show G θ (15, 912) (qt_Q_13, ad9) _ _ _ _
  refine G_putR (pc := 58) (k := 0) (t := 14) 4 X hI (dg dt_C_Q 27 rfl) fc_7 w_190 rfl rfl (Nat.le_of_ble_eq_true rfl) rfl (Or.inl ⟨_, rfl⟩) rfl rfl hq0_9 hq14_9 ?_
  show G θ (15, 912) (qt_Q_14, ad9) _ _ _ _
  refine G_aload_n (pc := 61) 0 X (dg dt_C_Q 28 rfl) rfl rfl ?_
  refine G_new (pc := 62) [some none, some none, none] X (dg dt_C_Q 29 rfl) fc_6 w_111 w_112 w_12 rfl df_6 (by decide +kernel) (show ∀ j, (wr σm 10 3 0) 16 j = 0 from fun j => by rw [wr_ne (by decide)]; exact hzm _ _ (by decide)) (Rm_of hR (Nat.le_of_ble_eq_true rfl) (Nat.le_of_ble_eq_true rfl)) (fun ad10 q10 ag10 e10 => ?_)
  have hq0_10 : ad10 0 = ad0 0 := (ag10 0 (by decide)).trans hq0_9
  have hq6_10 : ad10 6 = ad8 6 := (ag10 6 (by decide)).trans hq6_9
  have hq16_10 : ad10 16 = q10 := e10
  show G θ (16, 915) (qt_Q_15, ad10) _ _ _ _
  refine G_dup (pc := 65) X (dg dt_C_Q 30 rfl) rfl ?_
  refine G_aload_n (pc := 66) 0 X (dg dt_C_Q 31 rfl) rfl rfl ?_
  refine G_getRQ (pc := 67) (k := 0) 2 X (dg dt_C_Q 32 rfl) fc_7 w_188 rfl (Nat.le_of_ble_eq_true rfl) rfl rfl hq0_10 ?_
  rw [hq6_10]
  refine G_callC (pc := 70) (b := q10) (S := [.ref (q10), .ref (ad0 0)]) [.ref (ad8 6)] nosub X (dg dt_C_Q 33 rfl) cb_C_Telling w_114 rfl w_113 (fun h9 => absurd h9 (by decide)) (s_C_Telling _ (fun m j hm => by have hm : 17 ≤ m := hm; rw [wr_ne (k' := m) (by omega)]; exact hzm m j (by omega))) (by show [Value.ref (ad10 16), Value.ref (ad10 6)] = _; rw [hq16_10, hq6_10]) rfl ⟨Nat.le_of_ble_eq_true rfl, Nat.le_of_ble_eq_true rfl⟩ (Nat.le_of_ble_eq_true rfl) (Rm_of hR (Nat.le_of_ble_eq_true rfl) (Nat.le_of_ble_eq_true rfl)) (fun ad11 ag11 => ?_)
  have hq0_11 : ad11 0 = ad0 0 := (ag11 0 (by decide)).trans hq0_10
  have hq6_11 : ad11 6 = ad8 6 := (ag11 6 (by decide)).trans hq6_10
  have hq16_11 : ad11 16 = q10 := (ag11 16 (by decide)).trans hq16_10
  show G θ (17, 1491) (qt_Q_16, ad11) _ _ _ _
  refine G_putR (pc := 73) (k := 0) (t := 16) 5 X hI (dg dt_C_Q 34 rfl) fc_7 w_191 rfl rfl (Nat.le_of_ble_eq_true rfl) rfl (Or.inl ⟨_, rfl⟩) rfl rfl hq0_11 hq16_11 ?_
  show G θ (17, 1491) (qt_Q_17, ad11) _ _ _ _
  refine G_aload_n (pc := 76) 0 X (dg dt_C_Q 35 rfl) rfl rfl ?_
  refine G_new (pc := 77) [some none, some none, some none, some none, some none, none, none] X (dg dt_C_Q 36 rfl) fc_4 w_127 w_128 w_13 rfl df_4 (by decide +kernel) (show ∀ j, (wr (wr σm 10 3 0) 16 2 0) 18 j = 0 from fun j => by rw [wr_ne (by decide), wr_ne (by decide)]; exact hzm _ _ (by decide)) (Rm_of hR (Nat.le_of_ble_eq_true rfl) (Nat.le_of_ble_eq_true rfl)) (fun ad12 q12 ag12 e12 => ?_)
  have hq0_12 : ad12 0 = ad0 0 := (ag12 0 (by decide)).trans hq0_11
  have hq6_12 : ad12 6 = ad8 6 := (ag12 6 (by decide)).trans hq6_11
  have hq18_12 : ad12 18 = q12 := e12
  show G θ (18, 1498) (qt_Q_18, ad12) _ _ _ _
  refine G_dup (pc := 80) X (dg dt_C_Q 37 rfl) rfl ?_
  refine G_aload_n (pc := 81) 0 X (dg dt_C_Q 38 rfl) rfl rfl ?_
  refine G_getRQ (pc := 82) (k := 0) 2 X (dg dt_C_Q 39 rfl) fc_7 w_188 rfl (Nat.le_of_ble_eq_true rfl) rfl rfl hq0_12 ?_
  rw [hq6_12]
  refine G_callC (pc := 85) (b := q12) (S := [.ref (q12), .ref (ad0 0)]) [.ref (ad8 6)] nosub X (dg dt_C_Q 40 rfl) cb_C_Symmetry w_130 rfl w_129 (fun h9 => absurd h9 (by decide)) (s_C_Symmetry _ (fun m j hm => by have hm : 19 ≤ m := hm; rw [wr_ne (k' := m) (by omega), wr_ne (k' := m) (by omega)]; exact hzm m j (by omega))) (by show [Value.ref (ad12 18), Value.ref (ad12 6)] = _; rw [hq18_12, hq6_12]) rfl ⟨Nat.le_of_ble_eq_true rfl, Nat.le_of_ble_eq_true rfl⟩ (Nat.le_of_ble_eq_true rfl) (Rm_of hR (Nat.le_of_ble_eq_true rfl) (Nat.le_of_ble_eq_true rfl)) (fun ad13 ag13 => ?_)
  have hq0_13 : ad13 0 = ad0 0 := (ag13 0 (by decide)).trans hq0_12
  have hq6_13 : ad13 6 = ad8 6 := (ag13 6 (by decide)).trans hq6_12
  have hq18_13 : ad13 18 = q12 := (ag13 18 (by decide)).trans hq18_12
  show G θ (22, 1753) (qt_Q_19, ad13) _ _ _ _
  refine G_putR (pc := 88) (k := 0) (t := 18) 6 X hI (dg dt_C_Q 41 rfl) fc_7 w_192 rfl rfl (Nat.le_of_ble_eq_true rfl) rfl (Or.inl ⟨_, rfl⟩) rfl rfl hq0_13 hq18_13 ?_
  show G θ (22, 1753) (qt_Q_20, ad13) _ _ _ _
  refine G_aload_n (pc := 91) 0 X (dg dt_C_Q 42 rfl) rfl rfl ?_
  refine G_new (pc := 92) [some none, some none, some none, some none, some none, none, none] X (dg dt_C_Q 43 rfl) fc_2 w_156 w_157 w_14 rfl df_2 (by decide +kernel) (show ∀ j, (wr (wr (wr (wr σm 10 3 0) 16 2 0) 18 5 0) 18 6 0) 23 j = 0 from fun j => by rw [wr_ne (by decide), wr_ne (by decide), wr_ne (by decide), wr_ne (by decide)]; exact hzm _ _ (by decide)) (Rm_of hR (Nat.le_of_ble_eq_true rfl) (Nat.le_of_ble_eq_true rfl)) (fun ad14 q14 ag14 e14 => ?_)
  have hq0_14 : ad14 0 = ad0 0 := (ag14 0 (by decide)).trans hq0_13
  have hq6_14 : ad14 6 = ad8 6 := (ag14 6 (by decide)).trans hq6_13
  have hq23_14 : ad14 23 = q14 := e14
  show G θ (23, 1760) (qt_Q_21, ad14) _ _ _ _
  refine G_dup (pc := 95) X (dg dt_C_Q 44 rfl) rfl ?_
  refine G_aload_n (pc := 96) 0 X (dg dt_C_Q 45 rfl) rfl rfl ?_
  refine G_getRQ (pc := 97) (k := 0) 2 X (dg dt_C_Q 46 rfl) fc_7 w_188 rfl (Nat.le_of_ble_eq_true rfl) rfl rfl hq0_14 ?_
  rw [hq6_14]
  refine G_callC (pc := 100) (b := q14) (S := [.ref (q14), .ref (ad0 0)]) [.ref (ad8 6)] nosub X (dg dt_C_Q 47 rfl) cb_C_Mating w_159 rfl w_158 (fun h9 => absurd h9 (by decide)) (s_C_Mating _ (fun m j hm => by have hm : 24 ≤ m := hm; rw [wr_ne (k' := m) (by omega), wr_ne (k' := m) (by omega), wr_ne (k' := m) (by omega), wr_ne (k' := m) (by omega)]; exact hzm m j (by omega))) (by show [Value.ref (ad14 23), Value.ref (ad14 6)] = _; rw [hq23_14, hq6_14]) rfl ⟨Nat.le_of_ble_eq_true rfl, Nat.le_of_ble_eq_true rfl⟩ (Nat.le_of_ble_eq_true rfl) (Rm_of hR (Nat.le_of_ble_eq_true rfl) (Nat.le_of_ble_eq_true rfl)) (fun ad15 ag15 => ?_)
  have hq0_15 : ad15 0 = ad0 0 := (ag15 0 (by decide)).trans hq0_14
  have hq6_15 : ad15 6 = ad8 6 := (ag15 6 (by decide)).trans hq6_14
  have hq23_15 : ad15 23 = q14 := (ag15 23 (by decide)).trans hq23_14
  show G θ (33, 1965) (qt_Q_22, ad15) _ _ _ _
  refine G_putR (pc := 103) (k := 0) (t := 23) 7 X hI (dg dt_C_Q 48 rfl) fc_7 w_193 rfl rfl (Nat.le_of_ble_eq_true rfl) rfl (Or.inl ⟨_, rfl⟩) rfl rfl hq0_15 hq23_15 ?_
  show G θ (33, 1965) (qt_Q_23, ad15) _ _ _ _
  refine G_aload_n (pc := 106) 0 X (dg dt_C_Q 49 rfl) rfl rfl ?_
  refine G_iconst (pc := 107) 0 X (dg dt_C_Q 50 rfl) (by decide) ?_
  refine G_putQ (pc := 108) (k := 0) 8 X (dg dt_C_Q 51 rfl) fc_7 w_194 rfl (Nat.le_of_ble_eq_true rfl) rfl rfl rfl rfl hq0_15 ?_
  refine G_iconst (pc := 111) 0 X (dg dt_C_Q 52 rfl) (by decide) ?_
  refine G_istore_n (pc := 112) 1 X (dg dt_C_Q 53 rfl) rfl (Nat.le_of_ble_eq_true rfl) rfl ?_
  refine G_iload_n (pc := 113) 1 X (dg dt_C_Q 54 rfl) rfl rfl ?_
  refine G_aload_n (pc := 114) 0 X (dg dt_C_Q 55 rfl) rfl rfl ?_
  refine G_getRQ (pc := 115) (k := 0) 0 X (dg dt_C_Q 56 rfl) fc_7 w_186 rfl (Nat.le_of_ble_eq_true rfl) rfl rfl hq0_15 ?_
  have hq1_15 : ad15 1 = ad15 1 := rfl
  refine G_alenQQ (pc := 118) 12 X (dg dt_C_Q 57 rfl) (k := 1) rfl (by decide) hq1_15 ?_
  refine G_icmp_ge (pc := 119) (a := 1) (b := 0) (r := 0) 141 X (dg dt_C_Q 58 rfl) (by decide) (by decide) (fun h => absurd h (by decide)) (fun _ => ?_)
  refine G_aload_n (pc := 122) 0 X (dg dt_C_Q 59 rfl) rfl rfl ?_
  refine G_getRQ (pc := 123) (k := 0) 0 X (dg dt_C_Q 60 rfl) fc_7 w_186 rfl (Nat.le_of_ble_eq_true rfl) rfl rfl hq0_15 ?_
  rw [hq1_15]
  refine G_iload_n (pc := 126) 1 X (dg dt_C_Q 61 rfl) rfl rfl ?_
  refine G_new (pc := 127) [some none, some none, some none, none, none] X (dg dt_C_Q 62 rfl) fc_0 w_32 w_34 w_8 rfl df_0 (by decide +kernel) (show ∀ j, (wr (wr (wr (wr (wr (wr (wr (wr (wr (wr (wr σm 10 3 0) 16 2 0) 18 5 0) 18 6 0) 26 3 2) 26 4 0) 30 3 2) 30 4 0) 23 5 0) 23 6 0) 0 8 0) 34 j = 0 from fun j => by rw [wr_ne (by decide), wr_ne (by decide), wr_ne (by decide), wr_ne (by decide), wr_ne (by decide), wr_ne (by decide), wr_ne (by decide), wr_ne (by decide), wr_ne (by decide), wr_ne (by decide), wr_ne (by decide)]; exact hzm _ _ (by decide)) (Rm_of hR (Nat.le_of_ble_eq_true rfl) (Nat.le_of_ble_eq_true rfl)) (fun ad16 q16 ag16 e16 => ?_)
  have hq0_16 : ad16 0 = ad0 0 := (ag16 0 (by decide)).trans hq0_15
  have hq6_16 : ad16 6 = ad8 6 := (ag16 6 (by decide)).trans hq6_15
  have hq1_16 : ad16 1 = ad15 1 := (ag16 1 (by decide)).trans hq1_15
  have hq34_16 : ad16 34 = q16 := e16
  show G θ (34, 1970) (qt_Q_24, ad16) _ _ _ _
  refine G_dup (pc := 130) X (dg dt_C_Q 63 rfl) rfl ?_
  refine G_callCN (pc := 131) (b := q16) (S := [.ref (q16), .int 0, .ref (ad15 1)]) [] nosub X (dg dt_C_Q 64 rfl) cb_C_Grid w_36 rfl w_35 (fun h9 => absurd h9 (by decide)) (s_C_Grid _ rfl (by decide +kernel) (fun m j hm => by have hm : 35 ≤ m := hm; rw [wr_ne (k' := m) (by omega), wr_ne (k' := m) (by omega), wr_ne (k' := m) (by omega), wr_ne (k' := m) (by omega), wr_ne (k' := m) (by omega), wr_ne (k' := m) (by omega), wr_ne (k' := m) (by omega), wr_ne (k' := m) (by omega), wr_ne (k' := m) (by omega), wr_ne (k' := m) (by omega), wr_ne (k' := m) (by omega)]; exact hzm m j (by omega))) (by show [Value.ref (ad16 34)] = _; rw [hq34_16]) rfl ⟨Nat.le_of_ble_eq_true rfl, Nat.le_of_ble_eq_true rfl⟩ (Nat.le_of_ble_eq_true rfl) (Rm_of hR (Nat.le_of_ble_eq_true rfl) (Nat.le_of_ble_eq_true rfl)) (fun ad17 ag17 => ?_)
  have hq0_17 : ad17 0 = ad0 0 := (ag17 0 (by decide)).trans hq0_16
  have hq6_17 : ad17 6 = ad8 6 := (ag17 6 (by decide)).trans hq6_16
  have hq1_17 : ad17 1 = ad15 1 := (ag17 1 (by decide)).trans hq1_16
  have hq34_17 : ad17 34 = q16 := (ag17 34 (by decide)).trans hq34_16
  show G θ (37, 2005) (qt_Q_25, ad17) _ _ _ _
  refine G_astq (pc := 134) (k := 1) (t := 34) X (dg dt_C_Q 65 rfl) rfl (by decide) rfl hq1_17 hq34_17 ?_
  show G θ (37, 2005) (qt_Q_26, ad17) _ _ _ _
  refine G_iinc (pc := 135) 1 X (dg dt_C_Q 66 rfl) rfl (Nat.le_of_ble_eq_true rfl) rfl (by decide) ?_
  refine G_goto (pc := 138) 113 X (dg dt_C_Q 67 rfl) (by decide) ?_
  refine G_iload_n (pc := 113) 1 X (dg dt_C_Q 54 rfl) rfl rfl ?_
  refine G_aload_n (pc := 114) 0 X (dg dt_C_Q 55 rfl) rfl rfl ?_
  refine G_getRQ (pc := 115) (k := 0) 0 X (dg dt_C_Q 56 rfl) fc_7 w_186 rfl (Nat.le_of_ble_eq_true rfl) rfl rfl hq0_17 ?_
  have hq1_17 : ad17 1 = ad17 1 := rfl
  refine G_alenQQ (pc := 118) 12 X (dg dt_C_Q 57 rfl) (k := 1) rfl (by decide) hq1_17 ?_
  refine G_icmp_ge (pc := 119) (a := 1) (b := 0) (r := 0) 141 X (dg dt_C_Q 58 rfl) (by decide) (by decide) (fun h => absurd h (by decide)) (fun _ => ?_)
  refine G_aload_n (pc := 122) 0 X (dg dt_C_Q 59 rfl) rfl rfl ?_
  refine G_getRQ (pc := 123) (k := 0) 0 X (dg dt_C_Q 60 rfl) fc_7 w_186 rfl (Nat.le_of_ble_eq_true rfl) rfl rfl hq0_17 ?_
  rw [hq1_17]
  refine G_iload_n (pc := 126) 1 X (dg dt_C_Q 61 rfl) rfl rfl ?_
  refine G_new (pc := 127) [some none, some none, some none, none, none] X (dg dt_C_Q 62 rfl) fc_0 w_32 w_34 w_8 rfl df_0 (by decide +kernel) (show ∀ j, (wr (wr (wr (wr (wr (wr (wr (wr (wr (wr (wr (wr (wr σm 10 3 0) 16 2 0) 18 5 0) 18 6 0) 26 3 2) 26 4 0) 30 3 2) 30 4 0) 23 5 0) 23 6 0) 0 8 0) 34 3 2) 34 4 0) 38 j = 0 from fun j => by rw [wr_ne (by decide), wr_ne (by decide), wr_ne (by decide), wr_ne (by decide), wr_ne (by decide), wr_ne (by decide), wr_ne (by decide), wr_ne (by decide), wr_ne (by decide), wr_ne (by decide), wr_ne (by decide), wr_ne (by decide), wr_ne (by decide)]; exact hzm _ _ (by decide)) (Rm_of hR (Nat.le_of_ble_eq_true rfl) (Nat.le_of_ble_eq_true rfl)) (fun ad18 q18 ag18 e18 => ?_)
  have hq0_18 : ad18 0 = ad0 0 := (ag18 0 (by decide)).trans hq0_17
  have hq6_18 : ad18 6 = ad8 6 := (ag18 6 (by decide)).trans hq6_17
  have hq1_18 : ad18 1 = ad17 1 := (ag18 1 (by decide)).trans hq1_17
  have hq38_18 : ad18 38 = q18 := e18
  show G θ (38, 2010) (qt_Q_27, ad18) _ _ _ _
  refine G_dup (pc := 130) X (dg dt_C_Q 63 rfl) rfl ?_
  refine G_callCN (pc := 131) (b := q18) (S := [.ref (q18), .int 1, .ref (ad17 1)]) [] nosub X (dg dt_C_Q 64 rfl) cb_C_Grid w_36 rfl w_35 (fun h9 => absurd h9 (by decide)) (s_C_Grid _ rfl (by decide +kernel) (fun m j hm => by have hm : 39 ≤ m := hm; rw [wr_ne (k' := m) (by omega), wr_ne (k' := m) (by omega), wr_ne (k' := m) (by omega), wr_ne (k' := m) (by omega), wr_ne (k' := m) (by omega), wr_ne (k' := m) (by omega), wr_ne (k' := m) (by omega), wr_ne (k' := m) (by omega), wr_ne (k' := m) (by omega), wr_ne (k' := m) (by omega), wr_ne (k' := m) (by omega), wr_ne (k' := m) (by omega), wr_ne (k' := m) (by omega)]; exact hzm m j (by omega))) (by show [Value.ref (ad18 38)] = _; rw [hq38_18]) rfl ⟨Nat.le_of_ble_eq_true rfl, Nat.le_of_ble_eq_true rfl⟩ (Nat.le_of_ble_eq_true rfl) (Rm_of hR (Nat.le_of_ble_eq_true rfl) (Nat.le_of_ble_eq_true rfl)) (fun ad19 ag19 => ?_)
  have hq0_19 : ad19 0 = ad0 0 := (ag19 0 (by decide)).trans hq0_18
  have hq6_19 : ad19 6 = ad8 6 := (ag19 6 (by decide)).trans hq6_18
  have hq1_19 : ad19 1 = ad17 1 := (ag19 1 (by decide)).trans hq1_18
  have hq38_19 : ad19 38 = q18 := (ag19 38 (by decide)).trans hq38_18
  show G θ (41, 2045) (qt_Q_28, ad19) _ _ _ _
  refine G_astq (pc := 134) (k := 1) (t := 38) X (dg dt_C_Q 65 rfl) rfl (by decide) rfl hq1_19 hq38_19 ?_
  show G θ (41, 2045) (qt_Q_29, ad19) _ _ _ _
  refine G_iinc (pc := 135) 2 X (dg dt_C_Q 66 rfl) rfl (Nat.le_of_ble_eq_true rfl) rfl (by decide) ?_
  refine G_goto (pc := 138) 113 X (dg dt_C_Q 67 rfl) (by decide) ?_
  refine G_iload_n (pc := 113) 1 X (dg dt_C_Q 54 rfl) rfl rfl ?_
  refine G_aload_n (pc := 114) 0 X (dg dt_C_Q 55 rfl) rfl rfl ?_
  refine G_getRQ (pc := 115) (k := 0) 0 X (dg dt_C_Q 56 rfl) fc_7 w_186 rfl (Nat.le_of_ble_eq_true rfl) rfl rfl hq0_19 ?_
  have hq1_19 : ad19 1 = ad19 1 := rfl
  refine G_alenQQ (pc := 118) 12 X (dg dt_C_Q 57 rfl) (k := 1) rfl (by decide) hq1_19 ?_
  refine G_icmp_ge (pc := 119) (a := 1) (b := 0) (r := 0) 141 X (dg dt_C_Q 58 rfl) (by decide) (by decide) (fun h => absurd h (by decide)) (fun _ => ?_)
  refine G_aload_n (pc := 122) 0 X (dg dt_C_Q 59 rfl) rfl rfl ?_
  refine G_getRQ (pc := 123) (k := 0) 0 X (dg dt_C_Q 60 rfl) fc_7 w_186 rfl (Nat.le_of_ble_eq_true rfl) rfl rfl hq0_19 ?_
  rw [hq1_19]
  refine G_iload_n (pc := 126) 1 X (dg dt_C_Q 61 rfl) rfl rfl ?_
  refine G_new (pc := 127) [some none, some none, some none, none, none] X (dg dt_C_Q 62 rfl) fc_0 w_32 w_34 w_8 rfl df_0 (by decide +kernel) (show ∀ j, (wr (wr (wr (wr (wr (wr (wr (wr (wr (wr (wr (wr (wr (wr (wr σm 10 3 0) 16 2 0) 18 5 0) 18 6 0) 26 3 2) 26 4 0) 30 3 2) 30 4 0) 23 5 0) 23 6 0) 0 8 0) 34 3 2) 34 4 0) 38 3 2) 38 4 0) 42 j = 0 from fun j => by rw [wr_ne (by decide), wr_ne (by decide), wr_ne (by decide), wr_ne (by decide), wr_ne (by decide), wr_ne (by decide), wr_ne (by decide), wr_ne (by decide), wr_ne (by decide), wr_ne (by decide), wr_ne (by decide), wr_ne (by decide), wr_ne (by decide), wr_ne (by decide), wr_ne (by decide)]; exact hzm _ _ (by decide)) (Rm_of hR (Nat.le_of_ble_eq_true rfl) (Nat.le_of_ble_eq_true rfl)) (fun ad20 q20 ag20 e20 => ?_)
  have hq0_20 : ad20 0 = ad0 0 := (ag20 0 (by decide)).trans hq0_19
  have hq6_20 : ad20 6 = ad8 6 := (ag20 6 (by decide)).trans hq6_19
  have hq1_20 : ad20 1 = ad19 1 := (ag20 1 (by decide)).trans hq1_19
  have hq42_20 : ad20 42 = q20 := e20
  show G θ (42, 2050) (qt_Q_30, ad20) _ _ _ _
  refine G_dup (pc := 130) X (dg dt_C_Q 63 rfl) rfl ?_
  refine G_callCN (pc := 131) (b := q20) (S := [.ref (q20), .int 2, .ref (ad19 1)]) [] nosub X (dg dt_C_Q 64 rfl) cb_C_Grid w_36 rfl w_35 (fun h9 => absurd h9 (by decide)) (s_C_Grid _ rfl (by decide +kernel) (fun m j hm => by have hm : 43 ≤ m := hm; rw [wr_ne (k' := m) (by omega), wr_ne (k' := m) (by omega), wr_ne (k' := m) (by omega), wr_ne (k' := m) (by omega), wr_ne (k' := m) (by omega), wr_ne (k' := m) (by omega), wr_ne (k' := m) (by omega), wr_ne (k' := m) (by omega), wr_ne (k' := m) (by omega), wr_ne (k' := m) (by omega), wr_ne (k' := m) (by omega), wr_ne (k' := m) (by omega), wr_ne (k' := m) (by omega), wr_ne (k' := m) (by omega), wr_ne (k' := m) (by omega)]; exact hzm m j (by omega))) (by show [Value.ref (ad20 42)] = _; rw [hq42_20]) rfl ⟨Nat.le_of_ble_eq_true rfl, Nat.le_of_ble_eq_true rfl⟩ (Nat.le_of_ble_eq_true rfl) (Rm_of hR (Nat.le_of_ble_eq_true rfl) (Nat.le_of_ble_eq_true rfl)) (fun ad21 ag21 => ?_)
  have hq0_21 : ad21 0 = ad0 0 := (ag21 0 (by decide)).trans hq0_20
  have hq6_21 : ad21 6 = ad8 6 := (ag21 6 (by decide)).trans hq6_20
  have hq1_21 : ad21 1 = ad19 1 := (ag21 1 (by decide)).trans hq1_20
  have hq42_21 : ad21 42 = q20 := (ag21 42 (by decide)).trans hq42_20
  show G θ (45, 2085) (qt_Q_31, ad21) _ _ _ _
  refine G_astq (pc := 134) (k := 1) (t := 42) X (dg dt_C_Q 65 rfl) rfl (by decide) rfl hq1_21 hq42_21 ?_
  show G θ (45, 2085) (qt_Q_32, ad21) _ _ _ _
  refine G_iinc (pc := 135) 3 X (dg dt_C_Q 66 rfl) rfl (Nat.le_of_ble_eq_true rfl) rfl (by decide) ?_
  refine G_goto (pc := 138) 113 X (dg dt_C_Q 67 rfl) (by decide) ?_
  refine G_iload_n (pc := 113) 1 X (dg dt_C_Q 54 rfl) rfl rfl ?_
  refine G_aload_n (pc := 114) 0 X (dg dt_C_Q 55 rfl) rfl rfl ?_
  refine G_getRQ (pc := 115) (k := 0) 0 X (dg dt_C_Q 56 rfl) fc_7 w_186 rfl (Nat.le_of_ble_eq_true rfl) rfl rfl hq0_21 ?_
  have hq1_21 : ad21 1 = ad21 1 := rfl
  refine G_alenQQ (pc := 118) 12 X (dg dt_C_Q 57 rfl) (k := 1) rfl (by decide) hq1_21 ?_
  refine G_icmp_ge (pc := 119) (a := 1) (b := 0) (r := 0) 141 X (dg dt_C_Q 58 rfl) (by decide) (by decide) (fun h => absurd h (by decide)) (fun _ => ?_)
  refine G_aload_n (pc := 122) 0 X (dg dt_C_Q 59 rfl) rfl rfl ?_
  refine G_getRQ (pc := 123) (k := 0) 0 X (dg dt_C_Q 60 rfl) fc_7 w_186 rfl (Nat.le_of_ble_eq_true rfl) rfl rfl hq0_21 ?_
  rw [hq1_21]
  refine G_iload_n (pc := 126) 1 X (dg dt_C_Q 61 rfl) rfl rfl ?_
  refine G_new (pc := 127) [some none, some none, some none, none, none] X (dg dt_C_Q 62 rfl) fc_0 w_32 w_34 w_8 rfl df_0 (by decide +kernel) (show ∀ j, (wr (wr (wr (wr (wr (wr (wr (wr (wr (wr (wr (wr (wr (wr (wr (wr (wr σm 10 3 0) 16 2 0) 18 5 0) 18 6 0) 26 3 2) 26 4 0) 30 3 2) 30 4 0) 23 5 0) 23 6 0) 0 8 0) 34 3 2) 34 4 0) 38 3 2) 38 4 0) 42 3 2) 42 4 0) 46 j = 0 from fun j => by rw [wr_ne (by decide), wr_ne (by decide), wr_ne (by decide), wr_ne (by decide), wr_ne (by decide), wr_ne (by decide), wr_ne (by decide), wr_ne (by decide), wr_ne (by decide), wr_ne (by decide), wr_ne (by decide), wr_ne (by decide), wr_ne (by decide), wr_ne (by decide), wr_ne (by decide), wr_ne (by decide), wr_ne (by decide)]; exact hzm _ _ (by decide)) (Rm_of hR (Nat.le_of_ble_eq_true rfl) (Nat.le_of_ble_eq_true rfl)) (fun ad22 q22 ag22 e22 => ?_)
  have hq0_22 : ad22 0 = ad0 0 := (ag22 0 (by decide)).trans hq0_21
  have hq6_22 : ad22 6 = ad8 6 := (ag22 6 (by decide)).trans hq6_21
  have hq1_22 : ad22 1 = ad21 1 := (ag22 1 (by decide)).trans hq1_21
  have hq46_22 : ad22 46 = q22 := e22
  show G θ (46, 2090) (qt_Q_33, ad22) _ _ _ _
  refine G_dup (pc := 130) X (dg dt_C_Q 63 rfl) rfl ?_
  refine G_callCN (pc := 131) (b := q22) (S := [.ref (q22), .int 3, .ref (ad21 1)]) [] nosub X (dg dt_C_Q 64 rfl) cb_C_Grid w_36 rfl w_35 (fun h9 => absurd h9 (by decide)) (s_C_Grid _ rfl (by decide +kernel) (fun m j hm => by have hm : 47 ≤ m := hm; rw [wr_ne (k' := m) (by omega), wr_ne (k' := m) (by omega), wr_ne (k' := m) (by omega), wr_ne (k' := m) (by omega), wr_ne (k' := m) (by omega), wr_ne (k' := m) (by omega), wr_ne (k' := m) (by omega), wr_ne (k' := m) (by omega), wr_ne (k' := m) (by omega), wr_ne (k' := m) (by omega), wr_ne (k' := m) (by omega), wr_ne (k' := m) (by omega), wr_ne (k' := m) (by omega), wr_ne (k' := m) (by omega), wr_ne (k' := m) (by omega), wr_ne (k' := m) (by omega), wr_ne (k' := m) (by omega)]; exact hzm m j (by omega))) (by show [Value.ref (ad22 46)] = _; rw [hq46_22]) rfl ⟨Nat.le_of_ble_eq_true rfl, Nat.le_of_ble_eq_true rfl⟩ (Nat.le_of_ble_eq_true rfl) (Rm_of hR (Nat.le_of_ble_eq_true rfl) (Nat.le_of_ble_eq_true rfl)) (fun ad23 ag23 => ?_)
  have hq0_23 : ad23 0 = ad0 0 := (ag23 0 (by decide)).trans hq0_22
  have hq6_23 : ad23 6 = ad8 6 := (ag23 6 (by decide)).trans hq6_22
  have hq1_23 : ad23 1 = ad21 1 := (ag23 1 (by decide)).trans hq1_22
  have hq46_23 : ad23 46 = q22 := (ag23 46 (by decide)).trans hq46_22
  show G θ (49, 2125) (qt_Q_34, ad23) _ _ _ _
  refine G_astq (pc := 134) (k := 1) (t := 46) X (dg dt_C_Q 65 rfl) rfl (by decide) rfl hq1_23 hq46_23 ?_
  show G θ (49, 2125) (qt_Q_35, ad23) _ _ _ _
  refine G_iinc (pc := 135) 4 X (dg dt_C_Q 66 rfl) rfl (Nat.le_of_ble_eq_true rfl) rfl (by decide) ?_
  refine G_goto (pc := 138) 113 X (dg dt_C_Q 67 rfl) (by decide) ?_
  refine G_iload_n (pc := 113) 1 X (dg dt_C_Q 54 rfl) rfl rfl ?_
  refine G_aload_n (pc := 114) 0 X (dg dt_C_Q 55 rfl) rfl rfl ?_
  refine G_getRQ (pc := 115) (k := 0) 0 X (dg dt_C_Q 56 rfl) fc_7 w_186 rfl (Nat.le_of_ble_eq_true rfl) rfl rfl hq0_23 ?_
  have hq1_23 : ad23 1 = ad23 1 := rfl
  refine G_alenQQ (pc := 118) 12 X (dg dt_C_Q 57 rfl) (k := 1) rfl (by decide) hq1_23 ?_
  refine G_icmp_ge (pc := 119) (a := 1) (b := 0) (r := 0) 141 X (dg dt_C_Q 58 rfl) (by decide) (by decide) (fun h => absurd h (by decide)) (fun _ => ?_)
  refine G_aload_n (pc := 122) 0 X (dg dt_C_Q 59 rfl) rfl rfl ?_
  refine G_getRQ (pc := 123) (k := 0) 0 X (dg dt_C_Q 60 rfl) fc_7 w_186 rfl (Nat.le_of_ble_eq_true rfl) rfl rfl hq0_23 ?_
  rw [hq1_23]
  refine G_iload_n (pc := 126) 1 X (dg dt_C_Q 61 rfl) rfl rfl ?_
  refine G_new (pc := 127) [some none, some none, some none, none, none] X (dg dt_C_Q 62 rfl) fc_0 w_32 w_34 w_8 rfl df_0 (by decide +kernel) (show ∀ j, (wr (wr (wr (wr (wr (wr (wr (wr (wr (wr (wr (wr (wr (wr (wr (wr (wr (wr (wr σm 10 3 0) 16 2 0) 18 5 0) 18 6 0) 26 3 2) 26 4 0) 30 3 2) 30 4 0) 23 5 0) 23 6 0) 0 8 0) 34 3 2) 34 4 0) 38 3 2) 38 4 0) 42 3 2) 42 4 0) 46 3 2) 46 4 0) 50 j = 0 from fun j => by rw [wr_ne (by decide), wr_ne (by decide), wr_ne (by decide), wr_ne (by decide), wr_ne (by decide), wr_ne (by decide), wr_ne (by decide), wr_ne (by decide), wr_ne (by decide), wr_ne (by decide), wr_ne (by decide), wr_ne (by decide), wr_ne (by decide), wr_ne (by decide), wr_ne (by decide), wr_ne (by decide), wr_ne (by decide), wr_ne (by decide), wr_ne (by decide)]; exact hzm _ _ (by decide)) (Rm_of hR (Nat.le_of_ble_eq_true rfl) (Nat.le_of_ble_eq_true rfl)) (fun ad24 q24 ag24 e24 => ?_)
  have hq0_24 : ad24 0 = ad0 0 := (ag24 0 (by decide)).trans hq0_23
  have hq6_24 : ad24 6 = ad8 6 := (ag24 6 (by decide)).trans hq6_23
  have hq1_24 : ad24 1 = ad23 1 := (ag24 1 (by decide)).trans hq1_23
  have hq50_24 : ad24 50 = q24 := e24
  show G θ (50, 2130) (qt_Q_36, ad24) _ _ _ _
  refine G_dup (pc := 130) X (dg dt_C_Q 63 rfl) rfl ?_
  refine G_callCN (pc := 131) (b := q24) (S := [.ref (q24), .int 4, .ref (ad23 1)]) [] nosub X (dg dt_C_Q 64 rfl) cb_C_Grid w_36 rfl w_35 (fun h9 => absurd h9 (by decide)) (s_C_Grid _ rfl (by decide +kernel) (fun m j hm => by have hm : 51 ≤ m := hm; rw [wr_ne (k' := m) (by omega), wr_ne (k' := m) (by omega), wr_ne (k' := m) (by omega), wr_ne (k' := m) (by omega), wr_ne (k' := m) (by omega), wr_ne (k' := m) (by omega), wr_ne (k' := m) (by omega), wr_ne (k' := m) (by omega), wr_ne (k' := m) (by omega), wr_ne (k' := m) (by omega), wr_ne (k' := m) (by omega), wr_ne (k' := m) (by omega), wr_ne (k' := m) (by omega), wr_ne (k' := m) (by omega), wr_ne (k' := m) (by omega), wr_ne (k' := m) (by omega), wr_ne (k' := m) (by omega), wr_ne (k' := m) (by omega), wr_ne (k' := m) (by omega)]; exact hzm m j (by omega))) (by show [Value.ref (ad24 50)] = _; rw [hq50_24]) rfl ⟨Nat.le_of_ble_eq_true rfl, Nat.le_of_ble_eq_true rfl⟩ (Nat.le_of_ble_eq_true rfl) (Rm_of hR (Nat.le_of_ble_eq_true rfl) (Nat.le_of_ble_eq_true rfl)) (fun ad25 ag25 => ?_)
  have hq0_25 : ad25 0 = ad0 0 := (ag25 0 (by decide)).trans hq0_24
  have hq6_25 : ad25 6 = ad8 6 := (ag25 6 (by decide)).trans hq6_24
  have hq1_25 : ad25 1 = ad23 1 := (ag25 1 (by decide)).trans hq1_24
  have hq50_25 : ad25 50 = q24 := (ag25 50 (by decide)).trans hq50_24
  show G θ (53, 2165) (qt_Q_37, ad25) _ _ _ _
  refine G_astq (pc := 134) (k := 1) (t := 50) X (dg dt_C_Q 65 rfl) rfl (by decide) rfl hq1_25 hq50_25 ?_
  show G θ (53, 2165) (qt_Q_38, ad25) _ _ _ _
  refine G_iinc (pc := 135) 5 X (dg dt_C_Q 66 rfl) rfl (Nat.le_of_ble_eq_true rfl) rfl (by decide) ?_
  refine G_goto (pc := 138) 113 X (dg dt_C_Q 67 rfl) (by decide) ?_
  refine G_iload_n (pc := 113) 1 X (dg dt_C_Q 54 rfl) rfl rfl ?_
  refine G_aload_n (pc := 114) 0 X (dg dt_C_Q 55 rfl) rfl rfl ?_
  refine G_getRQ (pc := 115) (k := 0) 0 X (dg dt_C_Q 56 rfl) fc_7 w_186 rfl (Nat.le_of_ble_eq_true rfl) rfl rfl hq0_25 ?_
  have hq1_25 : ad25 1 = ad25 1 := rfl
  refine G_alenQQ (pc := 118) 12 X (dg dt_C_Q 57 rfl) (k := 1) rfl (by decide) hq1_25 ?_
  refine G_icmp_ge (pc := 119) (a := 1) (b := 0) (r := 0) 141 X (dg dt_C_Q 58 rfl) (by decide) (by decide) (fun h => absurd h (by decide)) (fun _ => ?_)
  refine G_aload_n (pc := 122) 0 X (dg dt_C_Q 59 rfl) rfl rfl ?_
  refine G_getRQ (pc := 123) (k := 0) 0 X (dg dt_C_Q 60 rfl) fc_7 w_186 rfl (Nat.le_of_ble_eq_true rfl) rfl rfl hq0_25 ?_
  rw [hq1_25]
  refine G_iload_n (pc := 126) 1 X (dg dt_C_Q 61 rfl) rfl rfl ?_
  refine G_new (pc := 127) [some none, some none, some none, none, none] X (dg dt_C_Q 62 rfl) fc_0 w_32 w_34 w_8 rfl df_0 (by decide +kernel) (show ∀ j, (wr (wr (wr (wr (wr (wr (wr (wr (wr (wr (wr (wr (wr (wr (wr (wr (wr (wr (wr (wr (wr σm 10 3 0) 16 2 0) 18 5 0) 18 6 0) 26 3 2) 26 4 0) 30 3 2) 30 4 0) 23 5 0) 23 6 0) 0 8 0) 34 3 2) 34 4 0) 38 3 2) 38 4 0) 42 3 2) 42 4 0) 46 3 2) 46 4 0) 50 3 2) 50 4 0) 54 j = 0 from fun j => by rw [wr_ne (by decide), wr_ne (by decide), wr_ne (by decide), wr_ne (by decide), wr_ne (by decide), wr_ne (by decide), wr_ne (by decide), wr_ne (by decide), wr_ne (by decide), wr_ne (by decide), wr_ne (by decide), wr_ne (by decide), wr_ne (by decide), wr_ne (by decide), wr_ne (by decide), wr_ne (by decide), wr_ne (by decide), wr_ne (by decide), wr_ne (by decide), wr_ne (by decide), wr_ne (by decide)]; exact hzm _ _ (by decide)) (Rm_of hR (Nat.le_of_ble_eq_true rfl) (Nat.le_of_ble_eq_true rfl)) (fun ad26 q26 ag26 e26 => ?_)
  have hq0_26 : ad26 0 = ad0 0 := (ag26 0 (by decide)).trans hq0_25
  have hq6_26 : ad26 6 = ad8 6 := (ag26 6 (by decide)).trans hq6_25
  have hq1_26 : ad26 1 = ad25 1 := (ag26 1 (by decide)).trans hq1_25
  have hq54_26 : ad26 54 = q26 := e26
  show G θ (54, 2170) (qt_Q_39, ad26) _ _ _ _
  refine G_dup (pc := 130) X (dg dt_C_Q 63 rfl) rfl ?_
  refine G_callCN (pc := 131) (b := q26) (S := [.ref (q26), .int 5, .ref (ad25 1)]) [] nosub X (dg dt_C_Q 64 rfl) cb_C_Grid w_36 rfl w_35 (fun h9 => absurd h9 (by decide)) (s_C_Grid _ rfl (by decide +kernel) (fun m j hm => by have hm : 55 ≤ m := hm; rw [wr_ne (k' := m) (by omega), wr_ne (k' := m) (by omega), wr_ne (k' := m) (by omega), wr_ne (k' := m) (by omega), wr_ne (k' := m) (by omega), wr_ne (k' := m) (by omega), wr_ne (k' := m) (by omega), wr_ne (k' := m) (by omega), wr_ne (k' := m) (by omega), wr_ne (k' := m) (by omega), wr_ne (k' := m) (by omega), wr_ne (k' := m) (by omega), wr_ne (k' := m) (by omega), wr_ne (k' := m) (by omega), wr_ne (k' := m) (by omega), wr_ne (k' := m) (by omega), wr_ne (k' := m) (by omega), wr_ne (k' := m) (by omega), wr_ne (k' := m) (by omega), wr_ne (k' := m) (by omega), wr_ne (k' := m) (by omega)]; exact hzm m j (by omega))) (by show [Value.ref (ad26 54)] = _; rw [hq54_26]) rfl ⟨Nat.le_of_ble_eq_true rfl, Nat.le_of_ble_eq_true rfl⟩ (Nat.le_of_ble_eq_true rfl) (Rm_of hR (Nat.le_of_ble_eq_true rfl) (Nat.le_of_ble_eq_true rfl)) (fun ad27 ag27 => ?_)
  have hq0_27 : ad27 0 = ad0 0 := (ag27 0 (by decide)).trans hq0_26
  have hq6_27 : ad27 6 = ad8 6 := (ag27 6 (by decide)).trans hq6_26
  have hq1_27 : ad27 1 = ad25 1 := (ag27 1 (by decide)).trans hq1_26
  have hq54_27 : ad27 54 = q26 := (ag27 54 (by decide)).trans hq54_26
  show G θ (57, 2205) (qt_Q_40, ad27) _ _ _ _
  refine G_astq (pc := 134) (k := 1) (t := 54) X (dg dt_C_Q 65 rfl) rfl (by decide) rfl hq1_27 hq54_27 ?_
  show G θ (57, 2205) (qt_Q_41, ad27) _ _ _ _
  refine G_iinc (pc := 135) 6 X (dg dt_C_Q 66 rfl) rfl (Nat.le_of_ble_eq_true rfl) rfl (by decide) ?_
  refine G_goto (pc := 138) 113 X (dg dt_C_Q 67 rfl) (by decide) ?_
  refine G_iload_n (pc := 113) 1 X (dg dt_C_Q 54 rfl) rfl rfl ?_
  refine G_aload_n (pc := 114) 0 X (dg dt_C_Q 55 rfl) rfl rfl ?_
  refine G_getRQ (pc := 115) (k := 0) 0 X (dg dt_C_Q 56 rfl) fc_7 w_186 rfl (Nat.le_of_ble_eq_true rfl) rfl rfl hq0_27 ?_
  have hq1_27 : ad27 1 = ad27 1 := rfl
  refine G_alenQQ (pc := 118) 12 X (dg dt_C_Q 57 rfl) (k := 1) rfl (by decide) hq1_27 ?_
  refine G_icmp_ge (pc := 119) (a := 1) (b := 0) (r := 0) 141 X (dg dt_C_Q 58 rfl) (by decide) (by decide) (fun h => absurd h (by decide)) (fun _ => ?_)
  refine G_aload_n (pc := 122) 0 X (dg dt_C_Q 59 rfl) rfl rfl ?_
  refine G_getRQ (pc := 123) (k := 0) 0 X (dg dt_C_Q 60 rfl) fc_7 w_186 rfl (Nat.le_of_ble_eq_true rfl) rfl rfl hq0_27 ?_
  rw [hq1_27]
  refine G_iload_n (pc := 126) 1 X (dg dt_C_Q 61 rfl) rfl rfl ?_
  refine G_new (pc := 127) [some none, some none, some none, none, none] X (dg dt_C_Q 62 rfl) fc_0 w_32 w_34 w_8 rfl df_0 (by decide +kernel) (show ∀ j, (wr (wr (wr (wr (wr (wr (wr (wr (wr (wr (wr (wr (wr (wr (wr (wr (wr (wr (wr (wr (wr (wr (wr σm 10 3 0) 16 2 0) 18 5 0) 18 6 0) 26 3 2) 26 4 0) 30 3 2) 30 4 0) 23 5 0) 23 6 0) 0 8 0) 34 3 2) 34 4 0) 38 3 2) 38 4 0) 42 3 2) 42 4 0) 46 3 2) 46 4 0) 50 3 2) 50 4 0) 54 3 2) 54 4 0) 58 j = 0 from fun j => by rw [wr_ne (by decide), wr_ne (by decide), wr_ne (by decide), wr_ne (by decide), wr_ne (by decide), wr_ne (by decide), wr_ne (by decide), wr_ne (by decide), wr_ne (by decide), wr_ne (by decide), wr_ne (by decide), wr_ne (by decide), wr_ne (by decide), wr_ne (by decide), wr_ne (by decide), wr_ne (by decide), wr_ne (by decide), wr_ne (by decide), wr_ne (by decide), wr_ne (by decide), wr_ne (by decide), wr_ne (by decide), wr_ne (by decide)]; exact hzm _ _ (by decide)) (Rm_of hR (Nat.le_of_ble_eq_true rfl) (Nat.le_of_ble_eq_true rfl)) (fun ad28 q28 ag28 e28 => ?_)
  have hq0_28 : ad28 0 = ad0 0 := (ag28 0 (by decide)).trans hq0_27
  have hq6_28 : ad28 6 = ad8 6 := (ag28 6 (by decide)).trans hq6_27
  have hq1_28 : ad28 1 = ad27 1 := (ag28 1 (by decide)).trans hq1_27
  have hq58_28 : ad28 58 = q28 := e28
  show G θ (58, 2210) (qt_Q_42, ad28) _ _ _ _
  refine G_dup (pc := 130) X (dg dt_C_Q 63 rfl) rfl ?_
  refine G_callCN (pc := 131) (b := q28) (S := [.ref (q28), .int 6, .ref (ad27 1)]) [] nosub X (dg dt_C_Q 64 rfl) cb_C_Grid w_36 rfl w_35 (fun h9 => absurd h9 (by decide)) (s_C_Grid _ rfl (by decide +kernel) (fun m j hm => by have hm : 59 ≤ m := hm; rw [wr_ne (k' := m) (by omega), wr_ne (k' := m) (by omega), wr_ne (k' := m) (by omega), wr_ne (k' := m) (by omega), wr_ne (k' := m) (by omega), wr_ne (k' := m) (by omega), wr_ne (k' := m) (by omega), wr_ne (k' := m) (by omega), wr_ne (k' := m) (by omega), wr_ne (k' := m) (by omega), wr_ne (k' := m) (by omega), wr_ne (k' := m) (by omega), wr_ne (k' := m) (by omega), wr_ne (k' := m) (by omega), wr_ne (k' := m) (by omega), wr_ne (k' := m) (by omega), wr_ne (k' := m) (by omega), wr_ne (k' := m) (by omega), wr_ne (k' := m) (by omega), wr_ne (k' := m) (by omega), wr_ne (k' := m) (by omega), wr_ne (k' := m) (by omega), wr_ne (k' := m) (by omega)]; exact hzm m j (by omega))) (by show [Value.ref (ad28 58)] = _; rw [hq58_28]) rfl ⟨Nat.le_of_ble_eq_true rfl, Nat.le_of_ble_eq_true rfl⟩ (Nat.le_of_ble_eq_true rfl) (Rm_of hR (Nat.le_of_ble_eq_true rfl) (Nat.le_of_ble_eq_true rfl)) (fun ad29 ag29 => ?_)
  have hq0_29 : ad29 0 = ad0 0 := (ag29 0 (by decide)).trans hq0_28
  have hq6_29 : ad29 6 = ad8 6 := (ag29 6 (by decide)).trans hq6_28
  have hq1_29 : ad29 1 = ad27 1 := (ag29 1 (by decide)).trans hq1_28
  have hq58_29 : ad29 58 = q28 := (ag29 58 (by decide)).trans hq58_28
  show G θ (61, 2245) (qt_Q_43, ad29) _ _ _ _
  refine G_astq (pc := 134) (k := 1) (t := 58) X (dg dt_C_Q 65 rfl) rfl (by decide) rfl hq1_29 hq58_29 ?_
  show G θ (61, 2245) (qt_Q_44, ad29) _ _ _ _
  refine G_iinc (pc := 135) 7 X (dg dt_C_Q 66 rfl) rfl (Nat.le_of_ble_eq_true rfl) rfl (by decide) ?_
  refine G_goto (pc := 138) 113 X (dg dt_C_Q 67 rfl) (by decide) ?_
  refine G_iload_n (pc := 113) 1 X (dg dt_C_Q 54 rfl) rfl rfl ?_
  refine G_aload_n (pc := 114) 0 X (dg dt_C_Q 55 rfl) rfl rfl ?_
  refine G_getRQ (pc := 115) (k := 0) 0 X (dg dt_C_Q 56 rfl) fc_7 w_186 rfl (Nat.le_of_ble_eq_true rfl) rfl rfl hq0_29 ?_
  have hq1_29 : ad29 1 = ad29 1 := rfl
  refine G_alenQQ (pc := 118) 12 X (dg dt_C_Q 57 rfl) (k := 1) rfl (by decide) hq1_29 ?_
  refine G_icmp_ge (pc := 119) (a := 1) (b := 0) (r := 0) 141 X (dg dt_C_Q 58 rfl) (by decide) (by decide) (fun h => absurd h (by decide)) (fun _ => ?_)
  refine G_aload_n (pc := 122) 0 X (dg dt_C_Q 59 rfl) rfl rfl ?_
  refine G_getRQ (pc := 123) (k := 0) 0 X (dg dt_C_Q 60 rfl) fc_7 w_186 rfl (Nat.le_of_ble_eq_true rfl) rfl rfl hq0_29 ?_
  rw [hq1_29]
  refine G_iload_n (pc := 126) 1 X (dg dt_C_Q 61 rfl) rfl rfl ?_
  refine G_new (pc := 127) [some none, some none, some none, none, none] X (dg dt_C_Q 62 rfl) fc_0 w_32 w_34 w_8 rfl df_0 (by decide +kernel) (show ∀ j, (wr (wr (wr (wr (wr (wr (wr (wr (wr (wr (wr (wr (wr (wr (wr (wr (wr (wr (wr (wr (wr (wr (wr (wr (wr σm 10 3 0) 16 2 0) 18 5 0) 18 6 0) 26 3 2) 26 4 0) 30 3 2) 30 4 0) 23 5 0) 23 6 0) 0 8 0) 34 3 2) 34 4 0) 38 3 2) 38 4 0) 42 3 2) 42 4 0) 46 3 2) 46 4 0) 50 3 2) 50 4 0) 54 3 2) 54 4 0) 58 3 2) 58 4 0) 62 j = 0 from fun j => by rw [wr_ne (by decide), wr_ne (by decide), wr_ne (by decide), wr_ne (by decide), wr_ne (by decide), wr_ne (by decide), wr_ne (by decide), wr_ne (by decide), wr_ne (by decide), wr_ne (by decide), wr_ne (by decide), wr_ne (by decide), wr_ne (by decide), wr_ne (by decide), wr_ne (by decide), wr_ne (by decide), wr_ne (by decide), wr_ne (by decide), wr_ne (by decide), wr_ne (by decide), wr_ne (by decide), wr_ne (by decide), wr_ne (by decide), wr_ne (by decide), wr_ne (by decide)]; exact hzm _ _ (by decide)) (Rm_of hR (Nat.le_of_ble_eq_true rfl) (Nat.le_of_ble_eq_true rfl)) (fun ad30 q30 ag30 e30 => ?_)
  have hq0_30 : ad30 0 = ad0 0 := (ag30 0 (by decide)).trans hq0_29
  have hq6_30 : ad30 6 = ad8 6 := (ag30 6 (by decide)).trans hq6_29
  have hq1_30 : ad30 1 = ad29 1 := (ag30 1 (by decide)).trans hq1_29
  have hq62_30 : ad30 62 = q30 := e30
  show G θ (62, 2250) (qt_Q_45, ad30) _ _ _ _
  refine G_dup (pc := 130) X (dg dt_C_Q 63 rfl) rfl ?_
  refine G_callCN (pc := 131) (b := q30) (S := [.ref (q30), .int 7, .ref (ad29 1)]) [] nosub X (dg dt_C_Q 64 rfl) cb_C_Grid w_36 rfl w_35 (fun h9 => absurd h9 (by decide)) (s_C_Grid _ rfl (by decide +kernel) (fun m j hm => by have hm : 63 ≤ m := hm; rw [wr_ne (k' := m) (by omega), wr_ne (k' := m) (by omega), wr_ne (k' := m) (by omega), wr_ne (k' := m) (by omega), wr_ne (k' := m) (by omega), wr_ne (k' := m) (by omega), wr_ne (k' := m) (by omega), wr_ne (k' := m) (by omega), wr_ne (k' := m) (by omega), wr_ne (k' := m) (by omega), wr_ne (k' := m) (by omega), wr_ne (k' := m) (by omega), wr_ne (k' := m) (by omega), wr_ne (k' := m) (by omega), wr_ne (k' := m) (by omega), wr_ne (k' := m) (by omega), wr_ne (k' := m) (by omega), wr_ne (k' := m) (by omega), wr_ne (k' := m) (by omega), wr_ne (k' := m) (by omega), wr_ne (k' := m) (by omega), wr_ne (k' := m) (by omega), wr_ne (k' := m) (by omega), wr_ne (k' := m) (by omega), wr_ne (k' := m) (by omega)]; exact hzm m j (by omega))) (by show [Value.ref (ad30 62)] = _; rw [hq62_30]) rfl ⟨Nat.le_of_ble_eq_true rfl, Nat.le_of_ble_eq_true rfl⟩ (Nat.le_of_ble_eq_true rfl) (Rm_of hR (Nat.le_of_ble_eq_true rfl) (Nat.le_of_ble_eq_true rfl)) (fun ad31 ag31 => ?_)
  have hq0_31 : ad31 0 = ad0 0 := (ag31 0 (by decide)).trans hq0_30
  have hq6_31 : ad31 6 = ad8 6 := (ag31 6 (by decide)).trans hq6_30
  have hq1_31 : ad31 1 = ad29 1 := (ag31 1 (by decide)).trans hq1_30
  have hq62_31 : ad31 62 = q30 := (ag31 62 (by decide)).trans hq62_30
  show G θ (65, 2285) (qt_Q_46, ad31) _ _ _ _
  refine G_astq (pc := 134) (k := 1) (t := 62) X (dg dt_C_Q 65 rfl) rfl (by decide) rfl hq1_31 hq62_31 ?_
  show G θ (65, 2285) (qt_Q_47, ad31) _ _ _ _
  refine G_iinc (pc := 135) 8 X (dg dt_C_Q 66 rfl) rfl (Nat.le_of_ble_eq_true rfl) rfl (by decide) ?_
  refine G_goto (pc := 138) 113 X (dg dt_C_Q 67 rfl) (by decide) ?_
  refine G_iload_n (pc := 113) 1 X (dg dt_C_Q 54 rfl) rfl rfl ?_
  refine G_aload_n (pc := 114) 0 X (dg dt_C_Q 55 rfl) rfl rfl ?_
  refine G_getRQ (pc := 115) (k := 0) 0 X (dg dt_C_Q 56 rfl) fc_7 w_186 rfl (Nat.le_of_ble_eq_true rfl) rfl rfl hq0_31 ?_
  have hq1_31 : ad31 1 = ad31 1 := rfl
  refine G_alenQQ (pc := 118) 12 X (dg dt_C_Q 57 rfl) (k := 1) rfl (by decide) hq1_31 ?_
  refine G_icmp_ge (pc := 119) (a := 1) (b := 0) (r := 0) 141 X (dg dt_C_Q 58 rfl) (by decide) (by decide) (fun h => absurd h (by decide)) (fun _ => ?_)
  refine G_aload_n (pc := 122) 0 X (dg dt_C_Q 59 rfl) rfl rfl ?_
  refine G_getRQ (pc := 123) (k := 0) 0 X (dg dt_C_Q 60 rfl) fc_7 w_186 rfl (Nat.le_of_ble_eq_true rfl) rfl rfl hq0_31 ?_
  rw [hq1_31]
  refine G_iload_n (pc := 126) 1 X (dg dt_C_Q 61 rfl) rfl rfl ?_
  refine G_new (pc := 127) [some none, some none, some none, none, none] X (dg dt_C_Q 62 rfl) fc_0 w_32 w_34 w_8 rfl df_0 (by decide +kernel) (show ∀ j, (wr (wr (wr (wr (wr (wr (wr (wr (wr (wr (wr (wr (wr (wr (wr (wr (wr (wr (wr (wr (wr (wr (wr (wr (wr (wr (wr σm 10 3 0) 16 2 0) 18 5 0) 18 6 0) 26 3 2) 26 4 0) 30 3 2) 30 4 0) 23 5 0) 23 6 0) 0 8 0) 34 3 2) 34 4 0) 38 3 2) 38 4 0) 42 3 2) 42 4 0) 46 3 2) 46 4 0) 50 3 2) 50 4 0) 54 3 2) 54 4 0) 58 3 2) 58 4 0) 62 3 2) 62 4 0) 66 j = 0 from fun j => by rw [wr_ne (by decide), wr_ne (by decide), wr_ne (by decide), wr_ne (by decide), wr_ne (by decide), wr_ne (by decide), wr_ne (by decide), wr_ne (by decide), wr_ne (by decide), wr_ne (by decide), wr_ne (by decide), wr_ne (by decide), wr_ne (by decide), wr_ne (by decide), wr_ne (by decide), wr_ne (by decide), wr_ne (by decide), wr_ne (by decide), wr_ne (by decide), wr_ne (by decide), wr_ne (by decide), wr_ne (by decide), wr_ne (by decide), wr_ne (by decide), wr_ne (by decide), wr_ne (by decide), wr_ne (by decide)]; exact hzm _ _ (by decide)) (Rm_of hR (Nat.le_of_ble_eq_true rfl) (Nat.le_of_ble_eq_true rfl)) (fun ad32 q32 ag32 e32 => ?_)
  have hq0_32 : ad32 0 = ad0 0 := (ag32 0 (by decide)).trans hq0_31
  have hq6_32 : ad32 6 = ad8 6 := (ag32 6 (by decide)).trans hq6_31
  have hq1_32 : ad32 1 = ad31 1 := (ag32 1 (by decide)).trans hq1_31
  have hq66_32 : ad32 66 = q32 := e32
  show G θ (66, 2290) (qt_Q_48, ad32) _ _ _ _
  refine G_dup (pc := 130) X (dg dt_C_Q 63 rfl) rfl ?_
  refine G_callCN (pc := 131) (b := q32) (S := [.ref (q32), .int 8, .ref (ad31 1)]) [] nosub X (dg dt_C_Q 64 rfl) cb_C_Grid w_36 rfl w_35 (fun h9 => absurd h9 (by decide)) (s_C_Grid _ rfl (by decide +kernel) (fun m j hm => by have hm : 67 ≤ m := hm; rw [wr_ne (k' := m) (by omega), wr_ne (k' := m) (by omega), wr_ne (k' := m) (by omega), wr_ne (k' := m) (by omega), wr_ne (k' := m) (by omega), wr_ne (k' := m) (by omega), wr_ne (k' := m) (by omega), wr_ne (k' := m) (by omega), wr_ne (k' := m) (by omega), wr_ne (k' := m) (by omega), wr_ne (k' := m) (by omega), wr_ne (k' := m) (by omega), wr_ne (k' := m) (by omega), wr_ne (k' := m) (by omega), wr_ne (k' := m) (by omega), wr_ne (k' := m) (by omega), wr_ne (k' := m) (by omega), wr_ne (k' := m) (by omega), wr_ne (k' := m) (by omega), wr_ne (k' := m) (by omega), wr_ne (k' := m) (by omega), wr_ne (k' := m) (by omega), wr_ne (k' := m) (by omega), wr_ne (k' := m) (by omega), wr_ne (k' := m) (by omega), wr_ne (k' := m) (by omega), wr_ne (k' := m) (by omega)]; exact hzm m j (by omega))) (by show [Value.ref (ad32 66)] = _; rw [hq66_32]) rfl ⟨Nat.le_of_ble_eq_true rfl, Nat.le_of_ble_eq_true rfl⟩ (Nat.le_of_ble_eq_true rfl) (Rm_of hR (Nat.le_of_ble_eq_true rfl) (Nat.le_of_ble_eq_true rfl)) (fun ad33 ag33 => ?_)
  have hq0_33 : ad33 0 = ad0 0 := (ag33 0 (by decide)).trans hq0_32
  have hq6_33 : ad33 6 = ad8 6 := (ag33 6 (by decide)).trans hq6_32
  have hq1_33 : ad33 1 = ad31 1 := (ag33 1 (by decide)).trans hq1_32
  have hq66_33 : ad33 66 = q32 := (ag33 66 (by decide)).trans hq66_32
  show G θ (69, 2325) (qt_Q_49, ad33) _ _ _ _
  refine G_astq (pc := 134) (k := 1) (t := 66) X (dg dt_C_Q 65 rfl) rfl (by decide) rfl hq1_33 hq66_33 ?_
  show G θ (69, 2325) (qt_Q_50, ad33) _ _ _ _
  refine G_iinc (pc := 135) 9 X (dg dt_C_Q 66 rfl) rfl (Nat.le_of_ble_eq_true rfl) rfl (by decide) ?_
  refine G_goto (pc := 138) 113 X (dg dt_C_Q 67 rfl) (by decide) ?_
  refine G_iload_n (pc := 113) 1 X (dg dt_C_Q 54 rfl) rfl rfl ?_
  refine G_aload_n (pc := 114) 0 X (dg dt_C_Q 55 rfl) rfl rfl ?_
  refine G_getRQ (pc := 115) (k := 0) 0 X (dg dt_C_Q 56 rfl) fc_7 w_186 rfl (Nat.le_of_ble_eq_true rfl) rfl rfl hq0_33 ?_
  have hq1_33 : ad33 1 = ad33 1 := rfl
  refine G_alenQQ (pc := 118) 12 X (dg dt_C_Q 57 rfl) (k := 1) rfl (by decide) hq1_33 ?_
  refine G_icmp_ge (pc := 119) (a := 1) (b := 0) (r := 0) 141 X (dg dt_C_Q 58 rfl) (by decide) (by decide) (fun h => absurd h (by decide)) (fun _ => ?_)
  refine G_aload_n (pc := 122) 0 X (dg dt_C_Q 59 rfl) rfl rfl ?_
  refine G_getRQ (pc := 123) (k := 0) 0 X (dg dt_C_Q 60 rfl) fc_7 w_186 rfl (Nat.le_of_ble_eq_true rfl) rfl rfl hq0_33 ?_
  rw [hq1_33]
  refine G_iload_n (pc := 126) 1 X (dg dt_C_Q 61 rfl) rfl rfl ?_
  refine G_new (pc := 127) [some none, some none, some none, none, none] X (dg dt_C_Q 62 rfl) fc_0 w_32 w_34 w_8 rfl df_0 (by decide +kernel) (show ∀ j, (wr (wr (wr (wr (wr (wr (wr (wr (wr (wr (wr (wr (wr (wr (wr (wr (wr (wr (wr (wr (wr (wr (wr (wr (wr (wr (wr (wr (wr σm 10 3 0) 16 2 0) 18 5 0) 18 6 0) 26 3 2) 26 4 0) 30 3 2) 30 4 0) 23 5 0) 23 6 0) 0 8 0) 34 3 2) 34 4 0) 38 3 2) 38 4 0) 42 3 2) 42 4 0) 46 3 2) 46 4 0) 50 3 2) 50 4 0) 54 3 2) 54 4 0) 58 3 2) 58 4 0) 62 3 2) 62 4 0) 66 3 2) 66 4 0) 70 j = 0 from fun j => by rw [wr_ne (by decide), wr_ne (by decide), wr_ne (by decide), wr_ne (by decide), wr_ne (by decide), wr_ne (by decide), wr_ne (by decide), wr_ne (by decide), wr_ne (by decide), wr_ne (by decide), wr_ne (by decide), wr_ne (by decide), wr_ne (by decide), wr_ne (by decide), wr_ne (by decide), wr_ne (by decide), wr_ne (by decide), wr_ne (by decide), wr_ne (by decide), wr_ne (by decide), wr_ne (by decide), wr_ne (by decide), wr_ne (by decide), wr_ne (by decide), wr_ne (by decide), wr_ne (by decide), wr_ne (by decide), wr_ne (by decide), wr_ne (by decide)]; exact hzm _ _ (by decide)) (Rm_of hR (Nat.le_of_ble_eq_true rfl) (Nat.le_of_ble_eq_true rfl)) (fun ad34 q34 ag34 e34 => ?_)
  have hq0_34 : ad34 0 = ad0 0 := (ag34 0 (by decide)).trans hq0_33
  have hq6_34 : ad34 6 = ad8 6 := (ag34 6 (by decide)).trans hq6_33
  have hq1_34 : ad34 1 = ad33 1 := (ag34 1 (by decide)).trans hq1_33
  have hq70_34 : ad34 70 = q34 := e34
  show G θ (70, 2330) (qt_Q_51, ad34) _ _ _ _
  refine G_dup (pc := 130) X (dg dt_C_Q 63 rfl) rfl ?_
  refine G_callCN (pc := 131) (b := q34) (S := [.ref (q34), .int 9, .ref (ad33 1)]) [] nosub X (dg dt_C_Q 64 rfl) cb_C_Grid w_36 rfl w_35 (fun h9 => absurd h9 (by decide)) (s_C_Grid _ rfl (by decide +kernel) (fun m j hm => by have hm : 71 ≤ m := hm; rw [wr_ne (k' := m) (by omega), wr_ne (k' := m) (by omega), wr_ne (k' := m) (by omega), wr_ne (k' := m) (by omega), wr_ne (k' := m) (by omega), wr_ne (k' := m) (by omega), wr_ne (k' := m) (by omega), wr_ne (k' := m) (by omega), wr_ne (k' := m) (by omega), wr_ne (k' := m) (by omega), wr_ne (k' := m) (by omega), wr_ne (k' := m) (by omega), wr_ne (k' := m) (by omega), wr_ne (k' := m) (by omega), wr_ne (k' := m) (by omega), wr_ne (k' := m) (by omega), wr_ne (k' := m) (by omega), wr_ne (k' := m) (by omega), wr_ne (k' := m) (by omega), wr_ne (k' := m) (by omega), wr_ne (k' := m) (by omega), wr_ne (k' := m) (by omega), wr_ne (k' := m) (by omega), wr_ne (k' := m) (by omega), wr_ne (k' := m) (by omega), wr_ne (k' := m) (by omega), wr_ne (k' := m) (by omega), wr_ne (k' := m) (by omega), wr_ne (k' := m) (by omega)]; exact hzm m j (by omega))) (by show [Value.ref (ad34 70)] = _; rw [hq70_34]) rfl ⟨Nat.le_of_ble_eq_true rfl, Nat.le_of_ble_eq_true rfl⟩ (Nat.le_of_ble_eq_true rfl) (Rm_of hR (Nat.le_of_ble_eq_true rfl) (Nat.le_of_ble_eq_true rfl)) (fun ad35 ag35 => ?_)
  have hq0_35 : ad35 0 = ad0 0 := (ag35 0 (by decide)).trans hq0_34
  have hq6_35 : ad35 6 = ad8 6 := (ag35 6 (by decide)).trans hq6_34
  have hq1_35 : ad35 1 = ad33 1 := (ag35 1 (by decide)).trans hq1_34
  have hq70_35 : ad35 70 = q34 := (ag35 70 (by decide)).trans hq70_34
  show G θ (73, 2365) (qt_Q_52, ad35) _ _ _ _
  refine G_astq (pc := 134) (k := 1) (t := 70) X (dg dt_C_Q 65 rfl) rfl (by decide) rfl hq1_35 hq70_35 ?_
  show G θ (73, 2365) (qt_Q_53, ad35) _ _ _ _
  refine G_iinc (pc := 135) 10 X (dg dt_C_Q 66 rfl) rfl (Nat.le_of_ble_eq_true rfl) rfl (by decide) ?_
  refine G_goto (pc := 138) 113 X (dg dt_C_Q 67 rfl) (by decide) ?_
  refine G_iload_n (pc := 113) 1 X (dg dt_C_Q 54 rfl) rfl rfl ?_
  refine G_aload_n (pc := 114) 0 X (dg dt_C_Q 55 rfl) rfl rfl ?_
  refine G_getRQ (pc := 115) (k := 0) 0 X (dg dt_C_Q 56 rfl) fc_7 w_186 rfl (Nat.le_of_ble_eq_true rfl) rfl rfl hq0_35 ?_
  have hq1_35 : ad35 1 = ad35 1 := rfl
  refine G_alenQQ (pc := 118) 12 X (dg dt_C_Q 57 rfl) (k := 1) rfl (by decide) hq1_35 ?_
  refine G_icmp_ge (pc := 119) (a := 1) (b := 0) (r := 0) 141 X (dg dt_C_Q 58 rfl) (by decide) (by decide) (fun h => absurd h (by decide)) (fun _ => ?_)
  refine G_aload_n (pc := 122) 0 X (dg dt_C_Q 59 rfl) rfl rfl ?_
  refine G_getRQ (pc := 123) (k := 0) 0 X (dg dt_C_Q 60 rfl) fc_7 w_186 rfl (Nat.le_of_ble_eq_true rfl) rfl rfl hq0_35 ?_
  rw [hq1_35]
  refine G_iload_n (pc := 126) 1 X (dg dt_C_Q 61 rfl) rfl rfl ?_
  refine G_new (pc := 127) [some none, some none, some none, none, none] X (dg dt_C_Q 62 rfl) fc_0 w_32 w_34 w_8 rfl df_0 (by decide +kernel) (show ∀ j, (wr (wr (wr (wr (wr (wr (wr (wr (wr (wr (wr (wr (wr (wr (wr (wr (wr (wr (wr (wr (wr (wr (wr (wr (wr (wr (wr (wr (wr (wr (wr σm 10 3 0) 16 2 0) 18 5 0) 18 6 0) 26 3 2) 26 4 0) 30 3 2) 30 4 0) 23 5 0) 23 6 0) 0 8 0) 34 3 2) 34 4 0) 38 3 2) 38 4 0) 42 3 2) 42 4 0) 46 3 2) 46 4 0) 50 3 2) 50 4 0) 54 3 2) 54 4 0) 58 3 2) 58 4 0) 62 3 2) 62 4 0) 66 3 2) 66 4 0) 70 3 2) 70 4 0) 74 j = 0 from fun j => by rw [wr_ne (by decide), wr_ne (by decide), wr_ne (by decide), wr_ne (by decide), wr_ne (by decide), wr_ne (by decide), wr_ne (by decide), wr_ne (by decide), wr_ne (by decide), wr_ne (by decide), wr_ne (by decide), wr_ne (by decide), wr_ne (by decide), wr_ne (by decide), wr_ne (by decide), wr_ne (by decide), wr_ne (by decide), wr_ne (by decide), wr_ne (by decide), wr_ne (by decide), wr_ne (by decide), wr_ne (by decide), wr_ne (by decide), wr_ne (by decide), wr_ne (by decide), wr_ne (by decide), wr_ne (by decide), wr_ne (by decide), wr_ne (by decide), wr_ne (by decide), wr_ne (by decide)]; exact hzm _ _ (by decide)) (Rm_of hR (Nat.le_of_ble_eq_true rfl) (Nat.le_of_ble_eq_true rfl)) (fun ad36 q36 ag36 e36 => ?_)
  have hq0_36 : ad36 0 = ad0 0 := (ag36 0 (by decide)).trans hq0_35
  have hq6_36 : ad36 6 = ad8 6 := (ag36 6 (by decide)).trans hq6_35
  have hq1_36 : ad36 1 = ad35 1 := (ag36 1 (by decide)).trans hq1_35
  have hq74_36 : ad36 74 = q36 := e36
  show G θ (74, 2370) (qt_Q_54, ad36) _ _ _ _
  refine G_dup (pc := 130) X (dg dt_C_Q 63 rfl) rfl ?_
  refine G_callCN (pc := 131) (b := q36) (S := [.ref (q36), .int 10, .ref (ad35 1)]) [] nosub X (dg dt_C_Q 64 rfl) cb_C_Grid w_36 rfl w_35 (fun h9 => absurd h9 (by decide)) (s_C_Grid _ rfl (by decide +kernel) (fun m j hm => by have hm : 75 ≤ m := hm; rw [wr_ne (k' := m) (by omega), wr_ne (k' := m) (by omega), wr_ne (k' := m) (by omega), wr_ne (k' := m) (by omega), wr_ne (k' := m) (by omega), wr_ne (k' := m) (by omega), wr_ne (k' := m) (by omega), wr_ne (k' := m) (by omega), wr_ne (k' := m) (by omega), wr_ne (k' := m) (by omega), wr_ne (k' := m) (by omega), wr_ne (k' := m) (by omega), wr_ne (k' := m) (by omega), wr_ne (k' := m) (by omega), wr_ne (k' := m) (by omega), wr_ne (k' := m) (by omega), wr_ne (k' := m) (by omega), wr_ne (k' := m) (by omega), wr_ne (k' := m) (by omega), wr_ne (k' := m) (by omega), wr_ne (k' := m) (by omega), wr_ne (k' := m) (by omega), wr_ne (k' := m) (by omega), wr_ne (k' := m) (by omega), wr_ne (k' := m) (by omega), wr_ne (k' := m) (by omega), wr_ne (k' := m) (by omega), wr_ne (k' := m) (by omega), wr_ne (k' := m) (by omega), wr_ne (k' := m) (by omega), wr_ne (k' := m) (by omega)]; exact hzm m j (by omega))) (by show [Value.ref (ad36 74)] = _; rw [hq74_36]) rfl ⟨Nat.le_of_ble_eq_true rfl, Nat.le_of_ble_eq_true rfl⟩ (Nat.le_of_ble_eq_true rfl) (Rm_of hR (Nat.le_of_ble_eq_true rfl) (Nat.le_of_ble_eq_true rfl)) (fun ad37 ag37 => ?_)
  have hq0_37 : ad37 0 = ad0 0 := (ag37 0 (by decide)).trans hq0_36
  have hq6_37 : ad37 6 = ad8 6 := (ag37 6 (by decide)).trans hq6_36
  have hq1_37 : ad37 1 = ad35 1 := (ag37 1 (by decide)).trans hq1_36
  have hq74_37 : ad37 74 = q36 := (ag37 74 (by decide)).trans hq74_36
  show G θ (77, 2405) (qt_Q_55, ad37) _ _ _ _
  refine G_astq (pc := 134) (k := 1) (t := 74) X (dg dt_C_Q 65 rfl) rfl (by decide) rfl hq1_37 hq74_37 ?_
  show G θ (77, 2405) (qt_Q_56, ad37) _ _ _ _
  refine G_iinc (pc := 135) 11 X (dg dt_C_Q 66 rfl) rfl (Nat.le_of_ble_eq_true rfl) rfl (by decide) ?_
  refine G_goto (pc := 138) 113 X (dg dt_C_Q 67 rfl) (by decide) ?_
  refine G_iload_n (pc := 113) 1 X (dg dt_C_Q 54 rfl) rfl rfl ?_
  refine G_aload_n (pc := 114) 0 X (dg dt_C_Q 55 rfl) rfl rfl ?_
  refine G_getRQ (pc := 115) (k := 0) 0 X (dg dt_C_Q 56 rfl) fc_7 w_186 rfl (Nat.le_of_ble_eq_true rfl) rfl rfl hq0_37 ?_
  have hq1_37 : ad37 1 = ad37 1 := rfl
  refine G_alenQQ (pc := 118) 12 X (dg dt_C_Q 57 rfl) (k := 1) rfl (by decide) hq1_37 ?_
  refine G_icmp_ge (pc := 119) (a := 1) (b := 0) (r := 0) 141 X (dg dt_C_Q 58 rfl) (by decide) (by decide) (fun h => absurd h (by decide)) (fun _ => ?_)
  refine G_aload_n (pc := 122) 0 X (dg dt_C_Q 59 rfl) rfl rfl ?_
  refine G_getRQ (pc := 123) (k := 0) 0 X (dg dt_C_Q 60 rfl) fc_7 w_186 rfl (Nat.le_of_ble_eq_true rfl) rfl rfl hq0_37 ?_
  rw [hq1_37]
  refine G_iload_n (pc := 126) 1 X (dg dt_C_Q 61 rfl) rfl rfl ?_
  refine G_new (pc := 127) [some none, some none, some none, none, none] X (dg dt_C_Q 62 rfl) fc_0 w_32 w_34 w_8 rfl df_0 (by decide +kernel) (show ∀ j, (wr (wr (wr (wr (wr (wr (wr (wr (wr (wr (wr (wr (wr (wr (wr (wr (wr (wr (wr (wr (wr (wr (wr (wr (wr (wr (wr (wr (wr (wr (wr (wr (wr σm 10 3 0) 16 2 0) 18 5 0) 18 6 0) 26 3 2) 26 4 0) 30 3 2) 30 4 0) 23 5 0) 23 6 0) 0 8 0) 34 3 2) 34 4 0) 38 3 2) 38 4 0) 42 3 2) 42 4 0) 46 3 2) 46 4 0) 50 3 2) 50 4 0) 54 3 2) 54 4 0) 58 3 2) 58 4 0) 62 3 2) 62 4 0) 66 3 2) 66 4 0) 70 3 2) 70 4 0) 74 3 2) 74 4 0) 78 j = 0 from fun j => by rw [wr_ne (by decide), wr_ne (by decide), wr_ne (by decide), wr_ne (by decide), wr_ne (by decide), wr_ne (by decide), wr_ne (by decide), wr_ne (by decide), wr_ne (by decide), wr_ne (by decide), wr_ne (by decide), wr_ne (by decide), wr_ne (by decide), wr_ne (by decide), wr_ne (by decide), wr_ne (by decide), wr_ne (by decide), wr_ne (by decide), wr_ne (by decide), wr_ne (by decide), wr_ne (by decide), wr_ne (by decide), wr_ne (by decide), wr_ne (by decide), wr_ne (by decide), wr_ne (by decide), wr_ne (by decide), wr_ne (by decide), wr_ne (by decide), wr_ne (by decide), wr_ne (by decide), wr_ne (by decide), wr_ne (by decide)]; exact hzm _ _ (by decide)) (Rm_of hR (Nat.le_of_ble_eq_true rfl) (Nat.le_of_ble_eq_true rfl)) (fun ad38 q38 ag38 e38 => ?_)
  have hq0_38 : ad38 0 = ad0 0 := (ag38 0 (by decide)).trans hq0_37
  have hq6_38 : ad38 6 = ad8 6 := (ag38 6 (by decide)).trans hq6_37
  have hq1_38 : ad38 1 = ad37 1 := (ag38 1 (by decide)).trans hq1_37
  have hq78_38 : ad38 78 = q38 := e38
  show G θ (78, 2410) (qt_Q_57, ad38) _ _ _ _
  refine G_dup (pc := 130) X (dg dt_C_Q 63 rfl) rfl ?_
  refine G_callCN (pc := 131) (b := q38) (S := [.ref (q38), .int 11, .ref (ad37 1)]) [] nosub X (dg dt_C_Q 64 rfl) cb_C_Grid w_36 rfl w_35 (fun h9 => absurd h9 (by decide)) (s_C_Grid _ rfl (by decide +kernel) (fun m j hm => by have hm : 79 ≤ m := hm; rw [wr_ne (k' := m) (by omega), wr_ne (k' := m) (by omega), wr_ne (k' := m) (by omega), wr_ne (k' := m) (by omega), wr_ne (k' := m) (by omega), wr_ne (k' := m) (by omega), wr_ne (k' := m) (by omega), wr_ne (k' := m) (by omega), wr_ne (k' := m) (by omega), wr_ne (k' := m) (by omega), wr_ne (k' := m) (by omega), wr_ne (k' := m) (by omega), wr_ne (k' := m) (by omega), wr_ne (k' := m) (by omega), wr_ne (k' := m) (by omega), wr_ne (k' := m) (by omega), wr_ne (k' := m) (by omega), wr_ne (k' := m) (by omega), wr_ne (k' := m) (by omega), wr_ne (k' := m) (by omega), wr_ne (k' := m) (by omega), wr_ne (k' := m) (by omega), wr_ne (k' := m) (by omega), wr_ne (k' := m) (by omega), wr_ne (k' := m) (by omega), wr_ne (k' := m) (by omega), wr_ne (k' := m) (by omega), wr_ne (k' := m) (by omega), wr_ne (k' := m) (by omega), wr_ne (k' := m) (by omega), wr_ne (k' := m) (by omega), wr_ne (k' := m) (by omega), wr_ne (k' := m) (by omega)]; exact hzm m j (by omega))) (by show [Value.ref (ad38 78)] = _; rw [hq78_38]) rfl ⟨Nat.le_of_ble_eq_true rfl, Nat.le_of_ble_eq_true rfl⟩ (Nat.le_of_ble_eq_true rfl) (Rm_of hR (Nat.le_of_ble_eq_true rfl) (Nat.le_of_ble_eq_true rfl)) (fun ad39 ag39 => ?_)
  have hq0_39 : ad39 0 = ad0 0 := (ag39 0 (by decide)).trans hq0_38
  have hq6_39 : ad39 6 = ad8 6 := (ag39 6 (by decide)).trans hq6_38
  have hq1_39 : ad39 1 = ad37 1 := (ag39 1 (by decide)).trans hq1_38
  have hq78_39 : ad39 78 = q38 := (ag39 78 (by decide)).trans hq78_38
  show G θ (81, 2445) (qt_Q_58, ad39) _ _ _ _
  refine G_astq (pc := 134) (k := 1) (t := 78) X (dg dt_C_Q 65 rfl) rfl (by decide) rfl hq1_39 hq78_39 ?_
  show G θ (81, 2445) (qt_Q_59, ad39) _ _ _ _
  refine G_iinc (pc := 135) 12 X (dg dt_C_Q 66 rfl) rfl (Nat.le_of_ble_eq_true rfl) rfl (by decide) ?_
  refine G_goto (pc := 138) 113 X (dg dt_C_Q 67 rfl) (by decide) ?_
  refine G_iload_n (pc := 113) 1 X (dg dt_C_Q 54 rfl) rfl rfl ?_
  refine G_aload_n (pc := 114) 0 X (dg dt_C_Q 55 rfl) rfl rfl ?_
  refine G_getRQ (pc := 115) (k := 0) 0 X (dg dt_C_Q 56 rfl) fc_7 w_186 rfl (Nat.le_of_ble_eq_true rfl) rfl rfl hq0_39 ?_
  have hq1_39 : ad39 1 = ad39 1 := rfl
  refine G_alenQQ (pc := 118) 12 X (dg dt_C_Q 57 rfl) (k := 1) rfl (by decide) hq1_39 ?_
  refine G_icmp_ge (pc := 119) (a := 0) (b := 1) (r := 0) 141 X (dg dt_C_Q 58 rfl) (by decide) (by decide) (fun _ => ?_) (fun h => absurd h (by decide))
  exact G_cret (pc := 141) X hq (dg dt_C_Q 68 rfl) (fun i hi => ((ag39 i (Nat.lt_of_lt_of_le hi (by decide))).trans ((ag38 i (Nat.lt_of_lt_of_le hi (by decide))).trans ((ag37 i (Nat.lt_of_lt_of_le hi (by decide))).trans ((ag36 i (Nat.lt_of_lt_of_le hi (by decide))).trans ((ag35 i (Nat.lt_of_lt_of_le hi (by decide))).trans ((ag34 i (Nat.lt_of_lt_of_le hi (by decide))).trans ((ag33 i (Nat.lt_of_lt_of_le hi (by decide))).trans ((ag32 i (Nat.lt_of_lt_of_le hi (by decide))).trans ((ag31 i (Nat.lt_of_lt_of_le hi (by decide))).trans ((ag30 i (Nat.lt_of_lt_of_le hi (by decide))).trans ((ag29 i (Nat.lt_of_lt_of_le hi (by decide))).trans ((ag28 i (Nat.lt_of_lt_of_le hi (by decide))).trans ((ag27 i (Nat.lt_of_lt_of_le hi (by decide))).trans ((ag26 i (Nat.lt_of_lt_of_le hi (by decide))).trans ((ag25 i (Nat.lt_of_lt_of_le hi (by decide))).trans ((ag24 i (Nat.lt_of_lt_of_le hi (by decide))).trans ((ag23 i (Nat.lt_of_lt_of_le hi (by decide))).trans ((ag22 i (Nat.lt_of_lt_of_le hi (by decide))).trans ((ag21 i (Nat.lt_of_lt_of_le hi (by decide))).trans ((ag20 i (Nat.lt_of_lt_of_le hi (by decide))).trans ((ag19 i (Nat.lt_of_lt_of_le hi (by decide))).trans ((ag18 i (Nat.lt_of_lt_of_le hi (by decide))).trans ((ag17 i (Nat.lt_of_lt_of_le hi (by decide))).trans ((ag16 i (Nat.lt_of_lt_of_le hi (by decide))).trans ((ag15 i (Nat.lt_of_lt_of_le hi (by decide))).trans ((ag14 i (Nat.lt_of_lt_of_le hi (by decide))).trans ((ag13 i (Nat.lt_of_lt_of_le hi (by decide))).trans ((ag12 i (Nat.lt_of_lt_of_le hi (by decide))).trans ((ag11 i (Nat.lt_of_lt_of_le hi (by decide))).trans ((ag10 i (Nat.lt_of_lt_of_le hi (by decide))).trans ((ag9 i (Nat.lt_of_lt_of_le hi (by decide))).trans ((ag8 i (Nat.lt_of_lt_of_le hi (by decide))).trans ((ag7 i (Nat.lt_of_lt_of_le hi (by decide))).trans ((ag6 i (Nat.lt_of_lt_of_le hi (by decide))).trans ((ag5 i (Nat.lt_of_lt_of_le hi (by decide))).trans ((ag4 i (Nat.lt_of_lt_of_le hi (by decide))).trans ((ag3 i (Nat.lt_of_lt_of_le hi (by decide))).trans ((ag2 i (Nat.lt_of_lt_of_le hi (by decide))).trans (ag1 i (Nat.lt_of_lt_of_le hi (by decide))))))))))))))))))))))))))))))))))))))))))
end
section
/-! the law's calls of the class: methods with a table of their own -/
def Nx (U : State) : Prop := va_Nc (g_xn 2) (g_xn 1) U ∧ va_Nc (g_xn 3) (g_xn 1) U ∧ va_Nc (g_xn 3) (g_xn 2) U
theorem Nx.moved {u U : State} (hvm : u.vm.Alike U.vm) (h : Nx u) : Nx U := ⟨va_Nc.moved hvm h.1, va_Nc.moved hvm h.2.1, va_Nc.moved hvm h.2.2⟩
def g_BW (D : va_G) (cA : Nat → ClassId) (A : Nat → Prop) (w : Wd) (σ : St) (sz : Nat) (U : State) : Prop := g_B D cA g_strs A w σ sz U ∧ Nx U
theorem g_blindW {D : va_G} {cA : Nat → ClassId} {A : Nat → Prop} {w : Wd} {σ : St} {sz : Nat} {av : List Value} : FrameBlind (va_Pc av (g_BW D cA A w σ sz)) := by
  intro a U g mk h
  have h1 := g_blind a U g mk ⟨h.1, h.2.1⟩
  exact ⟨h1.1, h1.2, Nx.moved (u := U) (U := U.calling g mk a) (Vm.Alike.refl U.vm) h.2.2⟩
def RtW (l : Launch) (y : MethodName) (cc : ByteArray) (maxL : Nat) (hh : List (Nat × Nat × Nat × Nat)) (fr lo : Nat) (w : Wd) (av : List Value) (σ : St) (v : Int32) (σ' : St) : Prop :=
  ∀ (A : Nat → Prop) (D : va_G) (cA : Nat → ClassId) (sz : Nat), (∀ q, sz ≤ q → A q) →
    Met l y (Cond.codeWith y cc maxL (some .int) hh :: g_GW) { frames := fr, cells := 1, slots := 6, locals := lo } (va_Pc av (g_BW D cA A w σ sz)) (g_Qc D cA A w (some (.int v)) σ') 1 6 A
def Wq (θ : Th) (w : Wd) (hh : List (Nat × Nat × Nat × Nat)) (v : Int32) (σ : St) : Prop := match θ with
  | (p, l, e, R, s, m, args, below, meth, c, A, D, cA, Q) => meth.sig.returnType = some .int ∧ c.exceptionTable.toList = tableOf hh ∧ 1 ≤ R.cells ∧ 6 ≤ R.slots ∧ Nx s ∧ Q = MQ below (g_Qc D cA A w (some (.int v)) σ) args s 1 6 A
theorem RtW.intro {l : Launch} {y : MethodName} {cc : ByteArray} {maxL : Nat} {hh : List (Nat × Nat × Nat × Nat)} {fr lo : Nat} {w : Wd} {av : List Value} {σ : St} {v : Int32} {σ' : St} {L : LV}
    (hy : plainName y.cls = true) (hn : (lg_sl av).length ≤ maxL) (hL : g_pairs L = lv_args 0 av)
    (body : ∀ θ : Th, θ.2.1 = l → Cx θ g_strs cc maxL y.cls fr lo → Wq θ w hh v σ' → G θ (0, 0) w σ 0 L []) : RtW l y cc maxL hh fr lo w av σ v σ' := by
  intro A D cA sz hA
  refine MetFree.of_bodyS (code := cc) (maxLocals := maxL) (ret := some .int) hy ?_ ?_
  · intro args s m h hn
    obtain ⟨m9, meth, c, hn9, h1, h2, h3, h4, -, h5, h6, -⟩ := Cond.codeWith_spec (atoms_spec (ws := Cond.codeWith y cc maxL (some .int) hh :: g_GW) h _ List.mem_cons_self)
    cases hn.symm.trans hn9
    exact ⟨meth, c, h1, h2, h3, h4, h5, h6⟩
  · intro p e s m args below meth c s₁ B hml hv _
    obtain ⟨rfl, ⟨hsz, hP, hD, hK⟩, hN⟩ := hv
    have hts := atoms_spec (ws := Cond.codeWith y cc maxL (some .int) hh :: g_GW) B.pre
    have hown : s.vm.findClass y.cls = some m.cls := findClass_of_methodNamed B.named
    have htab := vx_table (x := y) B (hts _ List.mem_cons_self)
    subst hsz
    have hh0 : s₁.heap = s.heap := by rw [B.state]; rfl
    have hb := body (p, l, e, (headSpec (Cond.codeWith y cc maxL (some .int) hh :: g_GW) { frames := fr, cells := 1, slots := 6, locals := lo }).room, s, m, av.toArray, below, meth, c, A, D, cA, MQ below (g_Qc D cA A w (some (.int v)) σ') av.toArray s 1 6 A) rfl
      ⟨B.exec, B.bytes, hml, hown, fun w hw => hts w (List.mem_cons_of_mem _ hw), B.notSynchronized, hA, hK, Nat.le_refl _, Nat.le_refl _⟩ ⟨B.returns, htab, Nat.le_refl _, Nat.le_refl _, hN, rfl⟩
    have k := hb s.heap [] _ (by rw [hml]; exact LH.entry av hn hL) hP hD va_S.rf
    rw [← lg_entry_eq] at k
    obtain ⟨t, a1, o, b1, b2, b3⟩ := k s₁ hh0 (Stand.of_body B)
    exact ⟨t, o, a1, b1, b2, ⟨b3.1, b3.2⟩⟩
section GW
variable {θ : Th} {cs : Nat × Nat} {w : Wd} {σ σ1 : St} {pc : Nat} {L : LV} {S : List Value} {strs strs' : List (String × Nat × String)} {cc : ByteArray} {nL : Nat} {own : String} {fr lo : Nat} {hh : List (Nat × Nat × Nat × Nat)}
theorem G_wret {v r : Int32} (X : Cx θ strs cc nL own fr lo) (hq : Wq θ w hh r σ) (hd : decode cc pc = .ok (.ireturn, 1)) (hcs : cs.1 ≤ 1 ∧ cs.2 ≤ 6) (h : v = r) : G θ cs w σ pc L [.int v] := by
  obtain ⟨p, l, e, R, s, m, args, below, meth, c, A, D, cA, Q⟩ := θ
  obtain ⟨hx, hb, hml, hown, hts, hlk, hA, hK, hfr, hlo⟩ := X
  obtain ⟨hr, _, _, _, _, rfl⟩ := hq
  intro H locs ls hl' hP hD hS
  subst h
  exact W.widen hcs.1 hcs.2 (W.iret hx hb hr (fun t ht hW => ⟨rfl, by rw [ht]; exact hP, hS.F ht⟩) hS.2.2 hd)
/-- a call that throws, caught by a row of the method's table -/
theorem G_callSC {y : MethodName} {cy : ByteArray} {maxL : Nat} {ret : Option FieldType} {idx n fr' lo' e : Nat} {r : Int32} {σ' : St} (As : List Value) (pre : List (Nat × Nat × Nat × Nat)) (x : Nat × Nat × Nat × Nat) (suf : List (Nat × Nat × Nat × Nat)) (X : Cx θ g_strs cc nL own fr lo) (hq : Wq θ w hh r σ') (hd : decode cc pc = .ok (.invokestatic idx, 3)) (hc : CBd y cy maxL ret n) (hv : Cond.static y ∈ g_GW) (hl : Cond.methodLink own idx y ∈ g_GW)
    (hR : Tx θ.2.1 g_strs y cy maxL ret fr' lo' w As σ (g_xn e) σ1) (hn : As.length = n) (hroom : fr' + 1 ≤ fr ∧ 8 + (maxL + 11) + lo' ≤ lo) (hS8 : (S.map fun v => v.category).sum ≤ 8)
    (hsplit : hh = pre ++ x :: suf) (hpass : ∀ z ∈ pre, ∃ nm : String, z.2.2.2 ≠ 0 ∧ Cond.classLink own z.2.2.2 nm ∈ g_GW ∧ ∀ U : State, Nx U → va_Nc (g_xn e) nm U) (hcov : x.1 ≤ pc ∧ pc < x.2.1) (hx0 : x.2.2.2 ≠ 0) (hlink : Cond.classLink own x.2.2.2 (g_xn e) ∈ g_GW) (hcast : Cond.castable (g_xn e) (g_xn e) ∈ g_NW)
    (kk : ∀ q : Nat, G θ (1, 6) w σ1 x.2.2.1 L [.ref q]) : G θ (0, 0) w σ pc L (As.reverse ++ S) := by
  obtain ⟨p, l, e9, R, s, m, args, below, meth, c, A, D, cA, Q⟩ := θ
  obtain ⟨hx, hb, hml, hown, hts, hlk, hA, hK, hfr, hlo⟩ := X
  obtain ⟨hr, htab, hR1, hR2, hN, rfl⟩ := hq
  obtain ⟨c1, c2, c3⟩ := hc
  intro H locs ls hl' hP hD hS
  have hcw : CallB R s args own idx y cy maxL ret (Cond.code y cy maxL ret :: g_GW) { frames := fr', cells := 1, slots := 6, locals := lo' } 1 6 n ∧ (Cond.static y).before args s = true :=
    ⟨callB_of n hts (g_goodIn c1) rfl rfl rfl (hts _ c2) (hts _ hl) c3 ⟨Nat.le_trans hroom.1 hfr, Nat.le_trans hroom.2 hlo⟩, hts _ hv⟩
  have run := vx_runS (p := p) (e := e9) (meth := meth) (below := below) (H := H) (locs := locs) (cells := 0) (slots := 0) (As := As) (rest := S) (g := F0 m pc ls (As.reverse ++ S)) ⟨hx, hb, hml, hown, hts⟩ (hR A D cA H.size (fun q hq => hA q (Nat.le_trans hS.1 hq))) hcw ⟨g_blind, fun U hU hW => ⟨rfl, g_pre (fun _ h => h) hK hP hD hS hU hW⟩⟩ rfl hn (by rw [← hml]; exact hl'.1) rfl (lv_room hS8) hd ⟨hR1, hR2⟩
  intro T9 hT9 X9
  rcases run T9 hT9 X9 with ⟨v, st₀, t, T', L9, h0, X', hL, e1, e2, hno, st⟩ | ⟨q, st₀, t, T', L9, E, ce, h0, X', hL, e1, e2, ⟨hE, hp, hF⟩, hce, hcv, hcl, st⟩
  · exact hno.elim
  · subst hE
    obtain ⟨k1, k2, k3⟩ := vx_keep h0 e1 hS (fun _ _ h => h) (fun _ h => h) hL hF
    have hcat := vx_catch (p := p) (l := l) (e := e9) (R := R) (args := args) (below := below) (meth := meth) (H := T'.heap) (locs := locs ++ L9) (cells := 0 + 1) (slots := 0 + 6) (Q := MQ below (g_Qc D cA A w (some (.int r)) σ') args s 1 6 A) (pc := pc) (ls := ls) (rest := S) (c := c) (m := m) (q := q) (name := g_xn e) hown (tableOf pre) ⟨x.1, x.2.1, x.2.2.1, x.2.2.2⟩ (tableOf suf) (by rw [htab, hsplit]; simp [tableOf])
      (fun z hz => by
        obtain ⟨z', hz', rfl⟩ := List.mem_map.mp hz
        obtain ⟨nm, g1, g2, g3⟩ := hpass z' hz'
        exact Or.inr ⟨g1, nm, hts _ g2, g3 s hN⟩) (by simp only [covers, Bool.and_eq_true, decide_eq_true_eq]; exact hcov) hx0 (hts _ hlink) (g_nw hK.2.1 hcast) (by rw [e1]; exact hce) hcv hcl
      (kk q T'.heap (locs ++ L9) ls hl' (by rw [e1]; exact hp) (g_D hD) k3)
    obtain ⟨t2, a1, b1⟩ := hcat T' rfl X'
    exact ⟨t2, st.trans a1, b1⟩
/-- a static call of such a method -/
theorem G_callSW {y : MethodName} {cy : ByteArray} {maxL idx n fr' lo' : Nat} {v : Int32} (As : List Value) (X : Cx θ g_strs cc nL own fr lo) (hN : match θ with | (p, l, e, R, s, m, args, below, meth, c, A, D, cA, Q) => Nx s) (hd : decode cc pc = .ok (.invokestatic idx, 3)) (hcode : Cond.codeWith y cy maxL (some .int) hh ∈ g_GW) (hini : Cond.initialized y.cls ∈ g_GW) (c3 : y.cls ≠ "java/lang/invoke/MethodHandle" ∧ y.cls ≠ "java/lang/invoke/VarHandle" ∧ (parseMethodDescriptor y.desc).map (fun d => d.parameters.length) = some n) (hv : Cond.static y ∈ g_GW) (hl : Cond.methodLink own idx y ∈ g_GW)
    (hR : RtW θ.2.1 y cy maxL hh fr' lo' w As σ v σ1) (hn : As.length = n) (hroom : fr' + 1 ≤ fr ∧ 8 + (maxL + 11) + lo' ≤ lo) (hS8 : (S.map fun v => v.category).sum ≤ 8) (hcs : Rm θ (cs.1 + 1) (cs.2 + 6))
    (kk : G θ (cs.1 + 1, cs.2 + 6) w σ1 (pc + 3) L (.int v :: S)) : G θ cs w σ pc L (As.reverse ++ S) := by
  obtain ⟨p, l, e, R, s, m, args, below, meth, c, A, D, cA, Q⟩ := θ
  obtain ⟨hx, hb, hml, hown, hts, hlk, hA, hK, hfr, hlo⟩ := X
  intro H locs ls hl' hP hD hS
  have hG : GoodIn g_GW (va_wsS own idx y (Cond.codeWith y cy maxL (some .int) hh :: g_GW)) := by
    have hall : ∀ w ∈ g_GW, goodWord w = true := fun w hw => (List.mem_filter.mp hw).2
    intro w hw
    have hm : w ∈ g_GW := by
      simp only [va_wsS, List.mem_append, List.mem_cons, List.not_mem_nil, or_false] at hw
      rcases hw with (rfl | rfl | rfl) | rfl | hw
      · exact hl
      · exact hv
      · exact hini
      · exact hcode
      · exact hw
    exact ⟨hm, good_of_word (hall _ hm)⟩
  have hcw := vx_cwSW (R := R) (rm := { frames := fr', cells := 1, slots := 6, locals := lo' }) (mc := 1) (ms := 6) n hts hG rfl rfl rfl c3 ⟨Nat.le_trans hroom.1 hfr, Nat.le_trans hroom.2 hlo⟩
  have run := vx_runSW (p := p) (e := e) (meth := meth) (below := below) (H := H) (locs := locs) (cells := cs.1) (slots := cs.2) (As := As) (rest := S) (g := F0 m pc ls (As.reverse ++ S)) ⟨hx, hb, hml, hown, hts⟩ (hR A D cA H.size (fun q hq => hA q (Nat.le_trans hS.1 hq))) hcw ⟨g_blindW, fun U hU hW => ⟨rfl, g_pre (fun _ h => h) hK hP hD hS hU hW, Nx.moved hW.alike hN⟩⟩ rfl hn (by rw [← hml]; exact hl'.1) rfl (lv_room hS8) hd hcs
  intro T9 hT9 X9
  obtain ⟨v', st₀, t, T', L9, h0, X', hL, e1, e2, ⟨hv', hp, hz, hk⟩, st⟩ := run T9 hT9 X9
  cases hv'
  rw [h0] at hz hk
  obtain ⟨t2, a1, b1⟩ := kk T'.heap (locs ++ L9) ls hl' (by rw [e1]; exact hp) (g_D hD)
    ⟨Nat.le_trans hS.1 (by rw [e1]; exact hz), fun q h1 h2 => by rw [e1, hk q (Nat.lt_of_lt_of_le h1 hS.1) h2]; exact hS.2.1 q h1 h2, fun q hq => by
      rcases List.mem_append.mp hq with h | h
      · exact hS.2.2 q h
      · exact hL q h⟩ T' rfl X'
  exact ⟨t2, st t2 a1, b1⟩
end GW
/-! the law's own rules -/
def Sx (θ : Th) (b n : Nat) (xs : Nat → Int32) : Prop := match θ with
  | (p, l, e, R, s, m, args, below, meth, c, A, D, cA, Q) => va_X b n xs s s.heap ∧ b < s.heap.size ∧ ¬ A b ∧ Nx s
section GL
variable {θ : Th} {cs : Nat × Nat} {w : Wd} {σ σ1 : St} {pc : Nat} {L : LV} {S : List Value} {strs strs' : List (String × Nat × String)} {cc : ByteArray} {nL : Nat} {own : String} {fr lo : Nat} {b n : Nat} {xs : Nat → Int32}
theorem Sx.nx (h : Sx θ b n xs) : match θ with | (p, l, e, R, s, m, args, below, meth, c, A, D, cA, Q) => Nx s := by
  obtain ⟨p, l, e, R, s, m, args, below, meth, c, A, D, cA, Q⟩ := θ
  exact h.2.2.2
theorem G_sld {i : Int32} (X : Cx θ strs cc nL own fr lo) (hS9 : Sx θ b n xs) (hd : decode cc pc = .ok (.iaload, 1)) (hin : inb i n = true) (kk : G θ cs w σ (pc + 1) L (.int (xs (ix i)) :: S)) : G θ cs w σ pc L (.int i :: .ref b :: S) := by
  obtain ⟨p, l, e, R, s, m, args, below, meth, c, A, D, cA, Q⟩ := θ
  obtain ⟨hx, hb, hml, hown, hts, hlk, hA, hK, hfr, hlo⟩ := X
  intro H locs ls hl' hP hD hS
  exact va_sld hx hb hS9.1 hS9.2.1 hS9.2.2.1 hS (inb_vp hin) hd (kk H locs ls hl' hP hD hS)
theorem G_slen (X : Cx θ strs cc nL own fr lo) (hS9 : Sx θ b n xs) (hd : decode cc pc = .ok (.arraylength, 1)) (kk : G θ cs w σ (pc + 1) L (.int (Int32.ofNat n) :: S)) : G θ cs w σ pc L (.ref b :: S) := by
  obtain ⟨p, l, e, R, s, m, args, below, meth, c, A, D, cA, Q⟩ := θ
  obtain ⟨hx, hb, hml, hown, hts, hlk, hA, hK, hfr, hlo⟩ := X
  intro H locs ls hl' hP hD hS
  exact va_slen hx hb hS9.1 hS9.2.1 hS9.2.2.1 hS hd (kk H locs ls hl' hP hD hS)
end GL
/-! a static method that reads the script -/
def g_BS (D : va_G) (cA : Nat → ClassId) (A : Nat → Prop) (w : Wd) (σ : St) (sz b n : Nat) (xs : Nat → Int32) (U : State) : Prop := g_B D cA [] A w σ sz U ∧ va_X b n xs U U.heap ∧ b < U.heap.size ∧ ¬ A b ∧ Nx U
theorem g_blindS {D : va_G} {cA : Nat → ClassId} {A : Nat → Prop} {w : Wd} {σ : St} {sz b n : Nat} {xs : Nat → Int32} {av : List Value} : FrameBlind (va_Pc av (g_BS D cA A w σ sz b n xs)) := by
  intro a U g mk h
  have h1 := g_blind a U g mk ⟨h.1, h.2.1⟩
  exact ⟨h1.1, h1.2, va_X.moved (u := U) (U := U.calling g mk a) (Vm.Alike.refl U.vm) h.2.2.1, h.2.2.2.1, h.2.2.2.2.1, Nx.moved (u := U) (U := U.calling g mk a) (Vm.Alike.refl U.vm) h.2.2.2.2.2⟩
def RtS (l : Launch) (y : MethodName) (cc : ByteArray) (maxL : Nat) (fr lo : Nat) (w : Wd) (av : List Value) (σ : St) (b n : Nat) (xs : Nat → Int32) (v : Int32) : Prop :=
  ∀ (A : Nat → Prop) (D : va_G) (cA : Nat → ClassId) (sz : Nat), (∀ q, sz ≤ q → A q) →
    Met l y (Cond.code y cc maxL (some .int) :: g_GW) { frames := fr, cells := 0, slots := 0, locals := lo } (va_Pc av (g_BS D cA A w σ sz b n xs)) (g_Qc D cA A w (some (.int v)) σ) 0 0 A
theorem RtS.intro {l : Launch} {y : MethodName} {cc : ByteArray} {maxL : Nat} {fr lo : Nat} {w : Wd} {av : List Value} {σ : St} {b n : Nat} {xs : Nat → Int32} {v : Int32} {L : LV}
    (hy : plainName y.cls = true) (hn : (lg_sl av).length ≤ maxL) (hL : g_pairs L = lv_args 0 av)
    (body : ∀ θ : Th, θ.2.1 = l → Cx θ [] cc maxL y.cls fr lo → Sx θ b n xs → Rq θ w (some .int) (some (.int v)) σ → G θ (0, 0) w σ 0 L []) : RtS l y cc maxL fr lo w av σ b n xs v := by
  intro A D cA sz hA
  refine Met.ofW (cc := cc) (maxL := maxL) (ret := some .int) hy rfl ?_
  intro p e s m args below meth c s₁ B hml hv
  obtain ⟨rfl, ⟨hsz, hP, hD, hK⟩, hX, hbl, hbA, hN⟩ := hv
  have hts := atoms_spec (ws := Cond.code y cc maxL (some .int) :: g_GW) B.pre
  have hown : s.vm.findClass y.cls = some m.cls := findClass_of_methodNamed B.named
  subst hsz
  have hb := body (p, l, e, (headSpec (Cond.code y cc maxL (some .int) :: g_GW) { frames := fr, cells := 0, slots := 0, locals := lo }).room, s, m, av.toArray, below, meth, c, A, D, cA, MQ below (g_Qc D cA A w (some (.int v)) σ) av.toArray s 0 0 A) rfl
    ⟨B.exec, B.bytes, hml, hown, fun w hw => hts w (List.mem_cons_of_mem _ hw), B.notSynchronized, hA, hK, Nat.le_refl _, Nat.le_refl _⟩ ⟨hX, hbl, hbA, hN⟩ ⟨B.returns, rfl⟩
  rw [lg_entry_eq]
  exact hb s.heap [] _ (by rw [hml]; exact LH.entry av hn hL) hP hD va_S.rf
section GSS
variable {θ : Th} {cs : Nat × Nat} {w : Wd} {σ σ1 : St} {pc : Nat} {L : LV} {S : List Value} {strs : List (String × Nat × String)} {cc : ByteArray} {nL : Nat} {own : String} {fr lo : Nat} {b N : Nat} {xs : Nat → Int32}
theorem G_callSS {y : MethodName} {cy : ByteArray} {maxL idx n fr' lo' : Nat} {v : Int32} (As : List Value) (X : Cx θ strs cc nL own fr lo) (hS9 : Sx θ b N xs) (hd : decode cc pc = .ok (.invokestatic idx, 3)) (hc : CBd y cy maxL (some .int) n) (hv : Cond.static y ∈ g_GW) (hl : Cond.methodLink own idx y ∈ g_GW)
    (hR : RtS θ.2.1 y cy maxL fr' lo' w As σ b N xs v) (hn : As.length = n) (hroom : fr' + 1 ≤ fr ∧ 8 + (maxL + 11) + lo' ≤ lo) (hS8 : (S.map fun v => v.category).sum ≤ 8) (hcs : Rc θ cs)
    (kk : G θ cs w σ (pc + 3) L (.int v :: S)) : G θ cs w σ pc L (As.reverse ++ S) := by
  obtain ⟨p, l, e, R, s, m, args, below, meth, c, A, D, cA, Q⟩ := θ
  obtain ⟨hx, hb, hml, hown, hts, hlk, hA, hK, hfr, hlo⟩ := X
  obtain ⟨hX, hbl, hbA, hN⟩ := hS9
  obtain ⟨c1, c2, c3⟩ := hc
  intro H locs ls hl' hP hD hS
  have hcw : CallB R s args own idx y cy maxL (some .int) (Cond.code y cy maxL (some .int) :: g_GW) { frames := fr', cells := 0, slots := 0, locals := lo' } 0 0 n ∧ (Cond.static y).before args s = true :=
    ⟨callB_of n hts (g_goodIn c1) rfl rfl rfl (hts _ c2) (hts _ hl) c3 ⟨Nat.le_trans hroom.1 hfr, Nat.le_trans hroom.2 hlo⟩, hts _ hv⟩
  refine g_go (a := As.toArray) (v := some (.int v)) (σ1 := σ) (va_runS (As := As) (rest := S) ⟨hx, hb, hml, hown, hts⟩ (hR A D cA H.size (fun q hq => hA q (Nat.le_trans hS.1 hq))) hcw ⟨g_blindS, fun U hU hW => ⟨rfl, g_pre nosub hK hP hD hS hU hW, ?_, ?_, hbA, Nx.moved hW.alike hN⟩⟩ rfl hn (by rw [← hml]; exact hl'.1) rfl (lv_room hS8) hd ⟨hcs.1, hcs.2⟩) hS (fun H1 locs1 hP1 hS1 => ?_)
  · rw [hU]
    exact va_X.moved hW.alike (hX.kept (hS.2.1 b hbl hbA))
  · rw [hU]
    exact Nat.lt_of_lt_of_le hbl hS.1
  · exact kk H1 locs1 ls hl' hP1 (g_D hD) hS1
def cay {α β : Type} (o : Option (Except Nat α × St)) (f : α → St → Option β) : Option β := match o with
  | some (.ok v, σ) => f v σ
  | _ => none
theorem cay_go {α β : Type} {o : Option (Except Nat α × St)} {f : α → St → Option β} {r : β} (h : cay o f = some r) : ∃ v σ, o = some (.ok v, σ) ∧ f v σ = some r := by
  cases o with
  | none => cases h
  | some q =>
    obtain ⟨x', σ1⟩ := q
    cases x' with
    | error e => cases h
    | ok v => exact ⟨v, σ1, rfl, h⟩
end GSS
end
section
/-! the law's own methods that read the script or catch -/
theorem w_226 : Cond.castable "java/lang/IllegalArgumentException" "java/lang/IllegalArgumentException" ∈ g_NW := g_memN (i := 226) (by decide +kernel) rfl
theorem w_298 : Cond.castable "java/lang/IllegalStateException" "java/lang/IllegalStateException" ∈ g_NW := g_memN (i := 298) (by decide +kernel) rfl
theorem w_466 : Cond.code yL_cell cL_cell 2 (some .int) ∈ g_GW := g_mem (i := 466) (by decide +kernel) rfl
theorem w_468 : Cond.static yL_act ∈ g_GW := g_mem (i := 468) (by decide +kernel) rfl
theorem w_469 : Cond.codeWith yL_act cL_act 7 (some .int) [(0, 11, 12, 22), (0, 11, 18, 24)] ∈ g_GW := g_mem (i := 469) (by decide +kernel) rfl
theorem w_470 : Cond.classLink "QuasigroveLaw" 22 "java/lang/IllegalArgumentException" ∈ g_GW := g_mem (i := 470) (by decide +kernel) rfl
theorem w_471 : Cond.classLink "QuasigroveLaw" 24 "java/lang/IllegalStateException" ∈ g_GW := g_mem (i := 471) (by decide +kernel) rfl
theorem w_472 : Cond.methodLink "QuasigroveLaw" 16 yL_told ∈ g_GW := g_mem (i := 472) (by decide +kernel) rfl
def tb_L_cell : List (Nat × Instr × Nat) := [(0, .aload_n 0, 1), (1, .arraylength, 1), (2, .ifCond .ne 7, 3), (5, .iconst 0, 1), (6, .goto 14, 3), (9, .aload_n 0, 1), (10, .iload_n 1, 1), (11, .aload_n 0, 1), (12, .arraylength, 1), (13, .irem, 1), (14, .iaload, 1), (15, .bipush 31, 2), (17, .iload_n 1, 1), (18, .imul, 1), (19, .iadd, 1), (20, .ireturn, 1)]
theorem dt_L_cell : decAll cL_cell tb_L_cell := by unfold decAll tb_L_cell; decide +kernel
def tb_L_act : List (Nat × Instr × Nat) := [(0, .aload_n 0, 1), (1, .iload_n 1, 1), (2, .iload_n 2, 1), (3, .iload_n 3, 1), (4, .iload 4, 2), (6, .iload 5, 2), (8, .invokestatic 16, 3), (11, .ireturn, 1), (12, .astore 6, 2), (14, .sipush (-1002), 3), (17, .ireturn, 1), (18, .astore 6, 2), (20, .sipush (-1003), 3), (23, .ireturn, 1)]
theorem dt_L_act : decAll cL_act tb_L_act := by unfold decAll tb_L_act; decide +kernel
theorem cb_L_cell : CBd yL_cell cL_cell 2 (some .int) 2 := ⟨w_466, w_6, by decide +kernel, by decide +kernel, by decide +kernel⟩
def f_L_cell (n : Nat) (xs : Nat → Int32) (v1 : Int32) : Option Int32 :=
  if Int32.ofNat n = 0 then some 0
  else rmi v1 (Int32.ofNat n) fun q =>
    if inb q n = true then some (xs (ix q) + 31 * v1) else none

set_option maxRecDepth 100000 in
set_option maxHeartbeats 4000000 in
theorem s_L_cell (l : Launch) (ad : Nat → Nat) (σ : St) (b n : Nat) (xs : Nat → Int32) (v1 : Int32) {rv : Int32} (h : f_L_cell n xs v1 = some rv) : RtS l yL_cell cL_cell 2 0 0 (g_SH, ad) [.ref b, .int v1] σ b n xs rv := by
  refine RtS.intro (L := [some (.ref b), some (.int v1)]) (by decide +kernel) (Nat.le_of_ble_eq_true rfl) rfl (fun θ hl X hS9 hq => ?_)
  unfold f_L_cell at h
  refine G_aload_n (pc := 0) 0 X (dg dt_L_cell 0 rfl) rfl rfl ?_
  refine G_slen (pc := 1) X hS9 (dg dt_L_cell 1 rfl) ?_
  refine G_if_ne (pc := 2) 9 X (dg dt_L_cell 2 rfl) (by decide) h (fun h => ?_) (fun h => ?_)
  · refine G_aload_n (pc := 9) 0 X (dg dt_L_cell 5 rfl) rfl rfl ?_
    refine G_iload_n (pc := 10) 1 X (dg dt_L_cell 6 rfl) rfl rfl ?_
    refine G_aload_n (pc := 11) 0 X (dg dt_L_cell 7 rfl) rfl rfl ?_
    refine G_slen (pc := 12) X hS9 (dg dt_L_cell 8 rfl) ?_
    refine G_irem (pc := 13) X (dg dt_L_cell 9 rfl) h (fun q h => ?_)
    by_cases hin : inb q n = true
    · rw [if_pos hin] at h
      refine G_sld (pc := 14) X hS9 (dg dt_L_cell 10 rfl) hin ?_
      refine G_bipush (pc := 15) 31 X (dg dt_L_cell 11 rfl) (by decide) ?_
      refine G_iload_n (pc := 17) 1 X (dg dt_L_cell 12 rfl) rfl rfl ?_
      refine G_imul (pc := 18) X (dg dt_L_cell 13 rfl) ?_
      refine G_iadd (pc := 19) X (dg dt_L_cell 14 rfl) ?_
      exact G_iretp (pc := 20) X hq (dg dt_L_cell 15 rfl) h
    · rw [if_neg hin] at h
      cases h
  · refine G_iconst (pc := 5) 0 X (dg dt_L_cell 3 rfl) (by decide) ?_
    refine G_goto (pc := 6) 20 X (dg dt_L_cell 4 rfl) (by decide) ?_
    exact G_iretp (pc := 20) X hq (dg dt_L_cell 15 rfl) h

def f_L_act (σ : St) (v1 : Int32) (v2 : Int32) (v3 : Int32) (v4 : Int32) (v5 : Int32) : Option (Int32 × St) := match f_L_told σ v1 v2 v3 v4 v5 with
  | some (.ok v, σ1) => some (v, σ1)
  | some (.error 2, σ1) => some (-1002, σ1)
  | some (.error 3, σ1) => some (-1003, σ1)
  | _ => none

set_option maxRecDepth 100000 in
set_option maxHeartbeats 4000000 in
theorem s_L_act {l : Launch} (htr : l.stackTraces = false) (ad : Nat → Nat) (σ : St) (v1 : Int32) (v2 : Int32) (v3 : Int32) (v4 : Int32) (v5 : Int32) {k : Int32} {σe : St} (h : f_L_act σ v1 v2 v3 v4 v5 = some (k, σe)) : RtW l yL_act cL_act 7 [(0, 11, 12, 22), (0, 11, 18, 24)] 9 173 (g_SH, ad) [.ref (ad 0), .int v1, .int v2, .int v3, .int v4, .int v5] σ k σe := by
  refine RtW.intro (L := [some (.ref (ad 0)), some (.int v1), some (.int v2), some (.int v3), some (.int v4), some (.int v5), none]) (by decide +kernel) (Nat.le_of_ble_eq_true rfl) rfl (fun θ hl X hq => ?_)
  subst hl
  unfold f_L_act at h
  refine G_aload_n (pc := 0) 0 X (dg dt_L_act 0 rfl) rfl rfl ?_
  refine G_iload_n (pc := 1) 1 X (dg dt_L_act 1 rfl) rfl rfl ?_
  refine G_iload_n (pc := 2) 2 X (dg dt_L_act 2 rfl) rfl rfl ?_
  refine G_iload_n (pc := 3) 3 X (dg dt_L_act 3 rfl) rfl rfl ?_
  refine G_iload (pc := 4) X (dg dt_L_act 4 rfl) rfl ?_
  refine G_iload (pc := 6) X (dg dt_L_act 5 rfl) rfl ?_
  generalize hf : f_L_told σ v1 v2 v3 v4 v5 = o at h
  match o, hf, h with
  | none, hf, h => cases h
  | some (.ok v, σ1), hf, h =>
    cases h
    refine G_callS (pc := 8) (S := []) [.ref (ad 0), .int v1, .int v2, .int v3, .int v4, .int v5] (fun _ h => h) X (dg dt_L_act 6 rfl) cb_L_told w_473 w_472 (s_L_told htr () ad _ _ _ _ _ _ hf) rfl ⟨Nat.le_of_ble_eq_true rfl, Nat.le_of_ble_eq_true rfl⟩ (Nat.le_of_ble_eq_true rfl) Rc0 ?_
    exact G_wret (pc := 11) (cs := (0, 0)) X hq (dg dt_L_act 7 rfl) (by decide) rfl
  | some (.error e, σ1), hf, h =>
    match e, hf, h with
    | 0, hf, h => cases h
    | 1, hf, h => cases h
    | 2, hf, h =>
      cases h
      refine G_callSC (pc := 8) (S := []) (e := 2) [.ref (ad 0), .int v1, .int v2, .int v3, .int v4, .int v5] [] (0, 11, 12, 22) [(0, 11, 18, 24)] X hq (dg dt_L_act 6 rfl) cb_L_told w_473 w_472 (s_L_told htr () ad _ _ _ _ _ _ hf) rfl ⟨Nat.le_of_ble_eq_true rfl, Nat.le_of_ble_eq_true rfl⟩ (Nat.le_of_ble_eq_true rfl) rfl (fun _ h => absurd h List.not_mem_nil) (by decide) (by decide) w_470 w_226 (fun q => ?_)
      refine G_astore (pc := 12) X (dg dt_L_act 8 rfl) (Nat.le_of_ble_eq_true rfl) rfl ?_
      refine G_sipush (pc := 14) (-1002) X (dg dt_L_act 9 rfl) (by decide) ?_
      exact G_wret (pc := 17) (cs := (1, 6)) X hq (dg dt_L_act 10 rfl) (by decide) rfl
    | 3, hf, h =>
      cases h
      refine G_callSC (pc := 8) (S := []) (e := 3) [.ref (ad 0), .int v1, .int v2, .int v3, .int v4, .int v5] [(0, 11, 12, 22)] (0, 11, 18, 24) [] X hq (dg dt_L_act 6 rfl) cb_L_told w_473 w_472 (s_L_told htr () ad _ _ _ _ _ _ hf) rfl ⟨Nat.le_of_ble_eq_true rfl, Nat.le_of_ble_eq_true rfl⟩ (Nat.le_of_ble_eq_true rfl) rfl (List.forall_mem_cons.mpr ⟨⟨_, by decide, w_470, fun U h => h.2.2⟩, (fun _ h => absurd h List.not_mem_nil)⟩) (by decide) (by decide) w_471 w_298 (fun q => ?_)
      refine G_astore (pc := 18) X (dg dt_L_act 11 rfl) (Nat.le_of_ble_eq_true rfl) rfl ?_
      refine G_sipush (pc := 20) (-1003) X (dg dt_L_act 12 rfl) (by decide) ?_
      exact G_wret (pc := 23) (cs := (1, 6)) X hq (dg dt_L_act 13 rfl) (by decide) rfl
    | n + 4, hf, h => cases h
end
