-- ===== end of PART A; then your names; then what follows =====
/-! THE CLAIM OUT OF ONE WALK OF THE LAW'S BODY. Your part is whole_start (and what it stands on); all else here is the same for every law, but numbers. -/
def R_law : String := "QuasigroveLaw"
def lw_P (b : Addr) (xs : List Int32) (args : Array Value) (s : State) : Prop := args = #[.ref b] ∧ s.IntsAt b xs ∧ xs.length ≤ 2560 ∧ (Jvm.Cond.and given_1 narrow_1).before args s = true
def lw_Q (_ : Array Value) (s : State) (o : Outcome) (t : State) : Prop := o = .returned (some (.int 1)) ∧ Framed s o t [] 601024 7293034
def lw_Z (below : List Frame) (a : Array Value) (s : State) : State → Prop := fun t => ∃ o, t.status = .running ∧ Ended t below o ∧ lw_Q a s o t
/-- the law's own end, with 1 on the stack, nothing written that was there before, its room as the claim has it -/
theorem lw_ret {p : Program} {l : Launch} {e : Env} {s : State} {m : MethodId} {below : List Frame} {meth : Method} {c : Code} {b : Nat} (hx : p.tables.exec = Jvm.exec) (hb : c.code = code) (hr : meth.sig.returnType = ret) (hlocks : meth.locks = false) {pc : Nat} {H : Heap} {ls : Array Slot} (hdg : decode code pc = .ok (.ireturn, 1)) : W p l e room_1 s m #[Value.ref b] below meth c H [] 601024 7293034 (lw_Z below #[Value.ref b] s) (F0 m pc ls [.int 1]) := by
  intro T hT X
  obtain ⟨fs, hret, hrun, hended, hW, hframe⟩ := X.leave (v := some (.int 1)) (hlocks := hlocks) (fun h => by rw [hr] at h; cases h)
  have hmeth' : T.vm.method? m = some meth := X.method'
  refine ⟨T.setFrames fs, ?_, .returned (some (.int 1)), hrun, hended, rfl, ⟨_, rfl⟩, hW, hframe⟩
  jvm_step X.here [X.here.top, hx, hb, hdg, hmeth', hr, ret, narrow_b1]
  (try refine ⟨rfl, ?_⟩); (try refine ⟨rfl, ?_⟩)
  first | (intro acts; rw [hret _ acts rfl rfl rfl]) | rw [hret _ _ rfl rfl rfl]
  exact Steps.refl _
/-- what holds at the law's entry: the machine, the code, the tables' words (any of lw_tbl by 'hts w (by decide +kernel)'), the script of L ints xs at the cell b, what the Statement gives of the start (any of its parts by flat_of_before) -/
def lw_At (p : Program) (s : State) (m : MethodId) (meth : Method) (c : Code) (b L : Nat) (xs : Nat → Int32) : Prop :=
  p.tables.exec = Jvm.exec ∧ c.code = code ∧ meth.sig.returnType = ret ∧ c.maxLocals = 7 ∧ s.vm.findClass R_law = some m.cls ∧ (∀ w ∈ lw_tbl, w.before #[Value.ref b] s = true) ∧ va_X b L xs s s.heap ∧ b < s.heap.size ∧ meth.locks = false ∧ (Jvm.Cond.and given_1 narrow_1).before #[Value.ref b] s = true
-- ===== the walk, but for what is owed of the numbers =====
theorem w_93 : Cond.classLink "QuasigroveLaw" 8 "Quasigrove" ∈ g_GW := g_mem (i := 93) (by decide +kernel) rfl
theorem w_95 : Cond.methodLink "QuasigroveLaw" 111 yX11_init ∈ g_GW := g_mem (i := 95) (by decide +kernel) rfl
theorem w_96 : Cond.instanceMethod yX11_init ∈ g_GW := g_mem (i := 96) (by decide +kernel) rfl
theorem w_1056 : Cond.classLink "QuasigroveLaw" 112 "QuasigroveModel" ∈ g_GW := g_mem (i := 1056) (by decide +kernel) rfl
theorem w_1058 : Cond.methodLink "QuasigroveLaw" 114 yX12_init ∈ g_GW := g_mem (i := 1058) (by decide +kernel) rfl
theorem w_1059 : Cond.instanceMethod yX12_init ∈ g_GW := g_mem (i := 1059) (by decide +kernel) rfl
def q_end (σm : St) : St := (wr (wr (wr (wr (wr (wr (wr (wr (wr (wr (wr (wr (wr (wr (wr (wr (wr (wr (wr (wr (wr (wr (wr (wr (wr (wr (wr (wr (wr (wr (wr (wr (wr (wr (wr σm 10 3 0) 16 2 0) 18 5 0) 18 6 0) 26 3 2) 26 4 0) 30 3 2) 30 4 0) 23 5 0) 23 6 0) 0 8 0) 34 3 2) 34 4 0) 38 3 2) 38 4 0) 42 3 2) 42 4 0) 46 3 2) 46 4 0) 50 3 2) 50 4 0) 54 3 2) 54 4 0) 58 3 2) 58 4 0) 62 3 2) 62 4 0) 66 3 2) 66 4 0) 70 3 2) 70 4 0) 74 3 2) 74 4 0) 78 3 2) 78 4 0)
def law_s0 (σm : St) : St := wr (q_end σm) 82 0 0
def Init (Inv : St → Prop) : Prop := ∃ σm : St, f_Maps_init (wr (wr (fun _ _ => 0) 2 3 2) 2 4 0) = some ((), σm) ∧ (∀ m j, 10 ≤ m → σm m j = 0) ∧ Inv (law_s0 σm)
theorem q_end_ge {σm : St} (hz : ∀ m j, 10 ≤ m → σm m j = 0) : ∀ m j, 82 ≤ m → q_end σm m j = 0 := by
  intro m j hm
  unfold q_end
  rw [wr_ne (k' := m) (by omega), wr_ne (k' := m) (by omega), wr_ne (k' := m) (by omega), wr_ne (k' := m) (by omega), wr_ne (k' := m) (by omega), wr_ne (k' := m) (by omega), wr_ne (k' := m) (by omega), wr_ne (k' := m) (by omega), wr_ne (k' := m) (by omega), wr_ne (k' := m) (by omega), wr_ne (k' := m) (by omega), wr_ne (k' := m) (by omega), wr_ne (k' := m) (by omega), wr_ne (k' := m) (by omega), wr_ne (k' := m) (by omega), wr_ne (k' := m) (by omega), wr_ne (k' := m) (by omega), wr_ne (k' := m) (by omega), wr_ne (k' := m) (by omega), wr_ne (k' := m) (by omega), wr_ne (k' := m) (by omega), wr_ne (k' := m) (by omega), wr_ne (k' := m) (by omega), wr_ne (k' := m) (by omega), wr_ne (k' := m) (by omega), wr_ne (k' := m) (by omega), wr_ne (k' := m) (by omega), wr_ne (k' := m) (by omega), wr_ne (k' := m) (by omega), wr_ne (k' := m) (by omega), wr_ne (k' := m) (by omega), wr_ne (k' := m) (by omega), wr_ne (k' := m) (by omega), wr_ne (k' := m) (by omega), wr_ne (k' := m) (by omega)]
  exact hz m j (by omega)
set_option maxRecDepth 100000 in
set_option maxHeartbeats 8000000 in
theorem law_enter {Inv : St → Prop} (hok : StepOK Inv) (hin : Init Inv) {θ : Th} {b n : Nat} {xs : Nat → Int32} (hn : n ≤ 2560) (X : Cx θ g_strs code 7 "QuasigroveLaw" 2048 84000) (hS9 : Sx θ b n xs) (htr : θ.2.1.stackTraces = false) (hR : Rm θ 601024 7293034) (hAO : AOx θ)
    (hfin : ∀ (ad : Nat → Nat) (σ : St) (cs : Nat × Nat), cs.1 ≤ 601024 → cs.2 ≤ 7293034 → G θ cs (g_SH, ad) σ 2291 [] []) (ad0 : Nat → Nat) : G θ (0, 0) ([], ad0) (fun _ _ => 0) 0 [some (.ref b), none, none, none, none, none, none] [] := by
  obtain ⟨σm, hm, hzm, hI⟩ := hin
  refine G_new (pc := 0) [some none, some none, some none, some none, some none, some none, some none, some none, none] X (dg dt_lawA 0 rfl) fc_7 w_93 w_94 w_72 rfl df_7 rfl (fun _ => rfl) (Rm_of hR (Nat.le_of_ble_eq_true rfl) (Nat.le_of_ble_eq_true rfl)) (fun ad1 q1 ag1 e1 => ?_)
  have e1 : ad1 0 = q1 := e1
  show G θ (1, 9) (qt_Q_0, ad1) _ _ _ _
  refine G_dup (pc := 3) X (dg dt_lawA 1 rfl) rfl ?_
  refine G_callC (pc := 4) (b := q1) (S := [.ref q1]) [] nosub X (dg dt_lawA 2 rfl) cb_C_Q w_96 rfl w_95 (fun _ => hAO) (s_C_Q _ (fun _ _ _ => rfl) hm hzm) (by rw [e1]) rfl ⟨Nat.le_of_ble_eq_true rfl, Nat.le_of_ble_eq_true rfl⟩ (Nat.le_of_ble_eq_true rfl) (Rm_of hR (Nat.le_of_ble_eq_true rfl) (Nat.le_of_ble_eq_true rfl)) (fun ad2 ag2 => ?_)
  have h2 : ad2 0 = q1 := (ag2 0 (by decide)).trans e1
  show G θ (82, 2454) (qt_Q_59, ad2) (q_end σm) _ _ _
  refine G_astore_n (pc := 7) 1 X (dg dt_lawA 3 rfl) rfl (Nat.le_of_ble_eq_true rfl) rfl ?_
  refine G_new (pc := 8) [none, none, some none, some none, none, some none, some none, some none, some none, none, none, some none, some none, none, some none, none, some none, some none, none, some none, some none, some none, none, some none, some none, some none, some none, some none, some none] X (dg dt_lawA 4 rfl) fc_8 w_1056 w_1057 w_80 rfl df_8 (by decide +kernel) (fun j => q_end_ge hzm _ j (by decide)) (Rm_of hR (Nat.le_of_ble_eq_true rfl) (Nat.le_of_ble_eq_true rfl)) (fun ad3 q3 ag3 e3 => ?_)
  have e3 : ad3 82 = q3 := e3
  have h3 : ad3 0 = q1 := (ag3 0 (by decide)).trans h2
  show G θ (83, 2483) (qt_R_0, ad3) (q_end σm) _ _ _
  refine G_dup (pc := 11) X (dg dt_lawA 5 rfl) rfl ?_
  refine G_callC (pc := 12) (b := q3) (S := [.ref q3]) [] nosub X (dg dt_lawA 6 rfl) cb_C_R w_1059 rfl w_1058 (fun h9 => absurd h9 (by decide)) (s_C_R _ (fun m j hm9 => q_end_ge hzm m j (Nat.le_trans (by decide) hm9))) (by rw [e3]) rfl ⟨Nat.le_of_ble_eq_true rfl, Nat.le_of_ble_eq_true rfl⟩ (Nat.le_of_ble_eq_true rfl) (Rm_of hR (Nat.le_of_ble_eq_true rfl) (Nat.le_of_ble_eq_true rfl)) (fun ad4 ag4 => ?_)
  have h4 : ad4 0 = q1 := (ag4 0 (by decide)).trans h3
  have k4 : ad4 82 = q3 := (ag4 82 (by decide)).trans e3
  show G θ (103, 50681) (qt_R_40, ad4) (law_s0 σm) _ _ _
  refine G_astore_n (pc := 15) 2 X (dg dt_lawA 7 rfl) rfl (Nat.le_of_ble_eq_true rfl) rfl ?_
  refine G_iconst (pc := 16) 1 X (dg dt_lawA 8 rfl) (by decide) ?_
  refine G_newJ (pc := 17) (N := 1) X (dg dt_lawA 9 rfl) w_1461 rfl (by decide) (by decide) (by decide) (by decide +kernel) (fun j => by show wr (q_end σm) 82 0 0 103 j = 0; rw [wr_ne (by decide)]; exact q_end_ge hzm _ j (by decide)) (Rm_of hR (Nat.le_of_ble_eq_true rfl) (Nat.le_of_ble_eq_true rfl)) (fun ad5 q5 ag5 e5 => ?_)
  have e5 : ad5 103 = q5 := e5
  have h5 : ad5 0 = q1 := (ag5 0 (by decide)).trans h4
  have k5 : ad5 82 = q3 := (ag5 82 (by decide)).trans k4
  show G θ (104, 50682) (g_SH, ad5) (law_s0 σm) _ _ _
  refine G_astore_n (pc := 19) 3 X (dg dt_lawA 10 rfl) rfl (Nat.le_of_ble_eq_true rfl) rfl ?_
  refine G_iconst (pc := 20) 0 X (dg dt_lawA 11 rfl) (by decide) ?_
  refine G_istore (pc := 21) X (dg dt_lawA 12 rfl) (Nat.le_of_ble_eq_true rfl) rfl ?_
  refine G_wk (law_loop hok hn X hS9 htr hR (hfin ad5) (n + 1) 0 (law_s0 σm) (104, 50682) hI (by omega) (by omega) (Nat.le_of_ble_eq_true rfl) (Nat.le_of_ble_eq_true rfl)) ⟨rfl, ⟨?_, ⟨?_, ⟨?_, ⟨rfl, trivial⟩⟩⟩⟩⟩
  · rw [h5]
  · rw [k5]
  · rw [e5]
set_option maxHeartbeats 4000000 in
theorem whole_open {Inv : St → Prop} (hok : StepOK Inv) (hin : Init Inv) {p : Program} {e : Env} {s : State} {m : MethodId} {below : List Frame} {meth : Method} {c : Code} (l : Launch) (hflags : l.flags = flags0) {b L : Nat} {xs : Nat → Int32} (hL : L ≤ 2560) (C0 : lw_At p s m meth c b L xs) : W p l e room_1 s m #[Value.ref b] below meth c s.heap [] 0 0 (lw_Z below #[Value.ref b] s) (entryFrame m ([Value.ref b] : List Value).toArray 7) := by
  obtain ⟨hx, hb, hr, hml, hown, hts, hX, hbl, hlocks, hgv⟩ := C0
  obtain ⟨D, cA, hK⟩ := law_Kx hts hgv
  have htr : l.stackTraces = false := by
    unfold Launch.stackTraces
    rw [hflags]
    decide
  have X : Cx (p, l, e, room_1, s, m, #[Value.ref b], below, meth, c, (fun q => s.heap.size ≤ q), D, cA, lw_Z below #[Value.ref b] s) g_strs code 7 "QuasigroveLaw" 2048 84000 := ⟨hx, hb, hml, hown, fun w hw => hts w (List.mem_filter.mp hw).1, hlocks, fun q h => h, hK, Nat.le_refl _, Nat.le_refl _⟩
  have key := law_enter hok hin hL X (b := b) (n := L) (xs := xs) ⟨hX, hbl, Nat.not_le.mpr hbl, law_Nx hgv⟩ htr ⟨Nat.le_refl _, Nat.le_refl _⟩ (law_AO hts) (fun ad σ cs k1 k2 => by
    refine G_iconst (pc := 2291) 1 X (dg dt_lawZ 2 rfl) (by decide) ?_
    intro H locs ls hl hP hD hS
    refine va_forget (fun q hq => hS.2.2 q hq) ?_
    refine W.widen k1 k2 ?_
    exact lw_ret hx hb hr hlocks (dg dt_lawZ 3 rfl)) (fun _ => 0)
  rw [lg_entry_eq]
  exact key s.heap [] _ (by rw [hml]; exact LH.entry [.ref b] (n := 7) (Nat.le_of_ble_eq_true rfl) rfl) (fun k q h => by simp [g_ws] at h) ⟨fun i j p q h => by simp [g_ws] at h, fun k q h => by simp [g_ws] at h⟩ va_S.rf
