-- ===== end of PART A; then your names; then what follows =====
/-! THE CLAIM OUT OF ONE WALK OF THE LAW'S BODY. Your part is whole_start (and what it stands on); all else here is the same for every law, but numbers. -/
def R_law : String := "QuasigroveLaw"
def lw_P (b : Addr) (xs : List Int32) (args : Array Value) (s : State) : Prop := args = #[.ref b] ∧ s.IntsAt b xs ∧ xs.length ≤ 260 ∧ (Jvm.Cond.and given_1 narrow_1).before args s = true
def lw_Q (_ : Array Value) (s : State) (o : Outcome) (t : State) : Prop := o = .returned (some (.int 1)) ∧ Framed s o t [] 621957 7235753
def lw_Z (below : List Frame) (a : Array Value) (s : State) : State → Prop := fun t => ∃ o, t.status = .running ∧ Ended t below o ∧ lw_Q a s o t
/-- the law's own end, with 1 on the stack, nothing written that was there before, its room as the claim has it -/
theorem lw_ret {p : Program} {l : Launch} {e : Env} {s : State} {m : MethodId} {below : List Frame} {meth : Method} {c : Code} {b : Nat} (hx : p.tables.exec = Jvm.exec) (hb : c.code = code) (hr : meth.sig.returnType = ret) (hlocks : meth.locks = false) {pc : Nat} {H : Heap} {ls : Array Slot} (hdg : decode code pc = .ok (.ireturn, 1)) : W p l e room_1 s m #[Value.ref b] below meth c H [] 621957 7235753 (lw_Z below #[Value.ref b] s) (F0 m pc ls [.int 1]) := by
  intro T hT X
  obtain ⟨fs, hret, hrun, hended, hW, hframe⟩ := X.leave (v := some (.int 1)) (hlocks := hlocks) (fun h => by rw [hr] at h; cases h)
  have hmeth' : T.vm.method? m = some meth := X.method'
  refine ⟨T.setFrames fs, ?_, .returned (some (.int 1)), hrun, hended, rfl, ⟨_, rfl⟩, hW, hframe⟩
  jvm_step X.here [X.here.top, hx, hb, hdg, hmeth', hr, ret, narrow_b1]
  (try refine ⟨rfl, ?_⟩); (try refine ⟨rfl, ?_⟩)
  first | (intro acts; rw [hret _ acts rfl rfl rfl]) | rw [hret _ _ rfl rfl rfl]
  exact Steps.refl _
/-- what holds at the law's entry: the machine, the code, the tables' words (any of lw_tbl by 'hts w (by decide +kernel)'), the script of L ints xs at the cell b, what the Statement gives of the start (any of its parts by flat_of_before) -/
def lw_At (p : Program) (s : State) (m : MethodId) (meth : Method) (c : Code) (b L : Nat) (xs : Nat → Int32) : Prop :=
  p.tables.exec = Jvm.exec ∧ c.code = code ∧ meth.sig.returnType = ret ∧ c.maxLocals = 22 ∧ s.vm.findClass R_law = some m.cls ∧ (∀ w ∈ lw_tbl, w.before #[Value.ref b] s = true) ∧ va_X b L xs s s.heap ∧ b < s.heap.size ∧ meth.locks = false ∧ (Jvm.Cond.and given_1 narrow_1).before #[Value.ref b] s = true
-- ===== the walk, but for what is owed of the numbers =====
theorem w_24 : Cond.classLink "QuasigroveLaw" 8 "Quasigrove" ∈ g_GW := g_mem (i := 24) (by decide +kernel) rfl
theorem w_26 : Cond.methodLink "QuasigroveLaw" 30 yX11_init ∈ g_GW := g_mem (i := 26) (by decide +kernel) rfl
theorem w_27 : Cond.instanceMethod yX11_init ∈ g_GW := g_mem (i := 27) (by decide +kernel) rfl

def q_end (σm : St) : St := (wr (wr (wr (wr (wr (wr (wr (wr (wr (wr (wr (wr (wr (wr (wr (wr (wr (wr (wr (wr (wr (wr (wr (wr (wr (wr (wr (wr (wr (wr (wr (wr (wr (wr (wr σm 10 3 0) 16 2 0) 18 5 0) 18 6 0) 26 3 2) 26 4 0) 30 3 2) 30 4 0) 23 5 0) 23 6 0) 0 8 0) 34 3 2) 34 4 0) 38 3 2) 38 4 0) 42 3 2) 42 4 0) 46 3 2) 46 4 0) 50 3 2) 50 4 0) 54 3 2) 54 4 0) 58 3 2) 58 4 0) 62 3 2) 62 4 0) 66 3 2) 66 4 0) 70 3 2) 70 4 0) 74 3 2) 74 4 0) 78 3 2) 78 4 0)
def Init9 (P9 : St → Prop) : Prop := ∃ σm : St, f_Maps_init (wr (wr (fun _ _ => 0) 2 3 2) 2 4 0) = some ((), σm) ∧ (∀ m j, 10 ≤ m → σm m j = 0) ∧ P9 (q_end σm)
theorem q_end_ge {σm : St} (hz : ∀ m j, 10 ≤ m → σm m j = 0) : ∀ m j, 82 ≤ m → q_end σm m j = 0 := by
  intro m j hm
  unfold q_end
  rw [wr_ne (k' := m) (by omega), wr_ne (k' := m) (by omega), wr_ne (k' := m) (by omega), wr_ne (k' := m) (by omega), wr_ne (k' := m) (by omega), wr_ne (k' := m) (by omega), wr_ne (k' := m) (by omega), wr_ne (k' := m) (by omega), wr_ne (k' := m) (by omega), wr_ne (k' := m) (by omega), wr_ne (k' := m) (by omega), wr_ne (k' := m) (by omega), wr_ne (k' := m) (by omega), wr_ne (k' := m) (by omega), wr_ne (k' := m) (by omega), wr_ne (k' := m) (by omega), wr_ne (k' := m) (by omega), wr_ne (k' := m) (by omega), wr_ne (k' := m) (by omega), wr_ne (k' := m) (by omega), wr_ne (k' := m) (by omega), wr_ne (k' := m) (by omega), wr_ne (k' := m) (by omega), wr_ne (k' := m) (by omega), wr_ne (k' := m) (by omega), wr_ne (k' := m) (by omega), wr_ne (k' := m) (by omega), wr_ne (k' := m) (by omega), wr_ne (k' := m) (by omega), wr_ne (k' := m) (by omega), wr_ne (k' := m) (by omega), wr_ne (k' := m) (by omega), wr_ne (k' := m) (by omega), wr_ne (k' := m) (by omega), wr_ne (k' := m) (by omega)]
  exact hz m j (by omega)
def qt_a : List Shp := qt_Q_59 ++ [.inr (.inl (0, 25))]
def qt_b : List Shp := qt_Q_59 ++ [.inr (.inl (0, 25)), .inr (.inl (0, 25))]
set_option maxRecDepth 100000 in
set_option maxHeartbeats 8000000 in
theorem law_enter {θ : Th} {b N : Nat} {xs : Nat → Int32} (hin : Init9 (fun σ => f_L_law N xs σ = some 1)) (X : Cx θ g_strs code 22 "QuasigroveLaw" 12 448) (hS9 : Sx θ b N xs) (htr : θ.2.1.stackTraces = false) (hR : Rm θ 600000 7000000) (hAO : AOx θ)
    (hfin : ∀ (ad : Nat → Nat) (cs : Nat × Nat) (_ : cs.1 ≤ 600000 ∧ cs.2 ≤ 7000000) (σ : St) (L : LV), G θ cs (g_SH, ad) σ 1073 L [.int 1]) (ad0 : Nat → Nat) : G θ (0, 0) ([], ad0) (fun _ _ => 0) 0 [some (.ref b), none, none, none, none, none, none, none, none, none, none, none, none, none, none, none, none, none, none, none, none, none] [] := by
  obtain ⟨σm, hm, hzm, hI⟩ := hin
  refine G_new (pc := 0) [some none, some none, some none, some none, some none, some none, some none, some none, none] X (dg dt_lawb0 0 rfl) fc_7 w_24 w_25 w_7 rfl df_7 rfl (fun _ => rfl) (Rm_of hR (Nat.le_of_ble_eq_true rfl) (Nat.le_of_ble_eq_true rfl)) (fun ad1 q1 ag1 e1 => ?_)
  have e1 : ad1 0 = q1 := e1
  show G θ (1, 9) (qt_Q_0, ad1) _ _ _ _
  refine G_dup (pc := 3) X (dg dt_lawb0 1 rfl) rfl ?_
  refine G_callC (pc := 4) (b := q1) (S := [.ref q1]) [] nosub X (dg dt_lawb0 2 rfl) cb_C_Q w_27 rfl w_26 (fun _ => hAO) (s_C_Q _ (fun _ _ _ => rfl) hm hzm) (by rw [e1]) rfl ⟨Nat.le_of_ble_eq_true rfl, Nat.le_of_ble_eq_true rfl⟩ (Nat.le_of_ble_eq_true rfl) (Rm_of hR (Nat.le_of_ble_eq_true rfl) (Nat.le_of_ble_eq_true rfl)) (fun ad2 ag2 => ?_)
  have h2_0 : ad2 0 = q1 := (ag2 0 (by decide)).trans e1
  show G θ (82, 2454) (qt_Q_59, ad2) (q_end σm) _ _ _
  refine G_astore_n (pc := 7) 1 X (dg dt_lawb0 3 rfl) rfl (Nat.le_of_ble_eq_true rfl) rfl ?_
  refine G_bipush (pc := 8) 25 X (dg dt_lawb0 4 rfl) (by decide) ?_
  refine G_newa (pc := 10) (N := 25) X (dg dt_lawb0 5 rfl) w_58 rfl (Or.inl ⟨rfl, rfl⟩) (by decide) (by decide) (by decide) (by decide +kernel) (fun j => q_end_ge hzm _ j (by decide)) (Rm_of hR (Nat.le_of_ble_eq_true rfl) (Nat.le_of_ble_eq_true rfl)) (fun ad3 q3 ag3 e3 => ?_)
  have e3 : ad3 82 = q3 := e3
  have h3_0 : ad3 0 = q1 := (ag3 0 (by decide)).trans h2_0
  show G θ (83, 2479) (qt_a, ad3) (q_end σm) _ _ _
  refine G_astore_n (pc := 12) 2 X (dg dt_lawb0 6 rfl) rfl (Nat.le_of_ble_eq_true rfl) rfl ?_
  refine G_bipush (pc := 13) 25 X (dg dt_lawb0 7 rfl) (by decide) ?_
  refine G_newa (pc := 15) (N := 25) X (dg dt_lawb0 8 rfl) w_58 rfl (Or.inl ⟨rfl, rfl⟩) (by decide) (by decide) (by decide) (by decide +kernel) (fun j => q_end_ge hzm _ j (by decide)) (Rm_of hR (Nat.le_of_ble_eq_true rfl) (Nat.le_of_ble_eq_true rfl)) (fun ad4 q4 ag4 e4 => ?_)
  have e4 : ad4 83 = q4 := e4
  have h4_0 : ad4 0 = q1 := (ag4 0 (by decide)).trans h3_0
  have h4_82 : ad4 82 = q3 := (ag4 82 (by decide)).trans e3
  show G θ (84, 2504) (qt_b, ad4) (q_end σm) _ _ _
  refine G_astore_n (pc := 17) 3 X (dg dt_lawb0 9 rfl) rfl (Nat.le_of_ble_eq_true rfl) rfl ?_
  refine G_bipush (pc := 18) 25 X (dg dt_lawb0 10 rfl) (by decide) ?_
  refine G_newa (pc := 20) (N := 25) X (dg dt_lawb0 11 rfl) w_58 rfl (Or.inl ⟨rfl, rfl⟩) (by decide) (by decide) (by decide) (by decide +kernel) (fun j => q_end_ge hzm _ j (by decide)) (Rm_of hR (Nat.le_of_ble_eq_true rfl) (Nat.le_of_ble_eq_true rfl)) (fun ad5 q5 ag5 e5 => ?_)
  have e5 : ad5 84 = q5 := e5
  have h5_0 : ad5 0 = q1 := (ag5 0 (by decide)).trans h4_0
  have h5_82 : ad5 82 = q3 := (ag5 82 (by decide)).trans h4_82
  have h5_83 : ad5 83 = q4 := (ag5 83 (by decide)).trans e4
  show G θ (85, 2529) (g_SH, ad5) (q_end σm) _ _ _
  refine G_astore (pc := 22) X (dg dt_lawb0 12 rfl) (Nat.le_of_ble_eq_true rfl) rfl ?_
  refine G_wk (s_L_law htr X hS9 hR (cs := (85, 2529)) ⟨Nat.le_of_ble_eq_true rfl, Nat.le_of_ble_eq_true rfl⟩ (hfin ad5) hI) ⟨rfl, ⟨?_, ⟨?_, ⟨?_, ⟨?_, trivial⟩⟩⟩⟩⟩
  · rw [h5_0]
  · rw [h5_82]
  · rw [h5_83]
  · rw [e5]
set_option maxHeartbeats 4000000 in
theorem whole_open {p : Program} {e : Env} {s : State} {m : MethodId} {below : List Frame} {meth : Method} {c : Code} (l : Launch) (hflags : l.flags = flags0) {b L : Nat} {xs : Nat → Int32} (hin : Init9 (fun σ => f_L_law L xs σ = some 1)) (hL : L ≤ 260) (C0 : lw_At p s m meth c b L xs) : W p l e room_1 s m #[Value.ref b] below meth c s.heap [] 0 0 (lw_Z below #[Value.ref b] s) (entryFrame m ([Value.ref b] : List Value).toArray 22) := by
  obtain ⟨hx, hb, hr, hml, hown, hts, hX, hbl, hlocks, hgv⟩ := C0
  obtain ⟨D, cA, hK⟩ := law_Kx hts hgv
  have htr : l.stackTraces = false := by
    unfold Launch.stackTraces
    rw [hflags]
    decide
  have X : Cx (p, l, e, room_1, s, m, #[Value.ref b], below, meth, c, (fun q => s.heap.size ≤ q), D, cA, lw_Z below #[Value.ref b] s) g_strs code 22 "QuasigroveLaw" 12 448 := ⟨hx, hb, hml, hown, fun w hw => hts w (List.mem_filter.mp hw).1, hlocks, fun q h => h, hK, Nat.le_refl _, Nat.le_refl _⟩
  have key := law_enter hin X (b := b) (N := L) (xs := xs) ⟨hX, hbl, Nat.not_le.mpr hbl, law_Nx hgv⟩ htr ⟨Nat.le_of_ble_eq_true rfl, Nat.le_of_ble_eq_true rfl⟩ (law_AO hts) (fun ad cs k1 σ LL => by
    intro H locs ls hl hP hD hS
    refine va_forget (fun q hq => hS.2.2 q hq) ?_
    refine W.widen (Nat.le_trans k1.1 (show (600000 : Nat) ≤ 621957 from Nat.le_of_ble_eq_true rfl)) (Nat.le_trans k1.2 (show (7000000 : Nat) ≤ 7235753 from Nat.le_of_ble_eq_true rfl)) ?_
    exact lw_ret hx hb hr hlocks (dg dt_lawb14 13 rfl)) (fun _ => 0)
  rw [lg_entry_eq]
  exact key s.heap [] _ (by rw [hml]; exact LH.entry [.ref b] (n := 22) (Nat.le_of_ble_eq_true rfl) rfl) (fun k q h => by simp [g_ws] at h) ⟨fun i j p q h => by simp [g_ws] at h, fun k q h => by simp [g_ws] at h⟩ va_S.rf
