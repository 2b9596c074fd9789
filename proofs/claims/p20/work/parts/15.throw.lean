/-- the words that the making and throwing of an exception asks: its own constructor passes on by (ix, rx), the ones above as the library's chain has it -/
def pt_own (own : String) (ic : Nat) (X : String) (ix : Nat) (rx : ByteArray) (Y : String) (r : List String) : List Cond :=
  Bundle.throwableAtoms ++ Bundle.throwableSAtoms ++ (Bundle.passSAtoms X Y ix rx ++ Bundle.chainSAtoms Y r) ++
  [.methodLink own ic (Bundle.initS X), .instantiable X 6, .castable X X, .selects X Bundle.tFill0 Bundle.tFill0, .selects X Bundle.tFill Bundle.tFill, .lays X Bundle.tN "cause" "Ljava/lang/Throwable;", .lays X Bundle.tN "stackTrace" Bundle.steD, .lays X Bundle.tN "suppressedExceptions" Bundle.listD, .lays X Bundle.tN "detailMessage" "Ljava/lang/String;", .isRef (.static Bundle.tN "UNASSIGNED_STACK" Bundle.steD), .isRef (.static Bundle.tN "SUPPRESSED_SENTINEL" Bundle.listD), .fieldLink Bundle.tN 198 Bundle.tN "backtrace" "Ljava/lang/Object;", .lays Bundle.tN Bundle.tN "backtrace" "Ljava/lang/Object;", .lays X Bundle.tN "backtrace" "Ljava/lang/Object;"]
/-! an exception of a JDK class with a message is made and thrown: the constructors' chain by the library's law, what the heap is then -/
section PXT
variable {p : Program} {l : Launch} {e : Env} {R : Room} {s : State} {m₀ : MethodId} {args : Array Value} {below : List Frame} {meth : Method} {c : Code} {U0 : State} {locs : List Loc} {cells slots : Nat}
set_option maxHeartbeats 1000000 in
theorem px_thrown (X : Stand p l e R s m₀ args below meth c U0 locs cells slots) (hexec : p.tables.exec = Jvm.exec) (htr : e.platform.stackTraces = false) {own cls YS : String} {names : List String} {ic ix : Nat} {rx : ByteArray} (x0 : decode rx 0 = .ok (.aload_n 0, 1)) (x1 : decode rx 1 = .ok (.aload_n 1, 1)) (x2 : decode rx 2 = .ok (.invokespecial ix, 3)) (x5 : decode rx 5 = .ok (.return_, 1))
    (hown : s.vm.findClass own = some m₀.cls) (hcls : Bundle.fit cls = true) (hY : Bundle.fit YS = true) (hnames : ∀ n ∈ names, Bundle.fit n = true)
    (h : ∀ a ∈ pt_own own ic cls ix rx YS names, a.before args s = true)
    (hlocs : ∀ x ∈ locs, ∀ cell, s.heap[x.base]? = some cell → cell.vm.isStatics = false)
    {a : Addr} {cX : ClassId} {kX : Class} (hfoundX : s.vm.findClass cls = some cX) (hkX : s.vm.classes[cX]? = some kX) (hcell : U0.heap[a]? = some (freshCell cX kX)) (hnew : s.heap.size ≤ a)
    {msg : Value} (hmsg : msg.isRef = true)
    {g : JFrame} (hg : g.method = m₀) (hsize : g.locals.size = c.maxLocals) (hlocked : g.locked = none) (hentered : g.entered = []) {rest : List Value} (hstack : g.stack = msg :: .ref a :: .ref a :: rest)
    (hd6 : decode c.code g.pc = .ok (.invokespecial ic, 3)) (hd9 : decode c.code (g.pc + 3) = .ok (.athrow, 1)) (hout : ∀ x ∈ c.exceptionTable.toList, covers x (g.pc + 3) = false)
    (hRframes : names.length + 4 < R.frames) (hRlocals : 2 * g.monitorRoom + ((Value.ref a :: rest).map fun v => v.category).sum + (13 * (names.length + 2) + 42) ≤ R.locals) (hlocks : meth.locks = false) :
    ∃ (U : State) (ce : Cell) (L : List Loc), Steps p.tables e below (U0.setTop g) U ∧ U.status = .running ∧ Ended U below (.threw a) ∧ s.WarmedH U.vm ∧ s.sameButNew ({ U with vm := s.vm } : State) (locs ++ L) cells slots ∧ (∀ q ∈ L, q.base = a) ∧
      U.heap = U0.heap.setIfInBounds a ce ∧ ce.cls = cX ∧ ce.vm = .none := by
  have howns : e.platform.frameOwnsMonitors = true := by rw [X.admits.platform]
  have hfin : e.platform.finalization = false := by rw [X.admits.platform]
  have hpl : e.platform.magicAccessors = ({} : Platform).magicAccessors := by rw [X.admits.platform]
  have a' : ∀ x, x ∈ pt_own own ic cls ix rx YS names → x.holds args s none s [] = true := fun x hx => h x hx
  obtain ⟨T, Z0, L, -, Y⟩ := ThrowableC.of_atoms (args := args) howns hfin hpl (fun x hx => h x (by simp [pt_own, hx]))
  obtain ⟨Z, M, LZ, LM, hnZ⟩ := Init0T.ofS_atoms (args := args) hpl L Y (fun x hx => h x (by simp [pt_own, hx]))
  obtain ⟨P1, L1, hP1m, hs1⟩ := PassC.ofS_atoms (args := args) (s := s) hpl (X := cls) (Y := YS) (Bundle.fit_spec hcls).1 (Bundle.fit_spec hY).2 x0 x1 x2 x5 (fun x hx => h x (List.mem_append_left _ (List.mem_append_right _ (List.mem_append_left _ hx))))
  obtain ⟨P2, Ps2, hlen2, L2, hL2, hP2m, hlink2, hlinks2⟩ := Bundle.chainS (args := args) hpl hnZ names YS hY hnames (fun x hx => h x (List.mem_append_left _ (List.mem_append_right _ (List.mem_append_right _ hx))))
  have hsup1 : P1.sup = P2.m := Option.some.inj (hs1.symm.trans hP2m)
  have hfound : s.vm.findClass cls = some P1.m.cls := findClass_of_methodNamed hP1m
  cases Option.some.inj (hfoundX.symm.trans hfound)
  have own_ : ∀ x, x ∈ ([.methodLink own ic (Bundle.initS cls), .instantiable cls 6, .castable cls cls, .selects cls Bundle.tFill0 Bundle.tFill0, .selects cls Bundle.tFill Bundle.tFill, .lays cls Bundle.tN "cause" "Ljava/lang/Throwable;", .lays cls Bundle.tN "stackTrace" Bundle.steD, .lays cls Bundle.tN "suppressedExceptions" Bundle.listD, .lays cls Bundle.tN "detailMessage" "Ljava/lang/String;", .isRef (.static Bundle.tN "UNASSIGNED_STACK" Bundle.steD), .isRef (.static Bundle.tN "SUPPRESSED_SENTINEL" Bundle.listD), .fieldLink Bundle.tN 198 Bundle.tN "backtrace" "Ljava/lang/Object;", .lays Bundle.tN Bundle.tN "backtrace" "Ljava/lang/Object;", .lays cls Bundle.tN "backtrace" "Ljava/lang/Object;"] : List Cond) → x.before args s = true := fun x hx => h x (List.mem_append_right _ hx)
  obtain ⟨c1, kX', hc1, hk, hord, -, -, hn6⟩ := Cond.instantiable_spec (own_ (.instantiable cls 6) (by simp))
  cases Option.some.inj (hc1.symm.trans hfound)
  cases Option.some.inj (hkX.symm.trans hk)
  have hsel : ∀ (y : MethodName) (mm : MethodId), s.methodNamed? y = some mm → (y.cls ≠ "java/lang/invoke/MethodHandle" ∧ y.cls ≠ "java/lang/invoke/VarHandle") → (Cond.selects cls y y).before args s = true → selectMethod e.platform s.vm P1.m.cls mm = .method mm := by
    intro y mm hy hne hs
    obtain ⟨c2, r2, m2, q1, q2, q3, q4, -⟩ := Cond.selects_spec hs
    cases Option.some.inj (q1.symm.trans hfound)
    cases Option.some.inj (q2.symm.trans (State.methodFound?_of_named hy hne))
    cases Option.some.inj (q3.symm.trans hy)
    rw [Launch.admits_selectMethod X.admits]; exact q4
  have hsel0 := hsel _ _ Y.fill0 (by decide) (own_ (.selects cls Bundle.tFill0 Bundle.tFill0) (by simp))
  have hselF := hsel _ _ Y.fill (by decide) (own_ (.selects cls Bundle.tFill Bundle.tFill) (by simp))
  obtain ⟨cellS0, hcS0, hiss⟩ := Y.statics
  obtain ⟨u0, hu0⟩ := Cond.staticRefV Y.unassigned L.unassignedStatic L.statics hcS0 hiss (own_ (.isRef (.static Bundle.tN "UNASSIGNED_STACK" Bundle.steD)) (by simp))
  obtain ⟨sen, hsen⟩ := Cond.staticRefV Y.sentinel L.sentinelStatic L.statics hcS0 hiss (own_ (.isRef (.static Bundle.tN "SUPPRESSED_SENTINEL" Bundle.listD)) (by simp))
  obtain ⟨ci198, i198, fB, hk198, hg198, ha198, hsB, -, hnB, htB, hffB⟩ := Cond.ownField (t := .object "java/lang/Object") Y.found L.cls (by decide +kernel) (own_ (.fieldLink Bundle.tN 198 Bundle.tN "backtrace" "Ljava/lang/Object;") (by simp)) (own_ (.lays Bundle.tN Bundle.tN "backtrace" "Ljava/lang/Object;") (by simp)) e.platform hpl
  obtain ⟨cellS, hcS', heS, -, hkeep⟩ := X.same.2.2.2.2.2 T.aS cellS0 hcS0
  have hcellS : U0.heap[T.aS]? = some cellS := hcS'
  have hout' : ∀ i, (⟨T.aS, i⟩ : Loc) ∉ locs := fun i hmem => by
    have := hlocs _ hmem cellS0 hcS0
    rw [hiss] at this; cases this
  have hknownS : cellS.vm ≠ .unknown := by
    rw [heS]; intro hu
    rw [show cellS0.vm = .unknown from hu] at hiss
    cases hiss
  have hneS : T.aS ≠ a := Nat.ne_of_lt (Nat.lt_of_lt_of_le (Array.getElem?_eq_some_iff.mp hcS0).1 hnew)
  obtain ⟨iM, hffM⟩ := Y.msg
  obtain ⟨tyC, dC, hdC, hdnC⟩ := Cond.laysAt hfound hk Y.cause (own_ (.lays cls Bundle.tN "cause" "Ljava/lang/Throwable;") (by simp))
  obtain ⟨tyS, dS, hdS, hdnS⟩ := Cond.laysAt hfound hk Y.stack (own_ (.lays cls Bundle.tN "stackTrace" Bundle.steD) (by simp))
  obtain ⟨tyP, dP, hdP, hdnP⟩ := Cond.laysAt hfound hk Y.supp (own_ (.lays cls Bundle.tN "suppressedExceptions" Bundle.listD) (by simp))
  obtain ⟨tyM, dM, hdM, hdnM⟩ := Cond.laysAt hfound hk hffM (own_ (.lays cls Bundle.tN "detailMessage" "Ljava/lang/String;") (by simp))
  obtain ⟨tyB, dB, hdB, hdnB⟩ := Cond.laysAt hfound hk hffB (own_ (.lays cls Bundle.tN "backtrace" "Ljava/lang/Object;") (by simp))
  have bC := Cond.laysApart hdB hdC hdnB hdnC (by rw [hnB, Y.causeName]; decide)
  have bS := Cond.laysApart hdB hdS hdnB hdnS (by rw [hnB, Y.stackName]; decide)
  have bP := Cond.laysApart hdB hdP hdnB hdnP (by rw [hnB, Y.suppName]; decide)
  have hskip : SkipFacts T e.platform s (fun u => u) u0 ((preparedCellV T.toThrowableT (freshCell P1.m.cls kX) a u0 sen).withEntry U0.cur) :=
    ⟨{ ci198 := ci198, i198 := i198, fBack := fB }, ⟨hk198, hg198, ha198, hsB⟩, by
      have := fresh_default (c := P1.m.cls) tyB
      rw [htB] at this
      simpa [preparedCellV, Cell.setSlot, Cell.withEntry, Array.getElem?_setIfInBounds, bC, bS, bP, bC.symm, bS.symm, bP.symm, defaultValue] using this, fun _ _ => rfl⟩
  have hchain : ∀ x ∈ Bundle.passSAtoms cls YS ix rx, x.before args s = true := fun x hx => h x (List.mem_append_left _ (List.mem_append_right _ (List.mem_append_left _ hx)))
  have hinst : (Cond.instanceMethod (Bundle.initS cls)).before args s = true := hchain _ (by simp [Bundle.passSAtoms])
  have hcode6 : (Cond.code (Bundle.initS cls) rx 2 none).before args s = true := hchain _ (by simp [Bundle.passSAtoms])
  obtain ⟨tm, methC, cdC, kC, vm₁, hnC, -, -, -, -, -, -, -, hW₁, st1⟩ := Steps.initColdS (tb := p.tables) (e := e) (below := below) (s := s) (U := U0) X.here hexec X.warmed hpl hown (t := Bundle.initS cls) rfl rfl (Bundle.fit_spec hcls).2
    (own_ (.methodLink own ic (Bundle.initS cls)) (by simp)) hinst (bytes := rx) (maxL := 2) hcode6 (f := g) hg (a := a) (msg := msg) (rest := .ref a :: rest) hstack hd6
  cases Option.some.inj (hnC.symm.trans hP1m)
  have X₁ := X.noted hW₁
  obtain ⟨vm₂, X₂, st2⟩ := X₁.ctorMessageOffV hexec (g := { g with stack := .ref a :: rest }) hg hsize T L Z LZ M LM (P1 :: P2 :: Ps2)
    (fun P hP => by rcases List.mem_cons.mp hP with rfl | hP; exact L1; rcases List.mem_cons.mp hP with rfl | hP; exact L2; exact hL2 P hP) ⟨hsup1, hlink2, hlinks2⟩ (u0 := u0) (sen := sen) (self := a) hmsg (cell := freshCell P1.m.cls kX) (cellS := cellS)
    hcell (fun _ => by simp) (by simp) rfl rfl hsel0 hselF hcellS hneS hknownS (by rw [hkeep _ (hout' _)]; exact hu0) (by rw [hkeep _ (hout' _)]; exact hsen)
    (Takes.of_laid hk hord tyC (by rw [Y.causeType]; rfl)) (Takes.of_laid hk hord tyS (by rw [Y.stackType]; exact fits_refV_array _ u0)) (Takes.of_laid hk hord tyP (by rw [Y.suppType]; exact fits_refV_object _ sen))
    (Takes.of_laid hk hord tyM (by rw [Y.msgType]; exact fits_refV_object _ ⟨msg, hmsg⟩)) Y.objLocals hskip htr [] hd6
    (by simp only [List.length_cons, hlen2]; omega) (by simp only [List.length_cons, hlen2]; exact hRlocals)
  obtain ⟨hwalk, hrun, hended, hWU, hsame⟩ := X₂.athrowLeaves hexec (g := { g with stack := .ref a :: rest, pc := g.pc + 3 }) hg hlocked hentered hout (a := a) (rest := rest) rfl hd9 hlocks
  refine ⟨_, plainBareV T.toThrowableT (freshCell P1.m.cls kX) a u0 sen msg, _, st1 _ (fun acts => ?_), hrun, hended, hWU, hsame, fun q hq => ?_, rfl, rfl, rfl⟩
  · rw [doInvoke_state]
    exact st2 _ hwalk
  · simp only [List.mem_cons, List.not_mem_nil, or_false] at hq
    rcases hq with rfl | rfl | rfl | rfl | rfl <;> rfl
end PXT
/-! the words of the three exceptions: where they stand -/
def pr_at (ic : Nat) (E : String) : List Cond := pt_own "LinkHouse" ic E (if E = "java/util/NoSuchElementException" then 13 else 7) (if E = "java/util/NoSuchElementException" then ⟨#[0x2a, 0x2b, 0xb7, 0x00, 0x0d, 0xb1]⟩ else Bundle.six) "java/lang/RuntimeException" ["java/lang/Exception"]
def pr_st (a : Cond) : Bool := decide (a = .isRef (.static Bundle.tN "UNASSIGNED_STACK" Bundle.steD)) || decide (a = .isRef (.static Bundle.tN "SUPPRESSED_SENTINEL" Bundle.listD))
def pr_sl : Cond → Bool
  | .laysStatic .. => true
  | _ => false
def pr_ok (a : Cond) : Bool := pr_st a || (pg_rix.any (fun i => decide (pg_tb i = some a)) && (pr_sl a || (a.onTables && a.keepsCast)))
theorem px_stat {g : px_G} {s : State} (hB : px_B g s) {C n d : String} {A0 : Array Value} (h : (Cond.isRef (.static C n d)).before A0 (px_s0 g) = true) (args : Array Value) : (Cond.isRef (.static C n d)).before args s = true := by
  have h1 := Cond.before_shiftedCast (State.Shifted.of_warmed hB.1) (Cond.isRef (.static C n d)) rfl h
  have hsz := hB.2.2.1.2.2
  have hold := hB.2.1
  simp only [Cond.before, Cond.holds, Cond.value, Term.eval, State.fieldNamed?] at h1 ⊢
  have e1 : ((px_s0 g).setVm s.vm).fieldFound? C n d = s.fieldFound? C n d := rfl
  rw [e1] at h1
  cases hf : s.fieldFound? C n d with
  | none => rw [hf] at h1; simp at h1
  | some x =>
    obtain ⟨c, k, i, f⟩ := x
    rw [hf] at h1
    by_cases hs : f.isStatic = true
    · cases hk : k.statics with
      | none => simp [hs, hk] at h1
      | some a =>
        simp only [Option.bind_eq_bind, Option.bind_some, hs, hk, beq_self_eq_true, if_true, Option.pure_def] at h1 ⊢
        have hlt : a < px_b g := by
          rcases Nat.lt_or_ge a (px_b g) with hlt | hge
          · exact hlt
          · exfalso
            have : ((px_s0 g).setVm s.vm).heap[a]? = none := Array.getElem?_eq_none (by show (px_s0 g).heap.size ≤ a; omega)
            rw [this] at h1
            simp at h1
        rw [hold a hlt]
        exact h1
    · simp [hs] at h1
theorem px_statL {g : px_G} {s : State} (hB : px_B g s) {C n d : String} {A0 : Array Value} (h : (Cond.laysStatic C n d).before A0 (px_s0 g) = true) (args : Array Value) : (Cond.laysStatic C n d).before args s = true := by
  have h1 := Cond.laysStatic_setVm hB.1.alike h
  have hsz := hB.2.2.1.2.2
  have hold := hB.2.1
  simp only [Cond.before, Cond.holds, Cond.value] at h1 ⊢
  have e1 : ((px_s0 g).setVm s.vm).fieldFound? C n d = s.fieldFound? C n d := rfl
  have e2 : ((px_s0 g).setVm s.vm).vm.findClass C = s.vm.findClass C := rfl
  rw [e1, e2] at h1
  cases hc : s.vm.findClass C with
  | none => rw [hc] at h1; simp at h1
  | some c =>
    cases hf : s.fieldFound? C n d with
    | none => rw [hc, hf] at h1; simp at h1
    | some x =>
      obtain ⟨c', k, i, f⟩ := x
      rw [hc, hf] at h1
      cases hk : k.statics with
      | none => simp [hk] at h1
      | some a =>
        simp only [hk, Option.bind_some] at h1 ⊢
        have hlt : a < px_b g := by
          rcases Nat.lt_or_ge a (px_b g) with hlt | hge
          · exact hlt
          · exfalso
            have : ((px_s0 g).setVm s.vm).heap[a]? = none := Array.getElem?_eq_none (by show (px_s0 g).heap.size ≤ a; omega)
            rw [this] at h1
            simp at h1
        rw [hold a hlt]
        exact h1
theorem pr_all {g : px_G} {s : State} (hB : px_B g s) {L : List Cond} (hL : L.all pr_ok = true) (args : Array Value) : ∀ a ∈ L, a.before args s = true := by
  intro a ha
  have h1 := List.all_eq_true.mp hL a ha
  obtain ⟨A0, hT, hG⟩ := hB.2.2.1.1
  simp only [pr_ok, pr_st, Bool.or_eq_true, Bool.and_eq_true, decide_eq_true_eq] at h1
  rcases h1 with (rfl | rfl) | ⟨h1, h9 | ⟨h2, h3⟩⟩
  · exact px_stat hB (flat_of_before _ hG _ (by decide +kernel)) args
  · exact px_stat hB (flat_of_before _ hG _ (by decide +kernel)) args
  · obtain ⟨i, -, hi⟩ := List.any_eq_true.mp h1
    have hin := hT _ (pg_tb_in (of_decide_eq_true hi))
    cases a <;> first | (simp [pr_sl] at h9; done) | exact px_statL hB hin args
  · obtain ⟨i, -, hi⟩ := List.any_eq_true.mp h1
    exact px_ride hB (hT _ (pg_tb_in (of_decide_eq_true hi))) h2 h3 args
section PXTH
variable {l : Launch} {g : px_G} {d mi pc : Nat} {lv : px_L} {st : List Value} {ph : px_H} {Q : px_Q} {nx r1 r2 : Nat}
/-- a String constant -/
theorem px_ldcs {idx : Nat} {q : String × Nat × String} (hcd : pg_cd mi pc = some (.ldc idx, nx, r1, r2)) (hk : pg_ksl[r1]? = some q) (hq1 : q.1 = (pg_mn mi).cls) (hq2 : q.2.1 = idx) (hp : pc + 2 = nx) (kk : PW l g d mi nx lv (.retAddr (pg_nc + r1) :: st) ph Q) : PW l g d mi pc lv st ph Q := by
  subst hp
  intro p e R s m args below meth c H locs cells slots ls B1 B2 hC hR hS hl h1 h2 h3 h4 h5 h6
  have k1 := kk p e R s m args below meth c H locs cells slots ls B1 B2 hC hR hS hl h1 h2 h3 h4 h5 h6
  obtain ⟨hx, hb, hml, hrt, hown, hts, hlk, hnm, hK, hbs, hZ, hd1, hd2, hWs, hB⟩ := hC
  have h7 := vk_R.warm hB.1.1 (hB.1.2.2.1.2.1 r1 q hk)
  rw [hq1, hq2] at h7
  exact va_ldcS hx hb hown h7 (pg_dec hcd) k1
theorem pr_iae : (pr_at 117 "java/lang/IllegalArgumentException").all pr_ok = true := by decide +kernel
theorem pr_ise : (pr_at 128 "java/lang/IllegalStateException").all pr_ok = true := by decide +kernel
theorem pr_nse : (pr_at 236 "java/util/NoSuchElementException").all pr_ok = true := by decide +kernel
set_option maxHeartbeats 1000000 in
/-- an exception is made and thrown: new, dup, ldc, invokespecial, athrow -/
theorem px_throw {i0 i2 i3 ci r3 sp z1 z2 z3 z4 z5 z6 z7 : Nat} {q : String × Nat × String} {E : String} {T9 : u_T} (hfl : l.flags = flags0)
    (c0 : pg_cd mi pc = some (.new i0, pc + 3, ci, z1)) (c1 : pg_cd mi (pc + 3) = some (.dup, pc + 4, z2, z3)) (c2 : pg_cd mi (pc + 4) = some (.ldc i2, pc + 6, r3, z4)) (c3 : pg_cd mi (pc + 6) = some (.invokespecial i3, pc + 9, sp, z5)) (c4 : pg_cd mi (pc + 9) = some (.athrow, pc + 10, z6, z7))
    (hci : pg_cl[ci]? = some (E, T9, 0)) (hin : pg_in ci = 6) (hk : pg_ksl[r3]? = some q) (hq1 : q.1 = (pg_mn mi).cls) (hq2 : q.2.1 = i2) (how : (pg_mn mi).cls = "LinkHouse") (hxt : pg_xt mi = []) (hall : (pr_at i3 E).all pr_ok = true) (hfit : Bundle.fit E = true)
    (hm : ph.length < pg_MC) (hs : px_sum ph + 6 ≤ pg_MS) (hrs : Nat.ble (st.map fun v => v.category).sum 8 = true)
    (hq : Q (.inr ph.length) (ph ++ [.inr (ci, [])])) : PW l g (d + 6) mi pc lv st ph Q := by
  intro p e R s m args below meth c H locs cells slots ls B1 B2 hC hR hS hl h1 h2 h3 h4 h5 h6
  obtain ⟨hx, hb, hml, hrt, hown, hts, hlk, hnm, hK, hbs, hZ, hd1, hd2, hWs, hB, hX⟩ := hC
  obtain ⟨hcl, hinst, hini⟩ := pg_new c0 hci
  have hKn := hK.1 ci _ hci
  have hsq := vk_R.warm hB.1 (hB.2.2.1.2.1 r3 q hk)
  rw [hq1, hq2] at hsq
  have hrs' := px_rest (g := g) (Nat.le_of_ble_eq_true hrs) m (pc + 6) ls []
  refine W.newcK hx hb hown (hts _ hcl) (hts _ hinst) (hts _ hini) rfl (pg_dec c0) (by omega) (by rw [hin]; omega) hKn.2.1 hR.1 fun H1 kC hkC e1 z1 o1 => ?_
  refine lv_dup hx hb (pg_dec (len := 1) c1) rfl ?_
  refine va_ldcS hx hb hown hsq (pg_dec (len := 2) c2) ?_
  intro T hT X
  have hrx : ∃ ix rx, decode rx 0 = .ok (.aload_n 0, 1) ∧ decode rx 1 = .ok (.aload_n 1, 1) ∧ decode rx 2 = .ok (.invokespecial ix, 3) ∧ decode rx 5 = .ok (.return_, 1) ∧ pr_at i3 E = pt_own "LinkHouse" i3 E ix rx "java/lang/RuntimeException" ["java/lang/Exception"] := by
    by_cases hE : E = "java/util/NoSuchElementException"
    · exact ⟨13, ⟨#[0x2a, 0x2b, 0xb7, 0x00, 0x0d, 0xb1]⟩, by decide +kernel, by decide +kernel, by decide +kernel, by decide +kernel, by unfold pr_at; rw [if_pos hE, if_pos hE]⟩
    · exact ⟨7, Bundle.six, Bundle.six_0, Bundle.six_1, Bundle.six_2, Bundle.six_5, by unfold pr_at; rw [if_neg hE, if_neg hE]⟩
  obtain ⟨ix, rx, x0, x1, x2, x5, hpr⟩ := hrx
  have hxt2 : c.exceptionTable.toList = [] := by
    have h7 : _ = pg_xt mi := hX
    rw [hxt] at h7
    exact List.map_eq_nil_iff.mp h7
  have hat := pr_all hB hall args
  rw [hpr] at hat
  obtain ⟨U, ce, L, a1, a2, a3, a4, a5, a6, a7, a8, a9⟩ := px_thrown (own := "LinkHouse") (cls := E) (ic := i3) (a := px_b g + ph.length) (kX := kC) (msg := .ref (px_sa g (pg_nc + r3))) (rest := st.map (px_v g)) (g := F0 m (pc + 3 + 1 + 2) ls (.ref (px_sa g (pg_nc + r3)) :: .ref (px_b g + ph.length) :: .ref (px_b g + ph.length) :: st.map (px_v g)))
    X hx (Launch.traces_off hfl X.admits) x0 x1 x2 x5 (by rw [← how]; exact hown) hfit (by decide) (by decide) hat
    (fun x hx' cell hc => by
      have h7 : px_A g x.base := hS.2.2 x hx'
      exact hB.2.2.2 _ cell h7 hc)
    hKn.2.1 hkC (by rw [hT]; exact e1) (by
      have h7 := hS.1
      rw [hR.1] at h7
      exact h7) rfl rfl (by rw [hml]; exact hl.1) rfl rfl rfl (by rw [hb]; exact pg_dec (len := 3) c3) (by rw [hb]; exact pg_dec (len := 1) c4) (by rw [hxt2]; intro x hx; cases hx) (by show 1 + 4 < R.frames; omega) (by
      have h9 : ((Value.ref (px_b g + ph.length) :: st.map (px_v g)).map fun v => v.category).sum = 1 + ((st.map (px_v g)).map fun v => v.category).sum := by
        rw [List.map_cons, List.sum_cons]; rfl
      rw [h9]
      have h10 : 2 * (F0 m (pc + 6) ls []).monitorRoom = 2 * (F0 m (pc + 3 + 1 + 2) ls (.ref (px_sa g (pg_nc + r3)) :: .ref (px_b g + ph.length) :: .ref (px_b g + ph.length) :: st.map (px_v g))).monitorRoom := rfl
      rw [← h10]
      show _ + (13 * (1 + 2) + 42) ≤ R.locals
      omega) hlk
  have hU : U.heap = H1.setIfInBounds (px_b g + ph.length) ce := by rw [a7, hT]
  have hzU : U.heap.size = H.size + 1 := by rw [hU, Array.size_setIfInBounds, z1, hR.1]
  have hoU : ∀ q : Nat, q < H.size → U.heap[q]? = H[q]? := by
    intro q hq
    rw [hU, Array.getElem?_setIfInBounds_ne (by rw [hR.1] at hq; omega)]
    exact o1 q (by rw [← hR.1]; exact hq)
  refine ⟨U, a1, .threw (px_b g + ph.length), a2, a3, ph ++ [.inr (ci, [])], locs ++ L, cells + 1, slots + pg_in ci, a4, a5, ?_, ?_, ?_, ?_, ?_, ?_, ?_, Or.inr ⟨ph.length, rfl, hq⟩⟩
  · intro x hx'
    rcases List.mem_append.mp hx' with hx' | hx'
    · exact hS.2.2 x hx'
    · rw [a6 x hx']; exact px_A_in g _
  · simp; omega
  · rw [px_sum_push]; show _ = _ + pg_in ci; omega
  · simp; omega
  · rw [px_sum_push]; show _ + pg_in ci ≤ _; omega
  · refine hR.push hzU hoU ⟨_, hci, ce, ?_, ?_, a9, fun k hk => absurd hk (Nat.not_lt_zero k)⟩
    · show U.heap[px_b g + ph.length]? = _
      rw [hU, Array.getElem?_setIfInBounds_self_of_lt (by rw [z1]; omega)]
    · rw [a8]
  · refine ⟨Nat.le_trans hS.1 (by rw [hzU]; omega), fun q hq1 hq2 => ?_⟩
    rw [hoU q (Nat.lt_of_lt_of_le hq1 hS.1)]
    exact hS.2.1 q hq1 hq2
end PXTH
