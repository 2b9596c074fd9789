/-! a callee that may throw, and the handler that catches -/
set_option maxHeartbeats 1000000 in
theorem px_both0 {l : Launch} {g : px_G} {d mi mj : Nat} {As : List Value} {ph : px_H} {Q1 : px_Q} {p : Program} {e : Env} {R : Room} {s : State} {m : MethodId} {sargs : Array Value} {below : List Frame} {meth : Method} {c : Code} (hC : px_C g (d + 1) mi p R s m sargs meth c) (hM : MetFree l (pg_mn mj) (headSpec pg_Ts (px_rm d ph)) (px_P g As ph) (fun _ _ _ _ _ => True) (fun _ st o t => px_O g ph.length (px_sum ph) Q1 st o t)) (hini : Cond.initialized (pg_mn mj).cls ∈ pg_Ts) (hml45 : pg_ml mj ≤ 45)
    {U : State} {Ls : List Loc} {c0 s0 : Nat} (X : Stand p l e R s m sargs below meth c U Ls c0 s0) {gf : JFrame} {ig : Instr} {mk : MethodId} {a : Array Value} (hg : gf.method = m) (hsize : gf.locals.size = c.maxLocals) (hdg : decode c.code gf.pc = .ok (ig, 3)) (hW8 : 2 * gf.monitorRoom + (gf.stack.map fun v => v.category).sum ≤ 8) (hn : U.methodNamed? (pg_mn mj) = some mk) {methY : Method} {cY : Code} (hmY : U.vm.method? mk = some methY) (hcY : methY.code = some cY) (hlY : cY.maxLocals = pg_ml mj) (hp : px_Pre g R As ph ⟨U, Ls, c0, s0⟩ a) :
    ∃ (ph' : px_H) (U₂ : State) (L : List Loc) (k n : Nat), Stand p l e R s m sargs below meth c U₂ (Ls ++ L) (c0 + k) (s0 + n) ∧ px_R g ph' U₂.heap ∧ (∀ q ∈ L, px_A g q.base) ∧ k + ph.length = ph'.length ∧ n + px_sum ph = px_sum ph' ∧ ph'.length ≤ pg_MC ∧ px_sum ph' ≤ pg_MS ∧ U.heap.size ≤ U₂.heap.size ∧ (∀ q : Nat, q < U.heap.size → ¬ px_A g q → U₂.heap[q]? = U.heap[q]?) ∧
      ((∃ r, Q1 (.inl r) ph' ∧ Steps p.tables e below (doInvoke e (U.setTop gf) [] mk a).1 (U₂.setTop { gf with pc := gf.pc + 3, stack := (r.map (px_v g)).toList ++ gf.stack })) ∨ ∃ x, Q1 (.inr x) ph' ∧ Steps p.tables e below (doInvoke e (U.setTop gf) [] mk a).1 ((U₂.setTop gf).pushFrame (.throwing (px_b g + x)))) := by
  obtain ⟨hx, hb, hml, hrt, hown, hts, hlk, hnm, hK, hbs, hZ, hd1, hd2, hWs, hB⟩ := hC
  have h1 : (headSpec pg_Ts (px_rm d ph)).pre.before a U = true := atoms_intro fun w hw => word_at X.warmed (pg_good w hw) (hts w hw)
  have h3 : (Cond.initialized (pg_mn mj).cls).before a U = true := word_at X.warmed (pg_good _ hini) (hts _ hini)
  obtain ⟨kY, hkY, -⟩ := className_of_methodNamed hn
  have hinitY : kY.init = .initialized := Cond.initialized_spec (findClass_of_methodNamed hn) hkY h3
  have hat : At U gf.method c below := by rw [hg]; exact X.here
  have happ : (headSpec pg_Ts (px_rm d ph)).appliesLoose (pg_mn mj) e.platform (U.calling gf mk a) = true :=
    Spec.appliesLoose_calling (g := gf) hat hdg hn hkY hinitY
      (X.room_calling (g := gf) (R' := (headSpec pg_Ts (px_rm d ph)).room) hsize hmY hcY hd1 (by rw [hlY]; show _ + 64 * d ≤ R.locals; omega) hp.2.1 hp.2.2) h1
  obtain ⟨mid, hmid⟩ := hat.above
  have hfr : (U.setTop gf).frames = (.java gf :: mid) ++ below := by rw [State.frames_setTop' gf hat.top, hmid]; rfl
  obtain ⟨⟨q1, q2, q3, q4, q5, q6, q7, q8, q9⟩, -, -⟩ := hp
  have hP : px_P g As ph a (U.calling gf mk a) := ⟨q1, q2, va_K.moved (u := U) (U := U.calling gf mk a) (Vm.Alike.refl U.vm) q3, px_Z.moved (u := U) (U := U.calling gf mk a) (Vm.Alike.refl U.vm) q4, q5, q6, q7, px_W.warm (s := U) (U := U.calling gf mk a) (State.WarmedH.refl U) q8, q9⟩
  obtain ⟨o, s₂, hsteps, -, hend, hq⟩ := Steps.callFree hM p X.admits X.cas X.clock (acts := []) hfr happ hP trivial
  have hq' : px_O g ph.length (px_sum ph) Q1 (U.calling gf mk a) o s₂ := hq
  rw [State.frames_setTop' gf hat.top] at hend
  obtain ⟨ph', L, k, n, hW₂, hsame2, hL, hk, hn2, c3, c4, hR', hF, ho⟩ := hq'
  obtain ⟨e2, w2, w3, w4, w5, w6⟩ := id hsame2
  have e3 : s₂ = ({ (U.calling gf mk a).setFrames s₂.frames with heap := s₂.heap, slotsUsed := s₂.slotsUsed } : State).setVm s₂.vm := by
    have : s₂ = ({ s₂ with vm := (U.calling gf mk a).vm } : State).setVm s₂.vm := rfl
    rw [e2] at this
    exact this
  have hW' : U.WarmedH s₂.vm := hW₂
  obtain ⟨g₀, hg0⟩ := Option.isSome_iff_exists.mp hat.top
  obtain ⟨r, hr⟩ := State.topJava?_eq_some.mp hg0
  have hr' : (({ U with heap := s₂.heap, slotsUsed := s₂.slotsUsed } : State).setVm s₂.vm).frames = .java g₀ :: r := hr
  have hsame : U.sameButNew ({ U with heap := s₂.heap, slotsUsed := s₂.slotsUsed } : State) L k n := by
    refine ⟨?_, w2, w3, w4, w5, w6⟩
    obtain ⟨t, ht, -⟩ := State.frames_cons hr
    show ({ U with heap := s₂.heap, slotsUsed := s₂.slotsUsed } : State) = { U.setFrames U.frames with heap := s₂.heap, slotsUsed := s₂.slotsUsed }
    rw [State.setFrames_self ht]
  refine ⟨ph', (({ U with heap := s₂.heap, slotsUsed := s₂.slotsUsed } : State).setVm s₂.vm), L, k, n, ⟨X.admits, X.cas, X.clock, X.frames, X.room, X.hears, X.method, X.code, (X.here.setHeapUsed s₂.heap s₂.slotsUsed).setVm hW'.alike, X.tail, State.WarmedH.trans X.warmed hW', X.limits, X.bytes, X.same.trans (hsame.setVm s.vm)⟩, hR', hL, hk, hn2, c3, c4, hF.1, hF.2, ?_⟩
  rcases ho with ⟨rv, rfl, hqv⟩ | ⟨x, rfl, hqx⟩
  · refine Or.inl ⟨rv, hqv, ?_⟩
    obtain ⟨c₂, i₂, len₂, hc₂, hd₂, hf₂⟩ := hend
    have hcc : c₂ = c := by
      have h9 : s₂.code? gf.method = U.code? gf.method := by
        rw [State.code?_eq, State.code?_eq, hW'.alike.method?]
      exact Option.some.inj (hc₂.symm.trans (h9.trans hat.code))
    subst hcc
    have hlen3 : len₂ = 3 := by rw [hdg] at hd₂; cases hd₂; rfl
    subst hlen3
    have hs₂ : s₂ = (({ U with heap := s₂.heap, slotsUsed := s₂.slotsUsed } : State).setVm s₂.vm).setTop { gf with pc := gf.pc + 3, stack := (rv.map (px_v g)).toList ++ gf.stack } := by
      refine e3.trans ?_
      rw [hf₂, State.calling_eq hat.top, State.setFrames_setFrames, State.setTop_of_frames _ hr', hr]
      rfl
    rw [← hs₂]
    exact hsteps
  · refine Or.inr ⟨x, hqx, ?_⟩
    have hf₂ : s₂.frames = .throwing (px_b g + x) :: .java gf :: U.frames.tail := hend
    have hs₂ : s₂ = ((({ U with heap := s₂.heap, slotsUsed := s₂.slotsUsed } : State).setVm s₂.vm).setTop gf).pushFrame (.throwing (px_b g + x)) := by
      refine e3.trans ?_
      rw [hf₂, State.calling_eq hat.top, State.setFrames_setFrames, State.pushFrame, State.frames_setTop _ hr', State.setTop_of_frames _ hr', State.setFrames_setFrames, hr]
      rfl
    rw [← hs₂]
    exact hsteps
theorem px_both {l : Launch} {g : px_G} {d mi mj : Nat} {As : List Value} {ph : px_H} {Q1 : px_Q} {p : Program} {e : Env} {R : Room} {s : State} {m : MethodId} {sargs : Array Value} {below : List Frame} {meth : Method} {c : Code} (hC : px_C g (d + 1) mi p R s m sargs meth c) (hm : px_M mj) (hlen : (lg_sl As).length ≤ pg_ml mj) {lv0 : px_L} (hen : px_en As (pg_ml mj) = lv0) (h : PW l g d mj 0 lv0 [] ph Q1)
    {U : State} {Ls : List Loc} {c0 s0 : Nat} (X : Stand p l e R s m sargs below meth c U Ls c0 s0) {gf : JFrame} {ig : Instr} {mk : MethodId} {a : Array Value} (hg : gf.method = m) (hsize : gf.locals.size = c.maxLocals) (hdg : decode c.code gf.pc = .ok (ig, 3)) (hW8 : 2 * gf.monitorRoom + (gf.stack.map fun v => v.category).sum ≤ 8) (hn : U.methodNamed? (pg_mn mj) = some mk) (hp : px_Pre g R As ph ⟨U, Ls, c0, s0⟩ a) :
    ∃ (ph' : px_H) (U₂ : State) (L : List Loc) (k n : Nat), Stand p l e R s m sargs below meth c U₂ (Ls ++ L) (c0 + k) (s0 + n) ∧ px_R g ph' U₂.heap ∧ (∀ q ∈ L, px_A g q.base) ∧ k + ph.length = ph'.length ∧ n + px_sum ph = px_sum ph' ∧ ph'.length ≤ pg_MC ∧ px_sum ph' ≤ pg_MS ∧ U.heap.size ≤ U₂.heap.size ∧ (∀ q : Nat, q < U.heap.size → ¬ px_A g q → U₂.heap[q]? = U.heap[q]?) ∧
      ((∃ r, Q1 (.inl r) ph' ∧ Steps p.tables e below (doInvoke e (U.setTop gf) [] mk a).1 (U₂.setTop { gf with pc := gf.pc + 3, stack := (r.map (px_v g)).toList ++ gf.stack })) ∨ ∃ x, Q1 (.inr x) ph' ∧ Steps p.tables e below (doInvoke e (U.setTop gf) [] mk a).1 ((U₂.setTop gf).pushFrame (.throwing (px_b g + x)))) := by
  have hts := hC.2.2.2.2.2.1
  have h2 : (Cond.code (pg_mn mj) (pg_by mj) (pg_ml mj) (pg_rt mj)).before a U = true := word_at X.warmed (pg_good _ hm.1) (hts _ hm.1)
  obtain ⟨methY, cY, hmY, hcY, -, hlY, -, -, -, -⟩ := Cond.code_spec hn h2
  exact px_both0 hC (px_met hm hlen hen h) hm.2.1 hm.2.2.2.1.1 X hg hsize hdg hW8 hn hmY hcY hlY hp
/-! which handler catches an exception of class number ce at pc -/
def pg_ctc (t : Nat) : Nat := if t = 13 then 13 else if t = 15 then 14 else 15
def px_hs (pc ce : Nat) : List (Nat × Nat × Nat × Nat) → Option Nat
  | [] => none
  | x :: r => if x.1 ≤ pc ∧ pc < x.2.1 then (if pg_ctc x.2.2.2 = ce then some x.2.2.1 else px_hs pc ce r) else px_hs pc ce r
def pr_in (a : Cond) : Bool := pg_rix.any (fun i => decide (pg_tb i = some a)) && (a.onTables && a.keepsCast)
theorem pr_in_at {g : px_G} {s : State} (hB : px_B g s) {a : Cond} (h : pr_in a = true) (args : Array Value) : a.before args s = true := by
  obtain ⟨A0, hT, hG⟩ := hB.2.2.1.1
  simp only [pr_in, Bool.and_eq_true] at h
  obtain ⟨i, -, hi⟩ := List.any_eq_true.mp h.1
  exact px_ride hB (hT _ (pg_tb_in (of_decide_eq_true hi))) h.2.1 h.2.2 args
theorem pr_c13 : pr_in (.castable (pg_cn 13) (pg_cn 13)) = true ∧ pr_in (.castable (pg_cn 14) (pg_cn 14)) = true ∧ pr_in (.castable (pg_cn 15) (pg_cn 15)) = true := by decide +kernel
theorem pr_l13 : pr_in (.classLink "LinkHouseLaw" 13 (pg_cn 13)) = true ∧ pr_in (.classLink "LinkHouseLaw" 15 (pg_cn 14)) = true ∧ pr_in (.classLink "LinkHouseLaw" 38 (pg_cn 15)) = true := by decide +kernel
theorem px_cl3 {g : px_G} {s : State} (hB : px_B g s) (args : Array Value) {t : Nat} (ht : t = 13 ∨ t = 15 ∨ t = 38) : (Cond.classLink "LinkHouseLaw" t (pg_cn (pg_ctc t))).before args s = true := by
  rcases ht with rfl | rfl | rfl
  · exact pr_in_at hB pr_l13.1 args
  · exact pr_in_at hB pr_l13.2.1 args
  · exact pr_in_at hB pr_l13.2.2 args
theorem px_ncast {s : State} {args : Array Value} {a b : String} {x y : ClassId} (h : (Cond.not (.castable a b)).before args s = true) (hx : s.vm.findClass a = some x) (hy : s.vm.findClass b = some y) : s.vm.assignable x y = false := by
  simp only [Cond.before, Cond.holds, Cond.value, hx, hy] at h
  cases hA : s.vm.assignable x y with
  | false => rfl
  | true => rw [hA] at h; simp at h
theorem px_as {g : px_G} {s : State} (hB : px_B g s) {ce ct : Nat} (h1 : ce = 13 ∨ ce = 14 ∨ ce = 15) (h2 : ct = 13 ∨ ct = 14 ∨ ct = 15) {x y : ClassId} (hx : s.vm.findClass (pg_cn ce) = some x) (hy : s.vm.findClass (pg_cn ct) = some y) : s.vm.assignable x y = decide (ct = ce) := by
  have same : ∀ k, pr_in (.castable (pg_cn k) (pg_cn k)) = true → ∀ x y, s.vm.findClass (pg_cn k) = some x → s.vm.findClass (pg_cn k) = some y → s.vm.assignable x y = true := by
    intro k hk x y hx hy
    obtain ⟨c, t, q1, q2, q3⟩ := Cond.castable_spec (pr_in_at hB hk #[])
    cases q1.symm.trans hx
    cases q2.symm.trans hy
    exact q3
  obtain ⟨A0, hT, hG⟩ := hB.2.2.1.1
  have nota : ∀ k j, (Cond.not (.castable (pg_cn k) (pg_cn j))).before A0 (px_s0 g) = true → ∀ x y, s.vm.findClass (pg_cn k) = some x → s.vm.findClass (pg_cn j) = some y → s.vm.assignable x y = false :=
    fun k j hh x y hx hy => by rw [hB.1.alike.assignable]; exact px_ncast hh (by rw [← hB.1.alike.findClass]; exact hx) (by rw [← hB.1.alike.findClass]; exact hy)
  rcases h1 with rfl | rfl | rfl <;> rcases h2 with rfl | rfl | rfl
  · exact same 13 pr_c13.1 x y hx hy
  · exact nota 13 14 (flat_of_before _ hG _ (by decide +kernel)) x y hx hy
  · exact nota 13 15 (flat_of_before _ hG _ (by decide +kernel)) x y hx hy
  · exact nota 14 13 (flat_of_before _ hG _ (by decide +kernel)) x y hx hy
  · exact same 14 pr_c13.2.1 x y hx hy
  · exact nota 14 15 (flat_of_before _ hG _ (by decide +kernel)) x y hx hy
  · exact nota 15 13 (flat_of_before _ hG _ (by decide +kernel)) x y hx hy
  · exact nota 15 14 (flat_of_before _ hG _ (by decide +kernel)) x y hx hy
  · exact same 15 pr_c13.2.2 x y hx hy
theorem px_find {g : px_G} {s : State} {e : Env} {U : State} {f : JFrame} {a : Addr} {ce : Nat} {cell : Cell} (hpl : e.platform.magicAccessors = ({} : Platform).magicAccessors) (hB : px_B g s) (hown : s.vm.findClass "LinkHouseLaw" = some f.method.cls) (hcell : U.heap[a]? = some cell) (hst : cell.vm = .none) (hfc : s.vm.findClass (pg_cn ce) = some cell.cls) (hce : ce = 13 ∨ ce = 14 ∨ ce = 15) :
    ∀ (xs : List ExceptionTableEntry) (vm₀ : Vm) (hp : Nat), s.WarmedH vm₀ → (∀ x ∈ xs, x.catchType = 13 ∨ x.catchType = 15 ∨ x.catchType = 38) → px_hs f.pc ce (xs.map (fun h => (h.startPc, h.endPc, h.handlerPc, h.catchType))) = some hp →
      ∃ vm', s.WarmedH vm' ∧ ∀ (Q : Handler → Pre) (E : CtlPost) (d : Bool) (acts : List Action), wp (findHandler.go f a xs) Q E e d acts (U.setVm vm₀) ↔ Q (.found hp) d acts (U.setVm vm')
  | [], vm₀, hp, _, _, h => by cases h
  | x :: t, vm₀, hp, hW, hct, h => by
    rw [List.map_cons, px_hs] at h
    by_cases hc : x.startPc ≤ f.pc ∧ f.pc < x.endPc
    · have hcov : covers x f.pc = true := by simp [covers, hc.1, hc.2]
      rw [if_pos hc] at h
      have hx3 := hct x List.mem_cons_self
      obtain ⟨c, hfc2, hlinks⟩ := Cond.classLink_spec hown (px_cl3 hB #[] hx3) e.platform hpl
      obtain ⟨hgv, hW2, -⟩ := State.classEntry (e := e) hW hlinks
      have h0 : x.catchType ≠ 0 := by omega
      have hct2 : pg_ctc x.catchType = 13 ∨ pg_ctc x.catchType = 14 ∨ pg_ctc x.catchType = 15 := by
        rcases hx3 with h9 | h9 | h9 <;> rw [h9]
        · exact Or.inl rfl
        · exact Or.inr (Or.inl rfl)
        · exact Or.inr (Or.inr rfl)
      have hasg := px_as hB hce hct2 hfc hfc2
      have hasg2 : (vm₀.noted f.method.cls x.catchType (.cls c)).assignable cell.cls c = decide (pg_ctc x.catchType = ce) := by
        rw [hW2.alike.assignable, hasg]
      have kx : ∃ k, (vm₀.noted f.method.cls x.catchType (.cls c)).classes[cell.cls]? = some k := by
        obtain ⟨k, hk, -⟩ := Vm.findClass_spec hfc
        obtain ⟨k', hk', -⟩ := hW2.alike.2.2 _ _ hk
        exact ⟨k', hk'⟩
      have kc : ∃ k, (vm₀.noted f.method.cls x.catchType (.cls c)).classes[c]? = some k := by
        obtain ⟨k, hk, -⟩ := Vm.findClass_spec hfc2
        obtain ⟨k', hk', -⟩ := hW2.alike.2.2 _ _ hk
        exact ⟨k', hk'⟩
      have step : ∀ (Q : Handler → Pre) (E : CtlPost) (d : Bool) (acts : List Action), wp (findHandler.go f a (x :: t)) Q E e d acts (U.setVm vm₀) ↔ if (vm₀.noted f.method.cls x.catchType (.cls c)).assignable cell.cls c = true then Q (.found x.handlerPc) d acts (U.setVm (vm₀.noted f.method.cls x.catchType (.cls c))) else wp (findHandler.go f a t) Q E e d acts (U.setVm (vm₀.noted f.method.cls x.catchType (.cls c))) :=
        fun Q E d acts => px_fhc (s := U.setVm vm₀) hcov h0 hgv (by show _ ≤ vm₀.classes.size; rw [Vm.size_noted]; exact Nat.le_refl _) hcell (fun k => by rw [hst]; intro h; cases h) kx kc
      by_cases he : pg_ctc x.catchType = ce
      · rw [if_pos he] at h
        cases h
        refine ⟨_, hW2, fun Q E d acts => (step Q E d acts).trans ?_⟩
        rw [if_pos (by rw [hasg2]; exact decide_eq_true he)]
      · rw [if_neg he] at h
        obtain ⟨vm', hW', ih⟩ := px_find hpl hB hown hcell hst hfc hce t _ hp hW2 (fun y hy => hct y (List.mem_cons_of_mem _ hy)) h
        refine ⟨vm', hW', fun Q E d acts => (step Q E d acts).trans ?_⟩
        rw [if_neg (by rw [hasg2]; simp [he])]
        exact ih Q E d acts
    · have hcov : covers x f.pc = false := by
        rw [Bool.eq_false_iff]
        intro h9
        simp only [covers, Bool.and_eq_true, decide_eq_true_eq] at h9
        exact hc h9
      rw [if_neg hc] at h
      obtain ⟨vm', hW', ih⟩ := px_find hpl hB hown hcell hst hfc hce t vm₀ hp hW (fun y hy => hct y (List.mem_cons_of_mem _ hy)) h
      exact ⟨vm', hW', fun Q E d acts => (W.findHandler_go_skip hcov).trans (ih Q E d acts)⟩
section PXTC
variable {l : Launch} {g : px_G} {d mi pc : Nat} {lv : px_L} {st : List Value} {ph : px_H} {Q Q1 : px_Q} {len nx r1 r2 : Nat}
set_option maxHeartbeats 1000000 in
/-- invokevirtual of a method that may throw, in one of the law's methods with handlers -/
theorem px_callT {idx mj a ci : Nat} {As fs : List Value} {C : String} {Tb : u_T} {N : Nat} (hcd : pg_cd mi pc = some (.invokevirtual idx, nx, mj, r2)) (hj : Nat.blt mj 382 = true) (hmk : (pg_mk (pg_oc mi)).any (fun z => z.1 == idx && z.2.1 == mj) = true) (hlaw : (pg_mn mi).cls = "LinkHouseLaw") (hct : (pg_xt mi).all (fun x => decide (x.2.2.2 = 13 ∨ x.2.2.2 = 15 ∨ x.2.2.2 = 38)) = true)
    (he : ph[a]? = some (.inr (ci, fs))) (hc : pg_cl[ci]? = some (C, Tb, N)) (hCm : (pg_mn mj).cls = C) (hn : As.length = pg_np mj) (hlen : Nat.ble (lg_sl (.ref a :: As)).length (pg_ml mj) = true) (hrs : Nat.ble (st.map fun v => v.category).sum 8 = true)
    {lv0 : px_L} (hen : px_en (.ref a :: As) (pg_ml mj) = lv0) (h : PW l g d mj 0 lv0 [] ph Q1) (hp : pc + 3 = nx) (kk : ∀ r ph', Q1 (.inl r) ph' → PW l g (d + 1) mi nx lv (r.toList ++ st) ph' Q)
    (kx : ∀ x ph', Q1 (.inr x) ph' → ∃ ce hpc, (ce = 13 ∨ ce = 14 ∨ ce = 15) ∧ ph'[x]? = some (.inr (ce, [])) ∧ px_hs pc ce (pg_xt mi) = some hpc ∧ PW l g (d + 1) mi hpc lv [.ref x] ph' Q) : PW l g (d + 1) mi pc lv (As.reverse ++ .ref a :: st) ph Q := by
  subst hp
  intro p e R s m args below meth c H locs cells slots ls B1 B2 hC hR hS hl h1 h2 h3 h4 h5 h6
  intro T hT X
  obtain ⟨hm, hinst, hsel, -⟩ := pg_ivv_ok hcd hj
  have hlink : Cond.methodLink (pg_mn mi).cls idx (pg_mn mj) ∈ pg_Ts := by
    obtain ⟨z, hz, hq⟩ := List.any_eq_true.mp hmk
    simp only [Bool.and_eq_true, beq_iff_eq] at hq
    obtain ⟨rfl, rfl⟩ := hq
    have h7 := pg_cmk_ok (pg_oc mi) (pg_ocl3 pg_mkL 21 _ (by decide) hz) z hz
    rw [pg_own mi (pg_lt hcd)]
    exact pg_okw_in h7
  have hC' := hC
  have hm' := hm
  obtain ⟨hx, hb, hml, hrt, hown, hts, hlk, hnm, hK0, hbs, hZ, hd1, hd2, hWs, hB, hX⟩ := hC
  obtain ⟨hcode, hini, hplain, hml45, hmh, hnp⟩ := hm
  have hsel' : (Cond.selects (pg_mn mj).cls (pg_mn mj) (pg_mn mj)).before args s = true := by
    obtain ⟨A0, hT9, -⟩ := hB.2.2.1.1
    exact px_ride hB (hsel A0 _ hT9) rfl rfl args
  have hpre := px_pre (As := .ref a :: As) hC' hT hR hS h1 h2 h3 h4 h5 h6
  have hsz : (F0 m pc ls ((As.reverse ++ .ref a :: st).map (px_v g))).locals.size = c.maxLocals := by rw [hml]; exact hl.1
  have hstk : (F0 m pc ls ((As.reverse ++ .ref a :: st).map (px_v g))).stack = (As.map (px_v g)).reverse ++ .ref (px_b g + a) :: st.map (px_v g) := by show (As.reverse ++ .ref a :: st).map (px_v g) = _; rw [List.map_append, List.map_reverse]; rfl
  have hln : ∀ sig, parseMethodDescriptor (pg_mn mj).desc = some sig → (As.map (px_v g)).length = sig.parameters.length := by
    intro sig hs
    rw [hs] at hnp
    rw [List.length_map, hn]
    exact (Option.some.inj hnp).symm
  obtain ⟨r0, hr0, cellB, q1, q2, q3, -⟩ := hR.2 a _ he
  have hfc : s.vm.findClass C = some cellB.cls := by rw [q2]; exact (hK0.1 ci _ hc).2.1
  have hcell : T.heap[px_b g + a]? = some cellB := by rw [hT]; exact q1
  have hst2 : cellB.vm.isStatics = false := by rw [q3]; rfl
  subst hCm
  obtain ⟨mk, methM, hnamed, hmethM, hstM, habM⟩ := Cond.instanceMethod_spec (hts _ hinst)
  obtain ⟨methM', cM, hmethM', -, -, -, -, -, -, hsigM⟩ := Cond.code_spec hnamed (hts _ hcode)
  cases hmethM.symm.trans hmethM'
  obtain ⟨c2, r2', m2, p1, p2, p3, p4, kP, hkP, hkPi⟩ := Cond.selects_spec hsel'
  cases hfc.symm.trans p1
  cases (State.methodFound?_of_named hnamed hmh).symm.trans p2
  cases hnamed.symm.trans p3
  have hselP : selectMethod e.platform s.vm cellB.cls mk = .method mk := by rw [Launch.admits_selectMethod X.admits]; exact p4
  obtain ⟨vm₁, X₁, hstep₁⟩ := X.invokevirtual hx hown (hts _ hlink) hnamed hmethM hstM hkP hkPi hmh (a := px_b g + a) (cell := cellB) hcell
    (fun z h => by rw [h] at hst2; cases hst2) hselP hmethM habM hkP hkPi (g := F0 m pc ls ((As.reverse ++ .ref a :: st).map (px_v g))) rfl (argsL := As.map (px_v g)) (rest := st.map (px_v g)) (hln _ hsigM) hstk (by rw [hb]; exact pg_dec hcd)
  obtain ⟨ph', U₂, L, k, n, X', hR', hL, hk, hn2, c3, c4, hz2, ho2, hout⟩ := px_both hC' hm' (Nat.le_of_ble_eq_true hlen) hen h X₁ (gf := F0 m pc ls (st.map (px_v g))) (ig := .invokevirtual idx) (a := ((Value.ref a :: As).map (px_v g)).toArray) rfl (by rw [hml]; exact hl.1) (by rw [hb]; exact pg_dec hcd) (px_rest (Nat.le_of_ble_eq_true hrs) m pc ls _) (X₁.named hnamed) (hpre vm₁ X₁.warmed)
  have hS' : va_S (px_A g) s.heap U₂.heap (locs ++ L) := by
    refine ⟨Nat.le_trans hS.1 (by rw [← hT]; exact hz2), fun q g1 g2 => ?_, fun q hq => ?_⟩
    · rw [ho2 q (by show q < T.heap.size; rw [hT]; exact Nat.lt_of_lt_of_le g1 hS.1) g2]
      show T.heap[q]? = _
      rw [hT]
      exact hS.2.1 q g1 g2
    · rcases List.mem_append.mp hq with hq | hq
      · exact hS.2.2 q hq
      · exact hL q hq
  rcases hout with ⟨r, hq, hsteps⟩ | ⟨x, hq, hsteps⟩
  · obtain ⟨t2, a1, b1⟩ := kk r ph' hq p e R s m args below meth c U₂.heap (locs ++ L) (cells + k) (slots + n) ls B1 B2 hC' hR' hS' hl (by omega) (by omega) c3 c4 h5 h6 U₂ rfl X'
    refine ⟨t2, hstep₁ t2 fun acts => ?_, b1⟩
    rw [doInvoke_state]
    refine hsteps.trans ?_
    have e1 : (r.map (px_v g)).toList ++ st.map (px_v g) = (r.toList ++ st).map (px_v g) := by cases r <;> rfl
    show Steps p.tables e below (U₂.setTop (F0 m (pc + 3) ls ((r.map (px_v g)).toList ++ st.map (px_v g)))) t2
    rw [e1]
    exact a1
  · obtain ⟨ce, hpc, hce, hx3, hhs, kP2⟩ := kx x ph' hq
    obtain ⟨r5, hr5, cellX, w1, w2, w3, -⟩ := hR'.2 x _ hx3
    have hclx : pg_cl[ce]? = some r5 := hr5
    have hfx : s.vm.findClass (pg_cn ce) = some cellX.cls := by
      obtain ⟨C5, T5, N5⟩ := r5
      obtain ⟨-, hC5, -, -⟩ := pg_cla hclx
      rw [w2, ← hC5]
      exact (hK0.1 ce _ hclx).2.1
    have hxX : c.exceptionTable.toList.map (fun h => (h.startPc, h.endPc, h.handlerPc, h.catchType)) = pg_xt mi := hX
    have hpl : e.platform.magicAccessors = ({} : Platform).magicAccessors := by rw [X.admits.platform]
    obtain ⟨vm', hW', hfind⟩ := px_find (U := (U₂.setTop (F0 m pc ls (st.map (px_v g)))).pushFrame (.throwing (px_b g + x))) (f := F0 m pc ls (st.map (px_v g))) (a := px_b g + x) hpl hB (by rw [← hlaw]; exact hown) w1 w3 hfx hce c.exceptionTable.toList U₂.vm hpc X'.warmed (fun y hy => by
      have h7 := List.all_eq_true.mp hct (y.startPc, y.endPc, y.handlerPc, y.catchType) (by rw [← hxX]; exact List.mem_map.mpr ⟨y, hy, rfl⟩)
      exact of_decide_eq_true h7) (by rw [hxX]; exact hhs)
    have hfi : px_Fi e ((U₂.setTop (F0 m pc ls (st.map (px_v g)))).pushFrame (.throwing (px_b g + x))) (F0 m pc ls (st.map (px_v g))) (px_b g + x) hpc vm' :=
      fun Q9 E9 d9 acts9 => (W.findHandler_eq (meth := meth) (code := c) X'.method' X.code).trans (hfind Q9 E9 d9 acts9)
    obtain ⟨t2, a1, b1⟩ := kP2 p e R s m args below meth c U₂.heap (locs ++ L) (cells + k) (slots + n) ls B1 B2 hC' hR' hS' hl (by omega) (by omega) c3 c4 h5 h6 (U₂.setVm vm') rfl (X'.noted hW')
    refine ⟨t2, hstep₁ t2 fun acts => ?_, b1⟩
    rw [doInvoke_state]
    exact hsteps.trans (px_caught (g := F0 m pc ls (st.map (px_v g))) X'.here hfi a1)
end PXTC
