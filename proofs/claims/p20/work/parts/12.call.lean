/-! calls -/
/-- the locals at a method's entry -/
def px_en : List Value → Nat → px_L
  | [], n => List.replicate n px_u
  | v :: r, n => match v with
    | .long x => .long x :: px_u :: px_en r (n - 2)
    | .double x => .double x :: px_u :: px_en r (n - 2)
    | v => v :: px_en r (n - 1)
theorem px_en_mem (g : px_G) : ∀ (vs : List Value) (n i : Nat) (q : Nat × Value), q ∈ px_lz g i (px_en vs n) → q ∈ lv_args i (vs.map (px_v g))
  | [], n, i, q, h => by
    obtain ⟨j, v, h1, h2, -⟩ := (px_lz_mem g _ i q).mp h
    have h3 := List.mem_of_getElem? h1
    rw [px_en, List.mem_replicate] at h3
    rw [h3.2] at h2
    cases h2
  | v :: vs, n, i, q, h => by
    have one : ∀ k, q ∈ (i, px_v g v) :: px_lz g (i + k) (px_en vs (n - k)) → (if (px_v g v).category = 2 then i + 2 else i + 1) = i + k → q ∈ lv_args i ((v :: vs).map (px_v g)) := by
      intro k h1 h2
      show q ∈ (i, px_v g v) :: lv_args _ (vs.map (px_v g))
      rw [h2]
      rcases List.mem_cons.mp h1 with h1 | h1
      · rw [h1]; exact List.mem_cons_self
      · exact List.mem_cons_of_mem _ (px_en_mem g vs (n - k) (i + k) q h1)
    cases v with
    | float x => exact one 1 (List.mem_cons_of_mem _ h) rfl
    | long x => exact one 2 h rfl
    | double x => exact one 2 h rfl
    | int x => exact one 1 h rfl
    | null => exact one 1 h rfl
    | ref x => exact one 1 h rfl
    | retAddr x => exact one 1 h rfl
theorem px_sl (g : px_G) : ∀ vs : List Value, (lg_sl (vs.map (px_v g))).length = (lg_sl vs).length
  | [] => rfl
  | v :: vs => by
    have ih := px_sl g vs
    simp only [lg_sl, List.map_cons, List.flatMap_cons, List.length_append, px_cat] at ih ⊢
    rw [ih]
    by_cases h : v.category = 2 <;> simp [h]
def px_P (g : px_G) (As : List Value) (ph : px_H) : Array Value → State → Prop := fun v U => v = (As.map (px_v g)).toArray ∧ px_R g ph U.heap ∧ px_K g U ∧ px_Z g U U.heap ∧ px_b g ≤ U.heap.size ∧ ph.length ≤ pg_MC ∧ px_sum ph ≤ pg_MS ∧ px_W U ∧ px_B g U
def px_rm (d : Nat) (ph : px_H) : Room := { frames := d, cells := pg_MC - ph.length, slots := pg_MS - px_sum ph, locals := 64 * d }
theorem px_met {l : Launch} {g : px_G} {d mj : Nat} {As : List Value} {ph : px_H} {Q : px_Q} (hm : px_M mj) (hlen : (lg_sl As).length ≤ pg_ml mj) {lv0 : px_L} (hen : px_en As (pg_ml mj) = lv0) (h : PW l g d mj 0 lv0 [] ph Q) :
    MetFree l (pg_mn mj) (headSpec pg_Ts (px_rm d ph)) (px_P g As ph) (fun _ _ _ _ _ => True) (fun _ st o t => px_O g ph.length (px_sum ph) Q st o t) := by
  obtain ⟨hcode, hini, hplain, hml45, hmh, hnp⟩ := hm
  obtain ⟨hml45, hxt⟩ := hml45
  refine MetFree.of_bodyS (code := pg_by mj) (maxLocals := pg_ml mj) (ret := pg_rt mj) hplain ?_ ?_
  · intro args s m hp hn
    obtain ⟨meth, c, h1, h2, h3, h4, h5, h6, -, -⟩ := Cond.code_spec hn (atoms_spec (ws := pg_Ts) hp _ hcode)
    exact ⟨meth, c, h1, h2, h3, h4, h5, h6⟩
  · intro p e s m args below meth c s₁ B hml hP _
    obtain ⟨hargs, hR, hK, hZ, hbs, h3, h4, hWs, hB⟩ := hP
    have hh0 : s₁.heap = s.heap := by rw [B.state]; rfl
    have hX : px_X mj c := by
      obtain ⟨meth2, c2, k1, k2, -, -, -, -, k3, -⟩ := Cond.code_spec B.named (atoms_spec (ws := pg_Ts) B.pre _ hcode)
      cases B.method.symm.trans k1
      have k4 := B.here.code
      rw [State.code?_eq] at k4
      have k6 : s₁.vm.method? m = some meth := by rw [B.state]; exact B.method
      rw [k6] at k4
      replace k4 : meth.code = some c := by simpa using k4
      cases k4.symm.trans k2
      unfold px_X
      rw [hxt]
      have k5 : c.exceptionTable = #[] := Array.isEmpty_iff.mp k3
      rw [k5]
      rfl
    have hC : px_C g d mj p (px_rm d ph) s m args meth c := ⟨B.exec, B.bytes, hml, B.returns, findClass_of_methodNamed B.named, atoms_spec (ws := pg_Ts) B.pre, B.notSynchronized, (name_of_methodNamed B.named B.method).1, hK, hbs, hZ, Nat.le_refl _, Nat.le_refl _, hWs, hB, hX⟩
    subst hen
    have hl0 := lv_entry (As.map (px_v g)) (n := pg_ml mj) (by rw [px_sl]; exact hlen)
    have hl : lv_has _ (pg_ml mj) (px_l g (px_en As (pg_ml mj))) := ⟨hl0.1, hl0.2.1, fun q hq => hl0.2.2 q (px_en_mem g As (pg_ml mj) 0 q hq)⟩
    have w := h p e (px_rm d ph) s m args below meth c s.heap [] 0 0 _ ph.length (px_sum ph) hC hR va_S.rf hl (Nat.zero_add _) (Nat.zero_add _) h3 h4 (by show pg_MC ≤ (pg_MC - ph.length) + ph.length; omega) (by show pg_MS ≤ (pg_MS - px_sum ph) + px_sum ph; omega)
    obtain ⟨t, a1, o, b1, b2, b3⟩ := w s₁ hh0 (Stand.of_body B)
    refine ⟨t, o, ?_, b1, b2, b3⟩
    rw [hargs, lg_entry_eq]
    exact a1
/-- before and behind a call -/
def px_Pre (g : px_G) (R : Room) (As : List Value) (ph : px_H) : Pt → Array Value → Prop := fun A a => px_P g As ph a A.U ∧ A.cells + (pg_MC - ph.length) ≤ R.cells ∧ A.slots + (pg_MS - px_sum ph) ≤ R.slots
def px_Post (g : px_G) (ph : px_H) (Q : px_Q) : Pt → Array Value → Option Value → Pt → Prop := fun A _ v B =>
  ∃ (r : Option Value) (ph' : px_H) (L : List Loc) (k n : Nat), v = r.map (px_v g) ∧ Q (.inl r) ph' ∧ px_R g ph' B.U.heap ∧ B.locs = A.locs ++ L ∧ (∀ q ∈ L, px_A g q.base) ∧ B.cells = A.cells + k ∧ B.slots = A.slots + n ∧ k + ph.length = ph'.length ∧ n + px_sum ph = px_sum ph' ∧ ph'.length ≤ pg_MC ∧ px_sum ph' ≤ pg_MS ∧
    A.U.heap.size ≤ B.U.heap.size ∧ ∀ q : Nat, q < A.U.heap.size → ¬ px_A g q → B.U.heap[q]? = A.U.heap[q]?
theorem px_back {l : Launch} {g : px_G} {d mi mj : Nat} {As : List Value} {ph : px_H} {Q : px_Q} {p : Program} {e : Env} {R : Room} {s : State} {m : MethodId} {sargs : Array Value} {below : List Frame} {meth : Method} {c : Code} (hC : px_C g (d + 1) mi p R s m sargs meth c) (hm : px_M mj) (hlen : (lg_sl As).length ≤ pg_ml mj) {lv0 : px_L} (hen : px_en As (pg_ml mj) = lv0) (h : PW l g d mj 0 lv0 [] ph Q) (hno : ∀ x ph', ¬ Q (.inr x) ph') :
    Back l R p e below s sargs (pg_mn mj) 3 8 (px_Pre g R As ph) (px_Post g ph Q) := by
  obtain ⟨hx, hb, hml, hrt, hown, hts, hlk, hnm, hK, hbs, hZ, hd1, hd2, hWs, hB⟩ := hC
  have hM := px_met hm hlen hen h
  obtain ⟨hcode, hini, hplain, hml45, hmh, hnp⟩ := hm
  refine Back.of_free (S := headSpec pg_Ts (px_rm d ph)) (P := px_P g As ph) (K := fun _ _ _ _ _ => True) (Q := fun _ st o t => px_O g ph.length (px_sum ph) Q st o t) (bytes := pg_by mj) (maxL := pg_ml mj) (ret := pg_rt mj)
    (E := fun _ st o t L k n => ∃ (r : Option Value) (ph' : px_H), o = .returned (r.map (px_v g)) ∧ Q (.inl r) ph' ∧ px_R g ph' t.heap ∧ (∀ q ∈ L, px_A g q.base) ∧ k + ph.length = ph'.length ∧ n + px_sum ph = px_sum ph' ∧ ph'.length ≤ pg_MC ∧ px_sum ph' ≤ pg_MS ∧ va_F (px_A g) st t)
    hM hd1 (by show 8 + (pg_ml mj + 11) + 64 * d ≤ R.locals; omega) ?_ ?_ (fun _ _ _ _ _ _ _ _ _ => trivial) ?_ ?_
  · intro m2 meth2 c2 A a X hp
    exact ⟨atoms_intro fun w hw => word_at X.warmed (pg_good w hw) (hts w hw), word_at X.warmed (pg_good _ hcode) (hts _ hcode), word_at X.warmed (pg_good _ hini) (hts _ hini), hp.2.1, hp.2.2⟩
  · intro m2 meth2 c2 A a gf mk X hp
    obtain ⟨⟨q1, q2, q3, q4, q5, q6, q7, q8, q9⟩, -, -⟩ := hp
    exact ⟨q1, q2, va_K.moved (u := A.U) (U := A.U.calling gf mk a) (Vm.Alike.refl A.U.vm) q3, px_Z.moved (u := A.U) (U := A.U.calling gf mk a) (Vm.Alike.refl A.U.vm) q4, q5, q6, q7, px_W.warm (s := A.U) (U := A.U.calling gf mk a) (State.WarmedH.refl A.U) q8, q9⟩
  · intro a first o t ho
    obtain ⟨ph', L, k, n, hW, hsame, hL, hk, hn, c3, c4, hR', hF, ⟨r, ho', hq⟩ | ⟨x, ho', hq⟩⟩ := ho
    · exact ⟨L, k, n, ⟨⟨_, ho'⟩, hW, hsame⟩, r, ph', ho', hq, hR', hL, hk, hn, c3, c4, hF⟩
    · exact absurd hq (hno x ph')
  · intro m2 meth2 c2 A a gf mk v t L k n X hp hq hF hE
    obtain ⟨r, ph', ho, hq', hR', hL, hk, hn, c3, c4, hF2⟩ := hE
    cases ho
    exact ⟨r, ph', L, k, n, rfl, hq', hR', rfl, hL, rfl, rfl, hk, hn, c3, c4, hF2.1, hF2.2⟩
/-- the same, with up to 16 places below the call -/
theorem px_back16 {l : Launch} {g : px_G} {d mi mj : Nat} {As : List Value} {ph : px_H} {Q : px_Q} {p : Program} {e : Env} {R : Room} {s : State} {m : MethodId} {sargs : Array Value} {below : List Frame} {meth : Method} {c : Code} (hC : px_C g (d + 1) mi p R s m sargs meth c) (hm : px_M mj) (hlen : (lg_sl As).length ≤ pg_ml mj) {lv0 : px_L} (hen : px_en As (pg_ml mj) = lv0) (h : PW l g d mj 0 lv0 [] ph Q) (hno : ∀ x ph', ¬ Q (.inr x) ph') (hW16 : 16 + pg_ml mj ≤ 53) :
    Back l R p e below s sargs (pg_mn mj) 3 16 (px_Pre g R As ph) (px_Post g ph Q) := by
  obtain ⟨hx, hb, hml, hrt, hown, hts, hlk, hnm, hK, hbs, hZ, hd1, hd2, hWs, hB⟩ := hC
  have hM := px_met hm hlen hen h
  obtain ⟨hcode, hini, hplain, hml45, hmh, hnp⟩ := hm
  refine Back.of_free (S := headSpec pg_Ts (px_rm d ph)) (P := px_P g As ph) (K := fun _ _ _ _ _ => True) (Q := fun _ st o t => px_O g ph.length (px_sum ph) Q st o t) (bytes := pg_by mj) (maxL := pg_ml mj) (ret := pg_rt mj)
    (E := fun _ st o t L k n => ∃ (r : Option Value) (ph' : px_H), o = .returned (r.map (px_v g)) ∧ Q (.inl r) ph' ∧ px_R g ph' t.heap ∧ (∀ q ∈ L, px_A g q.base) ∧ k + ph.length = ph'.length ∧ n + px_sum ph = px_sum ph' ∧ ph'.length ≤ pg_MC ∧ px_sum ph' ≤ pg_MS ∧ va_F (px_A g) st t)
    hM hd1 (by show 16 + (pg_ml mj + 11) + 64 * d ≤ R.locals; omega) ?_ ?_ (fun _ _ _ _ _ _ _ _ _ => trivial) ?_ ?_
  · intro m2 meth2 c2 A a X hp
    exact ⟨atoms_intro fun w hw => word_at X.warmed (pg_good w hw) (hts w hw), word_at X.warmed (pg_good _ hcode) (hts _ hcode), word_at X.warmed (pg_good _ hini) (hts _ hini), hp.2.1, hp.2.2⟩
  · intro m2 meth2 c2 A a gf mk X hp
    obtain ⟨⟨q1, q2, q3, q4, q5, q6, q7, q8, q9⟩, -, -⟩ := hp
    exact ⟨q1, q2, va_K.moved (u := A.U) (U := A.U.calling gf mk a) (Vm.Alike.refl A.U.vm) q3, px_Z.moved (u := A.U) (U := A.U.calling gf mk a) (Vm.Alike.refl A.U.vm) q4, q5, q6, q7, px_W.warm (s := A.U) (U := A.U.calling gf mk a) (State.WarmedH.refl A.U) q8, q9⟩
  · intro a first o t ho
    obtain ⟨ph', L, k, n, hW, hsame, hL, hk, hn, c3, c4, hR', hF, ⟨r, ho', hq⟩ | ⟨x, ho', hq⟩⟩ := ho
    · exact ⟨L, k, n, ⟨⟨_, ho'⟩, hW, hsame⟩, r, ph', ho', hq, hR', hL, hk, hn, c3, c4, hF⟩
    · exact absurd hq (hno x ph')
  · intro m2 meth2 c2 A a gf mk v t L k n X hp hq hF hE
    obtain ⟨r, ph', ho, hq', hR', hL, hk, hn, c3, c4, hF2⟩ := hE
    cases ho
    exact ⟨r, ph', L, k, n, rfl, hq', hR', rfl, hL, rfl, rfl, hk, hn, c3, c4, hF2.1, hF2.2⟩
section PXC
variable {l : Launch} {g : px_G} {d mi pc : Nat} {lv : px_L} {st : List Value} {ph : px_H} {Q Q1 : px_Q} {len nx r1 r2 : Nat}
/-- behind a call: the caller goes on -/
theorem px_after {p : Program} {e : Env} {R : Room} {s : State} {m : MethodId} {args : Array Value} {below : List Frame} {meth : Method} {c : Code} {T : State} {H : Heap} {locs : List Loc} {cells slots : Nat} {ls : Array Slot} {B1 B2 : Nat} {vm₁ : Vm} {B : Pt} {a : Array Value} {v : Option Value}
    (hC : px_C g d mi p R s m args meth c) (hT : T.heap = H) (hS : va_S (px_A g) s.heap H locs) (hl : lv_has ls (pg_ml mi) (px_l g lv)) (h1 : cells + B1 = ph.length) (h2 : slots + B2 = px_sum ph) (h5 : pg_MC ≤ R.cells + B1) (h6 : pg_MS ≤ R.slots + B2)
    (X' : Stand p l e R s m args below meth c B.U B.locs B.cells B.slots) (hpost : px_Post g ph Q1 ⟨T.setVm vm₁, locs, cells, slots⟩ a v B)
    (kk : ∀ r ph', Q1 (.inl r) ph' → PW l g d mi (pc + 3) lv (r.toList ++ st) ph' Q) {g0 : JFrame}
    (stp : ∀ target, Steps p.tables e below (B.U.setTop (F0 m (pc + 3) ls (v.toList ++ st.map (px_v g)))) target → Steps p.tables e below (T.setTop g0) target) :
    ∃ t, Steps p.tables e below (T.setTop g0) t ∧ px_E g below s B1 B2 Q t := by
  obtain ⟨U', l', c', n'⟩ := B
  obtain ⟨r, ph', L, k, n, hv, hq, hR', hL1, hL2, hc1, hc2, hk, hn, c3, c4, hz, ho⟩ := hpost
  dsimp only [Pt.U, Pt.locs, Pt.cells, Pt.slots] at hL1 hc1 hc2 hz ho hR' X' stp
  have hS' : va_S (px_A g) s.heap U'.heap l' := by
    refine ⟨Nat.le_trans hS.1 (by rw [← hT]; exact hz), fun q g1 g2 => ?_, fun q hq => ?_⟩
    · rw [ho q (by show q < T.heap.size; rw [hT]; exact Nat.lt_of_lt_of_le g1 hS.1) g2]
      show T.heap[q]? = _
      rw [hT]
      exact hS.2.1 q g1 g2
    · rw [hL1] at hq
      rcases List.mem_append.mp hq with hq | hq
      · exact hS.2.2 q hq
      · exact hL2 q hq
  have w := kk r ph' hq p e R s m args below meth c U'.heap l' c' n' ls B1 B2 hC hR' hS' hl (by rw [hc1]; omega) (by rw [hc2]; omega) c3 c4 h5 h6
  obtain ⟨t2, a1, b1⟩ := w U' rfl X'
  refine ⟨t2, stp t2 ?_, b1⟩
  have e1 : v.toList ++ st.map (px_v g) = (r.toList ++ st).map (px_v g) := by rw [hv]; cases r <;> rfl
  rw [e1]
  exact a1
theorem px_pre {p : Program} {R : Room} {s : State} {m : MethodId} {args : Array Value} {meth : Method} {c : Code} {T : State} {H : Heap} {locs : List Loc} {cells slots : Nat} {B1 B2 : Nat} {As : List Value}
    (hC : px_C g d mi p R s m args meth c) (hT : T.heap = H) (hR : px_R g ph H) (hS : va_S (px_A g) s.heap H locs) (h1 : cells + B1 = ph.length) (h2 : slots + B2 = px_sum ph) (h3 : ph.length ≤ pg_MC) (h4 : px_sum ph ≤ pg_MS) (h5 : pg_MC ≤ R.cells + B1) (h6 : pg_MS ≤ R.slots + B2) :
    ∀ vm₁, s.WarmedH vm₁ → px_Pre g R As ph ⟨T.setVm vm₁, locs, cells, slots⟩ (As.map (px_v g)).toArray := by
  intro vm₁ hW
  obtain ⟨hx, hb, hml, hrt, hown, hts, hlk, hnm, hK, hbs, hZ, hd1, hd2, hWs, hB⟩ := hC
  refine ⟨⟨rfl, ?_, va_K.moved (u := s) (U := T.setVm vm₁) hW.alike hK, ?_, ?_, h3, h4, px_W.warm (s := s) (U := T.setVm vm₁) hW hWs, State.WarmedH.trans hB.1.1 hW, fun q hq => ?_, hB.1.2.2.1, fun q cell hq hc => hR.ns q cell hq (by rw [← hT]; exact hc)⟩, ?_, ?_⟩
  · show px_R g ph T.heap
    rw [hT]; exact hR
  · refine (px_Z.moved (u := s) (U := T.setVm vm₁) hW.alike hZ).kept (fun a g1 g2 => ?_)
    show T.heap[a]? = _
    rw [hT]
    exact hS.2.1 a g1 g2
  · show px_b g ≤ T.heap.size
    rw [hT, hR.1]; omega
  · show T.heap[q]? = _
    rw [hT, hS.2.1 q (Nat.lt_of_lt_of_le hq hbs) (Nat.not_le.mpr hq)]
    exact hB.1.2.1 q hq
  · show cells + (pg_MC - ph.length) ≤ R.cells
    omega
  · show slots + (pg_MS - px_sum ph) ≤ R.slots
    omega
theorem px_rest (h : (st.map fun v => v.category).sum ≤ 8) (m : MethodId) (pc : Nat) (ls : Array Slot) (stk : List Value) : 2 * (F0 m pc ls stk).monitorRoom + ((st.map (px_v g)).map fun v => v.category).sum ≤ 8 := by
  have e : (st.map (px_v g)).map (fun v => v.category) = st.map (fun v => v.category) := by
    rw [List.map_map]; congr 1; funext v; exact px_cat g v
  rw [e]
  exact lv_room h
theorem px_rest16 (h : (st.map fun v => v.category).sum ≤ 16) (m : MethodId) (pc : Nat) (ls : Array Slot) (stk : List Value) : 2 * (F0 m pc ls stk).monitorRoom + ((st.map (px_v g)).map fun v => v.category).sum ≤ 16 := by
  have e : (st.map (px_v g)).map (fun v => v.category) = st.map (fun v => v.category) := by
    rw [List.map_map]; congr 1; funext v; exact px_cat g v
  rw [e]
  show 2 * 0 + _ ≤ 16
  omega
set_option maxHeartbeats 1000000 in
theorem px_callS {idx mj : Nat} {As : List Value} (hcd : pg_cd mi pc = some (.invokestatic idx, nx, mj, r2)) (hj : Nat.blt mj 382 = true) (hn : As.length = pg_np mj) (hlen : Nat.ble (lg_sl As).length (pg_ml mj) = true) (hrs : Nat.ble (st.map fun v => v.category).sum 8 = true)
    {lv0 : px_L} (hen : px_en As (pg_ml mj) = lv0) (h : PW l g d mj 0 lv0 [] ph Q1) (hno : ∀ x ph', ¬ Q1 (.inr x) ph') (hp : pc + 3 = nx) (kk : ∀ r ph', Q1 (.inl r) ph' → PW l g (d + 1) mi nx lv (r.toList ++ st) ph' Q) : PW l g (d + 1) mi pc lv (As.reverse ++ st) ph Q := by
  subst hp
  intro p e R s m args below meth c H locs cells slots ls B1 B2 hC hR hS hl h1 h2 h3 h4 h5 h6
  intro T hT X
  obtain ⟨hm, hstat, hlink⟩ := pg_ivs_ok hcd hj
  have hK := px_back (e := e) (below := below) hC hm (Nat.le_of_ble_eq_true hlen) hen h hno
  have hC' := hC
  obtain ⟨hx, hb, hml, hrt, hown, hts, hlk, hnm, hK0, hbs, hZ, hd1, hd2, hWs, hB⟩ := hC
  obtain ⟨hcode, hini, hplain, hml45, hmh, hnp⟩ := hm
  have hpre := px_pre (As := As) hC' hT hR hS h1 h2 h3 h4 h5 h6
  have hsz : (F0 m pc ls ((As.reverse ++ st).map (px_v g))).locals.size = c.maxLocals := by rw [hml]; exact hl.1
  have hstk : (F0 m pc ls ((As.reverse ++ st).map (px_v g))).stack = (As.map (px_v g)).reverse ++ st.map (px_v g) := by show (As.reverse ++ st).map (px_v g) = _; rw [List.map_append, List.map_reverse]
  have hln : ∀ sig, parseMethodDescriptor (pg_mn mj).desc = some sig → (As.map (px_v g)).length = sig.parameters.length := by
    intro sig hs
    rw [hs] at hnp
    rw [List.length_map, hn]
    exact (Option.some.inj hnp).symm
  rcases hlink with hlink | ⟨host, hlink⟩
  · obtain ⟨v, vm₁, B, hW₁, X', hpost, stp⟩ := callS X hx (bytes := pg_by mj) (maxL := pg_ml mj) (ret := pg_rt mj) hown (hts _ hlink) (hts _ hstat) (hts _ hini) (hts _ hcode) hmh hK (g := F0 m pc ls ((As.reverse ++ st).map (px_v g))) rfl hsz (argsL := As.map (px_v g)) (rest := st.map (px_v g)) hln hstk (px_rest (Nat.le_of_ble_eq_true hrs) m pc ls _) (by rw [hb]; exact pg_dec hcd) hpre
    exact px_after hC' hT hS hl h1 h2 h5 h6 X' hpost kk stp
  · obtain ⟨v, vm₁, B, hW₁, X', hpost, stp⟩ := va_callSN X hx (bytes := pg_by mj) (maxL := pg_ml mj) (ret := pg_rt mj) hown (va_Nw.use (by rfl) (hWs.1 _ hlink)) (hts _ hstat) (hts _ hini) (hts _ hcode) hmh hK (g := F0 m pc ls ((As.reverse ++ st).map (px_v g))) rfl hsz (argsL := As.map (px_v g)) (rest := st.map (px_v g)) hln hstk (px_rest (Nat.le_of_ble_eq_true hrs) m pc ls _) (by rw [hb]; exact pg_dec hcd) hpre
    exact px_after hC' hT hS hl h1 h2 h5 h6 X' hpost kk stp
set_option maxHeartbeats 1000000 in
theorem px_callV {idx mj a ci : Nat} {As fs : List Value} {C : String} {Tb : u_T} {N : Nat} (hcd : pg_cd mi pc = some (.invokevirtual idx, nx, mj, r2)) (hj : Nat.blt mj 382 = true) (he : ph[a]? = some (.inr (ci, fs))) (hc : pg_cl[ci]? = some (C, Tb, N)) (hCm : (pg_mn mj).cls = C) (hn : As.length = pg_np mj) (hlen : Nat.ble (lg_sl (.ref a :: As)).length (pg_ml mj) = true) (hrs : Nat.ble (st.map fun v => v.category).sum 8 = true)
    {lv0 : px_L} (hen : px_en (.ref a :: As) (pg_ml mj) = lv0) (h : PW l g d mj 0 lv0 [] ph Q1) (hno : ∀ x ph', ¬ Q1 (.inr x) ph') (hp : pc + 3 = nx) (kk : ∀ r ph', Q1 (.inl r) ph' → PW l g (d + 1) mi nx lv (r.toList ++ st) ph' Q) : PW l g (d + 1) mi pc lv (As.reverse ++ .ref a :: st) ph Q := by
  subst hp
  intro p e R s m args below meth c H locs cells slots ls B1 B2 hC hR hS hl h1 h2 h3 h4 h5 h6
  intro T hT X
  obtain ⟨hm, hinst, hsel, hlink⟩ := pg_ivv_ok hcd hj
  have hK := px_back (e := e) (below := below) hC hm (Nat.le_of_ble_eq_true hlen) hen h hno
  have hC' := hC
  obtain ⟨hx, hb, hml, hrt, hown, hts, hlk, hnm, hK0, hbs, hZ, hd1, hd2, hWs, hB⟩ := hC
  obtain ⟨hcode, hini, hplain, hml45, hmh, hnp⟩ := hm
  have hsel' : (Cond.selects (pg_mn mj).cls (pg_mn mj) (pg_mn mj)).before args s = true := by
    obtain ⟨A0, hT9, -⟩ := hB.1.2.2.1.1
    exact px_ride hB.1 (hsel A0 _ hT9) rfl rfl args
  have hpre := px_pre (As := .ref a :: As) hC' hT hR hS h1 h2 h3 h4 h5 h6
  have hsz : (F0 m pc ls ((As.reverse ++ .ref a :: st).map (px_v g))).locals.size = c.maxLocals := by rw [hml]; exact hl.1
  have hstk : (F0 m pc ls ((As.reverse ++ .ref a :: st).map (px_v g))).stack = (As.map (px_v g)).reverse ++ .ref (px_b g + a) :: st.map (px_v g) := by show (As.reverse ++ .ref a :: st).map (px_v g) = _; rw [List.map_append, List.map_reverse]; rfl
  have hln : ∀ sig, parseMethodDescriptor (pg_mn mj).desc = some sig → (As.map (px_v g)).length = sig.parameters.length := by
    intro sig hs
    rw [hs] at hnp
    rw [List.length_map, hn]
    exact (Option.some.inj hnp).symm
  obtain ⟨r0, hr0, cellB, q1, q2, q3, -⟩ := hR.2 a _ he
  have hfc : s.vm.findClass C = some cellB.cls := by rw [q2]; exact (hK0.1 ci _ hc).2.1
  have hcell : T.heap[px_b g + a]? = some cellB := by rw [hT]; exact q1
  have hst2 : cellB.vm.isStatics = false := by rw [q3]; rfl
  subst hCm
  rcases hlink with hlink | ⟨host, hlink⟩
  · obtain ⟨v, vm₁, B, hW₁, X', hpost, stp⟩ := callV X hx (C := (pg_mn mj).cls) (bytes := pg_by mj) (maxL := pg_ml mj) (ret := pg_rt mj) hown (hts _ hlink) (hts _ hinst) hsel' (hts _ hcode) hmh hK hcell hst2 hfc (g := F0 m pc ls ((As.reverse ++ .ref a :: st).map (px_v g))) rfl hsz (argsL := As.map (px_v g)) (rest := st.map (px_v g)) hln hstk (px_rest (Nat.le_of_ble_eq_true hrs) m pc ls _) (by rw [hb]; exact pg_dec hcd) hpre
    exact px_after hC' hT hS hl h1 h2 h5 h6 X' hpost kk stp
  · obtain ⟨v, vm₁, B, hW₁, X', hpost, stp⟩ := va_callVN X hx (C := (pg_mn mj).cls) (bytes := pg_by mj) (maxL := pg_ml mj) (ret := pg_rt mj) hown (va_Nw.use (by rfl) (hWs.1 _ hlink)) (hts _ hinst) hsel' (hts _ hcode) hmh hK hcell hst2 hfc (g := F0 m pc ls ((As.reverse ++ .ref a :: st).map (px_v g))) rfl hsz (argsL := As.map (px_v g)) (rest := st.map (px_v g)) hln hstk (px_rest (Nat.le_of_ble_eq_true hrs) m pc ls _) (by rw [hb]; exact pg_dec hcd) hpre
    exact px_after hC' hT hS hl h1 h2 h5 h6 X' hpost kk stp
set_option maxHeartbeats 1000000 in
theorem px_callVb {idx mj a ci : Nat} {As fs : List Value} {C : String} {Tb : u_T} {N : Nat} (hcd : pg_cd mi pc = some (.invokevirtual idx, nx, mj, r2)) (hj : Nat.blt mj 382 = true) (he : ph[a]? = some (.inr (ci, fs))) (hc : pg_cl[ci]? = some (C, Tb, N)) (hCm : (pg_mn mj).cls = C) (hn : As.length = pg_np mj) (hlen : Nat.ble (lg_sl (.ref a :: As)).length (pg_ml mj) = true) (hrs : Nat.ble (st.map fun v => v.category).sum 16 = true) (hW16 : Nat.ble (16 + pg_ml mj) 53 = true)
    {lv0 : px_L} (hen : px_en (.ref a :: As) (pg_ml mj) = lv0) (h : PW l g d mj 0 lv0 [] ph Q1) (hno : ∀ x ph', ¬ Q1 (.inr x) ph') (hp : pc + 3 = nx) (kk : ∀ r ph', Q1 (.inl r) ph' → PW l g (d + 1) mi nx lv (r.toList ++ st) ph' Q) : PW l g (d + 1) mi pc lv (As.reverse ++ .ref a :: st) ph Q := by
  subst hp
  intro p e R s m args below meth c H locs cells slots ls B1 B2 hC hR hS hl h1 h2 h3 h4 h5 h6
  intro T hT X
  obtain ⟨hm, hinst, hsel, hlink⟩ := pg_ivv_ok hcd hj
  have hK := px_back16 (e := e) (below := below) hC hm (Nat.le_of_ble_eq_true hlen) hen h hno (Nat.le_of_ble_eq_true hW16)
  have hC' := hC
  obtain ⟨hx, hb, hml, hrt, hown, hts, hlk, hnm, hK0, hbs, hZ, hd1, hd2, hWs, hB⟩ := hC
  obtain ⟨hcode, hini, hplain, hml45, hmh, hnp⟩ := hm
  have hsel' : (Cond.selects (pg_mn mj).cls (pg_mn mj) (pg_mn mj)).before args s = true := by
    obtain ⟨A0, hT9, -⟩ := hB.1.2.2.1.1
    exact px_ride hB.1 (hsel A0 _ hT9) rfl rfl args
  have hpre := px_pre (As := .ref a :: As) hC' hT hR hS h1 h2 h3 h4 h5 h6
  have hsz : (F0 m pc ls ((As.reverse ++ .ref a :: st).map (px_v g))).locals.size = c.maxLocals := by rw [hml]; exact hl.1
  have hstk : (F0 m pc ls ((As.reverse ++ .ref a :: st).map (px_v g))).stack = (As.map (px_v g)).reverse ++ .ref (px_b g + a) :: st.map (px_v g) := by show (As.reverse ++ .ref a :: st).map (px_v g) = _; rw [List.map_append, List.map_reverse]; rfl
  have hln : ∀ sig, parseMethodDescriptor (pg_mn mj).desc = some sig → (As.map (px_v g)).length = sig.parameters.length := by
    intro sig hs
    rw [hs] at hnp
    rw [List.length_map, hn]
    exact (Option.some.inj hnp).symm
  obtain ⟨r0, hr0, cellB, q1, q2, q3, -⟩ := hR.2 a _ he
  have hfc : s.vm.findClass C = some cellB.cls := by rw [q2]; exact (hK0.1 ci _ hc).2.1
  have hcell : T.heap[px_b g + a]? = some cellB := by rw [hT]; exact q1
  have hst2 : cellB.vm.isStatics = false := by rw [q3]; rfl
  subst hCm
  rcases hlink with hlink | ⟨host, hlink⟩
  · obtain ⟨v, vm₁, B, hW₁, X', hpost, stp⟩ := callV X hx (C := (pg_mn mj).cls) (bytes := pg_by mj) (maxL := pg_ml mj) (ret := pg_rt mj) hown (hts _ hlink) (hts _ hinst) hsel' (hts _ hcode) hmh hK hcell hst2 hfc (g := F0 m pc ls ((As.reverse ++ .ref a :: st).map (px_v g))) rfl hsz (argsL := As.map (px_v g)) (rest := st.map (px_v g)) hln hstk (px_rest16 (Nat.le_of_ble_eq_true hrs) m pc ls _) (by rw [hb]; exact pg_dec hcd) hpre
    exact px_after hC' hT hS hl h1 h2 h5 h6 X' hpost kk stp
  · obtain ⟨v, vm₁, B, hW₁, X', hpost, stp⟩ := va_callVN X hx (C := (pg_mn mj).cls) (bytes := pg_by mj) (maxL := pg_ml mj) (ret := pg_rt mj) hown (va_Nw.use (by rfl) (hWs.1 _ hlink)) (hts _ hinst) hsel' (hts _ hcode) hmh hK hcell hst2 hfc (g := F0 m pc ls ((As.reverse ++ .ref a :: st).map (px_v g))) rfl hsz (argsL := As.map (px_v g)) (rest := st.map (px_v g)) hln hstk (px_rest16 (Nat.le_of_ble_eq_true hrs) m pc ls _) (by rw [hb]; exact pg_dec hcd) hpre
    exact px_after hC' hT hS hl h1 h2 h5 h6 X' hpost kk stp
set_option maxHeartbeats 1000000 in
theorem px_callI {idx mj a : Nat} {As : List Value} (hcd : pg_cd mi pc = some (.invokespecial idx, nx, mj, r2)) (hj : Nat.blt mj 382 = true) (hn : As.length = pg_np mj) (hlen : Nat.ble (lg_sl (.ref a :: As)).length (pg_ml mj) = true) (hrs : Nat.ble (st.map fun v => v.category).sum 8 = true)
    {lv0 : px_L} (hen : px_en (.ref a :: As) (pg_ml mj) = lv0) (h : PW l g d mj 0 lv0 [] ph Q1) (hno : ∀ x ph', ¬ Q1 (.inr x) ph') (hp : pc + 3 = nx) (kk : ∀ r ph', Q1 (.inl r) ph' → PW l g (d + 1) mi nx lv (r.toList ++ st) ph' Q) : PW l g (d + 1) mi pc lv (As.reverse ++ .ref a :: st) ph Q := by
  subst hp
  intro p e R s m args below meth c H locs cells slots ls B1 B2 hC hR hS hl h1 h2 h3 h4 h5 h6
  intro T hT X
  obtain ⟨hm, hrtn, hname, hinst, hlink⟩ := pg_ivi_ok hcd hj
  have hK := px_back (e := e) (below := below) hC hm (Nat.le_of_ble_eq_true hlen) hen h hno
  have hC' := hC
  obtain ⟨hx, hb, hml, hrt, hown, hts, hlk, hnm, hK0, hbs, hZ, hd1, hd2, hWs, hB⟩ := hC
  obtain ⟨hcode, hini, hplain, hml45, hmh, hnp⟩ := hm
  rw [hrtn] at hcode
  have hpre := px_pre (As := .ref a :: As) hC' hT hR hS h1 h2 h3 h4 h5 h6
  have hsz : (F0 m pc ls ((As.reverse ++ .ref a :: st).map (px_v g))).locals.size = c.maxLocals := by rw [hml]; exact hl.1
  have hstk : (F0 m pc ls ((As.reverse ++ .ref a :: st).map (px_v g))).stack = (As.map (px_v g)).reverse ++ .ref (px_b g + a) :: st.map (px_v g) := by show (As.reverse ++ .ref a :: st).map (px_v g) = _; rw [List.map_append, List.map_reverse]; rfl
  have hln : ∀ sig, parseMethodDescriptor (pg_mn mj).desc = some sig → (As.map (px_v g)).length = sig.parameters.length := by
    intro sig hs
    rw [hs] at hnp
    rw [List.length_map, hn]
    exact (Option.some.inj hnp).symm
  rcases hlink with hlink | ⟨host, hlink⟩
  · obtain ⟨v, vm₁, B, hW₁, X', hpost, stp⟩ := callI X hx (bytes := pg_by mj) (maxL := pg_ml mj) hown hname (hts _ hlink) (hts _ hinst) (hts _ hcode) hmh hK (g := F0 m pc ls ((As.reverse ++ .ref a :: st).map (px_v g))) rfl hsz (a := px_b g + a) (argsL := As.map (px_v g)) (rest := st.map (px_v g)) hln hstk (px_rest (Nat.le_of_ble_eq_true hrs) m pc ls _) (by rw [hb]; exact pg_dec hcd) hpre
    exact px_after hC' hT hS hl h1 h2 h5 h6 X' hpost kk stp
  · obtain ⟨v, vm₁, B, hW₁, X', hpost, stp⟩ := va_callIN X hx (bytes := pg_by mj) (maxL := pg_ml mj) hown hname (va_Nw.use (by rfl) (hWs.1 _ hlink)) (hts _ hinst) (hts _ hcode) hmh hK (g := F0 m pc ls ((As.reverse ++ .ref a :: st).map (px_v g))) rfl hsz (a := px_b g + a) (argsL := As.map (px_v g)) (rest := st.map (px_v g)) hln hstk (px_rest (Nat.le_of_ble_eq_true hrs) m pc ls _) (by rw [hb]; exact pg_dec hcd) hpre
    exact px_after hC' hT hS hl h1 h2 h5 h6 X' hpost kk stp
/-- Object's own constructor -/
theorem px_obj {idx a : Nat} (hcd : pg_cd mi pc = some (.invokespecial idx, nx, 9006, r2)) (hlink : Cond.methodLink (pg_mn mi).cls idx objectInit ∈ pg_Ts) (hinst : Cond.instanceMethod objectInit ∈ pg_Ts) (hcode : Cond.code objectInit ⟨#[0xb1]⟩ 1 none ∈ pg_Ts) (hrs : Nat.ble (st.map fun v => v.category).sum 8 = true) (hp : pc + 3 = nx) (kk : PW l g (d + 1) mi nx lv st ph Q) : PW l g (d + 1) mi pc lv (.ref a :: st) ph Q := by
  subst hp
  intro p e R s m args below meth c H locs cells slots ls B1 B2 hC hR hS hl h1 h2 h3 h4 h5 h6
  have k1 := kk p e R s m args below meth c H locs cells slots ls B1 B2 hC hR hS hl h1 h2 h3 h4 h5 h6
  obtain ⟨hx, hb, hml, hrt, hown, hts, hlk, hnm, hK0, hbs, hZ, hd1, hd2, hWs, hB⟩ := hC
  have h8 := px_rest (g := g) (Nat.le_of_ble_eq_true hrs) m pc ls ((.ref a :: st).map (px_v g))
  exact W.objInit hx hb hown (hts _ hlink) (hts _ hinst) (hts _ hcode) rfl (by rw [hml]; exact hl.1) rfl (pg_dec hcd) (by omega) (by omega) k1
end PXC
