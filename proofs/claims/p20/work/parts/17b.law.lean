/-! calls of the law's methods with handlers -/
theorem px_metW {l : Launch} {g : px_G} {d mj : Nat} {As : List Value} {ph : px_H} {Q : px_Q} (hm : px_MW mj) (hlen : (lg_sl As).length ≤ pg_ml mj) {lv0 : px_L} (hen : px_en As (pg_ml mj) = lv0) (h : PW l g d mj 0 lv0 [] ph Q) :
    MetFree l (pg_mn mj) (headSpec pg_Ts (px_rm d ph)) (px_P g As ph) (fun _ _ _ _ _ => True) (fun _ st o t => px_O g ph.length (px_sum ph) Q st o t) := by
  obtain ⟨hcode, hini, hstat, hplain, hml45, hmh, hnp⟩ := hm
  refine MetFree.of_bodyS (code := pg_by mj) (maxLocals := pg_ml mj) (ret := pg_rt mj) hplain ?_ ?_
  · intro args s m hp hn
    obtain ⟨m9, meth, c, hn9, h1, h2, h3, h4, -, h5, h6, -⟩ := Cond.codeWith_spec (atoms_spec (ws := pg_Ts) hp _ hcode)
    cases hn.symm.trans hn9
    exact ⟨meth, c, h1, h2, h3, h4, h5, h6⟩
  · intro p e s m args below meth c s₁ B hml hP _
    obtain ⟨hargs, hR, hK, hZ, hbs, h3, h4, hWs, hB⟩ := hP
    have hh0 : s₁.heap = s.heap := by rw [B.state]; rfl
    have hX : px_X mj c := by
      obtain ⟨m9, meth2, c2, hn9, k1, k2, -, -, k3, -, -, -⟩ := Cond.codeWith_spec (atoms_spec (ws := pg_Ts) B.pre _ hcode)
      cases B.named.symm.trans hn9
      cases B.method.symm.trans k1
      have k4 := B.here.code
      rw [State.code?_eq] at k4
      have k6 : s₁.vm.method? m = some meth := by rw [B.state]; exact B.method
      rw [k6] at k4
      replace k4 : meth.code = some c := by simpa using k4
      cases k4.symm.trans k2
      exact k3
    have hC : px_C g d mj p (px_rm d ph) s m args meth c := ⟨B.exec, B.bytes, hml, B.returns, findClass_of_methodNamed B.named, atoms_spec (ws := pg_Ts) B.pre, B.notSynchronized, (name_of_methodNamed B.named B.method).1, hK, hbs, hZ, Nat.le_refl _, Nat.le_refl _, hWs, hB, hX⟩
    subst hen
    have hl0 := lv_entry (As.map (px_v g)) (n := pg_ml mj) (by rw [px_sl]; exact hlen)
    have hl : lv_has _ (pg_ml mj) (px_l g (px_en As (pg_ml mj))) := ⟨hl0.1, hl0.2.1, fun q hq => hl0.2.2 q (px_en_mem g As (pg_ml mj) 0 q hq)⟩
    have w := h p e (px_rm d ph) s m args below meth c s.heap [] 0 0 _ ph.length (px_sum ph) hC hR va_S.rf hl (Nat.zero_add _) (Nat.zero_add _) h3 h4 (by show pg_MC ≤ (pg_MC - ph.length) + ph.length; omega) (by show pg_MS ≤ (pg_MS - px_sum ph) + px_sum ph; omega)
    obtain ⟨t, a1, o, b1, b2, b3⟩ := w s₁ hh0 (Stand.of_body B)
    refine ⟨t, o, ?_, b1, b2, b3⟩
    rw [hargs, lg_entry_eq]
    exact a1
section PXSW
variable {l : Launch} {g : px_G} {d mi pc : Nat} {lv : px_L} {st : List Value} {ph : px_H} {Q Q1 : px_Q} {len nx r1 r2 : Nat}
set_option maxHeartbeats 1000000 in
theorem px_callSW {idx mj : Nat} {As : List Value} (hcd : pg_cd mi pc = some (.invokestatic idx, nx, mj, r2)) (hm : px_MW mj) (hmk : (pg_mk (pg_oc mi)).any (fun z => z.1 == idx && z.2.1 == mj) = true) (hn : As.length = pg_np mj) (hlen : Nat.ble (lg_sl As).length (pg_ml mj) = true) (hrs : Nat.ble (st.map fun v => v.category).sum 8 = true)
    {lv0 : px_L} (hen : px_en As (pg_ml mj) = lv0) (h : PW l g d mj 0 lv0 [] ph Q1) (hno : ∀ x ph', ¬ Q1 (.inr x) ph') (hp : pc + 3 = nx) (kk : ∀ r ph', Q1 (.inl r) ph' → PW l g (d + 1) mi nx lv (r.toList ++ st) ph' Q) : PW l g (d + 1) mi pc lv (As.reverse ++ st) ph Q := by
  subst hp
  intro p e R s m args below meth c H locs cells slots ls B1 B2 hC hR hS hl h1 h2 h3 h4 h5 h6
  intro T hT X
  have hlink : Cond.methodLink (pg_mn mi).cls idx (pg_mn mj) ∈ pg_Ts := by
    obtain ⟨z, hz, hq⟩ := List.any_eq_true.mp hmk
    simp only [Bool.and_eq_true, beq_iff_eq] at hq
    obtain ⟨rfl, rfl⟩ := hq
    have h7 := pg_cmk_ok (pg_oc mi) (pg_ocl3 pg_mkL 21 _ (by decide) hz) z hz
    rw [pg_own mi (pg_lt hcd)]
    exact pg_okw_in h7
  have hC' := hC
  have hM := px_metW hm (Nat.le_of_ble_eq_true hlen) hen h
  obtain ⟨hx, hb, hml, hrt, hown, hts, hlk, hnm, hK0, hbs, hZ, hd1, hd2, hWs, hB, hX⟩ := hC
  obtain ⟨hcode, hini, hstat, hplain, hml45, hmh, hnp⟩ := hm
  have hpre := px_pre (As := As) hC' hT hR hS h1 h2 h3 h4 h5 h6
  have hstk : (F0 m pc ls ((As.reverse ++ st).map (px_v g))).stack = (As.map (px_v g)).reverse ++ st.map (px_v g) := by show (As.reverse ++ st).map (px_v g) = _; rw [List.map_append, List.map_reverse]
  have hln : ∀ sig, parseMethodDescriptor (pg_mn mj).desc = some sig → (As.map (px_v g)).length = sig.parameters.length := by
    intro sig hs
    rw [hs] at hnp
    rw [List.length_map, hn]
    exact (Option.some.inj hnp).symm
  obtain ⟨mk, methM, cM, hnamed, hmethM, hcM, -, hlM, -, -, -, hsigM⟩ := Cond.codeWith_spec (hts _ hcode)
  have hstatic : methM.isStatic = true := Cond.static_spec hnamed hmethM (hts _ hstat)
  obtain ⟨kP, hkP, -⟩ := className_of_methodNamed hnamed
  have hinitP : kP.init = .initialized := Cond.initialized_spec (findClass_of_methodNamed hnamed) hkP (hts _ hini)
  obtain ⟨vm₁, X₁, hstep₁⟩ := X.invokestatic hx hown (hts _ hlink) hnamed hmethM hstatic hkP hinitP hmh (g := F0 m pc ls ((As.reverse ++ st).map (px_v g))) rfl (argsL := As.map (px_v g)) (rest := st.map (px_v g)) (hln _ hsigM) hstk (by rw [hb]; exact pg_dec hcd)
  obtain ⟨ph', U₂, L, k, n, X', hR', hL, hk, hn2, c3, c4, hz2, ho2, hout⟩ := px_both0 hC' hM hini hml45 X₁ (gf := F0 m pc ls (st.map (px_v g))) (ig := .invokestatic idx) (a := (As.map (px_v g)).toArray) rfl (by rw [hml]; exact hl.1) (by rw [hb]; exact pg_dec hcd) (px_rest (Nat.le_of_ble_eq_true hrs) m pc ls _) (X₁.named hnamed) (by rw [X₁.warmed.alike.method?]; exact hmethM) hcM hlM (hpre vm₁ X₁.warmed)
  have hS' : va_S (px_A g) s.heap U₂.heap (locs ++ L) := by
    refine ⟨Nat.le_trans hS.1 (by rw [← hT]; exact hz2), fun q g1 g2 => ?_, fun q hq => ?_⟩
    · rw [ho2 q (by show q < T.heap.size; rw [hT]; exact Nat.lt_of_lt_of_le g1 hS.1) g2]
      show T.heap[q]? = _
      rw [hT]
      exact hS.2.1 q g1 g2
    · rcases List.mem_append.mp hq with hq | hq
      · exact hS.2.2 q hq
      · exact hL q hq
  rcases hout with ⟨r, hq, hsteps⟩ | ⟨x, hq, hsteps⟩
  · obtain ⟨t2, a1, b1⟩ := kk r ph' hq p e R s m args below meth c U₂.heap (locs ++ L) (cells + k) (slots + n) ls B1 B2 hC' hR' hS' hl (by omega) (by omega) c3 c4 h5 h6 U₂ rfl X'
    refine ⟨t2, hstep₁ t2 fun acts => ?_, b1⟩
    rw [doInvoke_state]
    refine hsteps.trans ?_
    have e1 : (r.map (px_v g)).toList ++ st.map (px_v g) = (r.toList ++ st).map (px_v g) := by cases r <;> rfl
    show Steps p.tables e below (U₂.setTop (F0 m (pc + 3) ls ((r.map (px_v g)).toList ++ st.map (px_v g)))) t2
    rw [e1]
    exact a1
  · exact absurd hq (hno x ph')
end PXSW
