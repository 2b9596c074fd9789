/-! a throw whose message is loaded by ldc_w -/
section PXTW
variable {p : Program} {l : Launch} {e : Env} {R : Room} {s : State} {m : MethodId} {args : Array Value} {below : List Frame} {meth : Method} {c : Code} {H : Heap} {locs : List Loc} {cells slots : Nat} {Q : State → Prop}
variable {cc : ByteArray} {pc : Nat} {ls : Array Slot} {rest : List Value}
theorem va_ldcSW (hexec : p.tables.exec = Jvm.exec) (hb : c.code = cc) {own tx : String} {index q : Nat} (hown : s.vm.findClass own = some m.cls) (hZ : vk_R own index tx q s) (hdg : decode cc pc = .ok (.ldc_w index, 3))
    (k : W p l e R s m args below meth c H locs cells slots Q (F0 m (pc + 3) ls (.ref q :: rest))) : W p l e R s m args below meth c H locs cells slots Q (F0 m pc ls rest) := by
  intro T hT X
  obtain ⟨t, a1, b1⟩ := k T hT X
  exact ⟨t, X.ldcStringW hexec hown (text := tx) (a := q) hZ.1 hZ.2 (g := F0 m pc ls rest) rfl (by rw [hb]; exact hdg) t a1, b1⟩
end PXTW
section PXTH2
variable {l : Launch} {g : px_G} {d mi pc : Nat} {lv : px_L} {st : List Value} {ph : px_H} {Q : px_Q} {nx r1 r2 : Nat}
set_option maxHeartbeats 1000000 in
/-- an exception is made and thrown: new, dup, ldc_w, invokespecial, athrow -/
theorem px_throwW {i0 i2 i3 ci r3 sp z1 z2 z3 z4 z5 z6 z7 : Nat} {q : String × Nat × String} {E : String} {T9 : u_T} (hfl : l.flags = flags0)
    (c0 : pg_cd mi pc = some (.new i0, pc + 3, ci, z1)) (c1 : pg_cd mi (pc + 3) = some (.dup, pc + 4, z2, z3)) (c2 : pg_cd mi (pc + 4) = some (.ldc_w i2, pc + 7, r3, z4)) (c3 : pg_cd mi (pc + 7) = some (.invokespecial i3, pc + 10, sp, z5)) (c4 : pg_cd mi (pc + 10) = some (.athrow, pc + 11, z6, z7))
    (hci : pg_cl[ci]? = some (E, T9, 0)) (hin : pg_in ci = 6) (hk : pg_ksl[r3]? = some q) (hq1 : q.1 = (pg_mn mi).cls) (hq2 : q.2.1 = i2) (how : (pg_mn mi).cls = "LinkHouse") (hxt : pg_xt mi = []) (hall : (pr_at i3 E).all pr_ok = true) (hfit : Bundle.fit E = true)
    (hm : ph.length < pg_MC) (hs : px_sum ph + 6 ≤ pg_MS) (hrs : Nat.ble (st.map fun v => v.category).sum 8 = true)
    (hq : Q (.inr ph.length) (ph ++ [.inr (ci, [])])) : PW l g (d + 6) mi pc lv st ph Q := by
  intro p e R s m args below meth c H locs cells slots ls B1 B2 hC hR hS hl h1 h2 h3 h4 h5 h6
  obtain ⟨hx, hb, hml, hrt, hown, hts, hlk, hnm, hK, hbs, hZ, hd1, hd2, hWs, hB, hX⟩ := hC
  obtain ⟨hcl, hinst, hini⟩ := pg_new c0 hci
  have hKn := hK.1 ci _ hci
  have hsq := vk_R.warm hB.1 (hB.2.2.1.2.1 r3 q hk)
  rw [hq1, hq2] at hsq
  have hrs' := px_rest (g := g) (Nat.le_of_ble_eq_true hrs) m (pc + 7) ls []
  refine W.newcK hx hb hown (hts _ hcl) (hts _ hinst) (hts _ hini) rfl (pg_dec c0) (by omega) (by rw [hin]; omega) hKn.2.1 hR.1 fun H1 kC hkC e1 z1 o1 => ?_
  refine lv_dup hx hb (pg_dec (len := 1) c1) rfl ?_
  refine va_ldcSW hx hb hown hsq (pg_dec (len := 3) c2) ?_
  intro T hT X
  have hrx : ∃ ix rx, decode rx 0 = .ok (.aload_n 0, 1) ∧ decode rx 1 = .ok (.aload_n 1, 1) ∧ decode rx 2 = .ok (.invokespecial ix, 3) ∧ decode rx 5 = .ok (.return_, 1) ∧ pr_at i3 E = pt_own "LinkHouse" i3 E ix rx "java/lang/RuntimeException" ["java/lang/Exception"] := by
    by_cases hE : E = "java/util/NoSuchElementException"
    · exact ⟨13, ⟨#[0x2a, 0x2b, 0xb7, 0x00, 0x0d, 0xb1]⟩, by decide +kernel, by decide +kernel, by decide +kernel, by decide +kernel, by unfold pr_at; rw [if_pos hE, if_pos hE]⟩
    · exact ⟨7, Bundle.six, Bundle.six_0, Bundle.six_1, Bundle.six_2, Bundle.six_5, by unfold pr_at; rw [if_neg hE, if_neg hE]⟩
  obtain ⟨ix, rx, x0, x1, x2, x5, hpr⟩ := hrx
  have hxt2 : c.exceptionTable.toList = [] := by
    have h7 : _ = pg_xt mi := hX
    rw [hxt] at h7
    exact List.map_eq_nil_iff.mp h7
  have hat := pr_all hB hall args
  rw [hpr] at hat
  obtain ⟨U, ce, L, a1, a2, a3, a4, a5, a6, a7, a8, a9⟩ := px_thrown (own := "LinkHouse") (cls := E) (ic := i3) (a := px_b g + ph.length) (kX := kC) (msg := .ref (px_sa g (pg_nc + r3))) (rest := st.map (px_v g)) (g := F0 m (pc + 3 + 1 + 3) ls (.ref (px_sa g (pg_nc + r3)) :: .ref (px_b g + ph.length) :: .ref (px_b g + ph.length) :: st.map (px_v g)))
    X hx (Launch.traces_off hfl X.admits) x0 x1 x2 x5 (by rw [← how]; exact hown) hfit (by decide) (by decide) hat
    (fun x hx' cell hc => by
      have h7 : px_A g x.base := hS.2.2 x hx'
      exact hB.2.2.2 _ cell h7 hc)
    hKn.2.1 hkC (by rw [hT]; exact e1) (by
      have h7 := hS.1
      rw [hR.1] at h7
      exact h7) rfl rfl (by rw [hml]; exact hl.1) rfl rfl rfl (by rw [hb]; exact pg_dec (len := 3) c3) (by rw [hb]; exact pg_dec (len := 1) c4) (by rw [hxt2]; intro x hx; cases hx) (by show 1 + 4 < R.frames; omega) (by
      have h9 : ((Value.ref (px_b g + ph.length) :: st.map (px_v g)).map fun v => v.category).sum = 1 + ((st.map (px_v g)).map fun v => v.category).sum := by
        rw [List.map_cons, List.sum_cons]; rfl
      rw [h9]
      have h10 : 2 * (F0 m (pc + 7) ls []).monitorRoom = 2 * (F0 m (pc + 3 + 1 + 3) ls (.ref (px_sa g (pg_nc + r3)) :: .ref (px_b g + ph.length) :: .ref (px_b g + ph.length) :: st.map (px_v g))).monitorRoom := rfl
      rw [← h10]
      show _ + (13 * (1 + 2) + 42) ≤ R.locals
      omega) hlk
  have hU : U.heap = H1.setIfInBounds (px_b g + ph.length) ce := by rw [a7, hT]
  have hzU : U.heap.size = H.size + 1 := by rw [hU, Array.size_setIfInBounds, z1, hR.1]
  have hoU : ∀ q : Nat, q < H.size → U.heap[q]? = H[q]? := by
    intro q hq
    rw [hU, Array.getElem?_setIfInBounds_ne (by rw [hR.1] at hq; omega)]
    exact o1 q (by rw [← hR.1]; exact hq)
  refine ⟨U, a1, .threw (px_b g + ph.length), a2, a3, ph ++ [.inr (ci, [])], locs ++ L, cells + 1, slots + pg_in ci, a4, a5, ?_, ?_, ?_, ?_, ?_, ?_, ?_, Or.inr ⟨ph.length, rfl, hq⟩⟩
  · intro x hx'
    rcases List.mem_append.mp hx' with hx' | hx'
    · exact hS.2.2 x hx'
    · rw [a6 x hx']; exact px_A_in g _
  · simp; omega
  · rw [px_sum_push]; show _ = _ + pg_in ci; omega
  · simp; omega
  · rw [px_sum_push]; show _ + pg_in ci ≤ _; omega
  · refine hR.push hzU hoU ⟨_, hci, ce, ?_, ?_, a9, fun k hk => absurd hk (Nat.not_lt_zero k)⟩
    · show U.heap[px_b g + ph.length]? = _
      rw [hU, Array.getElem?_setIfInBounds_self_of_lt (by rw [z1]; omega)]
    · rw [a8]
  · refine ⟨Nat.le_trans hS.1 (by rw [hzU]; omega), fun q hq1 hq2 => ?_⟩
    rw [hoU q (Nat.lt_of_lt_of_le hq1 hS.1)]
    exact hS.2.1 q hq1 hq2
/-- the three exceptions, thrown -/
theorem px_tIAE {i0 i2 r3 sp z1 z2 z3 z4 z5 z6 z7 : Nat} {q : String × Nat × String} (hfl : l.flags = flags0) (c0 : pg_cd mi pc = some (.new i0, pc + 3, 13, z1)) (c1 : pg_cd mi (pc + 3) = some (.dup, pc + 4, z2, z3)) (c2 : pg_cd mi (pc + 4) = some (.ldc i2, pc + 6, r3, z4)) (c3 : pg_cd mi (pc + 6) = some (.invokespecial 117, pc + 9, sp, z5)) (c4 : pg_cd mi (pc + 9) = some (.athrow, pc + 10, z6, z7)) (hk : pg_ksl[r3]? = some q) (hq1 : q.1 = (pg_mn mi).cls) (hq2 : q.2.1 = i2) (how : (pg_mn mi).cls = "LinkHouse") (hxt : pg_xt mi = []) (hm : ph.length < pg_MC) (hs : px_sum ph + 6 ≤ pg_MS) (hrs : Nat.ble (st.map fun v => v.category).sum 8 = true) (hq : Q (.inr ph.length) (ph ++ [.inr (13, [])])) : PW l g (d + 6) mi pc lv st ph Q :=
  px_throw hfl c0 c1 c2 c3 c4 (pg_clb (by decide)) rfl hk hq1 hq2 how hxt pr_iae (by decide) hm hs hrs hq
theorem px_tISE {i0 i2 r3 sp z1 z2 z3 z4 z5 z6 z7 : Nat} {q : String × Nat × String} (hfl : l.flags = flags0) (c0 : pg_cd mi pc = some (.new i0, pc + 3, 14, z1)) (c1 : pg_cd mi (pc + 3) = some (.dup, pc + 4, z2, z3)) (c2 : pg_cd mi (pc + 4) = some (.ldc i2, pc + 6, r3, z4)) (c3 : pg_cd mi (pc + 6) = some (.invokespecial 128, pc + 9, sp, z5)) (c4 : pg_cd mi (pc + 9) = some (.athrow, pc + 10, z6, z7)) (hk : pg_ksl[r3]? = some q) (hq1 : q.1 = (pg_mn mi).cls) (hq2 : q.2.1 = i2) (how : (pg_mn mi).cls = "LinkHouse") (hxt : pg_xt mi = []) (hm : ph.length < pg_MC) (hs : px_sum ph + 6 ≤ pg_MS) (hrs : Nat.ble (st.map fun v => v.category).sum 8 = true) (hq : Q (.inr ph.length) (ph ++ [.inr (14, [])])) : PW l g (d + 6) mi pc lv st ph Q :=
  px_throw hfl c0 c1 c2 c3 c4 (pg_clb (by decide)) rfl hk hq1 hq2 how hxt pr_ise (by decide) hm hs hrs hq
theorem px_tNSE {i0 i2 r3 sp z1 z2 z3 z4 z5 z6 z7 : Nat} {q : String × Nat × String} (hfl : l.flags = flags0) (c0 : pg_cd mi pc = some (.new i0, pc + 3, 15, z1)) (c1 : pg_cd mi (pc + 3) = some (.dup, pc + 4, z2, z3)) (c2 : pg_cd mi (pc + 4) = some (.ldc i2, pc + 6, r3, z4)) (c3 : pg_cd mi (pc + 6) = some (.invokespecial 236, pc + 9, sp, z5)) (c4 : pg_cd mi (pc + 9) = some (.athrow, pc + 10, z6, z7)) (hk : pg_ksl[r3]? = some q) (hq1 : q.1 = (pg_mn mi).cls) (hq2 : q.2.1 = i2) (how : (pg_mn mi).cls = "LinkHouse") (hxt : pg_xt mi = []) (hm : ph.length < pg_MC) (hs : px_sum ph + 6 ≤ pg_MS) (hrs : Nat.ble (st.map fun v => v.category).sum 8 = true) (hq : Q (.inr ph.length) (ph ++ [.inr (15, [])])) : PW l g (d + 6) mi pc lv st ph Q :=
  px_throw hfl c0 c1 c2 c3 c4 (pg_clb (by decide)) rfl hk hq1 hq2 how hxt pr_nse (by decide) hm hs hrs hq
theorem px_tNSEw {i0 i2 r3 sp z1 z2 z3 z4 z5 z6 z7 : Nat} {q : String × Nat × String} (hfl : l.flags = flags0) (c0 : pg_cd mi pc = some (.new i0, pc + 3, 15, z1)) (c1 : pg_cd mi (pc + 3) = some (.dup, pc + 4, z2, z3)) (c2 : pg_cd mi (pc + 4) = some (.ldc_w i2, pc + 7, r3, z4)) (c3 : pg_cd mi (pc + 7) = some (.invokespecial 236, pc + 10, sp, z5)) (c4 : pg_cd mi (pc + 10) = some (.athrow, pc + 11, z6, z7)) (hk : pg_ksl[r3]? = some q) (hq1 : q.1 = (pg_mn mi).cls) (hq2 : q.2.1 = i2) (how : (pg_mn mi).cls = "LinkHouse") (hxt : pg_xt mi = []) (hm : ph.length < pg_MC) (hs : px_sum ph + 6 ≤ pg_MS) (hrs : Nat.ble (st.map fun v => v.category).sum 8 = true) (hq : Q (.inr ph.length) (ph ++ [.inr (15, [])])) : PW l g (d + 6) mi pc lv st ph Q :=
  px_throwW hfl c0 c1 c2 c3 c4 (pg_clb (by decide)) rfl hk hq1 hq2 how hxt pr_nse (by decide) hm hs hrs hq
theorem px_tIAEw {i0 i2 r3 sp z1 z2 z3 z4 z5 z6 z7 : Nat} {q : String × Nat × String} (hfl : l.flags = flags0) (c0 : pg_cd mi pc = some (.new i0, pc + 3, 13, z1)) (c1 : pg_cd mi (pc + 3) = some (.dup, pc + 4, z2, z3)) (c2 : pg_cd mi (pc + 4) = some (.ldc_w i2, pc + 7, r3, z4)) (c3 : pg_cd mi (pc + 7) = some (.invokespecial 117, pc + 10, sp, z5)) (c4 : pg_cd mi (pc + 10) = some (.athrow, pc + 11, z6, z7)) (hk : pg_ksl[r3]? = some q) (hq1 : q.1 = (pg_mn mi).cls) (hq2 : q.2.1 = i2) (how : (pg_mn mi).cls = "LinkHouse") (hxt : pg_xt mi = []) (hm : ph.length < pg_MC) (hs : px_sum ph + 6 ≤ pg_MS) (hrs : Nat.ble (st.map fun v => v.category).sum 8 = true) (hq : Q (.inr ph.length) (ph ++ [.inr (13, [])])) : PW l g (d + 6) mi pc lv st ph Q :=
  px_throwW hfl c0 c1 c2 c3 c4 (pg_clb (by decide)) rfl hk hq1 hq2 how hxt pr_iae (by decide) hm hs hrs hq
/-- more depth does no harm -/
theorem PW.mono {d' : Nat} (h : PW l g d mi pc lv st ph Q) (hd : d ≤ d') : PW l g d' mi pc lv st ph Q := by
  intro p e R s m args below meth c H locs cells slots ls B1 B2 hC
  obtain ⟨hx, hb, hml, hrt, hown, hts, hlk, hnm, hK, hbs, hZ, hd1, hd2, hWs, hB, hX⟩ := hC
  exact h p e R s m args below meth c H locs cells slots ls B1 B2 ⟨hx, hb, hml, hrt, hown, hts, hlk, hnm, hK, hbs, hZ, Nat.le_trans hd hd1, Nat.le_trans (Nat.mul_le_mul_left _ hd) hd2, hWs, hB, hX⟩
/-- what follows from an end -/
theorem PW.post {Q' : px_Q} (h : PW l g d mi pc lv st ph Q) (hq : ∀ r ph', Q r ph' → Q' r ph') : PW l g d mi pc lv st ph Q' := by
  intro p e R s m args below meth c H locs cells slots ls B1 B2 hC hR hS hl h1 h2 h3 h4 h5 h6 T hT X
  obtain ⟨t, a1, o, b1, b2, ph', L, k, n, c1, c2, c3, c4, c5, c6, c7, c8, c9, c10⟩ := h p e R s m args below meth c H locs cells slots ls B1 B2 hC hR hS hl h1 h2 h3 h4 h5 h6 T hT X
  refine ⟨t, a1, o, b1, b2, ph', L, k, n, c1, c2, c3, c4, c5, c6, c7, c8, c9, ?_⟩
  rcases c10 with ⟨r, q1, q2⟩ | ⟨x, q1, q2⟩
  · exact Or.inl ⟨r, q1, hq _ _ q2⟩
  · exact Or.inr ⟨x, q1, hq _ _ q2⟩
/-- a run of the function, as a contract -/
theorem px_ev {n k mj : Nat} {As : List Value} {z z' : px_Sz} {r : Option Value ⊕ Nat} {lv0 : px_L} (hfl : l.flags = flags0) (hgk : px_gk g) (h : px_ex n k mj (pg_ml mj) (pg_L mj) (px_en As (pg_ml mj)) [] z = some (r, z')) (hR : px_Rz z ph) (hd : k ≤ d) (hen : px_en As (pg_ml mj) = lv0) : PW l g d mj 0 lv0 [] ph (fun o ph' => o = r ∧ px_Rz z' ph') := by
  obtain ⟨q, c, hq⟩ := px_pos h
  have h1 := px_sound (l := l) (g := g) hfl hgk n k mj _ _ _ _ z r z' h rfl ⟨[], rfl⟩ ph hR q c hq
  rw [pg_zero hq, hen] at h1
  exact h1.mono hd
end PXTH2
