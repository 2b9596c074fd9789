/-! cause: class and reference answer alike (steps spelled out by sf/pp.py) -/
section RCA
variable {F m : Nat} {h : px_H} {σ : px_S} {fs : px_FS} {a : Int32} {Y : px_Y}
theorem q_cause {a1 a2 : Int32} (hm : m ≤ h.length) (hF : 20 < F) (hr : RF σ fs) (hX : RXo σ fs a Y) (ho : OUo σ) : (∀ q o n b z, MBR fs a1 a2 q o n b z → (Y.2.1 q = none → f_M_cause F m a1 a2 (mh m h σ) = some (nI 0, mh m h (sI σ 0 (nI 0)))) ∧ ∀ w, Y.1.1 q = true → Y.2.1 q = some w → ∃ σ', f_M_cause F m a1 a2 (mh m h σ) = some (nI w.length, mh m h σ') ∧ gI σ' 0 = nI 0 ∧ CI σ σ') ∧ ((∀ q o n b z, ¬ MBR fs a1 a2 q o n b z) → f_M_cause F m a1 a2 (mh m h σ) = some (nI 0, mh m h (sI σ 0 (nI 1)))) := by
  have h8 := hr.2.1
  have th1 : f_M_throwing F m (nI 1) (nI 0) (mh m h σ) = some (nI 1, mh m h (sI σ 0 (nI 1))) := q_throwing hm true false
  have th0 : f_M_throwing F m (nI 0) (nI 0) (mh m h σ) = some (nI 0, mh m h (sI σ 0 (nI 0))) := q_throwing hm false false
  have bad : f_M_cause_43 F m a1 a2 m (mh m h σ) = some (nI 0, mh m h (sI σ 0 (nI 1))) := by
    unfold f_M_cause_43 f_M_cause_48
    rw [e_o hm, bs, th1, xb_mk, if_neg (by decide)]
  rcases MBR_c (a1 := a1) (a2 := a2) hr with ⟨hc, hM⟩ | ⟨i, k, l, ⟨c1, c2, c3⟩, hi, e1, e2, hk, y1, hl8, hw⟩
  · refine ⟨fun q o n b z w => absurd w (hM q o n b z), fun _ => ?_⟩
    unfold f_M_cause
    rcases hc with c1 | ⟨c1, c2⟩ | ⟨c1, c2, c3⟩
    · rw [if_pos c1, bad]
    · rw [if_neg c1, Mg5 hm, bs, hr.1, if_pos c2, bad]
    · rw [if_neg c1, Mg5 hm, bs, hr.1, if_neg c2, if_pos c3, bad]
  · have head : f_M_cause F m a1 a2 (mh m h σ) = if a2 < nI l then f_M_cause_48 F m a1 a2 m (nI 0) (mh m h σ) else f_M_cause_43 F m a1 a2 m (mh m h σ) := by
      have a8 : xaI (mh m h σ) 1 (m + 5) a1 = some (gA σ 8 i) := by rw [e1]; exact Ma8 hm (by omega)
      unfold f_M_cause f_M_cause_39
      rw [if_neg c1, Mg5 hm, bs, hr.1, if_neg c2, if_neg c3, Mr8 hm, bs, if_neg c1, bs, if_pos (Int32.not_le.mp c2), a8, bs, y1]
    rcases hw with ⟨hkl, o0, n0, b0, z0, hM0⟩ | ⟨hkl, hM⟩
    · refine ⟨fun q o n b z hM => ?_, fun w => absurd hM0 (w _ _ _ _ _)⟩
      have eq := MBR_q h8 hM e1 e2 (by omega) hk
      subst eq
      obtain ⟨⟨_, nms, hn, hx⟩, _⟩ := hX
      obtain ⟨x, y, x1, x2, x3, x4⟩ := hx (8 * i + k) (by omega)
      have hq : 8 * i + k < 64 := by omega
      rw [show (8 * i + k) / 8 = i by omega] at x1
      rw [head, if_pos (by rw [e2]; exact nI_lt hkl (by omega))]
      unfold f_M_cause_48 f_M_cause_91
      rw [e_o hm, bs, th0, xb_mk, if_pos (show (nI 0 : Int32) = 0 from rfl), Mr19 hm, bs, e1, e2, Ma19 hm (by omega), bs, gA_sI, x1, ix8, Mr18 hm, bs, Ma18 hm hq, bs, gA_sI, x2, Mr40 hm, bs, Ma40 hm hq, bs, gA_sI]
      by_cases ct : Y.1.1 (8 * i + k) = true
      · rw [ct] at x3
        rw [Bool.and_eq_true] at x3
        obtain ⟨rfl, rfl⟩ := x3
        rw [if_neg (show ¬ bI true = 0 by decide), if_neg (show ¬ bI true = 0 by decide)]
        rcases x4 ct with ⟨y1', y2'⟩ | ⟨j, w, y1', y2', y3'⟩
        · rw [y2', if_neg (by decide)]
          exact ⟨fun _ => rfl, fun w _ e => by rw [y1'] at e; cases e⟩
        · obtain ⟨z1, z2, z3⟩ := hn.2.2 j w y2'
          have hj : j < nms.length := (List.getElem?_eq_some_iff.mp y2').1
          have hl := hn.2.1
          refine ⟨fun e => (by rw [y1'] at e; cases e), fun w' _ e => ?_⟩
          have ew : w = w' := Option.some.inj (y1'.symm.trans e)
          subst ew
          obtain ⟨σ', e, g1, g2, g3, g4, g5⟩ := q_say (F := F) (h := h) (σ := sI σ 0 (nI 0)) (pa := m + 13) (ks := 21) (M := 81920) (p := 20 * j) (w := w) hm hF (fun σ i hi => Ma21 hm hi) (by decide) z1 (fun t y hy => z3 t y hy) (by have := z1.1; omega) ho.2
          refine ⟨σ', ?_, (g2 0 (by decide)).trans (by rw [gI_sI, if_pos rfl]), ⟨fun k hk => ?_, fun k _ => g3 k, fun k hk => ?_, fun k _ => g5 k⟩, ⟨_, g1.2.1, g1.1⟩, g1.2.2.1⟩
          · rw [y3', if_pos (nI_0le (by omega)), Mr21 hm, bs, bs, Ma40 hm hq, bs, gA_sI, y3', Mr22 hm, bs, bs, Ma40 hm hq, bs, gA_sI, y3', Ma22 hm (by omega), bs, gA_sI, z2, show nI 20 * nI j = nI (20 * j) from (Int32.ofNat_mul 20 j).symm, e_o hm, bs, e, xb_mk, Mg4 hm, bs, g1.1]
          · simp only [List.mem_cons, List.not_mem_nil, or_false, not_or] at hk
            rw [g2 k hk.2, gI_sI, if_neg hk.1]
          · simp only [List.mem_cons, List.not_mem_nil, or_false] at hk
            rw [g4 k hk, gA_sI]
      · have ct' := Bool.eq_false_iff.mpr ct
        refine ⟨fun _ => ?_, fun w e => absurd e ct⟩
        rw [ct'] at x3
        cases x with
        | false => rw [if_pos (show bI false = 0 from rfl)]
        | true =>
          rw [Bool.true_and] at x3
          rw [if_neg (show ¬ bI true = 0 by decide), x3, if_pos (show bI false = 0 from rfl)]
    · refine ⟨fun q o n b z w => absurd w (hM q o n b z), fun _ => ?_⟩
      rw [head, if_neg (by rw [e2]; exact nI_nlt hkl hk), bad]
end RCA
section BCA
variable {F : Nat} {c : px_CT} {sk : Nat → Nat × Nat × Nat} {L : Nat} {own : Nat → Nat × Nat} {τ0 τ : px_TT} {σ : px_S} {fs : List (Nat × (Nat → Nat))} {gs : List (List Nat × Int64)} {ws : List (List Nat)} {n : Nat} {b : Nat → Nat} {a : Int32} {Y : px_Y} {k N : Nat}
/-- a symbol's name into the cell 146 -/
theorem z_name6 {j q o n' : Nat} {b' : Nat → Nat} (hF : 65540 < F) (hC : CV sk L own τ fs gs ws n b a Y) (hob : obAt fs q = some (o, n', b', false)) (hj1 : 1 ≤ j) (hj : j < oM b') (hB : yB b' j ≠ 0) : ∃ P τ', f_ObjectFile_nameStart F c (10 + 2 * q) (nI j) (cH sk L τ) = some (P, cH sk L τ) ∧ f_Name_read F c 146 7 P (cH sk L τ) = some ((), cH sk L τ') ∧ frN 146 τ τ' ∧ isNm τ' 146 (yT b' j) ∧ yL b' j ≤ 20 := by
  obtain ⟨h64, _, e5, h6, h7, hd⟩ := CF_ob hC.2.2.2.1 hob
  have hD := hd rfl
  have hs := hD.1
  have he : eObj b' n' = 0 := by
    have w := hD.2.2
    rw [e5] at w
    exact w
  have hj' : j < oM (cb (eI τ 8) (bsO fs q) n') := by rw [e5]; exact hj
  have hG := (yOK_n ((eObj_0 he).2.1 j hj1 hj) hB).2.1
  have hG' : yG (cb (eI τ 8) (bsO fs q) n') j = true := by rw [e5]; exact hG
  have k4 := k_nameStart (F := F) (c := c) hs (by omega) hj'
  obtain ⟨o1, o2, o3, o4, o5, o6, o7, o8, o9, o10⟩ := hs.1.1.1
  obtain ⟨x1, x2, x3, x4⟩ := hs.2.2.2 (w2_M0 hj')
  have hP := hs.2.2.1.2.2.2.1 _ x3 (by rw [x4]; decide) (by rw [x4]; decide)
  obtain ⟨g1, g2, g3⟩ := yG_n hG'
  obtain ⟨τ', a1, a2, a3⟩ := k_nread (F := F) (c := c) (p := bsO fs q + oP (cb (eI τ 8) (bsO fs q) n') (oX (cb (eI τ 8) (bsO fs q) n')) + yN (cb (eI τ 8) (bsO fs q) n') j) (τ := τ) (G146 hC.1) o3 o5 h7 (by decide) (by omega) (by decide) (by omega) o4 o6 hC.2.2.2.1.2.2.2.1
  rw [sym_T hs.2.2 hj' hG' h6] at a3
  rw [e5] at a3 g2
  exact ⟨_, τ', k4, a1, a2, a3, g2⟩
theorem Bx_cause {x y : Int32} (hF : 65540 < F) (hC : CV sk L own τ fs gs ws n b a Y) (hR : RV σ fs gs ws n b a Y) (hm : RMk sk L (k + 210)) (hN : n + (fs.map Prod.fst).sum ≤ N) : BT RnI (fun ci σ => ci = 15 ∧ gI σ 0 = nI 1) sk L τ k N (f_H_cause F c 0 x y (cH sk L τ)) (g_H_cause F c 0 x y (cH sk L τ)) (fun h => f_M_cause F 1726 x y (mh 1726 h σ)) := by
  have o0 := G0 hC.1
  rcases k_memAt (F := F) (c := c) (i := x) (k := y) hC with ⟨q, o, n', b', z, hM, e⟩ | ⟨hM, e⟩
  · have hob : obAt fs q = some (o, n', b', z) := by
      obtain ⟨_, _, _, _, _, _, _, h⟩ := hM
      exact h
    have h64 := (CF_ob hC.2.2.2.1 hob).1
    have oq := G_of hC.1 h64
    obtain ⟨h15, h16, h17, _⟩ := (CV_X hC).1 q h64
    cases ec : Y.2.1 q with
    | none =>
      have eC : f_H_cause F c 0 x y (cH sk L τ) = some (nI 0, cH sk L τ) := by
        unfold f_H_cause
        rw [c_o o0, bs, e, xb_mk]
        dsimp only
        rw [C7g16 oq, bs, h16 ec, if_pos (show (nI 0 : Int32) = 0 from rfl)]
      exact ⟨fs, gs, ws, n, b, a, Y, hN, Or.inl ⟨_, sk, L, τ, own, eC, EX_refl, K26_refl τ, RMk_le hm (by omega), hC, fun h hl => ⟨_, _, ((q_cause hl (by omega) hR.2.1 (RV_X hR) hR.2.2.2.2.1).1 q o n' b' z hM).1 ec, RV_0 hR (FR_I _ _ _), rfl, rfl⟩⟩⟩
    | some w =>
      obtain ⟨ht, o2, n2, b2, j, y1, y2, y3, y4, y5, y6⟩ := h17 w ec
      have hM64 : oM b2 ≤ 64 := by
        obtain ⟨_, _, e5, _, _, hd⟩ := CF_ob hC.2.2.2.1 y1
        have w := (hd rfl).2.2
        rw [e5] at w
        exact w2_M (eObj_0 w).1
      obtain ⟨P, τ1, k1, k2, k3, k4, k5⟩ := z_name6 (F := F) (c := c) hF hC y1 y2 y3 y4
      rw [y6] at k4
      have hwl : w.length = yL b2 j := by rw [← y6]; unfold yT; rw [tk_len]
      have i1 : SI none sk L τ τ1 := SI_N (SI_self hC) k3 (Or.inl rfl)
      have hR1 := GR_Z hC.2.1 i1.1
      obtain ⟨ro, A, hT, er⟩ := CV_ro hC
      have er1 : fN τ1 0 1 = some ro := (k3.2.2.1 0 1).trans er
      have hne : 146 ≠ ro := by unfold TRw at hT; omega
      have orr := (SI_row i1 hT).1
      obtain ⟨_, τ2, e2, _, i2⟩ := sz_clear (F := F) (c := c) i1 (fun k => k3.2.2.1 0 k) hT
      have er2 : fN τ2 0 1 = some ro := (i2.2.2 1).trans er
      have hR2 := GR_Z hC.2.1 i2.1.1
      have e3w : fI τ2 146 3 = nI w.length := by
        have w2 := (k_clearZ (F := F) (c := c) (SI_row i1 hT))
        obtain ⟨τ2', e2', _, f2', _⟩ := w2
        have eh : cH sk L τ2 = cH sk L τ2' := by
          rw [e2] at e2'
          exact (Prod.mk.inj (Option.some.inj e2')).2
        have r1 := C5g3 (τ := τ2) (G146 hC.1)
        have r2 := C5g3 (τ := τ2') (G146 hC.1)
        rw [eh] at r1
        have r3 : fI τ2' 146 3 = fI τ2 146 3 := Option.some.inj (r2.symm.trans r1)
        rw [← r3, f2'.1 146 3 (Or.inl hne)]
        exact k4.2.2.2
      obtain ⟨_, τ3, e4, _, i3⟩ := sz_wto (F := F) (c := c) hF hT (G146 hC.1) hne (show w.length ≤ 24 by omega) e3w i2
      have er3 : fN τ3 0 1 = some ro := (i3.2.2 1).trans er
      have hsz : fI τ3 ro 1 = nI w.length := by
        have := (i3.2.1.1 (by omega)).1
        rw [Nat.zero_add] at this
        exact this
      have eC : f_H_cause F c 0 x y (cH sk L τ) = some (nI w.length, cH sk L τ3) := by
        unfold f_H_cause
        rw [c_o o0, bs, e, xb_mk]
        dsimp only
        rw [C7g16 oq, bs, y5, if_neg (nI_nz (by omega) (by omega)), C0r10 o0 (R0_10 hC.2.1), bs, C0r3 o0 (R0_3 hC.2.1), bs, bs, c_o oq, bs, k1, xb_mk, c_o (G146 hC.1), bs, k2, xb_mk, C0r1 o0 er1, bs, c_o orr, bs, e2, xb_mk, C0r10 o0 (R0_10 hR2), bs, C0r1 o0 er2, bs, c_o (G146 hC.1), bs, e4, xb_mk, C0r1 o0 er3, bs, C10g1 orr, bs, hsz]
      refine ⟨fs, gs, ws, n, b, a, Y, hN, Or.inl ⟨_, sk, L, τ3, own, eC, EX_refl, K26_Z i3.1.1, RMk_le hm (by omega), CV_SI hC i3.1, fun h hl => ?_⟩⟩
      obtain ⟨σ', e5, e6, f, ho⟩ := ((q_cause (F := F) hl (by omega) hR.2.1 (RV_X hR) hR.2.2.2.2.1).1 q o n' b' z hM).2 w ht ec
      exact ⟨_, σ', e5, RV_out hR (FR_mono f (by decide) (by decide) (by decide) (by decide)) ho, rfl, e6⟩
  · refine ⟨fs, gs, ws, n, b, a, Y, hN, Or.inr ⟨15, τ, own, ?_, K26_refl τ, RMk_le hm (by omega), hC, fun h hl => ⟨_, _, (q_cause hl (by omega) hR.2.1 (RV_X hR) hR.2.2.2.2.1).2 hM, RV_0 hR (FR_I _ _ _), rfl, rfl⟩⟩⟩
    unfold g_H_cause
    rw [c_o o0, bs, e, xb_mk]
end BCA
