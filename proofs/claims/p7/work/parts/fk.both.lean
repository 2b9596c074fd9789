/-! a call of the class and the same call of the reference: what they answer (steps spelled out by sf/pp.py) -/
abbrev RnI (v w : Int32) (σ : px_S) : Prop := v = w ∧ gI σ 0 = nI 0
section BTI
variable {F : Nat} {c : px_CT} {sk sk' : Nat → Nat × Nat × Nat} {L L' : Nat} {own : Nat → Nat × Nat} {τ τ' : px_TT} {σ : px_S} {fs : List (Nat × (Nat → Nat))} {gs : List (List Nat × Int64)} {ws : List (List Nat)} {n : Nat} {b : Nat → Nat} {a : Int32} {Y : px_Y} {k N : Nat}
theorem B_feed {y : Int32} {z : Int64} (hF : 65540 < F) (hC : CV sk L own τ fs gs ws n b a Y) (hR : RV σ fs gs ws n b a Y) (hm : RMk sk L (k + 210)) (hN : n + (fs.map Prod.fst).sum + 8 ≤ N) : BT RnI (fun ci σ => (ci = 13 ∧ gI σ 0 = nI 1) ∨ (ci = 14 ∧ gI σ 0 = nI 2)) sk L τ k N (f_H_feed F c 0 y z (cH sk L τ)) (g_H_feed F c 0 y z (cH sk L τ)) (fun h => f_M_feed F 1726 y z (mh 1726 h σ)) := by
  have bad : (y < nI 1 ∨ ¬ y ≤ nI 8) → g_H_feed F c 0 y z (cH sk L τ) = some (13, cH sk L τ) → BT RnI (fun ci σ => (ci = 13 ∧ gI σ 0 = nI 1) ∨ (ci = 14 ∧ gI σ 0 = nI 2)) sk L τ k N (f_H_feed F c 0 y z (cH sk L τ)) (g_H_feed F c 0 y z (cH sk L τ)) (fun h => f_M_feed F 1726 y z (mh 1726 h σ)) := fun hy hg =>
    ⟨fs, gs, ws, n, b, a, Y, by omega, Or.inr ⟨13, τ, own, hg, K26_refl τ, RMk_le hm (by omega), hC, fun h hl => ⟨_, _, q_feed_w hl hy, RV_0 hR (FR_I _ _ _), Or.inl ⟨rfl, rfl⟩⟩⟩⟩
  by_cases c1 : y < nI 1
  · exact bad (Or.inl c1) (by unfold g_H_feed g_H_feed_11; rw [if_pos c1])
  · by_cases c2 : y ≤ nI 8
    · obtain ⟨w, w1, w8, rfl⟩ := nI_18 c1 c2
      obtain ⟨v, hv, rfl⟩ := wb_of z
      by_cases c3 : n + w ≤ 8192
      · obtain ⟨τ', e, h1, h2⟩ := v_feed (F := F) (c := c) hF hC hv w1 w8 c3
        refine ⟨fs, gs, ws, n + w, fdd b n v w, a, Y, by omega, Or.inl ⟨_, sk, L, τ', own, e, EX_refl, h2, RMk_le hm (by omega), h1, fun h hl => ?_⟩⟩
        obtain ⟨σ', e1, e2, e3⟩ := u_feed (F := F) hl hF hR hv w1 w8 c3
        exact ⟨_, σ', e1, e3, rfl, e2⟩
      · have ht := hC.2.2.2.2.2.2.1
        refine ⟨fs, gs, ws, n, b, a, Y, by omega, Or.inr ⟨14, τ, own, ?_, K26_refl τ, RMk_le hm (by omega), hC, fun h hl => ⟨_, _, q_feed_n hl w1 w8 c3 hR.1, RV_0 hR (FR_I _ _ _), Or.inr ⟨rfl, rfl⟩⟩⟩⟩
        have hn := ht.2.1
        unfold g_H_feed
        rw [if_neg c1, if_pos c2, C0r0 (G0 hC.1) (R0_0 hC.2.1), bs, C10g1 (G1 hC.1), bs, ht.1, nI_add, if_neg (nI_ge (a := 8192) (by omega) (by omega))]
    · exact bad (Or.inr c2) (by unfold g_H_feed g_H_feed_11; rw [if_neg c1, if_neg c2])
theorem sum_app (fs : List (Nat × (Nat → Nat))) (x : Nat × (Nat → Nat)) : ((fs ++ [x]).map Prod.fst).sum = (fs.map Prod.fst).sum + x.1 := by
  rw [List.map_append, List.sum_append]
  show _ + (x.1 + 0) = _
  rw [Nat.add_zero]
theorem B_add (hK : KT c) (hF : 65540 < F) (hC : CV sk L own τ fs gs ws n b a Y) (hR : RV σ fs gs ws n b a Y) (hm : RMk sk L (k + 210)) (hN : n + (fs.map Prod.fst).sum ≤ N) : BT RnI (fun ci σ => ci = 14 ∧ gI σ 0 = nI 1) sk L τ k N (f_H_add F c 0 (cH sk L τ)) (g_H_add F c 0 (cH sk L τ)) (fun h => f_M_add F 1726 (mh 1726 h σ)) := by
  have h8 := hR.2.1.2.1
  have e6 := hC.2.2.2.1.1
  by_cases c8 : fs.length = 8
  · refine ⟨fs, gs, ws, n, b, a, Y, hN, Or.inr ⟨14, τ, own, ?_, K26_refl τ, RMk_le hm (by omega), hC, fun h hl => ?_⟩⟩
    · unfold g_H_add
      rw [C0g6 (G0 hC.1), bs, e6, c8, if_neg (by decide)]
    · obtain ⟨σ', e1, e2, e3⟩ := u_add (F := F) hl hF hR (fun q h1 h2 => (hC.2.2.2.2.2.2.2.2.1.1.1 q h2).2.2.2 h1)
      rw [if_pos c8] at e2
      rw [if_pos c8, if_pos c8, if_pos c8] at e3
      exact ⟨_, σ', e1, e3, rfl, e2⟩
  · obtain ⟨τ', e, h1, h2⟩ := v_add (F := F) (c := c) hK hF hC (by omega)
    refine ⟨if eFil b n = 0 then fs ++ [(n, b)] else fs, gs, ws, 0, fun _ => 0, a, Y, ?_, Or.inl ⟨_, sk, L, τ', own, e, EX_refl, h2, RMk_le hm (by omega), h1, fun h hl => ?_⟩⟩
    · split
      · rw [sum_app]; omega
      · omega
    · obtain ⟨σ', e1, e2, e3⟩ := u_add (F := F) hl hF hR (fun q h1 h2 => (hC.2.2.2.2.2.2.2.2.1.1.1 q h2).2.2.2 h1)
      rw [if_neg c8] at e1 e2
      rw [if_neg c8, if_neg c8, if_neg c8] at e3
      exact ⟨_, σ', e1, e3, rfl, e2⟩
theorem B_drop (hF : 65540 < F) (hC : CV sk L own τ fs gs ws n b a Y) (hR : RV σ fs gs ws n b a Y) (hm : RMk sk L (k + 210)) (hN : n + (fs.map Prod.fst).sum ≤ N) : BT RnI (fun ci σ => ci = 14 ∧ gI σ 0 = nI 1) sk L τ k N (f_H_drop F c 0 (cH sk L τ)) (g_H_drop F c 0 (cH sk L τ)) (fun h => f_M_drop F 1726 (mh 1726 h σ)) := by
  rcases List.eq_nil_or_concat fs with e0 | ⟨fi, x, e0⟩
  · subst e0
    have e6 : fI τ 0 6 = nI 0 := hC.2.2.2.1.1
    refine ⟨[], gs, ws, n, b, a, Y, hN, Or.inr ⟨14, τ, own, ?_, K26_refl τ, RMk_le hm (by omega), hC, fun h hl => ⟨_, _, q_drop_n hl hR.2.1, RV_0 hR (FR_I _ _ _), rfl, rfl⟩⟩⟩
    unfold g_H_drop
    rw [C0g6 (G0 hC.1), bs, e6, if_neg (show ¬ (0 : Int32) < nI 0 by decide)]
  · rw [List.concat_eq_append] at e0
    subst e0
    rw [sum_app] at hN
    obtain ⟨τ', e, h1, h2⟩ := v_drop (F := F) (c := c) hF hC
    refine ⟨fi, gs, ws, n, b, a, dropY fi.length Y, by omega, Or.inl ⟨_, sk, L, τ', own, e, EX_refl, h2, RMk_le hm (by omega), h1, fun h hl => ?_⟩⟩
    obtain ⟨σ', e1, e2, e3⟩ := u_drop (F := F) hl hR
    exact ⟨_, σ', e1, e3, rfl, e2⟩
theorem gcd_1 {vs : List (List Nat)} (h : tnm b n = false) : gcd' b n vs = 1 := by
  unfold gcd'
  rw [if_neg (by rw [h]; decide)]
theorem gcd_2 {vs : List (List Nat)} (h : tnm b n = true) (h0 : ¬ gcd' b n vs = 0) : gcd' b n vs = 2 ∧ (vs.length = 16 ∨ (idx (tk b 0 n) 0 vs).isSome = true) := by
  unfold gcd' at *
  rw [if_pos h] at h0 ⊢
  by_cases cc : vs.length = 16 ∨ (idx (tk b 0 n) 0 vs).isSome = true
  · rw [if_pos cc]; exact ⟨rfl, cc⟩
  · rw [if_neg cc] at h0; exact absurd rfl h0
theorem B_give {v : Int64} (hF : 65540 < F) (hC : CV sk L own τ fs gs ws n b a Y) (hR : RV σ fs gs ws n b a Y) (hm : RMk sk L (k + 210)) (hN : n + (fs.map Prod.fst).sum ≤ N) : BT RnI (fun ci σ => (ci = 13 ∧ gI σ 0 = nI 1) ∨ (ci = 14 ∧ gI σ 0 = nI 2)) sk L τ k N (f_H_give F c 0 v (cH sk L τ)) (g_H_give F c 0 v (cH sk L τ)) (fun h => f_M_give F 1726 v (mh 1726 h σ)) := by
  have u := fun (h : px_H) (hl : 1726 ≤ h.length) => u_give (F := F) (v := v) hl hF hR
  by_cases c0 : gcd' b n (gs.map Prod.fst) = 0
  · obtain ⟨sk', L', τ', own', e, h1, h2, h3, h4⟩ := v_give (F := F) (c := c) (v := v) (k := k) hF hC (RMk_le hm (by omega)) c0
    refine ⟨fs, gs ++ [(tk b 0 n, v)], ws, 0, fun _ => 0, a, Y, by omega, Or.inl ⟨_, sk', L', τ', own', e, h1, h4, h2, h3, fun h hl => ?_⟩⟩
    obtain ⟨σ', e1, e2, e3⟩ := u h hl
    rw [if_pos c0] at e1 e3
    rw [c0] at e2
    exact ⟨_, σ', e1, e3, rfl, e2⟩
  · obtain ⟨τ1, e1, h1, h2, h3⟩ := v_readTapeName (F := F) (c := c) hF hC
    have u' : ∀ h : px_H, 1726 ≤ h.length → ∃ w σ', f_M_give F 1726 v (mh 1726 h σ) = some (w, mh 1726 h σ') ∧ gI σ' 0 = nI (gcd' b n (gs.map Prod.fst)) ∧ RV σ' fs gs ws 0 (fun _ => 0) a Y := fun h hl => by
      obtain ⟨σ', a1, a2, a3⟩ := u h hl
      rw [if_neg c0] at a3
      exact ⟨_, σ', a1, a2, a3⟩
    cases ht : tnm b n with
    | false =>
      rw [gcd_1 ht] at u'
      refine ⟨fs, gs, ws, 0, fun _ => 0, a, Y, by omega, Or.inr ⟨13, τ1, own, ?_, h3, RMk_le hm (by omega), h1, fun h hl => ?_⟩⟩
      · unfold g_H_give
        rw [c_o (G0 hC.1), bs, e1, xb_mk, ht, if_pos (show bI false = 0 from rfl)]
      · obtain ⟨w, σ', a1, a2, a3⟩ := u' h hl
        exact ⟨w, σ', a1, a3, Or.inl ⟨rfl, a2⟩⟩
    | true =>
      obtain ⟨g2, g3⟩ := gcd_2 ht c0
      rw [g2] at u'
      refine ⟨fs, gs, ws, 0, fun _ => 0, a, Y, by omega, Or.inr ⟨14, τ1, own, ?_, h3, RMk_le hm (by omega), h1, fun h hl => ?_⟩⟩
      · have hg1 := h1.2.2.2.2.1
        have hl16 : (gs.map Prod.fst).length ≤ 16 := hg1.1.2.2.2.1
        unfold g_H_give g_H_give_45
        rw [c_o (G0 hC.1), bs, e1, xb_mk, ht, if_neg (show ¬ bI true = 0 by decide), C0r8 (G0 hC.1) (R0_8 h1.2.1), bs, C0r10 (G0 hC.1) (R0_10 h1.2.1), bs, c_o (G140 hC.1), bs, k_find hg1.1 (G146 hC.1) (h2 ht) (tk_ok hC.2.2.2.2.2.2.1 ht) (by omega), xb_mk]
        cases hi : idx (tk b 0 n) 0 (gs.map Prod.fst) with
        | some i => rfl
        | none =>
          have hl : (gs.map Prod.fst).length = 16 := g3.resolve_right (by rw [hi]; decide)
          show ((xgR (cH sk L τ1) 0 8 0).bind _) = _
          rw [C0r8 (G0 hC.1) (R0_8 h1.2.1), bs, C6g2 (G140 hC.1), bs, hg1.1.2.2.2.2.2.1, hl, if_neg (by decide)]
      · obtain ⟨w, σ', a1, a2, a3⟩ := u' h hl
        exact ⟨w, σ', a1, a3, Or.inr ⟨rfl, a2⟩⟩
theorem B_wish (hF : 65540 < F) (hC : CV sk L own τ fs gs ws n b a Y) (hR : RV σ fs gs ws n b a Y) (hm : RMk sk L (k + 210)) (hN : n + (fs.map Prod.fst).sum ≤ N) : BT RnI (fun ci σ => (ci = 13 ∧ gI σ 0 = nI 1) ∨ (ci = 14 ∧ gI σ 0 = nI 2)) sk L τ k N (f_H_wish F c 0 (cH sk L τ)) (g_H_wish F c 0 (cH sk L τ)) (fun h => f_M_wish F 1726 (mh 1726 h σ)) := by
  have u := fun (h : px_H) (hl : 1726 ≤ h.length) => u_wish (F := F) hl hF hR
  by_cases c0 : gcd' b n ws = 0
  · obtain ⟨sk', L', τ', own', e, h1, h2, h3, h4⟩ := v_wish (F := F) (c := c) (k := k) hF hC (RMk_le hm (by omega)) c0
    refine ⟨fs, gs, ws ++ [tk b 0 n], 0, fun _ => 0, a, Y, by omega, Or.inl ⟨_, sk', L', τ', own', e, h1, h4, h2, h3, fun h hl => ?_⟩⟩
    obtain ⟨σ', e1, e2, e3⟩ := u h hl
    rw [if_pos c0] at e1 e3
    rw [c0] at e2
    exact ⟨_, σ', e1, e3, rfl, e2⟩
  · obtain ⟨τ1, e1, h1, h2, h3⟩ := v_readTapeName (F := F) (c := c) hF hC
    have u' : ∀ h : px_H, 1726 ≤ h.length → ∃ w σ', f_M_wish F 1726 (mh 1726 h σ) = some (w, mh 1726 h σ') ∧ gI σ' 0 = nI (gcd' b n ws) ∧ RV σ' fs gs ws 0 (fun _ => 0) a Y := fun h hl => by
      obtain ⟨σ', a1, a2, a3⟩ := u h hl
      rw [if_neg c0] at a3
      exact ⟨_, σ', a1, a2, a3⟩
    cases ht : tnm b n with
    | false =>
      rw [gcd_1 ht] at u'
      refine ⟨fs, gs, ws, 0, fun _ => 0, a, Y, by omega, Or.inr ⟨13, τ1, own, ?_, h3, RMk_le hm (by omega), h1, fun h hl => ?_⟩⟩
      · unfold g_H_wish
        rw [c_o (G0 hC.1), bs, e1, xb_mk, ht, if_pos (show bI false = 0 from rfl)]
      · obtain ⟨w, σ', a1, a2, a3⟩ := u' h hl
        exact ⟨w, σ', a1, a3, Or.inl ⟨rfl, a2⟩⟩
    | true =>
      obtain ⟨g2, g3⟩ := gcd_2 ht c0
      rw [g2] at u'
      refine ⟨fs, gs, ws, 0, fun _ => 0, a, Y, by omega, Or.inr ⟨14, τ1, own, ?_, h3, RMk_le hm (by omega), h1, fun h hl => ?_⟩⟩
      · have hg1 := h1.2.2.2.2.2.1
        have hl16 : ws.length ≤ 16 := hg1.2.2.2.1
        unfold g_H_wish g_H_wish_45
        rw [c_o (G0 hC.1), bs, e1, xb_mk, ht, if_neg (show ¬ bI true = 0 by decide), C0r9 (G0 hC.1) (R0_9 h1.2.1), bs, C0r10 (G0 hC.1) (R0_10 h1.2.1), bs, c_o (G143 hC.1), bs, k_find hg1 (G146 hC.1) (h2 ht) (tk_ok hC.2.2.2.2.2.2.1 ht) (by omega), xb_mk]
        cases hi : idx (tk b 0 n) 0 ws with
        | some i => rfl
        | none =>
          have hl : ws.length = 16 := g3.resolve_right (by rw [hi]; decide)
          show ((xgR (cH sk L τ1) 0 9 0).bind _) = _
          rw [C0r9 (G0 hC.1) (R0_9 h1.2.1), bs, C6g2 (G143 hC.1), bs, hg1.2.2.2.2.2.1, hl, if_neg (by decide)]
      · obtain ⟨w, σ', a1, a2, a3⟩ := u' h hl
        exact ⟨w, σ', a1, a3, Or.inr ⟨rfl, a2⟩⟩
/-- the bytes of the files, as the link reads them -/
theorem BFs_RF (hr : RF σ fs) : BFs fs (fun x => b8 (gA σ 6 x)) := fun q o n b hq => by
  obtain ⟨_, _, _, _, q5, q6, _⟩ := RF_ob hr hq
  refine ⟨q6, fun x hx => ?_⟩
  rw [← q5]
  unfold cb
  rw [if_pos hx]
theorem B_link {rc : Bool} (hK : KT c) (hF : 65540 < F) (hC : CV sk L own τ fs gs ws n b a Y) (hR : RV σ fs gs ws n b a Y) (hm : RMk sk L (k + 210)) (hN : n + (fs.map Prod.fst).sum ≤ N) (hs : (fs.map Prod.fst).sum ≤ 4096) : BT (fun (v w : Int32) _ => v = w) (fun _ _ => False) sk L τ k N (f_H_link F c 0 (bI rc) (cH sk L τ)) none (fun h => f_M_link F 1726 (bI rc) (mh 1726 h σ)) := by
  have hr := hR.2.1
  have hB : RB σ (fun x => b8 (gA σ 6 x)) := ⟨hr.2.2.1, fun _ => rfl⟩
  have hBF := BFs_RF hr
  have hrm := rmT_b (RF_FSo hr) hs
  have hm' : RMk sk L (k + rmT fs [] + 32) := RMk_le hm (by omega)
  have hL : 1815 ≤ L := hC.1.1
  obtain ⟨σ1, j, s, ll1, ad1, NA1, e1, hj, hl1, _⟩ := u_link (rc := rc) (F := F) (m := 1726) (h := cH sk L τ) (by rw [cH_len]; omega) hF hR hB hs
  obtain ⟨sk', L', τ', own', ll, ad, NA, e, h1, h2, h3, h4, lx⟩ := v_link (F := F) (c := c) (k := k) hF hK hC hm' hs hBF hl1
  refine ⟨fs, gs, ws, n, b, nI j, lnY fs s ll ad NA, hN, Or.inl ⟨_, sk', L', τ', own', e, h1, h4, h2, h3, fun h hl => ?_⟩⟩
  obtain ⟨σ2, j2, s2, ll2, ad2, NA2, e2, hj2, hl2, hv2, lx2⟩ := u_link (rc := rc) (F := F) (m := 1726) (h := h) hl hF hR hB hs
  obtain ⟨sk2, L2, τ2, own2, _, _, _, e3, _⟩ := v_link (F := F) (c := c) (k := k) hF hK hC hm' hs hBF hl2
  have ej : nI j = nI j2 := by
    rw [e] at e3
    exact (Prod.mk.inj (Option.some.inj e3)).1
  have ejn : j = j2 := (nI_eq (by omega) (by omega)).mp ej
  have es : s2 = s := hl2.1.trans hl1.1.symm
  subst ejn
  subst es
  exact ⟨_, σ2, e2, RV_Y hv2 hj (fun c0 => lnX_u (lx2 c0) (lx c0)), rfl⟩
theorem B_merge (hK : KT c) (hF : 65540 < F) (hC : CV sk L own τ fs gs ws n b a Y) (hR : RV σ fs gs ws n b a Y) (hm : RMk sk L (k + 210)) (hN : n + (fs.map Prod.fst).sum ≤ N) (hs : (fs.map Prod.fst).sum ≤ 4096) : BT Rn0 (fun _ _ => False) sk L τ k N (f_H_merge F c 0 (cH sk L τ)) none (fun h => f_M_merge F 1726 (mh 1726 h σ)) := by
  have hr := hR.2.1
  have hB : RB σ (fun x => b8 (gA σ 6 x)) := ⟨hr.2.2.1, fun _ => rfl⟩
  have hBF := BFs_RF hr
  have hrm := rmT_b (RF_FSo hr) hs
  have hm' : RMk sk L (k + rmT fs [] + 32) := RMk_le hm (by omega)
  have hL : 1815 ≤ L := hC.1.1
  obtain ⟨v1, σ1, j, s, ll1, ad1, NA1, e1, hj, hl1, _⟩ := u_merge (F := F) (m := 1726) (h := cH sk L τ) (by rw [cH_len]; omega) hF hR hB hs
  obtain ⟨v, sk', L', τ', own', ll, ad, NA, e, h1, h2, h3, h4, lx⟩ := v_merge (F := F) (c := c) (k := k) hF hK hC hm' hs hBF hl1
  obtain ⟨_, _, _, _, _, _, _, e0, _⟩ := v_link (F := F) (c := c) (k := k) hF hK hC hm' hs hBF hl1
  refine ⟨fs, gs, ws, n, b, nI j, lnY fs s ll ad NA, hN, Or.inl ⟨_, sk', L', τ', own', e, h1, h4, h2, h3, fun h hl => ?_⟩⟩
  obtain ⟨v2, σ2, j2, s2, ll2, ad2, NA2, e2, hj2, hl2, hv2, lx2⟩ := u_merge (F := F) (m := 1726) (h := h) hl hF hR hB hs
  obtain ⟨_, _, _, _, _, _, _, e3, _⟩ := v_link (F := F) (c := c) (k := k) hF hK hC hm' hs hBF hl2
  have ej : nI j = nI j2 := by
    rw [e0] at e3
    exact (Prod.mk.inj (Option.some.inj e3)).1
  have ejn : j = j2 := (nI_eq (by omega) (by omega)).mp ej
  have es : s2 = s := hl2.1.trans hl1.1.symm
  subst ejn
  subst es
  exact ⟨_, σ2, e2, RV_Y hv2 hj (fun c0 => lnX_u (lx2 c0) (lx c0)), trivial⟩
end BTI
