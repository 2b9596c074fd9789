/-! takeObject of the class, whole -/
section CTP
variable {F : Nat} {c : px_CT} {sk : Nat → Nat × Nat × Nat} {L : Nat} {τ : px_TT} {own : Nat → Nat × Nat} {fs : px_FS} {s : px_TK} {q o n k : Nat} {b : Nat → Nat}
theorem BK_lt (hb : BK fs s) (hq : q < 64) (hn : q ∉ s.2.2.1) : s.2.2.1.length < 64 := by
  have h : (s.2.2.1 ++ [q]).length ≤ 64 := nodup_le 0 64 _ (List.nodup_append.mpr ⟨hb.2.2.2.2.2.1, List.Pairwise.cons (fun _ h => nomatch h) List.Pairwise.nil, fun a ha b' hb' e => by
    rw [List.mem_singleton] at hb'
    rw [e, hb'] at ha
    exact hn ha⟩) (fun x hx => by
    rcases List.mem_append.mp hx with h | h
    · have := (hb.2.2.2.2.2.2 x h).1
      omega
    · rw [List.mem_singleton] at h
      omega)
  rw [List.length_append, List.length_singleton] at h
  omega
theorem k_takeObject (hS : GS sk L) (hF : 65536 < F) (hR : GR τ) (hf : CF sk L τ fs) (hk : CK sk L own τ fs s) (hW : WK fs s) (h3 : AL (fun x => x.2.1 ≤ 3) s.1.2.1) (hs0 : s.1.1 = 0) (hq : obAt fs q = some (o, n, b, false)) (hnq : q ∉ s.2.2.1) (hm : RMk sk L (k + oM b)) : ∃ sk' L' τ' own', f_Link_takeObject F c 147 (some (10 + 2 * q)) (cH sk L τ) = some (bI (decide ((tkM b q s).1.1 ≠ 1)), cH sk' L' τ') ∧ EX sk L sk' L' ∧ RMk sk' L' k ∧ CK sk' L' own' τ' fs (tkM b q s) ∧ frTk s.2.2.1.length s.1.2.1.length τ τ' ∧ (((tkM b q s).1.1 = 0 ∧ fN τ' 147 13 = fN τ 147 13) ∨ ((tkM b q s).1.1 = 1 ∧ BL sk' L' τ')) := by
  obtain ⟨h64, hkd, hcb, hss, hss2, hD⟩ := CF_ob hf hq
  have hD := hD rfl
  have he : eObj b n = 0 := by rw [← hcb]; exact hD.2.2
  obtain ⟨k1, k2, ⟨k3, k4⟩, k5, k6, k7, k8⟩ := hk
  have hT := BK_lt hW.1 h64 hnq
  obtain ⟨T, eT⟩ : ∃ T, T = s.2.2.1.length := ⟨_, rfl⟩
  rw [← eT] at hT k3 k7 k8
  have o147 := G147 hS
  have oq := hD.1.1.1.1.1
  -- the member is marked
  obtain ⟨τ1, hτ1⟩ : ∃ x, x = vN τ 1689 (va_up (eN τ 1689) T (some (10 + 2 * q))) := ⟨_, rfl⟩
  obtain ⟨τ2, hτ2⟩ : ∃ x, x = tI τ1 147 14 (nI (T + 1)) := ⟨_, rfl⟩
  obtain ⟨τ3, hτ3⟩ : ∃ x, x = tI τ2 (10 + 2 * q) 15 (bI true) := ⟨_, rfl⟩
  have f1 : frTk T s.1.2.1.length τ τ1 := by rw [hτ1]; exact frTk_o
  have n1 : NP sk L τ1 own := NP_fx k1 (fun A hA => by rw [hτ1]; exact u1_ne (by omega))
  have f2 : frTk T s.1.2.1.length τ1 τ2 := by rw [hτ2]; exact frTk_I n1 (Or.inl ⟨rfl, by omega⟩)
  have n2 : NP sk L τ2 own := NP_fx n1 (fun A hA => by rw [hτ2]; rfl)
  have f3 : frTk T s.1.2.1.length τ2 τ3 := by rw [hτ3]; exact frTk_I n2 (Or.inr ⟨by omega, by omega⟩)
  have n3 : NP sk L τ3 own := NP_fx n2 (fun A hA => by rw [hτ3]; rfl)
  have f03 := frTk_trans f1 (frTk_trans f2 f3 (Nat.le_refl _)) (Nat.le_refl _)
  have eN3 : ∀ a, a ≠ 1689 → eN τ3 a = eN τ a := fun a ha => by rw [hτ3, hτ2, hτ1]; exact u1_ne ha
  have eN31 : eN τ3 1689 = va_up (eN τ 1689) T (some (10 + 2 * q)) := by rw [hτ3, hτ2, hτ1]; exact (u1_eq : u1 τ.2.2.2.2.2 1689 _ 1689 = _)
  have eI3 : ∀ a j, (a ≠ 147 ∨ j ≠ 14) → (a ≠ 10 + 2 * q ∨ j ≠ 15) → fI τ3 a j = fI τ a j := fun a j h1 h2 => by
    rw [hτ3, tI_ne h2, hτ2, tI_ne h1, hτ1]; rfl
  have eJ3 : ∀ a j, fJ τ3 a j = fJ τ a j := fun a j => by rw [hτ3, hτ2, hτ1]; rfl
  have eFN3 : ∀ a j, fN τ3 a j = fN τ a j := fun a j => by rw [hτ3, hτ2, hτ1]; rfl
  have hR3 := GR_Tk hR f03
  have hD3 := cD_mv hD EX_refl (SF_Tk f03) (by omega) (by omega)
  have tbT : tB fs (s.2.2.1 ++ [q]) T = b := by rw [eT]; exact tB_2 hq
  have hC3 : CLn sk L τ3 (tB fs (s.2.2.1 ++ [q])) s.1.2.1 s.1.2.2.1 s.2.1.2.2 := CLn_tb (CLn_fx k2 k1 EX_refl (fun a j h => eI3 a j (by omega) (by omega)) (fun a j _ => eJ3 a j) (fun a j _ => eFN3 a j) (eN3 149 (by decide)) (eN3 1693 (by decide))) (fun i x hx t' k' e => by
    have hb := hW.2.1 i x hx
    unfold byP at hb
    rw [e] at hb
    exact tB_1 hb.1)
  -- the parts
  obtain ⟨τ4, p1, p2, p3⟩ := k_openParts (F := F) (c := c) (t := T) (u := q) hS (by omega) (by omega) hT hR3 hD3 (hR3.2.1 q h64).2.2.2
  have f4 : frTk T s.1.2.1.length τ3 τ4 := frTk_Op n3 p3 hT
  have n4 : NP sk L τ4 own := NP_fx n3 (fun A _ => p3.2.2.2.2.2 A)
  have hR4 := GR_Tk hR3 f4
  have hD4 := cD_mv hD3 EX_refl (SF_Tk f4) (by omega) (by omega)
  have hC4 := CLn_fx hC3 n3 EX_refl (fun a j h => p3.1 a j (by omega)) (fun a j _ => p3.2.1 a j (by omega)) (fun a j _ => p3.2.2.1 a j) (p3.2.2.2.2.2 149) (p3.2.2.2.2.2 1693)
  -- the names
  have h71 : fI τ4 7 1 = nI (off fs fs.length) := by
    rw [(SF_Tk f4).1 7 1 (by omega) (by decide), (SF_Tk f03).1 7 1 (by omega) (by decide)]
    exact hf.2.2.2.1
  have e8 : eI τ 8 = eI τ 8 := rfl
  have hyo := (eObj_0 he).2.1
  have hB16 : ∀ j, yB b j < 16 := fun j => by have := cb_lt (eI τ 8) (bsO fs q) n (yP b j + 4); rw [hcb] at this; unfold yB; omega
  have hxl := hW.1.2.2.1
  have hol := hW.1.2.2.2.1
  rw [← eT] at hxl hol
  obtain ⟨sk5, L5, τ5, own5, a1, a2, a3, a4, a5, a6, a7⟩ := k_enterNames (F := F) (c := c) (t := T) (k := k) hS (by omega) (by omega) hT hcb.symm hss hss2 hyo hB16 hR4 n4 hC4 hD4.1 h71 (by omega) hm
  have hs149 : ∀ i, i < s.1.2.1.length → ∃ p, eN τ4 149 i = some p := fun i hi => ⟨_, (CLn_at hC4 (List.getElem?_eq_getElem hi)).2.1⟩
  have f5 := frTk_Sy a7 hs149
  have hS5 := GS_ex hS a2
  have hR5 := GR_Tk hR4 f5
  have hD5 := cD_mv hD4 a2 (SF_Tk f5) (by omega) (by omega)
  have hM64 : oM b ≤ 64 := by rw [← hcb]; exact w2_M hD.1.2.2
  obtain ⟨ys, eys⟩ : ∃ ys, ys = itr (ec1 b) 0 64 s.1.2.1 := ⟨_, rfl⟩
  rw [← eys] at a5 a6
  have ynd : (ys.map Prod.fst).Nodup := by
    rw [eys]
    exact ec_inv (P := fun zs => (zs.map Prod.fst).Nodup) (fun w zs h => by rw [entL_fst]; exact ent_nd h) 64 0 _ hW.2.2.2.1
  have yok : okL ys := by rw [eys]; exact ec_inv (P := okL) (fun w zs h => okL_ent h) 64 0 _ hW.1.2.1
  have y3 : AL (fun x => x.2.1 ≤ 3) ys := by rw [eys]; exact ec_inv (P := AL (fun x => x.2.1 ≤ 3)) (fun w zs h => AL_ent h (Nat.zero_le _)) 64 0 _ h3
  have ym : ∀ j, 1 ≤ j → j < oM b → yB b j ≠ 0 → yT b j ∈ ys.map Prod.fst := fun j j1 j2 j3 => by
    rw [eys]
    exact (ec_mem (b := b) (xs := s.1.2.1) 64 0 s.1.2.1).2 j (Nat.zero_le _) (by omega) (decide_eq_true ⟨j1, j2, j3⟩)
  -- groups
  have hrp5 : RPd τ5 T b (bsO fs q) q s.2.1.1 := fun i hi => by
    rw [k7 _ (by omega)]
    have := isPd_0 (p2 i hi)
    rw [hcb] at this
    exact isPd_fr this (fun j => a7.1 _ j (by omega) (by omega) (Or.inl (by omega)))
  have h17 : fI τ5 147 17 = nI s.2.1.2.1 := by
    rw [a7.1 147 17 (by omega) (by omega) (Or.inl (by omega)), p3.1 147 17 (by omega), eI3 147 17 (Or.inr (by decide)) (Or.inl (by omega))]
    exact k4
  have hS24 : oS b ≤ 24 ∧ 1 ≤ oS b := by
    have h1 := hD.1.1.1.2.1.2.2
    have h2 := hD.1.1.1.2.2.1
    rw [hcb] at h1 h2
    exact ⟨h1, h2⟩
  obtain ⟨τ6, b1, b2, b3, b4, b5⟩ := k_dg_2 (F := F) (c := c) (N := ys.length) (g := 11 + 2 * q) hS5 hF (show 7 ≤ 10 + 2 * q ∧ 10 + 2 * q < 138 by omega) (by omega) hT hcb.symm ynd (oS b) 0 F τ5 s.2.1 (by omega) (by omega) (by omega) hR5 hD5 ⟨a4, a5, a6, hrp5, h17⟩
  rw [dg_0 he hS24.2] at b2
  obtain ⟨g6, eg6⟩ : ∃ g6, g6 = itr (dg1 T b) 1 (oS b - 1) s.2.1 := ⟨_, rfl⟩
  rw [← eg6] at b2
  obtain ⟨c1, c2, c3, c4, c5⟩ := b2
  have hR6 := GR_Tk hR5 b3
  have hD6 := cD_mv hD5 EX_refl (SF_Tk b3) (by omega) (by omega)
  -- definitions
  obtain ⟨fin, efin⟩ : ∃ fin, fin = itr (tk1 g6.1 T b) 1 (oM b - 1) (s.1.1, ys, s.1.2.2.1, s.1.2.2.2) := ⟨_, rfl⟩
  have eTK : tkM b q s = (fin, g6, s.2.2.1 ++ [q], s.2.2.2) := by
    unfold tkM
    rw [← eT, ← eg6, tks_first hM64, ← eys, ← efin]
  have hdn : ∃ τ', f_Link_defineNames F c 147 (nI T) (some (10 + 2 * q)) (cH sk5 L5 τ6) = some (bI (decide (fin.1 ≠ 1)), cH sk5 L5 τ') ∧ DNs sk5 L5 own5 (tB fs (s.2.2.1 ++ [q])) T b (bsO fs q) q g6.1 g6.2.2 τ' fin ∧ frTk T ys.length τ6 τ' ∧ (frTq τ6 τ' ∧ fI τ' 147 17 = fI τ6 147 17) ∧ ((fin.1 = 0 ∧ fN τ' 147 13 = fN τ6 147 13) ∨ (fin.1 = 1 ∧ BL sk5 L5 τ')) := by
    unfold f_Link_defineNames
    by_cases c0 : oM b = 0
    · rw [c0, itr_0] at efin
      rw [efin]
      refine ⟨τ6, ?_, ⟨c1, c2, c3, c4⟩, frTk_refl, ⟨frTq_refl, rfl⟩, Or.inl ⟨hs0, rfl⟩⟩
      obtain ⟨f, rfl⟩ : ∃ x, F = x + 1 := ⟨F - 1, by omega⟩
      unfold f_Link_defineNames_2 f_Link_defineNames_135
      rw [bs, C7g11 hD6.1.1.1.1.1, bs, hD6.1.2.1.2.1, hcb, c0, if_pos (show nI 0 ≤ nI 1 by decide), hs0]
      rfl
    · rw [efin]
      exact k_dn_2 hS5 hF (by omega) (by omega) hT hcb.symm tbT hM64 (oM b - 1) 1 F τ6 (s.1.1, ys, s.1.2.2.1, s.1.2.2.2) (by omega) (Nat.le_refl _) (by omega) hs0 yok y3 (by show s.1.2.2.1.length + _ ≤ _; omega) ym hR6 hD6 ⟨c1, c2, c3, c4⟩
  obtain ⟨τ7, d1, d2, d3, ⟨d5, d6⟩, d4⟩ := hdn
  have q37 : frTq τ3 τ7 := frTq_trans (frTq_Op p3) (frTq_trans (frTq_Sy a7) (frTq_trans b4 d5))
  obtain ⟨e1, e2, e3, e4⟩ := d2
  have hyl : s.1.2.1.length ≤ ys.length := by
    rw [eys]
    exact ec_inv (P := fun zs => s.1.2.1.length ≤ zs.length) (fun w zs h => by
      unfold entL
      split
      · exact h
      · rw [List.length_append]; omega) 64 0 _ (Nat.le_refl _)
  have f57 : frTk T ys.length τ5 τ7 := frTk_trans b3 d3 (Nat.le_refl _)
  have f47 := frTk_trans f5 f57 hyl
  have f37 := frTk_trans f4 f47 (Nat.le_refl _)
  have f07 := frTk_trans f03 f37 (Nat.le_refl _)
  have hgp := (eObj_0 he).2.2
  have hnm : nmE (s.1.2.1.map Prod.fst) (fin.2.1.map Prod.fst) := by
    have := nmE_tk (dr := g6.1) (t := T) (b := b) (oM b - 1) 1 s.1
    rw [tks_first hM64, ← eys, ← efin] at this
    exact this
  have hdr : ∀ x, (x < 24 * T ∨ 24 * T + 24 ≤ x) → g6.1 x = s.2.1.1 x := fun x hx => by rw [eg6]; exact dgs_out hgp hS24.2 hx s.2.1
  refine ⟨sk5, L5, τ7, own5, ?_, a2, a3, ?_, by rw [← eT]; exact f07, ?_⟩
  · unfold f_Link_takeObject
    rw [C3g14 o147, bs, k3, C3r6 o147 (GR_r (v := 1689) hR (by decide)), bs, c_l (G1689 hS) (by decide), bs, if_pos (nI_lt hT (by decide)), bs, bs, c_sO (G1689 hS) (by decide) (by decide) hT oq, bs, ← hτ1, C3g14 o147, bs, show fI τ1 147 14 = nI T by rw [hτ1]; exact k3, nI_add, C3p14 o147, bs, ← hτ2, bs, show xpZ _ 7 15 (10 + 2 * q) (nI 1) = _ from C7z15 oq true, bs, ← hτ3, c_o o147, bs, p1, xb_mk, c_o o147, bs, a1, xb_mk, c_o (G147 hS5), bs]
    unfold f_Link_dropGroups
    rw [b1, xb_mk, c_o (G147 hS5), bs, d1, xb_mk, eTK]
    cases decide (fin.1 ≠ 1) with
    | true => exact xz_1 _
    | false => exact xz_0 _
  · rw [eTK]
    have h14 : fI τ7 147 14 = nI (T + 1) := by rw [q37.1, hτ3, tI_ne (Or.inl (by omega)), hτ2, tI_at]
    refine ⟨e1, e2, ⟨?_, ?_⟩, fun t' q' hq' => ?_, fun q' hq' => ⟨?_, ?_⟩, fun x hx => ?_, ?_⟩
    · show fI τ7 147 14 = nI (s.2.2.1 ++ [q]).length
      rw [List.length_append, List.length_singleton, ← eT]
      exact h14
    · show fI τ7 147 17 = nI g6.2.1
      rw [d6]; exact c5
    · have hq' : (s.2.2.1 ++ [q])[t']? = some q' := hq'
      show RPd τ7 t' (tB fs (s.2.2.1 ++ [q]) t') (bsO fs q') q' g6.1 ∧ RSy τ7 t' (tB fs (s.2.2.1 ++ [q]) t') fin.2.1 64 ∧ eN τ7 1689 t' = some (10 + 2 * q')
      by_cases ct : t' < T
      · rw [List.getElem?_append_left (by omega)] at hq'
        obtain ⟨r1, r2, r3⟩ := k5 t' q' hq'
        rw [tB_1 (by omega)]
        refine ⟨fun i hi => ?_, ?_, ?_⟩
        · rw [hdr _ (by omega)]
          exact isPd_fr (r1 i hi) (fun j => f07.1 _ j (by omega) (by omega) (Or.inl (by omega)) (Or.inl (by omega)) (by omega) (Or.inl (by omega)))
        · exact RSy_up r2 (fun i hi => f07.2.2.2.2.2.2.2.2.1 i hi) (fun j hj => f07.2.2.2.2.2.2.1 _ (by omega)) hnm
        · rw [f07.2.2.2.2.2.2.2.1 t' (by omega)]; exact r3
      · have et : t' = T := by
          have := (List.getElem?_eq_some_iff.mp hq').1
          rw [List.length_append, List.length_singleton] at this
          omega
        rw [et, eT, List.getElem?_append_right (Nat.le_refl _), Nat.sub_self] at hq'
        have hq' : q = q' := Option.some.inj hq'
        rw [et, tbT, ← hq']
        refine ⟨e4, e3, ?_⟩
        rw [q37.2.2, eN31, va_up_a]
    · show fI τ7 (10 + 2 * q') 15 = bI (decide (q' ∈ s.2.2.1 ++ [q]))
      rw [q37.2.1 _ _ (by omega) (by omega)]
      by_cases cq : q' = q
      · rw [cq, hτ3, tI_at, decide_eq_true (List.mem_append.mpr (Or.inr (List.mem_singleton.mpr rfl)))]
      · rw [eI3 _ 15 (Or.inl (by omega)) (Or.inl (by omega)), (k6 q' hq').1]
        congr 1
        by_cases c : q' ∈ s.2.2.1
        · rw [decide_eq_true c, decide_eq_true (List.mem_append.mpr (Or.inl c))]
        · rw [decide_eq_false c, decide_eq_false (fun w => (List.mem_append.mp w).elim c (fun e => cq (List.mem_singleton.mp e)))]
    · have hc := (k6 q' hq').2
      have e16 : fI τ7 (10 + 2 * q') 16 = fI τ (10 + 2 * q') 16 := by rw [q37.2.1 _ _ (by omega) (by omega), eI3 _ 16 (Or.inl (by omega)) (Or.inr (by decide))]
      refine ⟨fun w => e16.trans (hc.1 w), fun i w => ?_⟩
      obtain ⟨o', n'', b', j, x1, x2, x3, x4, x5, x6⟩ := hc.2 i w
      exact ⟨o', n'', b', j, x1, x2, x3, x4, e16.trans x5, nmE_ix hnm x6⟩
    · have hx : 24 * (s.2.2.1 ++ [q]).length ≤ x := hx
      rw [List.length_append, List.length_singleton, ← eT] at hx
      show g6.1 x = false
      rw [hdr x (by omega)]
      exact k7 x (by omega)
    · show g6.2.1 ≤ 24 * (s.2.2.1 ++ [q]).length
      have := dg_cnt (t := T) (b := b) (oS b - 1) 1 s.2.1
      rw [← eg6] at this
      rw [List.length_append, List.length_singleton, ← eT]
      omega
  · rw [eTK]
    rcases d4 with d4 | d4
    · refine Or.inl ⟨d4.1, d4.2.trans ?_⟩
      rw [b5, a7.2.2.1 147 13 (by decide), p3.2.2.1, eFN3]
    · exact Or.inr d4
end CTP
