/-! dropGroups of the class: its loop -/
section CDH
variable {F : Nat} {c : px_CT} {sk : Nat → Nat × Nat × Nat} {L : Nat} {tb : Nat → Nat → Nat} {q g base u n t N : Nat} {S : Nat → Int32} {xs : px_NL} {od : List Nat} {own : Nat → Nat × Nat} {b : Nat → Nat}
theorem dg1_no {i : Nat} {s : (Nat → Bool) × Nat × List (List Nat)} (h : ¬ (oT b i = 17 ∧ gN b i 0 = 1)) : dg1 t b i s = s := by
  unfold dg1
  rw [if_neg h]
theorem dg1_in {i : Nat} {dr : Nat → Bool} {cn : Nat} {sg : List (List Nat)} (h : oT b i = 17 ∧ gN b i 0 = 1) (hw : yT b (oI b i) ∈ sg) : dg1 t b i (dr, cn, sg) = (mkD t b i 1 (oZ b i / 4 - 1) dr, cn + 1, sg) := by
  unfold dg1
  rw [if_pos h, if_pos (idx_iff.mpr hw)]
theorem dg1_new {i : Nat} {dr : Nat → Bool} {cn : Nat} {sg : List (List Nat)} (h : oT b i = 17 ∧ gN b i 0 = 1) (hw : yT b (oI b i) ∉ sg) : dg1 t b i (dr, cn, sg) = (dr, cn, sg ++ [yT b (oI b i)]) := by
  unfold dg1
  rw [if_pos h, if_neg (fun q => hw (idx_iff.mp q))]
/-- what holds in the loop -/
def DGs (sk : Nat → Nat × Nat × Nat) (L : Nat) (own : Nat → Nat × Nat) (tb : Nat → Nat → Nat) (t : Nat) (b : Nat → Nat) (base u : Nat) (xs : px_NL) (od : List Nat) (τ : px_TT) (s : (Nat → Bool) × Nat × List (List Nat)) : Prop := NP sk L τ own ∧ CLn sk L τ tb xs od s.2.2 ∧ RSy τ t b xs 64 ∧ RPd τ t b base u s.1 ∧ fI τ 147 17 = nI s.2.1
theorem k_dg_2 (hS : GS sk L) (hF : 65536 < F) (hq : 7 ≤ q ∧ q < 138) (hg7 : 7 ≤ g ∧ g < 140) (ht : t < 64) (hb : b = cb S base n) (hnd : (xs.map Prod.fst).Nodup) : ∀ (d i f : Nat) (τ : px_TT) (s : (Nat → Bool) × Nat × List (List Nat)), i + d = oS b → d < f → s.2.1 + d < 2 ^ 31 → GR τ → cD sk L τ q g base n S → DGs sk L own tb t b base u xs od τ s → ∃ τ', f_Link_dropGroups_2 F c f 147 (nI t) (some q) (nI i) (cH sk L τ) = some ((), cH sk L τ') ∧ DGs sk L own tb t b base u xs od τ' (itr (dg1 t b) i d s) ∧ frTk t N τ τ' ∧ (frTq τ τ' ∧ fN τ' 147 13 = fN τ 147 13) := by
  intro d
  induction d with
  | zero =>
    intro i f τ s hi hf hc hR hD hs
    obtain ⟨f, rfl⟩ : ∃ x, f = x + 1 := ⟨f - 1, by omega⟩
    refine ⟨τ, ?_, hs, frTk_refl, frTq_refl, rfl⟩
    have h24 := hD.1.1.1.2.1.2.2
    rw [← hb] at h24
    unfold f_Link_dropGroups_2 f_Link_dropGroups_110
    rw [bs, C7g8 hD.1.1.1.1.1, bs, hD.1.1.1.2.2.2.2, ← hb, if_pos (nI_le (by omega) (by omega))]
  | succ d ih =>
    intro i f τ s hi hf hc hR hD hs
    obtain ⟨f, rfl⟩ : ∃ x, f = x + 1 := ⟨f - 1, by omega⟩
    have hr := hD.1.1.1
    have o := hr.1.1
    have h24 := hD.1.1.1.2.1.2.2
    rw [← hb] at h24
    have iS : i < oS (cb S base n) := by rw [← hb]; omega
    have kP := k_P (F := F) (c := c) hr (by omega) iS
    have kT := k_T (F := F) (c := c) hr (by omega) iS
    have go : ∀ (s1 : (Nat → Bool) × Nat × List (List Nat)) (τ1 : px_TT), s1 = dg1 t b i s → s1.2.1 ≤ s.2.1 + 1 → DGs sk L own tb t b base u xs od τ1 s1 → frTk t N τ τ1 → (frTq τ τ1 ∧ fN τ1 147 13 = fN τ 147 13) → ∃ τ', f_Link_dropGroups_104 F c (f_Link_dropGroups_2 F c f) 147 (nI t) (some q) (nI i) (cH sk L τ1) = some ((), cH sk L τ') ∧ DGs sk L own tb t b base u xs od τ' (itr (dg1 t b) i (d + 1) s) ∧ frTk t N τ τ' ∧ (frTq τ τ' ∧ fN τ' 147 13 = fN τ 147 13) := fun s1 τ1 e1 e2 hs1 f1 x1 => by
      obtain ⟨τ', j1, j2, j3, j4, j5⟩ := ih (i + 1) f τ1 s1 (by omega) (by omega) (by omega) (GR_Tk hR f1) (cD_mv hD EX_refl (SF_Tk f1) (by omega) hg7) hs1
      refine ⟨τ', ?_, ?_, frTk_trans f1 j3 (Nat.le_refl _), frTq_trans x1.1 j4, j5.trans x1.2⟩
      · unfold f_Link_dropGroups_104
        rw [nI_add]
        exact j1
      · rw [itr_s, ← e1]; exact j2
    unfold f_Link_dropGroups_2
    rw [bs, C7g8 o, bs, hr.2.2.2.2, if_neg (nI_ge iS (by rw [← hb]; omega)), c_o o, bs, kP, xb_mk, c_o o, bs, kT, xb_mk]
    by_cases cT : oT b i = 17
    · have h1i : 1 ≤ i := by
        rcases Nat.eq_zero_or_pos i with e | e
        · rw [e, hb, (eObj_g hD.2.2).1] at cT; cases cT
        · exact e
      have hgh := of_decide_eq_true ((eObj_g hD.2.2).2 i h1i iS (by rw [← hb]; exact cT))
      obtain ⟨z0, z5, z6⟩ := (eObj_0 hD.2.2).2.2 i h1i iS (by rw [← hb]; exact cT)
      have hn : base + n ≤ 65536 := hr.1.2.2.2.2.2.2.2.2.1
      have hnum := k_num (F := F) (c := c) (x := oP (cb S base n) i) (k := 4) hr.1 (by omega) (by decide) (by omega)
      rw [nm_in (by omega), show le (cb S base n) (oP (cb S base n) i) 4 = gN (cb S base n) i 0 from by unfold gN; rw [Nat.mul_zero, Nat.add_zero]] at hnum
      rw [if_pos (show lN (oT (cb S base n) i) = 17 by rw [← hb, cT]; rfl), c_o o, bs, lN_i, hnum, xb_mk]
      have hgn : gN (cb S base n) i 0 ≤ 1 := hgh.2.2.2.2.2.2.2
      by_cases cG : gN b i 0 = 1
      · rw [if_pos (show lN (gN (cb S base n) i 0) = lN 1 by rw [← hb, cG])]
        obtain ⟨hn1, hC, hRS, hRP, h17⟩ := id hs
        have hM : oM (cb S base n) ≤ 64 := w2_M hD.1.2.2
        have hI64 : oI b i < 64 := by rw [hb]; omega
        have hhs : hsN b (oI b i) = true := decide_eq_true ⟨by rw [hb]; exact hgh.2.2.2.2.1, by rw [hb]; exact hgh.2.2.2.2.2.1, by rw [hb]; exact hgh.2.2.2.2.2.2.1⟩
        obtain ⟨y1, y2⟩ := hRS _ hI64
        have y2 := y2 hhs
        unfold syN at y1
        rw [if_pos hhs] at y1
        have hpl := plc_get y2
        obtain ⟨w, hw⟩ : ∃ w, w = yT b (oI b i) := ⟨_, rfl⟩
        have dgi := fun (h : yT b (oI b i) ∈ s.2.2) => dg1_in (t := t) (dr := s.1) (cn := s.2.1) (sg := s.2.2) ⟨cT, cG⟩ h
        have dgn := fun (h : yT b (oI b i) ∉ s.2.2) => dg1_new (t := t) (dr := s.1) (cn := s.2.1) (sg := s.2.2) ⟨cT, cG⟩ h
        rw [← hw] at y1 y2 hpl dgi dgn
        obtain ⟨P, hP⟩ : ∃ P, P = plc w (xs.map Prod.fst) := ⟨_, rfl⟩
        obtain ⟨x, hx, hxw⟩ : ∃ x, xs[P]? = some x ∧ x.1 = w := by
          rw [← hP, List.getElem?_map] at hpl
          cases e : xs[P]? with
          | none => rw [e] at hpl; cases hpl
          | some x => rw [e] at hpl; exact ⟨x, rfl, Option.some.inj hpl⟩
        obtain ⟨p, hp⟩ : ∃ p, p = pN τ 149 P := ⟨_, rfl⟩
        rw [← hP, ← hp] at y1
        obtain ⟨z1, z2, z3, z4⟩ := CLn_at hC hx
        have hfl := (hC.2.1 P x hx).2
        rw [← hp] at z2 z3 z4 hfl
        rw [hxw] at hfl
        have kI := k_I (F := F) (c := c) hr (by omega) iS
        have kI2 : (lN (oI (cb S base n) i)).toInt32 = nI (oI b i) := by rw [lN_i, hb]
        rw [c_o o, bs, kI, xb_mk, c_o (G147 hS), bs, kI2, k_nameOf hS hR ht hI64, y1, xb_mk]
        show ∃ τ', ((xgI (cH sk L τ) 5 12 p).bind _) = _ ∧ _
        rw [C5g12 z3, bs, hfl]
        by_cases cw : w ∈ s.2.2
        · rw [decide_eq_true cw, if_neg (show ¬ bI true = 0 by decide), C3g17 (G147 hS), bs, h17, nI_add, C3p17 (G147 hS), bs]
          obtain ⟨τ1, hτ1⟩ : ∃ x, x = tI τ 147 17 (nI (s.2.1 + 1)) := ⟨_, rfl⟩
          have f1 : frTk t N τ τ1 := by rw [hτ1]; exact frTk_I hn1 (Or.inl ⟨rfl, by omega⟩)
          have hD1 : cD sk L τ1 q g base n S := cD_mv hD EX_refl (SF_Tk f1) (by omega) hg7
          have hR1 := GR_Tk hR f1
          have hp1 : RPd τ1 t (cb S base n) base u s.1 := fun j hj => isPd_fr (by rw [← hb]; exact hRP j hj) (fun k => by rw [hτ1]; exact tI_ne (Or.inl (by omega)))
          have kZ := k_Z (F := F) (c := c) hD1.1.1.1 (by omega) iS
          obtain ⟨τ2, d1, d2, d3⟩ := k_dropParts (F := F) (c := c) hS hF hq.2 ht h1i iS (by rw [← hb]; exact cT) hR1 hD1 hp1
          have n1 : NP sk L τ1 own := NP_fx hn1 (fun A _ => by rw [hτ1]; rfl)
          have f2 : frTk t N τ1 τ2 := frTk_Op n1 d3 ht
          have n2 : NP sk L τ2 own := NP_fx n1 (fun A _ => d3.2.2.2.2.2 A)
          have e149 : eN τ2 149 = eN τ 149 := by rw [d3.2.2.2.2.2, hτ1]; rfl
          have hC2 : CLn sk L τ2 tb xs od s.2.2 := CLn_fx hC hn1 EX_refl (fun a k h => by rw [d3.1 a k (by omega), hτ1]; exact tI_ne (by omega)) (fun a k h => by rw [d3.2.1 a k (by omega), hτ1]; rfl) (fun a k h => by rw [d3.2.2.1 a k, hτ1]; rfl) e149 (by rw [d3.2.2.2.2.2, hτ1]; rfl)
          have hp2 : p = pN τ2 149 (plc w (xs.map Prod.fst)) := by rw [hp, hP]; unfold pN; rw [e149]
          have z22 : eN τ2 149 P = some p := by rw [e149]; exact z2
          have hC3 := CLn_sg (sg' := s.2.2) hC2 n2 hnd y2 hp2 (fun v => ⟨Or.inr, fun q => q.elim (fun e => by rw [e]; exact cw) id⟩)
          have f3 : frTk t N τ2 (tI τ2 p 12 (bI true)) := frTk_p n2 z22
          have hp15 := (n2 149 P p (Or.inr (Or.inr rfl)) z22).1
          obtain ⟨τ', j1, j2, j3, j4⟩ := go (mkD t b i 1 (oZ b i / 4 - 1) s.1, s.2.1 + 1, s.2.2) (tI τ2 p 12 (bI true)) (dgi cw).symm (Nat.le_refl _) ⟨NP_fx n2 (fun _ _ => rfl), hC3, RSy_fx hRS e149 (fun k _ => by show eN τ2 1692 _ = _; rw [d3.2.2.2.2.2, hτ1]; rfl), fun j hj => isPd_fr (by rw [hb]; exact d2 j hj) (fun k => tI_ne (Or.inl (by omega))), by
            show fI (tI τ2 p 12 (bI true)) 147 17 = nI (s.2.1 + 1)
            rw [tI_ne (Or.inl (by omega)), d3.1 147 17 (by omega), hτ1, tI_at]⟩ (frTk_trans f1 (frTk_trans f2 f3 (Nat.le_refl _)) (Nat.le_refl _)) ⟨frTq_trans (by rw [hτ1]; exact frTq_I (Or.inr ⟨rfl, by decide⟩)) (frTq_trans (frTq_Op d3) (frTq_I (Or.inl hp15))), by show fN τ2 147 13 = _; rw [d3.2.2.1, hτ1]; rfl⟩
          refine ⟨τ', ?_, j2, j3, j4⟩
          rw [← hτ1, c_o o, bs, kZ, xb_mk, c_o (G147 hS), bs, lN_i, d1, xb_mk]
          unfold f_Link_dropGroups_98
          rw [bs, show xpZ _ 5 12 p (nI 1) = _ from C5z12 z3 true, bs]
          exact j1
        · rw [decide_eq_false cw, if_pos (show bI false = 0 from rfl)]
          have hC3 := CLn_sg (sg' := s.2.2 ++ [w]) (p := p) hC hn1 hnd y2 (by rw [hp, hP]) (fun v => by rw [List.mem_append, List.mem_singleton]; exact Or.comm)
          have hp15 := (hn1 149 P p (Or.inr (Or.inr rfl)) z2).1
          obtain ⟨τ', j1, j2, j3, j4⟩ := go (s.1, s.2.1, s.2.2 ++ [w]) (tI τ p 12 (bI true)) (dgn cw).symm (Nat.le_succ _) ⟨NP_fx hn1 (fun _ _ => rfl), hC3, RSy_fx hRS rfl (fun k _ => rfl), fun j hj => isPd_fr (hRP j hj) (fun k => tI_ne (Or.inl (by omega))), (tI_ne (Or.inl (by omega))).trans h17⟩ (frTk_p hn1 z2) ⟨frTq_I (Or.inl hp15), rfl⟩
          refine ⟨τ', ?_, j2, j3, j4⟩
          unfold f_Link_dropGroups_98
          rw [bs, show xpZ _ 5 12 p (nI 1) = _ from C5z12 z3 true, bs]
          exact j1
      · have hg0 : gN (cb S base n) i 0 = 0 := by rw [← hb] at hgn ⊢; omega
        rw [hg0, if_neg (show ¬ lN 0 = lN 1 by decide)]
        exact go s τ (dg1_no (fun q => cG q.2)).symm (Nat.le_succ _) hs frTk_refl ⟨frTq_refl, rfl⟩
    · have hT32 : oT (cb S base n) i < 2 ^ 32 := le_lt (fun k => cb_lt _ _ _ k) _ _
      rw [if_neg (show ¬ lN (oT (cb S base n) i) = 17 from fun q => cT (by rw [hb]; exact (lEQ (a := oT (cb S base n) i) (b := 17) (by omega) (by decide)).mp q))]
      exact go s τ (dg1_no (fun q => cT q.1)).symm (Nat.le_succ _) hs frTk_refl ⟨frTq_refl, rfl⟩
end CDH
