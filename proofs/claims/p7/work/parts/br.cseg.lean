/-! findSegments of the class, whole -/
section CSGB
variable {F : Nat} {c : px_CT} {sk : Nat → Nat × Nat × Nat} {L : Nat} {τ : px_TT} {own : Nat → Nat × Nat} {fs : px_FS} {s : px_TK} {xs : px_NL} {ST rn : Nat → Bool} {ll : List Nat}
theorem k_laid {d : Nat} (h : TKe sk L own τ fs s xs ST rn) (hok : okL xs) (hd : d < xs.length) : f_Layout_isLaidCommon F c (some (pN τ 149 d)) (cH sk L τ) = some (bI (decide (stN xs d = 2) && rn d), cH sk L τ) ∧ ob sk L 5 (pN τ 149 d) ∧ (stN xs d = 2 → fJ τ (pN τ 149 d) 8 = lN (cmZ xs d) ∧ fJ τ (pN τ 149 d) 7 = lN (cmV xs d)) ∧ cmZ xs d < 2 ^ 31 ∧ cmV xs d < 2 ^ 31 := by
  have hx := List.getElem?_eq_getElem hd
  generalize xs[d] = x at hx
  obtain ⟨z1, z2, z3, z4⟩ := CLm_at h.2.2.2.1.2.1 hx
  obtain ⟨⟨c1, c2, d1, d2, d3, d4, d5⟩, c13⟩ := h.2.2.2.1.2.1.2.1 d x hx
  have h4 := h.2.2.2.2.2.1 d x hx
  have hr := hok d x hx
  have ez : cmZ xs d = x.2.2.2.2.2.2.1 := by unfold cmZ; rw [List.getD_eq_getElem?_getD, hx]; rfl
  have ev : cmV xs d = x.2.2.2.2.2.2.2 := by unfold cmV; rw [List.getD_eq_getElem?_getD, hx]; rfl
  refine ⟨?_, z3, fun e => ?_, by rw [ez]; exact hr.2.1, by rw [ev]; exact hr.2.2⟩
  · unfold f_Layout_isLaidCommon f_Layout_isLaidCommon_19 f_Layout_isLaidCommon_20
    rw [bs, C5g5 z3, bs, stN_at hx]
    by_cases e2 : x.2.1 = 2
    · rw [if_pos (d3 e2).1, C5g13 z3, bs, c13 e2, decide_eq_true e2, Bool.true_and]
      cases rn d with
      | false => rw [if_pos (show bI false = 0 from rfl), xz_0]
      | true => rw [if_neg (show ¬ bI true = 0 by decide), xz_1]
    · have hne : ¬ fI τ (pN τ 149 d) 5 = nI 3 := by
        by_cases e0 : x.2.1 = 0
        · rw [d1 e0]; decide
        · by_cases e4 : x.2.1 = 4
          · rw [(d2 e4).1]; decide
          · have e13 : x.2.1 = 1 ∨ x.2.1 = 3 := by omega
            cases eb : x.2.2.2.2.1 with
            | none => rw [(d4 e13 eb).1]; decide
            | some q =>
              obtain ⟨_, e5, e6⟩ := d5 e13 q.1 q.2 eb
              by_cases w : yW (tB fs s.2.2.1 q.1) q.2 = 65521
              · rw [e5 w]; decide
              · rw [(e6 w).1]; decide
      rw [if_neg hne, xz_0, decide_eq_false e2]
      rfl
  · rw [stN_at hx] at e
    rw [ez, ev]
    exact ⟨(d3 e).2.2, (d3 e).2.1⟩
theorem k_sg_114 (hF : 65536 < F) (hok : okL xs) {on : Bool} {rn0 : Nat → Bool} (hrn : ∀ i, rn i = (!on || rn0 i)) : ∀ (d P f : Nat) (τ : px_TT) (v : Nat → Bool), P + d = s.1.2.2.1.length → d < f → TKe sk L own τ fs s xs ST rn → thV τ v → ∃ τ', f_Layout_findSegments_114 F c f 1700 (nI P) (cH sk L τ) = f_Layout_findSegments_176 F c 1700 (cH sk L τ') ∧ thV τ' (fun i => v i || (decide (i = 2) && (s.1.2.2.1.drop P).any (thc xs on rn0))) ∧ frSg τ τ' := by
  intro d
  induction d with
  | zero =>
    intro P f τ v hP hf h hv
    obtain ⟨f, rfl⟩ : ∃ x, f = x + 1 := ⟨f - 1, by omega⟩
    have hol := h.2.2.2.2.1.1.2.2.2.1
    have hT := BK_T (s := s) h.2.2.2.2.1.1
    refine ⟨τ, ?_, ?_, frSg_refl⟩
    · unfold f_Layout_findSegments_114
      rw [C2r0 (G1700 h.1) (GR_r (v := 147) h.2.1 (by decide)), bs, C3g15 (G147 h.1), bs, h.2.2.2.1.2.1.2.2.1, if_pos (nI_le (by omega) (by omega))]
    · rw [List.drop_of_length_le (by omega)]
      exact thV_eq hv (fun i _ => by rw [List.any_nil, Bool.and_false, Bool.or_false])
  | succ d ih =>
    intro P f τ v hP hf h hv
    obtain ⟨f, rfl⟩ : ∃ x, f = x + 1 := ⟨f - 1, by omega⟩
    have hol := h.2.2.2.2.1.1.2.2.2.1
    have hT := BK_T (s := s) h.2.2.2.2.1.1
    have hS := h.1
    have hR := h.2.1
    have o := G1700 hS
    have hPl : P < s.1.2.2.1.length := by omega
    have hx := List.getElem?_eq_getElem hPl
    have hdr : s.1.2.2.1.drop P = s.1.2.2.1[P] :: s.1.2.2.1.drop (P + 1) := List.drop_eq_getElem_cons hPl
    generalize s.1.2.2.1[P] = D at hx hdr
    obtain ⟨q1, q2⟩ := h.2.2.2.1.2.1.2.2.2 P D hx
    obtain ⟨k1, k2, k3, k4, k5⟩ := k_laid (F := F) (c := c) h hok q1
    have wr : ∀ w : Bool, w = (v 2 || thc xs on rn0 D) → ∃ τ', f_Layout_findSegments_169 F c (f_Layout_findSegments_114 F c f) 1700 (nI P) 1703 (nI 2) (bI w) (cH sk L τ) = f_Layout_findSegments_176 F c 1700 (cH sk L τ') ∧ thV τ' (fun i => v i || (decide (i = 2) && (s.1.2.2.1.drop P).any (thc xs on rn0))) ∧ frSg τ τ' := fun w hw => by
      have eb : bI w &&& 1 = bI w := by cases w <;> rfl
      have f1 : frSg τ (vI τ 1703 (upd (eI τ 1703) 2 (bI w))) := frSg_v
      obtain ⟨τ', j1, j2, j3⟩ := ih (P + 1) f _ _ (by omega) (by omega) (TKe_Ly h (frSg_Ly f1)) (thV_up (i := 2) (w := w) hv)
      refine ⟨τ', ?_, ?_, frSg_trans f1 j3⟩
      · unfold f_Layout_findSegments_169
        rw [eb, c_sI (G1703 hS) (by decide) (by decide) (by decide), bs, nI_add]
        exact j1
      · refine thV_eq j2 (fun i hi => ?_)
        show (v i || (decide (i = 2) && (s.1.2.2.1.drop P).any (thc xs on rn0))) = ((if i = 2 then w else v i) || (decide (i = 2) && (s.1.2.2.1.drop (P + 1)).any (thc xs on rn0)))
        rw [hdr, List.any_cons]
        by_cases c2 : i = 2
        · rw [if_pos c2, decide_eq_true c2, Bool.true_and, Bool.true_and, hw, c2, Bool.or_assoc]
        · rw [if_neg c2, decide_eq_false c2, Bool.false_and, Bool.false_and]
    unfold f_Layout_findSegments_114 f_Layout_findSegments_164 f_Layout_findSegments_168
    rw [C2r0 o (GR_r (v := 147) hR (by decide)), bs, C3g15 (G147 hS), bs, h.2.2.2.1.2.1.2.2.1, if_neg (nI_ge hPl (by omega)), bs, c_o (G147 hS), bs, k_definedAt h hx, xb_mk, C2r4 o (GR_r (v := 1703) hR (by decide)), bs, bs, c_aI (G1703 hS) (by decide) (by decide) (by decide), bs, hv 2 (by decide)]
    have ethc : thc xs on rn0 D = ((decide (stN xs D = 2) && rn D) && decide (0 < cmZ xs D)) := by unfold thc cB; rw [hrn D]
    cases e : v 2 with
    | true =>
      rw [if_neg (show ¬ bI true = 0 by decide)]
      exact wr true (by rw [e]; rfl)
    | false =>
      rw [if_pos (show bI false = 0 from rfl), k1, xb_mk]
      cases e2 : (decide (stN xs D = 2) && rn D) with
      | false =>
        rw [if_pos (show bI false = 0 from rfl)]
        exact wr false (by rw [e, ethc, e2]; rfl)
      | true =>
        have hst := of_decide_eq_true ((Bool.and_eq_true _ _).mp e2).1
        rw [if_neg (show ¬ bI true = 0 by decide), bs, C5g8 k2, bs, (k3 hst).1]
        by_cases cz : cmZ xs D ≤ 0
        · rw [if_pos ((pk_lLE (by omega) (by decide)).mpr cz)]
          exact wr false (by rw [e, ethc, e2, decide_eq_false (by omega)]; rfl)
        · rw [if_neg (fun w => cz ((pk_lLE (by omega) (by decide)).mp w))]
          exact wr true (by rw [e, ethc, e2, decide_eq_true (by omega)]; rfl)
/-- which segments are there -/
theorem k_findSegments {on : Bool} {rn0 : Nat → Bool} {ns : Nat} (hF : 65536 < F) (hc : KT c) (hk : STk fs s ST) (hl : llS2 s ST ll) (hok : okL xs) (hrn : ∀ i, rn i = (!on || rn0 i)) (h : TKe sk L own τ fs s xs ST rn) (ho : COr τ ll) (h12 : fI τ 1700 12 = nI ns) (hns : ns < 2 ^ 31) : ∃ τ', f_Layout_findSegments F c 1700 (cH sk L τ) = some ((), cH sk L τ') ∧ (∀ i, i < 3 → eI τ' 1703 i = bI (thS (tB fs s.2.2.1) ll xs s.1.2.2.1 on rn0 ns i)) ∧ eI τ' 1703 3 = bI (ll.any (thr1 (tB fs s.2.2.1))) ∧ (∀ i, i < 4 → eJ τ' 1704 i = lN 0 ∧ eJ τ' 1706 i = lN 0 ∧ eJ τ' 1707 i = lN 0) ∧ eJ τ' 1705 = eJ τ 1705 ∧ ((∀ a k, fI τ' a k = fI τ a k) ∧ (∀ a k, fJ τ' a k = fJ τ a k) ∧ (∀ a, a ≠ 1703 → eI τ' a = eI τ a) ∧ ∀ a, eN τ' a = eN τ a) ∧ frLy τ τ' := by
  have hS := h.1
  have hR := h.2.1
  have o := G1700 hS
  have hol := h.2.2.2.2.1.1.2.2.2.1
  have hT := BK_T (s := s) h.2.2.2.2.1.1
  have hll := hl.1
  obtain ⟨τ1, a1, a2, a3⟩ := k_fillA (F := F) (c := c) (τ := τ) (G1704 hS) (by omega)
  obtain ⟨τ2, b1, b2, b3⟩ := k_fillA (F := F) (c := c) (τ := τ1) (G1706 hS) (by omega)
  obtain ⟨τ3, d1, d2, d3⟩ := k_fillA (F := F) (c := c) (τ := τ2) (G1707 hS) (by omega)
  have l1 : frLy τ τ1 := frFj_Ly a3 (by decide)
  have l2 : frLy τ τ2 := frLy_trans l1 (frFj_Ly b3 (by decide))
  have l3 : frLy τ τ3 := frLy_trans l2 (frFj_Ly d3 (by decide))
  have hR1 := GR_Ly hR l1
  have hR2 := GR_Ly hR l2
  have hR3 := GR_Ly hR l3
  obtain ⟨τ4, e1, e2, e3⟩ := k_sg_26 (F := F) (c := c) hS 4 0 F τ3 rfl (by omega) hR3 (fun i hi => by omega)
  have l4 := frLy_trans l3 (frSg_Ly e3)
  have eE4 : ∀ a, eN τ4 a = eN τ a := fun a => by rw [e3.2.2.2.2.2, d3.2.2.2.2.2, b3.2.2.2.2.2, a3.2.2.2.2.2]
  have eI4 : ∀ a k, fI τ4 a k = fI τ a k := fun a k => by rw [e3.1, d3.1, b3.1, a3.1]
  obtain ⟨τ5, g1, g2, g3⟩ := k_sg_46 (F := F) (c := c) hF hc hk hl ll.length 0 F τ4 _ (Nat.zero_add _) (by omega) (TKe_Ly h l4) (COr_fx ho (eI4 1700 11) (eE4 1701)) e2
  have l5 := frLy_trans l4 (frSg_Ly g3)
  obtain ⟨τ6, j1, j2, j3⟩ := k_sg_114 (F := F) (c := c) hF hok hrn s.1.2.2.1.length 0 F τ5 _ (Nat.zero_add _) (by omega) (TKe_Ly h l5) g2
  have l6 := frLy_trans l5 (frSg_Ly j3)
  have hR6 := GR_Ly hR l6
  rw [List.drop_zero] at g2 j2
  have s36 := frSg_trans e3 (frSg_trans g3 j3)
  have h126 : fI τ6 1700 12 = nI ns := by rw [s36.1, d3.1, b3.1, a3.1]; exact h12
  obtain ⟨A, hA⟩ : ∃ A : Bool, A = ((ll.any (fun x => thx (tB fs s.2.2.1) 2 x)) || s.1.2.2.1.any (thc xs on rn0)) := ⟨_, rfl⟩
  have v2 : eI τ6 1703 2 = bI A := by
    rw [j2 2 (by decide), hA]
    rfl
  have fin : ∀ w : Bool, w = (A || decide (0 < ns)) → f_Layout_findSegments_202 F c 1703 (nI 2) (bI w) (cH sk L τ6) = some ((), cH sk L (vI τ6 1703 (upd (eI τ6 1703) 2 (bI w)))) ∧ (∀ i, i < 3 → eI (vI τ6 1703 (upd (eI τ6 1703) 2 (bI w))) 1703 i = bI (thS (tB fs s.2.2.1) ll xs s.1.2.2.1 on rn0 ns i)) ∧ eI (vI τ6 1703 (upd (eI τ6 1703) 2 (bI w))) 1703 3 = bI (ll.any (thr1 (tB fs s.2.2.1))) := fun w hw => by
    have eb : bI w &&& 1 = bI w := by cases w <;> rfl
    refine ⟨?_, fun i hi => ?_, ?_⟩
    · unfold f_Layout_findSegments_202
      rw [eb, c_sI (G1703 hS) (by decide) (by decide) (by decide), bs]
    · rw [eI_v_eq]
      unfold thS
      by_cases c2 : i = 2
      · rw [c2, upd_eq, hw, hA, decide_eq_true rfl, Bool.true_and, Bool.or_assoc]
      · rw [upd_ne c2, j2 i (by omega), decide_eq_false c2, Bool.false_and, Bool.or_false]
        congr 1
        show ((false || ll.any (fun x => if i = 3 then thr1 (tB fs s.2.2.1) x else thx (tB fs s.2.2.1) i x)) || (decide (i = 2) && _)) = _
        rw [Bool.false_or, decide_eq_false c2, Bool.false_and, Bool.or_false]
        congr 1
        funext x
        rw [if_neg (by omega)]
    · rw [eI_v_eq, upd_ne (by decide), j2 3 (by decide)]
      congr 1
      show ((false || ll.any (fun x => if 3 = 3 then thr1 (tB fs s.2.2.1) x else thx (tB fs s.2.2.1) 3 x)) || (decide (3 = 2) && _)) = _
      rw [Bool.false_or, decide_eq_false (by decide), Bool.false_and, Bool.or_false]
      rfl
  have post : ∀ w : Bool, (∀ i, i < 4 → eJ (vI τ6 1703 (upd (eI τ6 1703) 2 (bI w))) 1704 i = lN 0 ∧ eJ (vI τ6 1703 (upd (eI τ6 1703) 2 (bI w))) 1706 i = lN 0 ∧ eJ (vI τ6 1703 (upd (eI τ6 1703) 2 (bI w))) 1707 i = lN 0) ∧ eJ (vI τ6 1703 (upd (eI τ6 1703) 2 (bI w))) 1705 = eJ τ 1705 ∧ ((∀ a k, fI (vI τ6 1703 (upd (eI τ6 1703) 2 (bI w))) a k = fI τ a k) ∧ (∀ a k, fJ (vI τ6 1703 (upd (eI τ6 1703) 2 (bI w))) a k = fJ τ a k) ∧ (∀ a, a ≠ 1703 → eI (vI τ6 1703 (upd (eI τ6 1703) 2 (bI w))) a = eI τ a) ∧ ∀ a, eN (vI τ6 1703 (upd (eI τ6 1703) 2 (bI w))) a = eN τ a) ∧ frLy τ (vI τ6 1703 (upd (eI τ6 1703) 2 (bI w))) := fun w => by
    refine ⟨fun i hi => ⟨?_, ?_, ?_⟩, ?_, ⟨fun a k => ?_, fun a k => ?_, fun a ha => ?_, fun a => ?_⟩, frLy_trans l6 (frSg_Ly frSg_v)⟩
    · show eJ τ6 1704 i = _
      rw [s36.2.2.2.2.1, d3.2.2.2.2.1 1704 (by decide), b3.2.2.2.2.1 1704 (by decide)]; exact a2 i hi
    · show eJ τ6 1706 i = _
      rw [s36.2.2.2.2.1, d3.2.2.2.2.1 1706 (by decide)]; exact b2 i hi
    · show eJ τ6 1707 i = _
      rw [s36.2.2.2.2.1]; exact d2 i hi
    · show eJ τ6 1705 = _
      rw [s36.2.2.2.2.1, d3.2.2.2.2.1 1705 (by decide), b3.2.2.2.2.1 1705 (by decide), a3.2.2.2.2.1 1705 (by decide)]
    · show fI τ6 a k = _
      rw [s36.1, d3.1, b3.1, a3.1]
    · show fJ τ6 a k = _
      rw [s36.2.1, d3.2.1, b3.2.1, a3.2.1]
    · rw [eI_v_ne ha, s36.2.2.2.1 a ha, d3.2.2.2.1, b3.2.2.2.1, a3.2.2.2.1]
    · show eN τ6 a = _
      rw [s36.2.2.2.2.2, d3.2.2.2.2.2, b3.2.2.2.2.2, a3.2.2.2.2.2]
  have main : ∃ w : Bool, w = (A || decide (0 < ns)) ∧ f_Layout_findSegments_176 F c 1700 (cH sk L τ6) = f_Layout_findSegments_202 F c 1703 (nI 2) (bI w) (cH sk L τ6) := by
    unfold f_Layout_findSegments_176 f_Layout_findSegments_197
    rw [C2r4 o (GR_r (v := 1703) hR6 (by decide)), bs, bs, c_aI (G1703 hS) (by decide) (by decide) (by decide), bs, v2]
    cases A with
    | true => rw [if_neg (show ¬ bI true = 0 by decide)]; exact ⟨true, rfl, rfl⟩
    | false =>
      rw [if_pos (show bI false = 0 from rfl), C2g12 o, bs, h126]
      by_cases cn : ns ≤ 0
      · rw [if_pos (show nI ns ≤ 0 from nI_le (b := 0) cn (by decide))]
        exact ⟨false, by rw [decide_eq_false (by omega)]; rfl, rfl⟩
      · rw [if_neg (show ¬ nI ns ≤ 0 from nI_ge (a := 0) (by omega) hns)]
        exact ⟨true, by rw [decide_eq_true (by omega)]; rfl, rfl⟩
  obtain ⟨w, w1, w2⟩ := main
  obtain ⟨u1', u2', u3'⟩ := fin w w1
  refine ⟨_, ?_, u2', u3', post w⟩
  unfold f_Layout_findSegments
  rw [C2r5 o (GR_r (v := 1704) hR (by decide)), bs, a1, xb_mk, C2r7 o (GR_r (v := 1706) hR1 (by decide)), bs, b1, xb_mk, C2r8 o (GR_r (v := 1707) hR2 (by decide)), bs, d1, xb_mk, e1]
  unfold f_Layout_findSegments_44
  rw [g1]
  unfold f_Layout_findSegments_112
  rw [j1, w2]
  exact u1'
end CSGB
