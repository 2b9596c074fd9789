/-! defineOwn of the class, whole -/
section COY
variable {F : Nat} {c : px_CT} {sk : Nat → Nat × Nat × Nat} {L : Nat} {τ τ' : px_TT} {own : Nat → Nat × Nat} {fs : px_FS} {s : px_TK} {xs : px_NL} {i wh : Nat} {w : List Nat} {gs : List (List Nat × Int64)} {ws : List (List Nat)}
theorem TKo_N (h : TKo sk L own τ fs s xs) (f1 : frN 1695 τ τ') : TKo sk L own τ' fs s xs ∧ frLn xs.length τ τ' := by
  obtain ⟨h1, h2, h3, h4, h5, h6, h7, h8⟩ := h
  have fl : frLn xs.length τ τ' := by
    refine ⟨fun a j _ h _ _ _ _ => f1.1 a j (Or.inl h), fun a j _ h _ => f1.2.1 a j (Or.inl h), fun a j _ _ => f1.2.2.1 a j, f1.2.2.2.1, f1.2.2.2.2.1, fun a _ _ _ _ => f1.2.2.2.2.2 a, fun i _ => by rw [f1.2.2.2.2.2], fun B i p hB hp => ?_⟩
    have := (h4.1 B i p (by omega) hp).1
    exact ⟨fun j => f1.1 p j (Or.inl (by omega)), fun j => f1.2.1 p j (Or.inl (by omega)), fun j => f1.2.2.1 p j⟩
  have hT : (sX s xs).2.2.1.length ≤ 64 := BK_T (s := s) h5.1
  exact ⟨⟨h1, GR_Ln h2 fl, CF_mv h3 EX_refl (SF_Ln fl), CK_fx h4 hT (fun a j h => f1.1 a j (Or.inl h)) (fun a j h => f1.2.1 a j (Or.inl h)) f1.2.2.1 f1.2.2.2.2.2, h5, h6, h7, by rw [f1.2.2.1]; exact h8⟩, fl⟩
theorem k_find1 {t : Nat} (h : TKo sk L own τ fs s xs) (hF : 4128 < F) (ht : ob sk L 5 t) (hw : isNm τ t w) (hok : okN w) : f_Names_find F c 148 (some t) (cH sk L τ) = some ((idx w 0 (xs.map Prod.fst)).map (pN τ 149), cH sk L τ) := by
  have hC := h.2.2.2.1.2.1
  have hl : (xs.map Prod.fst).length ≤ 4128 := hC.1.2.2.2.1
  exact k_find hC.1 ht hw hok (by omega)
theorem k_defineOwn (hF : 65536 < F) (h : TKo sk L own τ fs s xs) (hx3 : xsl i = some (nI w.length) ∧ (∀ j, j < w.length → xsc i (nI j) = some (nI (w.getD j 0))) ∧ okN w) (hwh : wh < 4) : ∃ τ', f_Link_defineOwn F c 147 i (nI wh) (cH sk L τ) = some ((), cH sk L τ') ∧ TKo sk L own τ' fs s (own1 (wh + 1) w xs) ∧ frLn xs.length τ τ' := by
  have hS := h.1
  have o147 := G147 hS
  obtain ⟨τ1, a1, a2, a3⟩ := k_setText (F := F) (c := c) (τ := τ) (by omega) (G1695 hS) hx3.1 hx3.2.1 hx3.2.2
  obtain ⟨t1, f1⟩ := TKo_N h a2
  have hR1 := t1.2.1
  have kf := k_find1 (F := F) (c := c) t1 (by omega) (G1695 hS) a3 hx3.2.2
  have eq : f_Link_defineOwn F c 147 i (nI wh) (cH sk L τ) = (match (idx w 0 (xs.map Prod.fst)).map (pN τ1 149) with
    | none => f_Link_defineOwn_47 F c (cH sk L τ1)
    | some p7 => (xgI (cH sk L τ1) 5 4 p7).bind fun t8 =>
    if t8 = 0 then
      (xpI (cH sk L τ1) 5 4 p7 (nI 3)).bind fun ph9 =>
      (xpI ph9 5 5 p7 (nI 4)).bind fun ph10 =>
      (xpJ ph10 5 7 p7 (nI wh).toInt64).bind fun ph11 =>
      f_Link_defineOwn_47 F c ph11
    else
      f_Link_defineOwn_47 F c (cH sk L τ1)) := by
    unfold f_Link_defineOwn
    rw [C3r11 o147 (GR_r (v := 1695) h.2.1 (by decide)), bs, c_o (G1695 hS), bs, a1, xb_mk, C3r3 o147 (GR_r (v := 148) hR1 (by decide)), bs, C3r11 o147 (GR_r (v := 1695) hR1 (by decide)), bs, c_o (G148 hS), bs, kf, xb_mk]
    rfl
  rw [eq]
  unfold own1
  cases ei : idx w 0 (xs.map Prod.fst) with
  | none => exact ⟨τ1, rfl, t1, f1⟩
  | some P =>
    show ∃ τ', ((xgI (cH sk L τ1) 5 4 (pN τ1 149 P)).bind _) = _ ∧ TKo sk L own τ' fs s (if stN xs P = 0 then setR xs P (fun r => (4, r.2.1, wh + 1, r.2.2.2)) else xs) ∧ _
    have hpl := idx_some ei
    rw [Nat.sub_zero, List.getElem?_map] at hpl
    obtain ⟨x, hx⟩ : ∃ x, xs[P]? = some x := by
      cases e : xs[P]? with
      | none => rw [e] at hpl; cases hpl
      | some x => exact ⟨x, rfl⟩
    obtain ⟨g1, g2, g3, g4, g5, g6, g7, g8⟩ := id t1
    have hC := g4.2.1
    obtain ⟨z1, z2, z3, z4⟩ := CLn_at hC hx
    have zq := (g4.1 149 P _ (Or.inr (Or.inr rfl)) z2).1
    have hcr := (hC.2.1 P _ hx).1
    have hx4 : x.2.1 ≤ 4 := g6 P x hx
    obtain ⟨p, hp⟩ : ∃ p, p = pN τ1 149 P := ⟨_, rfl⟩
    rw [← hp] at z2 z3 z4 zq hcr ⊢
    rw [C5g4 z3, bs, hcr.1, stN_at hx]
    by_cases c0 : x.2.1 = 0
    · rw [if_pos c0, c0, if_neg (show ¬ (0 = 4) by decide), if_pos (show nI 0 = 0 from rfl), C5p4 z3, bs, C5p5 z3, bs, C5p7 z3, bs]
      obtain ⟨τ2, hτ2⟩ : ∃ y, y = tJ (tI (tI τ1 p 4 (nI 3)) p 5 (nI 4)) p 7 (nI wh).toInt64 := ⟨_, rfl⟩
      rw [← hτ2]
      have fx : frX p τ1 τ2 := by
        rw [hτ2]
        refine ⟨fun a j ha _ => ?_, fun a j ha => tJ_ne (Or.inl ha), fun _ _ _ => rfl, ⟨fun j hj => tJ_ne (Or.inr (by omega)), ?_, ?_⟩, fun _ => rfl, fun _ => rfl, fun _ _ => rfl⟩
        · simp only [fI_tJ, fI_tI, ha, false_and, if_false]
        · simp [fI_tJ, fI_tI]
        · simp [fI_tJ, fI_tI]
      have e15 : fI τ2 147 15 = fI τ1 147 15 := by
        rw [hτ2]
        have : ¬ (147 = p) := by omega
        simp only [fI_tJ, fI_tI, this, false_and, if_false]
      have hc2 : crec (tB fs s.2.2.1) τ2 p (4, x.2.2.1, wh + 1, x.2.2.2.2) := by
        obtain ⟨_, ⟨a, b', q1, q2, q3⟩, _, _, q15, q16⟩ := hcr
        refine ⟨?_, ⟨a, b', ?_, ?_, q3⟩, ⟨fun q => (nomatch q), fun _ => ⟨?_, ?_⟩, fun q => (nomatch q), fun q => q.elim (fun q => nomatch q) (fun q => nomatch q), fun q => q.elim (fun q => nomatch q) (fun q => nomatch q)⟩, (fun q => q.elim (fun q => nomatch q) (fun q => q.elim (fun q => nomatch q) (fun q => nomatch q))), by rw [hτ2]; simp only [fI_tJ, fI_tI]; rw [if_neg (by omega), if_neg (by omega)]; exact q15, by rw [hτ2]; simp only [fI_tJ, fI_tI]; rw [if_neg (by omega), if_neg (by omega)]; exact q16⟩
        · rw [if_pos rfl, hτ2]; simp [fI_tJ, fI_tI]
        · rw [hτ2]; simp only [fI_tJ, fI_tI]; rw [if_neg (by omega), if_neg (by omega)]; exact q1
        · rw [hτ2]; simp only [fI_tJ, fI_tI]; rw [if_neg (by omega), if_neg (by omega)]; exact q2
        · rw [hτ2]; simp [fI_tJ, fI_tI]
        · rw [hτ2, tJ_at]
          show (nI wh).toInt64 = lN (wh + 1 - 1)
          rw [Nat.add_sub_cancel, nI_l (by omega)]
      have hk2 := CK_X (f := fun r => (4, r.2.1, wh + 1, r.2.2.2)) g4 (BK_T g5.1) hx hp fx e15 (by rw [hτ2]; rfl) hc2
      have fl2 : frLn xs.length τ1 τ2 := frLn_Tk (t := 0) (frTk_X g4.1 z2 fx) (by decide)
      refine ⟨τ2, rfl, ⟨g1, GR_Ln g2 fl2, CF_mv g3 EX_refl (SF_Ln fl2), hk2, g5, ?_, ?_, ?_⟩, frLn_trans f1 fl2 (Nat.le_refl _)⟩
      · exact AL_setR (P := fun x => x.2.1 ≤ 4) g6 (fun y _ => Nat.le_refl _)
      · rw [setR_fst]; exact g7
      · rw [hτ2]; exact g8
    · rw [if_neg c0, if_neg (show ¬ nI (if x.2.1 = 4 then 3 else x.2.1) = 0 from fun q => by
        have := (nI_eq (b := 0) (by split <;> omega) (by decide)).mp q
        split at this <;> omega)]
      exact ⟨τ1, rfl, t1, f1⟩
theorem own1_lenx {k : Nat} : (own1 k w xs).length = xs.length := own1_len
/-- the four names of the linker -/
theorem k_own4 (hF : 65536 < F) (h : TKo sk L own τ fs s xs) : ∃ τ1 τ2 τ3 τ4, f_Link_defineOwn F c 147 16 (nI 0) (cH sk L τ) = some ((), cH sk L τ1) ∧ f_Link_defineOwn F c 147 17 (nI 1) (cH sk L τ1) = some ((), cH sk L τ2) ∧ f_Link_defineOwn F c 147 18 (nI 2) (cH sk L τ2) = some ((), cH sk L τ3) ∧ f_Link_defineOwn F c 147 19 (nI 3) (cH sk L τ3) = some ((), cH sk L τ4) ∧ TKo sk L own τ4 fs s (ownL xs) ∧ frLn xs.length τ τ4 := by
  obtain ⟨τ1, a1, a2, a3⟩ := k_defineOwn (F := F) (c := c) (wh := 0) hF h xs_16 (by decide)
  obtain ⟨τ2, b1, b2, b3⟩ := k_defineOwn (F := F) (c := c) (wh := 1) hF a2 xs_17 (by decide)
  obtain ⟨τ3, c1, c2, c3⟩ := k_defineOwn (F := F) (c := c) (wh := 2) hF b2 xs_18 (by decide)
  obtain ⟨τ4, d1, d2, d3⟩ := k_defineOwn (F := F) (c := c) (wh := 3) hF c2 xs_19 (by decide)
  rw [own1_len] at b3
  rw [own1_len, own1_len] at c3
  rw [own1_len, own1_len, own1_len] at d3
  exact ⟨τ1, τ2, τ3, τ4, a1, b1, c1, d1, d2, frLn_trans a3 (frLn_trans b3 (frLn_trans c3 d3 (Nat.le_refl _)) (Nat.le_refl _)) (Nat.le_refl _)⟩
end COY
