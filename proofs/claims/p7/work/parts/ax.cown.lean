/-! defineOwn of the class -/
section COW
variable {F : Nat} {c : px_CT} {sk : Nat → Nat × Nat × Nat} {L : Nat} {τ : px_TT} {a i : Nat} {w : List Nat}
theorem k_setText_6 (ha : ob sk L 5 a) (hsl : xsl i = some (nI w.length)) (hsc : ∀ j, j < w.length → xsc i (nI j) = some (nI (w.getD j 0))) (hw : okN w) : ∀ (d j f : Nat) (τ : px_TT), j + d = w.length → d < f → isNm τ a (w.take j) → ∃ τ', f_Name_setText_6 F c f a i (nI j) (cH sk L τ) = some ((), cH sk L τ') ∧ frN a τ τ' ∧ isNm τ' a w := by
  have hl := hw.1
  intro d
  induction d with
  | zero =>
    intro j f τ hj hf hn
    obtain ⟨f, rfl⟩ : ∃ x, f = x + 1 := ⟨f - 1, by omega⟩
    refine ⟨τ, ?_, frN_refl _ _, ?_⟩
    · unfold f_Name_setText_6 f_Name_setText_29
      rw [hsl, bs, if_pos (nI_le (by omega) (by omega))]
    · rw [List.take_of_length_le (by omega)] at hn
      exact hn
  | succ d ih =>
    intro j f τ hj hf hn
    obtain ⟨f, rfl⟩ : ∃ x, f = x + 1 := ⟨f - 1, by omega⟩
    have hjl : j < w.length := by omega
    have hx : w.getD j 0 < 256 := by
      rw [List.getD_eq_getElem?_getD, List.getElem?_eq_getElem hjl]
      exact hw.2 _ (List.getElem_mem hjl)
    obtain ⟨τ1, a1, a2, a3⟩ := k_append (F := F) (c := c) (x := w.getD j 0) ha hn (by rw [List.length_take]; omega) (fun y hy => hw.2 y (List.mem_of_mem_take hy)) hx
    have e : w.take j ++ [w.getD j 0] = w.take (j + 1) := by
      rw [List.take_succ, List.getD_eq_getElem?_getD, List.getElem?_eq_getElem hjl]
      rfl
    rw [e] at a3
    obtain ⟨τ2, b1, b2, b3⟩ := ih (j + 1) f τ1 (by omega) (by omega) a3
    refine ⟨τ2, ?_, frN_trans a2 b2, b3⟩
    unfold f_Name_setText_6
    rw [hsl, bs, if_neg (nI_ge hjl (by omega)), hsc j hjl, bs, c_o ha, bs, a1, xb_mk, nI_add]
    exact b1
theorem k_setText (hF : 20 < F) (ha : ob sk L 5 a) (hsl : xsl i = some (nI w.length)) (hsc : ∀ j, j < w.length → xsc i (nI j) = some (nI (w.getD j 0))) (hw : okN w) : ∃ τ', f_Name_setText F c a i (cH sk L τ) = some ((), cH sk L τ') ∧ frN a τ τ' ∧ isNm τ' a w := by
  obtain ⟨τ1, a1, a2, a3⟩ := k_wipe (F := F) (c := c) (τ := τ) ha
  have hl := hw.1
  obtain ⟨τ2, b1, b2, b3⟩ := k_setText_6 (F := F) (c := c) ha hsl hsc hw w.length 0 F τ1 (by omega) (by omega) (by rw [List.take_zero]; exact a3)
  refine ⟨τ2, ?_, frN_trans a2 b2, b3⟩
  unfold f_Name_setText
  rw [c_o ha, bs, a1, xb_mk]
  exact b1
theorem xs_16 : xsl 16 = some (nI wO1.length) ∧ (∀ j, j < wO1.length → xsc 16 (nI j) = some (nI (wO1.getD j 0))) ∧ okN wO1 := by
  refine ⟨by decide +kernel, by decide +kernel, by decide, by decide⟩
theorem xs_17 : xsl 17 = some (nI wO2.length) ∧ (∀ j, j < wO2.length → xsc 17 (nI j) = some (nI (wO2.getD j 0))) ∧ okN wO2 := by
  refine ⟨by decide +kernel, by decide +kernel, by decide, by decide⟩
theorem xs_18 : xsl 18 = some (nI wO3.length) ∧ (∀ j, j < wO3.length → xsc 18 (nI j) = some (nI (wO3.getD j 0))) ∧ okN wO3 := by
  refine ⟨by decide +kernel, by decide +kernel, by decide, by decide⟩
theorem xs_19 : xsl 19 = some (nI wO4.length) ∧ (∀ j, j < wO4.length → xsc 19 (nI j) = some (nI (wO4.getD j 0))) ∧ okN wO4 := by
  refine ⟨by decide +kernel, by decide +kernel, by decide, by decide⟩
end COW
/-- the names replaced -/
def sX (s : px_TK) (xs : px_NL) : px_TK := ((s.1.1, xs, s.1.2.2), s.2)
theorem CC1_sX {τ : px_TT} {fs : px_FS} {s : px_TK} {xs xs' : px_NL} {q : Nat} (e : xs'.map Prod.fst = xs.map Prod.fst) (h : CC1 τ fs (sX s xs) q) : CC1 τ fs (sX s xs') q := by
  refine ⟨h.1, fun i w => ?_⟩
  obtain ⟨o, n, b, j, x1, x2, x3, x4, x5, x6⟩ := h.2 i w
  refine ⟨o, n, b, j, x1, x2, x3, x4, x5, ?_⟩
  show idx (yT b j) 0 (xs'.map Prod.fst) = some i
  rw [e]
  exact x6
/-- after the taking -/
def TKo (sk : Nat → Nat × Nat × Nat) (L : Nat) (own : Nat → Nat × Nat) (τ : px_TT) (fs : px_FS) (s : px_TK) (xs : px_NL) : Prop := GS sk L ∧ GR τ ∧ CF sk L τ fs ∧ CK sk L own τ fs (sX s xs) ∧ WK fs s ∧ AL (fun x => x.2.1 ≤ 4) xs ∧ xs.map Prod.fst = s.1.2.1.map Prod.fst ∧ fN τ 147 13 = some 1696
section COX
variable {F : Nat} {c : px_CT} {sk : Nat → Nat × Nat × Nat} {L : Nat} {τ τ' : px_TT} {own : Nat → Nat × Nat} {fs : px_FS} {s : px_TK} {xs : px_NL} {i wh : Nat} {w : List Nat} {gs : List (List Nat × Int64)} {ws : List (List Nat)}
theorem CK_X {P p : Nat} {x : List Nat × px_NR} {f : px_NR → px_NR} (h : CK sk L own τ fs (sX s xs)) (hT : s.2.2.1.length ≤ 64) (hx : xs[P]? = some x) (hp : p = pN τ 149 P) (hf : frX p τ τ') (e15 : fI τ' 147 15 = fI τ 147 15) (e93 : eN τ' 1693 = eN τ 1693) (hc : crec (tB fs s.2.2.1) τ' p (f x.2)) : CK sk L own τ' fs (sX s (setR xs P f)) := by
  obtain ⟨k1, k2, ⟨k3, k4⟩, k5, k6, k7, k8⟩ := h
  obtain ⟨z1, z2, z3, z4⟩ := CLn_at k2 hx
  have zq := (k1 149 P _ (Or.inr (Or.inr rfl)) z2).1
  rw [← hp] at zq
  rw [hp] at hf hc
  have hI : ∀ a j, a < 1815 → (a ≠ 147 ∨ j ≠ 15) → fI τ' a j = fI τ a j := fun a j h1 h2 => hf.1 a j (by omega) h2
  have e149 : eN τ' 149 = eN τ 149 := hf.2.2.2.2.2.2 149 (by decide)
  refine ⟨NP_X k1 hf, CLn_upd k2 k1 hx hf hc (od_keep k2 e15 e93), ⟨(hI 147 14 (by decide) (Or.inr (by decide))).trans k3, (hI 147 17 (by decide) (Or.inr (by decide))).trans k4⟩, fun t q hq => ?_, fun q hq => ⟨(hI _ 15 (by omega) (Or.inl (by omega))).trans (k6 q hq).1, CC1_sX (s := s) (setR_fst : (setR xs P f).map Prod.fst = xs.map Prod.fst) (CC1_fx (k6 q hq).2 (hI _ 16 (by omega) (Or.inl (by omega))))⟩, k7, k8⟩
  obtain ⟨r1, r2, r3⟩ := k5 t q hq
  have ht : t < s.2.2.1.length := (List.getElem?_eq_some_iff.mp hq).1
  refine ⟨fun j hj => isPd_fr (r1 j hj) (fun m => hI _ m (by omega) (Or.inl (by omega))), RSy_nm (RSy_fx r2 e149 (fun j _ => by rw [hf.2.2.2.2.2.2 1692 (by decide)])) ?_, by rw [hf.2.2.2.2.2.2 1689 (by decide)]; exact r3⟩
  show (setR xs P f).map Prod.fst = xs.map Prod.fst
  rw [setR_fst]
end COX
