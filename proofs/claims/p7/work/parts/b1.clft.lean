/-! isNameLeft of the class -/
section CLF
variable {F : Nat} {c : px_CT} {sk : Nat → Nat × Nat × Nat} {L : Nat} {τ : px_TT} {own : Nat → Nat × Nat} {fs : px_FS} {s : px_TK} {xs : px_NL} {ws : List (List Nat)} {w : List Nat}
/-- a name of the link is blamed -/
def BLn (τ τ' : px_TT) (xs : px_NL) : Prop := ∃ P, P < xs.length ∧ τ' = tN τ 147 13 (some (pN τ 149 P))
theorem k_wn (h : TKo sk L own τ fs s xs) (hw : w ∈ xs.map Prod.fst) : f_Link_isWanted F c (some (pN τ 149 (plc w (xs.map Prod.fst)))) (cH sk L τ) = some (bI (wnN xs w), cH sk L τ) ∧ plc w (xs.map Prod.fst) < xs.length := by
  have hl := plc_lt hw
  rw [List.length_map] at hl
  obtain ⟨P, hP⟩ : ∃ P, P = plc w (xs.map Prod.fst) := ⟨_, rfl⟩
  unfold wnN
  rw [← hP] at hl ⊢
  have hx := List.getElem?_eq_getElem hl
  generalize xs[P] = x at hx
  have hC := h.2.2.2.1.2.1
  obtain ⟨z1, z2, z3, z4⟩ := CLn_at hC hx
  have hcr := (hC.2.1 P _ hx).1
  rw [stN_at hx, flN_at hx]
  exact ⟨k_isWanted z3 hcr (h.2.2.2.2.2.1 P x hx), hl⟩
theorem k_nl_2 (hF : 65536 < F) (h : TKo sk L own τ fs s xs) (hc : CW sk L τ ws) (hws : ∀ w, w ∈ ws → w ∈ xs.map Prod.fst) : ∀ (d i f : Nat), i + d = ws.length → d < f → (ex1 (clW ws xs) i d = true ∧ ∃ τ', f_Link_isNameLeft_2 F c f 147 (nI i) (cH sk L τ) = some (nI 1, cH sk L τ') ∧ BLn τ τ' xs) ∨ (ex1 (clW ws xs) i d = false ∧ f_Link_isNameLeft_2 F c f 147 (nI i) (cH sk L τ) = f_Link_isNameLeft_53 F c 147 (cH sk L τ)) := by
  have hS := h.1
  have hR := h.2.1
  have o147 := G147 hS
  have hl16 : ws.length ≤ 16 := hc.2.2.2.1
  have hlx : (xs.map Prod.fst).length ≤ 4128 := h.2.2.2.1.2.1.1.2.2.2.1
  intro d
  induction d with
  | zero =>
    intro i f hi hf
    obtain ⟨f, rfl⟩ : ∃ x, f = x + 1 := ⟨f - 1, by omega⟩
    refine Or.inr ⟨rfl, ?_⟩
    unfold f_Link_isNameLeft_2
    rw [C3r2 o147 (GR_r (v := 143) hR (by decide)), bs, C6g2 hc.1, bs, hc.2.2.2.2.2.1, if_pos (nI_le (by omega) (by omega))]
  | succ d ih =>
    intro i f hi hf
    obtain ⟨f, rfl⟩ : ∃ x, f = x + 1 := ⟨f - 1, by omega⟩
    have hil : i < ws.length := by omega
    have hgi := List.getElem?_eq_getElem hil
    have hmem := List.getElem_mem hil
    have hgd : ws.getD i [] = ws[i] := by rw [List.getD_eq_getElem?_getD, hgi]; rfl
    generalize ws[i] = w at hgi hmem hgd
    obtain ⟨n1, n2, n3, n4, n5⟩ := k_natG (F := F) (c := c) hc hgi
    have kf := k_find1 (F := F) (c := c) h (by omega) n2 n3 n4
    have hwx := hws w hmem
    have hidx : idx w 0 (xs.map Prod.fst) = some (plc w (xs.map Prod.fst)) := by
      obtain ⟨j, hj⟩ := Option.isSome_iff_exists.mp (idx_iff.mpr hwx)
      unfold plc
      rw [hj]
      rfl
    rw [hidx] at kf
    obtain ⟨kw, hpl⟩ := k_wn (F := F) (c := c) h hwx
    have ecl : clW ws xs i = wnN xs w := by unfold clW; rw [hgd]
    rw [ex1_s, ecl]
    generalize plc w (xs.map Prod.fst) = P at *
    have eq : f_Link_isNameLeft_2 F c (f + 1) 147 (nI i) (cH sk L τ) = if bI (wnN xs w) = 0 then f_Link_isNameLeft_47 F c (f_Link_isNameLeft_2 F c f) 147 (nI i) (cH sk L τ) else f_Link_isNameLeft_40 F c 147 (some (pN τ 149 P)) (cH sk L τ) := by
      conv => lhs; unfold f_Link_isNameLeft_2
      rw [C3r2 o147 (GR_r (v := 143) hR (by decide)), bs, C6g2 hc.1, bs, hc.2.2.2.2.2.1, if_neg (nI_ge hil (by omega)), C3r3 o147 (GR_r (v := 148) hR (by decide)), bs, bs, c_o hc.1, bs, n1, xb_mk, c_o (G148 hS), bs, kf, xb_mk]
      show (xb (f_Link_isWanted F c (some (pN τ 149 P)) (cH sk L τ)) _) = _
      rw [kw, xb_mk]
    rw [eq]
    cases wnN xs w with
    | true =>
      refine Or.inl ⟨rfl, _, ?_, P, hpl, rfl⟩
      rw [if_neg (show ¬ bI true = 0 by decide)]
      unfold f_Link_isNameLeft_40
      rw [C3w13 o147, bs]
    | false =>
      rw [if_pos (show bI false = 0 from rfl), Bool.false_or]
      unfold f_Link_isNameLeft_47
      rw [nI_add]
      exact ih (i + 1) f (by omega) (by omega)
theorem k_nl_65 {k55 : Nat → Int32 → px_H → Option (Int32 × px_H)} {t q : Nat} (hF : 65536 < F) (h : TKo sk L own τ fs s xs) (hq : s.2.2.1[t]? = some q) : ∀ (d j f : Nat), j + d = 64 → d < f → (ex1 (clY xs (tB fs s.2.2.1 t)) j d = true ∧ ∃ τ', f_Link_isNameLeft_65 F c k55 f 147 (nI t) (nI j) (cH sk L τ) = some (nI 1, cH sk L τ') ∧ BLn τ τ' xs) ∨ (ex1 (clY xs (tB fs s.2.2.1 t)) j d = false ∧ f_Link_isNameLeft_65 F c k55 f 147 (nI t) (nI j) (cH sk L τ) = k55 147 (nI (t + 1)) (cH sk L τ)) := by
  have hS := h.1
  have hR := h.2.1
  have o147 := G147 hS
  have ht : t < 64 := by
    have h1 := (List.getElem?_eq_some_iff.mp hq).1
    have h2 := BK_T (s := s) h.2.2.2.2.1.1
    omega
  obtain ⟨_, hRS, _⟩ := h.2.2.2.1.2.2.2.1 t q hq
  have hRS : RSy τ t (tB fs s.2.2.1 t) xs 64 := hRS
  intro d
  induction d with
  | zero =>
    intro j f hj hf
    obtain ⟨f, rfl⟩ : ∃ x, f = x + 1 := ⟨f - 1, by omega⟩
    refine Or.inr ⟨rfl, ?_⟩
    unfold f_Link_isNameLeft_65 f_Link_isNameLeft_102
    rw [if_pos (nI_le (by omega) (by omega)), nI_add]
  | succ d ih =>
    intro j f hj hf
    obtain ⟨f, rfl⟩ : ∃ x, f = x + 1 := ⟨f - 1, by omega⟩
    have hj64 : j < 64 := by omega
    obtain ⟨y1, y2⟩ := hRS j hj64
    rw [ex1_s]
    have next : clY xs (tB fs s.2.2.1 t) j = false → f_Link_isNameLeft_65 F c k55 (f + 1) 147 (nI t) (nI j) (cH sk L τ) = f_Link_isNameLeft_65 F c k55 f 147 (nI t) (nI (j + 1)) (cH sk L τ) → ((clY xs (tB fs s.2.2.1 t) j || ex1 (clY xs (tB fs s.2.2.1 t)) (j + 1) d) = true ∧ ∃ τ', f_Link_isNameLeft_65 F c k55 (f + 1) 147 (nI t) (nI j) (cH sk L τ) = some (nI 1, cH sk L τ') ∧ BLn τ τ' xs) ∨ ((clY xs (tB fs s.2.2.1 t) j || ex1 (clY xs (tB fs s.2.2.1 t)) (j + 1) d) = false ∧ f_Link_isNameLeft_65 F c k55 (f + 1) 147 (nI t) (nI j) (cH sk L τ) = k55 147 (nI (t + 1)) (cH sk L τ)) := fun e1 e2 => by
      rw [e1, e2, Bool.false_or]
      exact ih (j + 1) f (by omega) (by omega)
    by_cases ch : hsN (tB fs s.2.2.1 t) j = true
    · have y2 := y2 ch
      unfold syN at y1
      rw [if_pos ch] at y1
      obtain ⟨kw, hpl⟩ := k_wn (F := F) (c := c) h y2
      have ecl : clY xs (tB fs s.2.2.1 t) j = wnN xs (yT (tB fs s.2.2.1 t) j) := by unfold clY; rw [ch, Bool.true_and]
      generalize yT (tB fs s.2.2.1 t) j = w at *
      generalize plc w (xs.map Prod.fst) = P at *
      have eq : f_Link_isNameLeft_65 F c k55 (f + 1) 147 (nI t) (nI j) (cH sk L τ) = if bI (wnN xs w) = 0 then f_Link_isNameLeft_96 F c k55 (f_Link_isNameLeft_65 F c k55 f) 147 (nI t) (nI j) (cH sk L τ) else f_Link_isNameLeft_89 F c 147 (some (pN τ 149 P)) (cH sk L τ) := by
        conv => lhs; unfold f_Link_isNameLeft_65
        rw [if_neg (nI_ge hj64 (by omega)), c_o o147, bs, k_nameOf hS hR ht hj64, y1, xb_mk]
        show (xb (f_Link_isWanted F c (some (pN τ 149 P)) (cH sk L τ)) _) = _
        rw [kw, xb_mk]
      cases e : wnN xs w with
      | true =>
        rw [ecl, e, Bool.true_or]
        refine Or.inl ⟨rfl, _, ?_, P, hpl, rfl⟩
        rw [eq, e, if_neg (show ¬ bI true = 0 by decide)]
        unfold f_Link_isNameLeft_89
        rw [C3w13 o147, bs]
      | false =>
        refine next (by rw [ecl, e]) ?_
        rw [eq, e, if_pos (show bI false = 0 from rfl)]
        unfold f_Link_isNameLeft_96
        rw [nI_add]
    · refine next (by unfold clY; rw [Bool.eq_false_iff.mpr ch, Bool.false_and]) ?_
      unfold syN at y1
      rw [if_neg ch] at y1
      conv => lhs; unfold f_Link_isNameLeft_65
      rw [if_neg (nI_ge hj64 (by omega)), c_o o147, bs, k_nameOf hS hR ht hj64, y1, xb_mk]
      show f_Link_isNameLeft_96 F c k55 (f_Link_isNameLeft_65 F c k55 f) 147 (nI t) (nI j) (cH sk L τ) = _
      unfold f_Link_isNameLeft_96
      rw [nI_add]
theorem k_nl_55 (hF : 65536 < F) (h : TKo sk L own τ fs s xs) : ∀ (d t f : Nat), t + d = s.2.2.1.length → d < f → (ex1 (clT (tB fs s.2.2.1) xs) t d = true ∧ ∃ τ', f_Link_isNameLeft_55 F c f 147 (nI t) (cH sk L τ) = some (nI 1, cH sk L τ') ∧ BLn τ τ' xs) ∨ (ex1 (clT (tB fs s.2.2.1) xs) t d = false ∧ f_Link_isNameLeft_55 F c f 147 (nI t) (cH sk L τ) = f_Link_isNameLeft_108 F c 147 (cH sk L τ)) := by
  have hS := h.1
  have o147 := G147 hS
  have hT := BK_T (s := s) h.2.2.2.2.1.1
  have h14 : fI τ 147 14 = nI s.2.2.1.length := h.2.2.2.1.2.2.1.1
  intro d
  induction d with
  | zero =>
    intro t f ht hf
    obtain ⟨f, rfl⟩ : ∃ x, f = x + 1 := ⟨f - 1, by omega⟩
    refine Or.inr ⟨rfl, ?_⟩
    unfold f_Link_isNameLeft_55
    rw [C3g14 o147, bs, h14, if_pos (nI_le (by omega) (by omega))]
  | succ d ih =>
    intro t f ht hf
    obtain ⟨f, rfl⟩ : ∃ x, f = x + 1 := ⟨f - 1, by omega⟩
    have htl : t < s.2.2.1.length := by omega
    have eq : f_Link_isNameLeft_55 F c (f + 1) 147 (nI t) (cH sk L τ) = f_Link_isNameLeft_65 F c (f_Link_isNameLeft_55 F c f) F 147 (nI t) (nI 0) (cH sk L τ) := by
      conv => lhs; unfold f_Link_isNameLeft_55
      rw [C3g14 o147, bs, h14, if_neg (nI_ge htl (by omega))]
    rw [eq, ex1_s]
    rcases k_nl_65 (F := F) (c := c) (k55 := f_Link_isNameLeft_55 F c f) hF h (List.getElem?_eq_getElem htl) 64 0 F rfl (by omega) with ⟨e1, τ', e2, e3⟩ | ⟨e1, e2⟩
    · have e1 : clT (tB fs s.2.2.1) xs t = true := e1
      exact Or.inl ⟨by rw [e1, Bool.true_or], τ', e2, e3⟩
    · have e1 : clT (tB fs s.2.2.1) xs t = false := e1
      rw [e1, Bool.false_or, e2]
      exact ih (t + 1) f (by omega) (by omega)
/-- _start -/
theorem k_nl_108 (hF : 65536 < F) (h : TKo sk L own τ fs s xs) (hst : isNm τ 1696 wST) : f_Link_isNameLeft_108 F c 147 (cH sk L τ) = some (bI (dfI wST xs).isNone, cH sk L τ) := by
  have hS := h.1
  have hR := h.2.1
  have o147 := G147 hS
  have hlx : (xs.map Prod.fst).length ≤ 4128 := h.2.2.2.1.2.1.1.2.2.2.1
  have kf := k_find1 (F := F) (c := c) h (by omega) (G1696 hS) hst (show okN wST from ⟨by decide, by decide⟩)
  unfold f_Link_isNameLeft_108 f_Link_isNameLeft_131 f_Link_isNameLeft_136
  rw [C3r3 o147 (GR_r (v := 148) hR (by decide)), bs, C3r12 o147 (GR_r (v := 1696) hR (by decide)), bs, c_o (G148 hS), bs, kf, xb_mk]
  unfold dfI
  cases ei : idx wST 0 (xs.map Prod.fst) with
  | none => exact xz_1 _
  | some P =>
    show ((xgI (cH sk L τ) 5 4 (pN τ 149 P)).bind _) = some (bI (if stN xs P = 0 then none else some P : Option Nat).isNone, _)
    have hpl := idx_lt ei
    rw [List.length_map] at hpl
    have hx := List.getElem?_eq_getElem (show P < xs.length by omega)
    generalize xs[P] = x at hx
    have hC := h.2.2.2.1.2.1
    obtain ⟨z1, z2, z3, z4⟩ := CLn_at hC hx
    have hcr := (hC.2.1 P _ hx).1
    have hx4 := h.2.2.2.2.2.1 P x hx
    rw [C5g4 z3, bs, hcr.1, stN_at hx]
    by_cases c0 : x.2.1 = 0
    · rw [if_pos c0, c0, if_neg (show ¬ (0 = 4) by decide), if_pos (show nI 0 = 0 from rfl)]
      exact xz_1 _
    · rw [if_neg c0, if_neg (show ¬ nI (if x.2.1 = 4 then 3 else x.2.1) = 0 from fun q => by
        have := (nI_eq (b := 0) (by split <;> omega) (by decide)).mp q
        split at this <;> omega)]
      exact xz_0 _
theorem k_isNameLeft (hF : 65536 < F) (h : TKo sk L own τ fs s xs) (hc : CW sk L τ ws) (hws : ∀ w, w ∈ ws → w ∈ xs.map Prod.fst) (hst : isNm τ 1696 wST) : ∃ τ', f_Link_isNameLeft F c 147 (cH sk L τ) = some (bI (clA ws (tB fs s.2.2.1) s.2.2.1.length xs), cH sk L τ') ∧ (τ' = τ ∨ (clA ws (tB fs s.2.2.1) s.2.2.1.length xs = true ∧ BLn τ τ' xs)) := by
  have hl16 : ws.length ≤ 16 := hc.2.2.2.1
  have hT := BK_T (s := s) h.2.2.2.2.1.1
  unfold f_Link_isNameLeft clA
  rcases k_nl_2 (F := F) (c := c) hF h hc hws ws.length 0 F (by omega) (by omega) with ⟨e1, τ', e2, e3⟩ | ⟨e1, e2⟩
  · exact ⟨τ', by rw [e1, Bool.true_or]; exact e2, Or.inr ⟨by rw [e1, Bool.true_or], e3⟩⟩
  · rw [e1, e2, Bool.false_or]
    unfold f_Link_isNameLeft_53
    rcases k_nl_55 (F := F) (c := c) hF h s.2.2.1.length 0 F (by omega) (by omega) with ⟨e1, τ', e2, e3⟩ | ⟨e1, e2⟩
    · exact ⟨τ', by rw [e1, Bool.true_or]; exact e2, Or.inr ⟨by rw [e1, Bool.true_or], e3⟩⟩
    · rw [e1, e2, Bool.false_or, k_nl_108 hF h hst]
      exact ⟨τ, rfl, Or.inl rfl⟩
end CLF
