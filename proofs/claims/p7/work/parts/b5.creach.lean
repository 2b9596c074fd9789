/-! partOf, reachSymbol of the class -/
section CRE
variable {F : Nat} {c : px_CT} {sk : Nat → Nat × Nat × Nat} {L : Nat} {τ τ' : px_TT} {own : Nat → Nat × Nat} {fs : px_FS} {s : px_TK} {xs : px_NL} {ST rn : Nat → Bool} {u : px_CQ} {t j : Nat}
theorem TKe_ys (h : TKe sk L own τ fs s xs ST rn) : ∀ t, t < s.2.2.1.length → (∀ k, 1 ≤ k → k < oM (tB fs s.2.2.1 t) → yOK (tB fs s.2.2.1 t) k = true) ∧ oS (tB fs s.2.2.1 t) ≤ 24 ∧ oM (tB fs s.2.2.1 t) ≤ 64 := fun t ht => by
  obtain ⟨q, _, _, _, _, he, _⟩ := TKe_ob h ht
  exact ⟨(eObj_0 he).2.1, (eObj_0 he).1.1.2.1.2, w2_M (eObj_0 he).1⟩
theorem secT_m {tb : Nat → Nat → Nat} {dr : Nat → Bool} {w y : Nat} (h : secT tb dr t w = some y) : y = 24 * t + w ∧ 0 < w ∧ w < oS (tb t) ∧ oK (tb t) w = true ∧ dr (24 * t + w) = false := by
  unfold secT at h
  split at h
  · rename_i q
    exact ⟨(Option.some.inj h).symm, q⟩
  · cases h
theorem k_partOf (h : TKe sk L own τ fs s xs ST rn) (hF : 8 < F) (hW : WP s.2.2.1.length (tB fs s.2.2.1) s.2.1.1 xs) (ht : t < s.2.2.1.length) (hj : j < oM (tB fs s.2.2.1 t)) : f_Link_partOf F c 147 (nI t) (nI j) (cH sk L τ) = some ((secY (tB fs s.2.2.1) s.2.1.1 xs t j).map (fun x => 152 + x), cH sk L τ) := by
  obtain ⟨q, q1, q2, hD, hcb, he, hp, hRS, h89⟩ := TKe_ob h ht
  obtain ⟨hyo, hS24, hM64⟩ := TKe_ys h t ht
  have hS := h.1
  have hR := h.2.1
  have hT := BK_T (s := s) h.2.2.2.2.1.1
  have o147 := G147 hS
  obtain ⟨y1, y2⟩ := hRS j (by omega)
  unfold f_Link_partOf
  rw [c_o o147, bs, k_nameOf hS hR (by omega) (by omega), y1, xb_mk]
  unfold syN secY
  by_cases ch : hsN (tB fs s.2.2.1 t) j = true
  · obtain ⟨m1, m2, m3⟩ := of_decide_eq_true ch
    obtain ⟨x, hx, hxw, _⟩ := plc_ix (y2 ch)
    rw [if_pos ch, if_neg (by omega), if_neg m3, hx]
    obtain ⟨P, hP⟩ : ∃ P, P = plc (yT (tB fs s.2.2.1 t) j) (xs.map Prod.fst) := ⟨_, rfl⟩
    rw [← hP] at hx ⊢
    obtain ⟨z1, z2, z3, z4⟩ := CLm_at h.2.2.2.1.2.1 hx
    have hc1 := (h.2.2.2.1.2.1.2.1 P x hx).1
    show ((xgI (cH sk L τ) 5 5 (pN τ 149 P)).bind _) = some ((secN (tB fs s.2.2.1) s.2.1.1 x.2).map _, _)
    rw [C5g5 z3, bs]
    unfold f_Link_partOf_27
    rcases home_of hc1 (hW.2.2.1 P x hx) (h.2.2.2.2.2.1 P x hx) (fun t ht => (TKe_ys h t ht).1) (fun t ht => (TKe_ys h t ht).2.1) with ⟨a1, y, a2, a3, a4⟩ | ⟨a1, a2⟩
    · rw [a1, if_pos rfl, C5n6 z3, bs, a3, a2]; rfl
    · rw [if_neg a1, a2]; rfl
  · rw [if_neg ch]
    have hj0 : j = 0 ∨ yB (tB fs s.2.2.1 t) j = 0 := by
      by_cases z : j = 0
      · exact Or.inl z
      · by_cases z2 : yB (tB fs s.2.2.1 t) j = 0
        · exact Or.inr z2
        · exact absurd (decide_eq_true (show 1 ≤ j ∧ j < oM (tB fs s.2.2.1 t) ∧ yB (tB fs s.2.2.1 t) j ≠ 0 from ⟨by omega, hj, z2⟩)) ch
    show ((xo (cH sk L τ) 3 147).bind _) = _
    rw [c_o o147, bs, k_object h q1, xb_mk]
    by_cases c0 : j = 0
    · rw [if_pos (show nI j = 0 by rw [c0]; rfl), if_pos c0]
      unfold f_Link_partOf_62 f_Link_partOf_80
      rw [if_pos rfl]
      rfl
    · have hB0 := hj0.resolve_left c0
      obtain ⟨e1, e2, e3⟩ := cS_y hD.1 (show j < oM (cb (eI τ 8) (bsO fs q) (tNf fs s.2.2.1 t)) by rw [hcb]; exact hj)
      have n6 := k_num (F := F) (c := c) (x := yP (cb (eI τ 8) (bsO fs q) (tNf fs s.2.2.1 t)) j + 6) (k := 2) hD.1.1.1.1 hF (by decide) (by omega)
      rw [nm_in (by omega), show le (cb (eI τ 8) (bsO fs q) (tNf fs s.2.2.1 t)) (yP (cb (eI τ 8) (bsO fs q) (tNf fs s.2.2.1 t)) j + 6) 2 = yW (cb (eI τ 8) (bsO fs q) (tNf fs s.2.2.1 t)) j from rfl] at n6
      have oq := hD.1.1.1.1.1
      rw [if_neg (show ¬ nI j = 0 from fun z => c0 ((nI_eq (b := 0) (by omega) (by decide)).mp z)), bs, C7g10 oq, bs, c_o oq, bs, e1, pk_mul, nI_add, nI_add, show oP (cb (eI τ 8) (bsO fs q) (tNf fs s.2.2.1 t)) (oY (cb (eI τ 8) (bsO fs q) (tNf fs s.2.2.1 t))) + 24 * j = yP (cb (eI τ 8) (bsO fs q) (tNf fs s.2.2.1 t)) j from rfl, n6, xb_mk, hcb, if_neg c0, if_pos hB0]
      have hW16 : yW (tB fs s.2.2.1 t) j < 65536 := by rw [← hcb]; exact le_lt (fun x => cb_lt _ _ _ x) _ _
      unfold f_Link_partOf_62 f_Link_partOf_80 f_Link_partOf_107 wNo
      generalize hw : yW (tB fs s.2.2.1 t) j = w at *
      by_cases w0 : w = 0
      · rw [if_pos (by rw [w0]), if_neg (by omega), w0]
        unfold secT
        rw [if_neg (fun z => absurd z.1 (by decide))]
        rfl
      · rw [if_neg (show ¬ lN w = lN 0 from fun z => w0 ((lEQ (by omega) (by decide)).mp z))]
        by_cases w24 : w < 24
        · have hpw := hp w w24
          rw [if_pos (show lN w < (24 : Int64) from (lt31 (b := 24) (by omega) (by decide)).mpr w24), c_o o147, bs, lN_i, k_part hS hR (by omega) w24, xb_mk, bs, C8g8 (G_part hS (show 24 * t + w < 1536 by omega)), bs, hpw.2.2.2.1]
          cases ed : s.2.1.1 (24 * t + w) with
          | true =>
            rw [if_pos rfl, if_neg (show ¬ nI 2 = nI 1 by decide), if_pos ⟨by omega, w24, rfl⟩]
            unfold secT
            rw [if_neg (fun z => absurd z.1 (by decide))]
            rfl
          | false =>
            rw [if_neg (show ¬ false = true by decide), if_neg (show ¬ (0 < w ∧ w < 24 ∧ false = true) from fun z => nomatch z.2.2)]
            cases ek : kpB (tB fs s.2.2.1 t) w with
            | true =>
              obtain ⟨k1, k2⟩ := (Bool.and_eq_true _ _).mp ek
              rw [if_pos rfl, if_pos rfl]
              unfold secT
              rw [if_pos ⟨by omega, of_decide_eq_true k1, k2, ed⟩]
              rfl
            | false =>
              rw [if_neg (show ¬ false = true by decide), if_neg (show ¬ nI 0 = nI 1 by decide)]
              unfold secT
              rw [if_neg (fun z => by
                have : kpB (tB fs s.2.2.1 t) w = true := (Bool.and_eq_true _ _).mpr ⟨decide_eq_true z.2.1, z.2.2.1⟩
                rw [ek] at this; cases this)]
              rfl
        · rw [if_neg (show ¬ lN w < (24 : Int64) from fun z => w24 ((lt31 (b := 24) (by omega) (by decide)).mp z)), if_neg (fun z => w24 z.2.1)]
          unfold secT
          rw [if_neg (fun z => by omega)]
          rfl
theorem secY_T (h : TKe sk L own τ fs s xs ST rn) (hW : WP s.2.2.1.length (tB fs s.2.2.1) s.2.1.1 xs) (ht : t < s.2.2.1.length) {y : Nat} (he : secY (tB fs s.2.2.1) s.2.1.1 xs t j = some y) : y < 24 * s.2.2.1.length := by
  have hs24 := fun t ht => (TKe_ys h t ht).2.1
  have hTl : ∀ t' w y, t' < s.2.2.1.length → secT (tB fs s.2.2.1) s.2.1.1 t' w = some y → y < 24 * s.2.2.1.length := fun t' w y h1 h2 => by
    obtain ⟨e1, e2, e3, _⟩ := secT_m h2
    have := hs24 t' h1
    omega
  unfold secY at he
  split at he
  · cases he
  · split at he
    · exact hTl _ _ _ ht he
    · cases hx : xs[plc (yT (tB fs s.2.2.1 t) j) (xs.map Prod.fst)]? with
      | none => rw [hx] at he; cases he
      | some x =>
        rw [hx] at he
        have he : secN (tB fs s.2.2.1) s.2.1.1 x.2 = some y := he
        have hb := hW.2.2.1 _ x hx
        unfold byP at hb
        unfold secN at he
        cases e : x.2.2.2.2.1 with
        | none => rw [e] at he; cases he
        | some q =>
          rw [e] at he hb
          have he : (if x.2.1 = 1 ∨ x.2.1 = 3 then secT (tB fs s.2.2.1) s.2.1.1 q.1 (wNo s.2.1.1 q.1 (tB fs s.2.2.1 q.1) q.2) else none) = some y := he
          split at he
          · exact hTl _ _ _ hb.1 he
          · cases he
theorem k_reachSymbol (h : RQs sk L own τ fs s xs u) (hF : 8 < F) (hW : WP s.2.2.1.length (tB fs s.2.2.1) s.2.1.1 xs) (ht : t < s.2.2.1.length) (hj : j < oM (tB fs s.2.2.1 t)) : ∃ τ', f_Link_reachSymbol F c 147 (nI t) (nI j) (cH sk L τ) = some ((), cH sk L τ') ∧ RQs sk L own τ' fs s xs (cs1 (secY (tB fs s.2.2.1) s.2.1.1 xs t j) (cn1 (comY (tB fs s.2.2.1) xs t j) u)) ∧ frKr τ τ' := by
  have h1 := h.1
  obtain ⟨q, q1, q2, hD, hcb, he, hp, hRS, h89⟩ := TKe_ob h1 ht
  obtain ⟨hyo, hS24, hM64⟩ := TKe_ys h1 t ht
  have hS := h1.1
  have hR := h1.2.1
  have hT := BK_T (s := s) h1.2.2.2.2.1.1
  have o147 := G147 hS
  obtain ⟨y1, y2⟩ := hRS j (by omega)
  unfold f_Link_reachSymbol f_Link_reachSymbol_29
  rw [c_o o147, bs, k_nameOf hS hR (by omega) (by omega), y1, xb_mk]
  unfold syN
  by_cases ch : hsN (tB fs s.2.2.1 t) j = true
  · obtain ⟨m1, m2, m3⟩ := of_decide_eq_true ch
    obtain ⟨x, hx, hxw, _⟩ := plc_ix (y2 ch)
    have es : secY (tB fs s.2.2.1) s.2.1.1 xs t j = secN (tB fs s.2.2.1) s.2.1.1 x.2 := by
      unfold secY
      rw [if_neg (by omega), if_neg m3, hx]
    have ec : comY (tB fs s.2.2.1) xs t j = comN xs (plc (yT (tB fs s.2.2.1 t) j) (xs.map Prod.fst)) := by
      unfold comY
      rw [if_neg (fun z => z.elim (by omega) m3)]
    rw [if_pos ch, es, ec]
    obtain ⟨τ2, b1, b2, b3⟩ := k_reachName (F := F) (c := c) h hW hx
    refine ⟨τ2, ?_, b2, b3⟩
    show ((xo (cH sk L τ) 3 147).bind _) = _
    rw [c_o o147, bs, b1, xb_mk]
  · have ec : comY (tB fs s.2.2.1) xs t j = none := by
      unfold comY
      rw [if_pos]
      by_cases z : j = 0
      · exact Or.inl z
      · by_cases z2 : yB (tB fs s.2.2.1 t) j = 0
        · exact Or.inr z2
        · exact absurd (decide_eq_true (show 1 ≤ j ∧ j < oM (tB fs s.2.2.1 t) ∧ yB (tB fs s.2.2.1 t) j ≠ 0 from ⟨by omega, hj, z2⟩)) ch
    rw [if_neg ch, ec]
    obtain ⟨τ2, b1, b2, b3⟩ := k_reachPart (F := F) (c := c) (y := secY (tB fs s.2.2.1) s.2.1.1 xs t j) h (fun x e => secY_T h1 hW ht e)
    refine ⟨τ2, ?_, b2, b3⟩
    show ((xo (cH sk L τ) 3 147).bind _) = _
    rw [c_o o147, bs, k_partOf h1 hF hW ht hj, xb_mk, c_o o147, bs, b1, xb_mk]
end CRE
