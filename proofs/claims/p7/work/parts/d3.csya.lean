/-! addresses of symbols, as the class has them -/
section CSY
variable {F : Nat} {c : px_CT} {sk : Nat → Nat × Nat × Nat} {L : Nat} {τ : px_TT} {own : Nat → Nat × Nat} {fs : px_FS} {s : px_TK} {xs : px_NL} {ST rn : Nat → Bool} {ll : List Nat} {C B : Nat → Nat} {cpf : List Nat} {tO : Nat → Nat} {pp : Nat} {ad : Nat → Nat} {on : Bool} {R : Nat → Bool} {NA : Nat → Int64} {t j : Nat}
theorem k_nameOf2 (h : TKe sk L own τ fs s xs ST rn) (ht : t < s.2.2.1.length) (hj : j < oM (tB fs s.2.2.1 t)) : f_Link_nameOf F c 147 (nI t) (nI j) (cH sk L τ) = some (syN τ (tB fs s.2.2.1 t) xs j, cH sk L τ) ∧ (hsN (tB fs s.2.2.1 t) j = true → plc (yT (tB fs s.2.2.1 t) j) (xs.map Prod.fst) < xs.length) ∧ j < 64 := by
  have hT := BK_T (s := s) h.2.2.2.2.1.1
  obtain ⟨q, hq, hq64, hD, hcb, he, hpe, hsy, _⟩ := TKe_ob h ht
  have hM := w2_M (eObj_0 he).1
  have hj64 : j < 64 := by omega
  obtain ⟨s1, s2⟩ := hsy j hj64
  refine ⟨?_, fun hh => ?_, hj64⟩
  · rw [k_nameOf h.1 h.2.1 (by omega) hj64, s1]
  · have := plc_lt (s2 hh)
    rw [List.length_map] at this
    exact this
theorem k_symbolAddress (hF : 65536 < F) (h : LAc sk L own τ fs s xs ST rn ll C B cpf tO pp ad) (hr : STr fs s on R ST) (hNA : ∀ i, i < xs.length → fJ τ (pN τ 149 i) 14 = NA i) (ht : t < s.2.2.1.length) (hj : j < oM (tB fs s.2.2.1 t)) : f_Layout_symbolAddress F c 1700 (nI t) (nI j) (cH sk L τ) = some (syA (tB fs s.2.2.1) xs (ownV B (pf0 B tO (tB fs s.2.2.1) ll) tO (tB fs s.2.2.1) s.2.1.1 (sta (tB fs s.2.2.1) s.2.1.1 on R) pp ad) NA t j, cH sk L τ) := by
  have hS := h.1.1
  have hR := h.1.2.1
  have hT := BK_T (s := s) h.1.2.2.2.2.1.1
  obtain ⟨q, hq, hq64, hD, hcb, he, hpe, hsy, _⟩ := TKe_ob h.1 ht
  obtain ⟨kn, kp, hj64⟩ := k_nameOf2 (F := F) (c := c) h.1 ht hj
  have ko := k_object (F := F) (c := c) h.1 hq
  obtain ⟨w2', hyk, _⟩ := eObj_0 he
  have hjm : j < oM (cb (eI τ 8) (bsO fs q) (tNf fs s.2.2.1 t)) := by rw [hcb]; exact hj
  have kw := k_whereOf (F := F) (c := c) hD.1 (by omega) hjm
  have kv := k_valueOf (F := F) (c := c) hD.1 (by omega) hjm
  rw [hcb] at kw kv
  have hq7 : ob sk L 7 (10 + 2 * q) := hD.1.1.1.1.1
  have o := G1700 hS
  unfold f_Layout_symbolAddress
  rw [C2r0 o (GR_r (v := 147) hR (by decide)), bs, c_o (G147 hS), bs, kn, xb_mk]
  by_cases c1 : hsN (tB fs s.2.2.1 t) j = true
  · have es : syN τ (tB fs s.2.2.1 t) xs j = some (pN τ 149 (plc (yT (tB fs s.2.2.1 t) j) (xs.map Prod.fst))) := by unfold syN; rw [if_pos c1]
    have hpl := kp c1
    have hp := (CLm_at h.1.2.2.2.1.2.1 (List.getElem?_eq_getElem hpl)).2.2.1
    have hc := of_decide_eq_true c1
    rw [es]
    show ((xgJ (cH sk L τ) 5 14 _).bind fun t11 => _) = _
    rw [C5g14 hp, bs, hNA _ hpl]
    unfold syA
    rw [if_neg (by omega), if_neg hc.2.2]
  · have es : syN τ (tB fs s.2.2.1 t) xs j = none := by unfold syN; rw [if_neg c1]
    rw [es]
    show ((xgR (cH sk L τ) 2 0 1700).bind fun t5 => _) = _
    rw [C2r0 o (GR_r (v := 147) hR (by decide)), bs, c_o (G147 hS), bs, ko, xb_mk]
    by_cases c0 : j = 0
    · subst c0
      rw [if_pos (show nI 0 = 0 from rfl)]
      unfold f_Layout_symbolAddress_43 syA
      rw [if_pos (show nI 0 = 0 from rfl), if_pos rfl]
    · have hyB : yB (tB fs s.2.2.1 t) j = 0 := by
        rcases Nat.eq_zero_or_pos (yB (tB fs s.2.2.1 t) j) with e | e
        · exact e
        · exact absurd (decide_eq_true (⟨by omega, hj, by omega⟩ : 1 ≤ j ∧ j < oM (tB fs s.2.2.1 t) ∧ yB (tB fs s.2.2.1 t) j ≠ 0)) c1
      have hyo := hyk j (by omega) hj
      have hwn : yW (tB fs s.2.2.1 t) j ≠ 65522 := (of_decide_eq_true hyo).2.2.1 hyB
      have hwr := (of_decide_eq_true hyo).2.1
      have hS24 := w2'.1.2.1.2
      have hV : yV (tB fs s.2.2.1 t) j < 2 ^ 64 := by rw [← hcb]; exact le_lt (cb_lt _ _ _) _ 8
      have hW : yW (tB fs s.2.2.1 t) j < 65536 := by rw [← hcb]; exact le_lt (cb_lt _ _ _) _ 2
      have eS : syA (tB fs s.2.2.1) xs (ownV B (pf0 B tO (tB fs s.2.2.1) ll) tO (tB fs s.2.2.1) s.2.1.1 (sta (tB fs s.2.2.1) s.2.1.1 on R) pp ad) NA t j = ownV B (pf0 B tO (tB fs s.2.2.1) ll) tO (tB fs s.2.2.1) s.2.1.1 (sta (tB fs s.2.2.1) s.2.1.1 on R) pp ad t j := by unfold syA; rw [if_neg c0, if_pos hyB]
      have e88 : ∀ a6, f_Layout_symbolAddress_88 F c 1700 (nI j) (some (10 + 2 * q)) a6 (cH sk L τ) = some (lN (yV (tB fs s.2.2.1 t) j), cH sk L τ) := fun a6 => by
        unfold f_Layout_symbolAddress_88 f_Layout_symbolAddress_93 f_Layout_symbolAddress_124
        rw [if_neg (by decide), bs, c_o hq7, bs, kv, xb_mk]
      rw [eS, ownV_c (ST := ST) hyo hS24 hwn (STr_i hr ht), if_neg (show ¬ nI j = 0 from fun e => c0 ((nI_eq (b := 0) (by omega) (by decide)).mp e)), bs, c_o hq7, bs, kw, xb_mk]
      unfold f_Layout_symbolAddress_43
      by_cases cw : yW (tB fs s.2.2.1 t) j = 0
      · rw [cw, if_pos (show nI 0 = 0 from rfl), if_pos rfl]
      · rw [if_neg (show ¬ nI (yW (tB fs s.2.2.1 t) j) = 0 from fun e => cw ((nI_eq (b := 0) (by omega) (by decide)).mp e)), if_neg cw]
        by_cases c24 : yW (tB fs s.2.2.1 t) j < 24
        · have hpe' := hpe (yW (tB fs s.2.2.1 t) j) c24
          have ha := k_addressIn (F := F) (c := c) (x := 24 * t + yW (tB fs s.2.2.1 t) j) hF h (by omega) hV
          have hp8 := (TKe_part h.1 (x := 24 * t + yW (tB fs s.2.2.1 t) j) (by omega)).1
          rw [if_neg (nI_ge c24 (by decide)), C2r0 o (GR_r (v := 147) hR (by decide)), bs, c_o (G147 hS), bs, k_part hS hR (by omega) c24, xb_mk]
          unfold f_Layout_symbolAddress_73
          show ((xgI (cH sk L τ) 8 8 _).bind fun t2 => _) = _
          rw [C8g8 hp8, bs, hpe'.2.2.2.1]
          by_cases ck : kpB (tB fs s.2.2.1 t) (yW (tB fs s.2.2.1 t) j) = true ∨ s.2.1.1 (24 * t + yW (tB fs s.2.2.1 t) j) = true
          · have eR : (if yW (tB fs s.2.2.1 t) j < 24 ∧ (kpB (tB fs s.2.2.1 t) (yW (tB fs s.2.2.1 t) j) = true ∨ s.2.1.1 (24 * t + yW (tB fs s.2.2.1 t) j) = true) then adV ST B (pf0 B tO (tB fs s.2.2.1) ll) tO (tB fs s.2.2.1) pp ad (24 * t + yW (tB fs s.2.2.1 t) j) (yV (tB fs s.2.2.1 t) j) else lN (yV (tB fs s.2.2.1 t) j)) = adV ST B (pf0 B tO (tB fs s.2.2.1) ll) tO (tB fs s.2.2.1) pp ad (24 * t + yW (tB fs s.2.2.1 t) j) (yV (tB fs s.2.2.1 t) j) := if_pos ⟨c24, ck⟩
            have en : ¬ nI (if s.2.1.1 (24 * t + yW (tB fs s.2.2.1 t) j) = true then 2 else if kpB (tB fs s.2.2.1 t) (yW (tB fs s.2.2.1 t) j) = true then 1 else 0) = 0 := by
              by_cases cd : s.2.1.1 (24 * t + yW (tB fs s.2.2.1 t) j) = true
              · rw [if_pos cd]; decide
              · rw [if_neg cd, if_pos (ck.resolve_right cd)]; decide
            rw [if_neg en, eR]
            unfold f_Layout_symbolAddress_93 f_Layout_symbolAddress_124
            rw [if_pos (show nI 0 = 0 from rfl), C2r1 o (GR_r (v := 1697) hR (by decide)), bs, bs, c_o hq7, bs, kv, xb_mk, c_o (G1697 hS), bs, ha, xb_mk]
          · have e0 : nI (if s.2.1.1 (24 * t + yW (tB fs s.2.2.1 t) j) = true then 2 else if kpB (tB fs s.2.2.1 t) (yW (tB fs s.2.2.1 t) j) = true then 1 else 0) = 0 := by
              rw [if_neg (fun q => ck (Or.inr q)), if_neg (fun q => ck (Or.inl q))]; rfl
            rw [if_pos e0, e88, if_neg (fun q => ck q.2)]
        · rw [if_pos (nI_le (by omega) (by omega))]
          unfold f_Layout_symbolAddress_73
          show f_Layout_symbolAddress_88 F c 1700 (nI j) (some (10 + 2 * q)) none (cH sk L τ) = _
          rw [e88, if_neg (fun q => c24 q.1)]
/-- what a slot holds -/
def slV (SY : Nat → Nat → Int64) (tp z : Nat) : Int64 := if z % 2 = 0 then SY (z / 2 / 64) (z / 2 % 64) else SY (z / 2 / 64) (z / 2 % 64) - lN tp
theorem k_slotValue {sl : List Nat} {k z : Nat} {tp : Nat} (hF : 65536 < F) (h : LAc sk L own τ fs s xs ST rn ll C B cpf tO pp ad) (hr : STr fs s on R ST) (hNA : ∀ i, i < xs.length → fJ τ (pN τ 149 i) 14 = NA i) (hc : SLc s.2.2.1.length (tB fs s.2.2.1) xs τ sl) (hI : SLI s.2.2.1.length (tB fs s.2.2.1) sl) (h17 : fJ τ 1700 17 = lN tp) (hz : sl[k]? = some z) (hk : sl.length ≤ 2800) : f_Layout_slotValue F c 1700 (nI k) (cH sk L τ) = some (slV (syA (tB fs s.2.2.1) xs (ownV B (pf0 B tO (tB fs s.2.2.1) ll) tO (tB fs s.2.2.1) s.2.1.1 (sta (tB fs s.2.2.1) s.2.1.1 on R) pp ad) NA) tp z, cH sk L τ) := by
  have hkl := (List.getElem?_eq_some_iff.mp hz).1
  obtain ⟨z1, z2⟩ := hI.2 z (List.mem_of_getElem? hz)
  have hT := BK_T (s := s) h.1.2.2.2.2.1.1
  have o := G1700 h.1.1
  have ks := k_symbolAddress (F := F) (c := c) (NA := NA) hF h hr hNA z1 z2
  have hz8 : z < 8192 := by omega
  unfold f_Layout_slotValue f_Layout_slotValue_22 f_Layout_slotValue_59
  rw [if_neg (nI_pos (by omega)), C2g12 o, bs, hc.1, if_neg (nI_ge hkl (by omega)), C2r9 o (GR_r (v := 1708) h.1.2.1 (by decide)), bs, c_aI (G1708 h.1.1) (by decide) (by decide) (by omega), bs, hc.2.1 k z hz, c_o o, bs, pk_div (by omega) (by decide) (by decide), pk_div (by omega) (by decide) (by decide), pk_mul, pk_sub (by omega), show z / 2 - z / 2 / 64 * 64 = z / 2 % 64 by omega, ks, xb_mk, show nI z &&& nI 1 = nI (z % 2) from pk_andN (by omega) 1 (by decide)]
  unfold slV
  by_cases cz : z % 2 = 0
  · rw [if_pos (show nI (z % 2) = 0 by rw [cz]; rfl), if_pos cz]
  · rw [if_neg (show ¬ nI (z % 2) = 0 from fun q => cz ((nI_eq (b := 0) (by omega) (by decide)).mp q)), if_neg cz, C2g17 o, bs, h17]
end CSY
