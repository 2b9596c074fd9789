/-! the file that a link writes: safe, whole -/
section CWS
variable {F : Nat} {c : px_CT} {sk : Nat → Nat × Nat × Nat} {L : Nat} {τ0 : px_TT} {own : Nat → Nat × Nat} {fs : px_FS} {s : px_TK} {xs : px_NL} {ST rn : Nat → Bool} {C B : Nat → Nat} {ll sl cpf : List Nat} {tO : Nat → Nat} {th : Nat → Bool} {NA : Nat → Int64} {pp : Nat} {ad : Nat → Nat} {fe3 tp sp fp0 fp1 fp2 bg0 bg1 bg2 : Nat} {on : Bool} {R : Nat → Bool}
theorem k_w_287 {p : Int32} (hF : 65536 < F) (hr : STr fs s on R ST) (hN : SLN s.2.2.1.length (tB fs s.2.2.1)) (hL : LAD sk L own τ0 fs s xs ST rn ll sl C B cpf tO th NA pp ad fe3 tp sp fp0 fp1 fp2 bg0 bg1 bg2) : ∀ (d k f : Nat) (τ : px_TT), k + d = sl.length → d < f → rF sk L τ → fF τ0 τ → ∃ τ', f_Filler_write_287 F c f 1710 p (nI k) (cH sk L τ) = some ((), cH sk L τ') ∧ rF sk L τ' ∧ fF τ0 τ' := by
  have hns := hN _ hL.2.2.1.2
  intro d
  induction d with
  | zero =>
    intro k f τ hk hf h hfr
    obtain ⟨f, rfl⟩ : ∃ x, f = x + 1 := ⟨f - 1, by omega⟩
    have hL1 := LAD_Z hL (frZ_F hfr)
    have hS := hL1.1.1.1
    have hR := hL1.1.1.2.1
    refine ⟨τ, ?_, h, hfr⟩
    unfold f_Filler_write_287 f_Filler_write_327
    rw [C1r1 (G1710 hS) (GR_r (v := 1700) hR (by decide)), bs, C2g12 (G1700 hS), bs, hL1.2.2.1.1.1, if_pos (nI_le (by omega) (by omega))]
  | succ d ih =>
    intro k f τ hk hf h hfr
    obtain ⟨f, rfl⟩ : ∃ x, f = x + 1 := ⟨f - 1, by omega⟩
    have hL1 := LAD_Z hL (frZ_F hfr)
    have hS := hL1.1.1.1
    have hR := hL1.1.1.2.1
    have hkl : k < sl.length := by omega
    obtain ⟨v, kv⟩ := k_slotValue (F := F) (c := c) (NA := NA) hF hL1.1 hr hL1.2.2.2.2.1 hL1.2.2.1.1 hL1.2.2.1.2 hL1.2.2.2.2.2.2.2.1 (List.getElem?_eq_getElem hkl) hns
    obtain ⟨τ1, a1, r1, f1⟩ := k_setS (F := F) (c := c) (v := v) (k := 8) (p := p + nI 8 * nI k) (by omega) (by decide) h
    obtain ⟨τ2, b1, b2, b3⟩ := ih (k + 1) f τ1 (by omega) (by omega) r1 (frRw_trans hfr f1)
    refine ⟨τ2, ?_, b2, b3⟩
    unfold f_Filler_write_287
    rw [C1r1 (G1710 hS) (GR_r (v := 1700) hR (by decide)), bs, C2g12 (G1700 hS), bs, hL1.2.2.1.1.1, if_neg (nI_ge hkl (by omega)), C1r4 (G1710 hS) (GR_r (v := 1711) hR (by decide)), bs, bs, c_o (G1700 hS), bs, kv, xb_mk, c_o h.1, bs, a1, xb_mk, nI_add]
    exact b1
theorem k_w_194 (hF : 65536 < F) (hr : STr fs s on R ST) (hN : SLN s.2.2.1.length (tB fs s.2.2.1)) (hL : LAD sk L own τ0 fs s xs ST rn ll sl C B cpf tO th NA pp ad fe3 tp sp fp0 fp1 fp2 bg0 bg1 bg2) : ∀ (d k f : Nat) (p : Int32) (τ : px_TT), k + d = cpf.length → d < f → rF sk L τ → fF τ0 τ → ∃ τ', f_Filler_write_194 F c f 1710 p (nI k) (cH sk L τ) = some ((), cH sk L τ') ∧ rF sk L τ' ∧ fF τ0 τ' := by
  have hns := hN _ hL.2.2.1.2
  have hcl := stL_len hL.1.2.2.2.1.2.2.1
  intro d
  induction d with
  | zero =>
    intro k f p τ hk hf h hfr
    obtain ⟨f, rfl⟩ : ∃ x, f = x + 1 := ⟨f - 1, by omega⟩
    have hL1 := LAD_Z hL (frZ_F hfr)
    have hS := hL1.1.1.1
    have hR := hL1.1.1.2.1
    unfold f_Filler_write_194 f_Filler_write_256
    rw [C1r2 (G1710 hS) (GR_r (v := 1697) hR (by decide)), bs, C9g3 (G1697 hS), bs, hL1.1.2.2.2.1.1, if_pos (nI_le (by omega) (by omega)), C1r1 (G1710 hS) (GR_r (v := 1700) hR (by decide)), bs, C2r5 (G1700 hS) (GR_r (v := 1704) hR (by decide)), bs, c_aJ (G1704 hS) (by decide) (by decide), bs, bs, C2g13 (G1700 hS), bs, bs, C2r6 (G1700 hS) (GR_r (v := 1705) hR (by decide)), bs, c_aJ (G1705 hS) (by decide) (by decide), bs]
    exact k_w_287 hF hr hN hL sl.length 0 F τ (Nat.zero_add _) (by omega) h hfr
  | succ d ih =>
    intro k f p τ hk hf h hfr
    obtain ⟨f, rfl⟩ : ∃ x, f = x + 1 := ⟨f - 1, by omega⟩
    have hL1 := LAD_Z hL (frZ_F hfr)
    have hS := hL1.1.1.1
    have hR := hL1.1.1.2.1
    have hkl : k < cpf.length := by omega
    obtain ⟨τ1, a1, r1, f1⟩ := k_coverS (F := F) (c := c) (p := p) (q := eI τ 1698 k) (m := eI τ 1699 k) (G8 hS) (by decide) hL1.1.2.2.1.1 h
    have hR1 := GR_Fw hR f1
    obtain ⟨τ2, b1, b2, b3⟩ := ih (k + 1) f (p + eI τ1 1699 k) τ1 (by omega) (by omega) r1 (frRw_trans hfr f1)
    refine ⟨τ2, ?_, b2, b3⟩
    unfold f_Filler_write_194
    rw [C1r2 (G1710 hS) (GR_r (v := 1697) hR (by decide)), bs, C9g3 (G1697 hS), bs, hL1.1.2.2.2.1.1, if_neg (nI_ge hkl (by omega)), C1r4 (G1710 hS) (GR_r (v := 1711) hR (by decide)), bs, C1r3 (G1710 hS) (GR_r (v := 7) hR (by decide)), bs, C10r0 (G7 hS) (GR_r (v := 8) hR (by decide)), bs, bs, C9r1 (G1697 hS) (GR_r (v := 1698) hR (by decide)), bs, c_aI (G1698 hS) (by decide) (by decide) (by omega), bs, bs, C9r2 (G1697 hS) (GR_r (v := 1699) hR (by decide)), bs, c_aI (G1699 hS) (by decide) (by decide) (by omega), bs, c_o h.1, bs, a1, xb_mk, C1r2 (G1710 hS) (GR_r (v := 1697) hR1 (by decide)), bs, C9r2 (G1697 hS) (GR_r (v := 1699) hR1 (by decide)), bs, c_aI (G1699 hS) (by decide) (by decide) (by omega), bs, nI_add]
    exact b1
theorem k_spotOf {τ : px_TT} {x : Nat} (hc : KT c) (hL : LAD sk L own τ fs s xs ST rn ll sl C B cpf tO th NA pp ad fe3 tp sp fp0 fp1 fp2 bg0 bg1 bg2) (hx : x < 24 * s.2.2.1.length) (hs : ST x = true) : ∃ v, f_Filler_spotOf F c 1710 (some (152 + x)) (cH sk L τ) = some (v, cH sk L τ) := by
  have hS := hL.1.1.1
  have hR := hL.1.1.2.1
  obtain ⟨p4, _⟩ := TKe_pt hL.1.1 hL.1.2.1.1 hx hs
  have hp := (TKe_part hL.1.1 hx).1
  have hg := oG_5 (b := tB fs s.2.2.1 (x / 24)) (i := x % 24)
  have ks := k_segmentOf (F := F) (c := c) hc hp (by omega) p4
  have hsg : sgO (oG (tB fs s.2.2.1 (x / 24)) (x % 24)) < 4 := by unfold sgO; split <;> omega
  refine ⟨((eJ τ 1704 (sgO (oG (tB fs s.2.2.1 (x / 24)) (x % 24))) + fJ τ (152 + x) 11) - eJ τ 1705 (sgO (oG (tB fs s.2.2.1 (x / 24)) (x % 24)))).toInt32, ?_⟩
  unfold f_Filler_spotOf
  rw [C1r1 (G1710 hS) (GR_r (v := 1700) hR (by decide)), bs, c_o (G1700 hS), bs, ks, xb_mk, C1r1 (G1710 hS) (GR_r (v := 1700) hR (by decide)), bs, C2r5 (G1700 hS) (GR_r (v := 1704) hR (by decide)), bs, c_aJ (G1704 hS) (by decide) hsg, bs, bs, C8g11 hp, bs, bs, C2r6 (G1700 hS) (GR_r (v := 1705) hR (by decide)), bs, c_aJ (G1705 hS) (by decide) hsg, bs]
theorem k_w_87 (hF : 65536 < F) (hc : KT c) (hr : STr fs s on R ST) (hN : SLN s.2.2.1.length (tB fs s.2.2.1)) (hL : LAD sk L own τ0 fs s xs ST rn ll sl C B cpf tO th NA pp ad fe3 tp sp fp0 fp1 fp2 bg0 bg1 bg2) : ∀ (d k f : Nat) (τ : px_TT), k + d = ll.length → d < f → rF sk L τ → fF τ0 τ → ∃ τ', f_Filler_write_87 F c f 1710 (nI k) (cH sk L τ) = some ((), cH sk L τ') ∧ rF sk L τ' ∧ fF τ0 τ' := by
  have hcl := stL_len hL.1.2.2.2.1.2.2.1
  have hl1 := hL.1.2.1.2.1.1
  intro d
  induction d with
  | zero =>
    intro k f τ hk hf h hfr
    obtain ⟨f, rfl⟩ : ∃ x, f = x + 1 := ⟨f - 1, by omega⟩
    have hL1 := LAD_Z hL (frZ_F hfr)
    have hS := hL1.1.1.1
    have hR := hL1.1.1.2.1
    unfold f_Filler_write_87 f_Filler_write_163
    rw [C1r1 (G1710 hS) (GR_r (v := 1700) hR (by decide)), bs, C2g11 (G1700 hS), bs, hL1.2.1.1, if_pos (nI_le (by omega) (by omega)), bs, C2r5 (G1700 hS) (GR_r (v := 1704) hR (by decide)), bs, c_aJ (G1704 hS) (by decide) (by decide), bs, C1r2 (G1710 hS) (GR_r (v := 1697) hR (by decide)), bs, C9g5 (G1697 hS), bs, bs, C2r6 (G1700 hS) (GR_r (v := 1705) hR (by decide)), bs, c_aJ (G1705 hS) (by decide) (by decide), bs]
    exact k_w_194 hF hr hN hL cpf.length 0 F _ τ (Nat.zero_add _) (by omega) h hfr
  | succ d ih =>
    intro k f τ hk hf h hfr
    obtain ⟨f, rfl⟩ : ∃ x, f = x + 1 := ⟨f - 1, by omega⟩
    have hL1 := LAD_Z hL (frZ_F hfr)
    have hS := hL1.1.1.1
    have hR := hL1.1.1.2.1
    have hkl : k < ll.length := by omega
    obtain ⟨x, hx⟩ : ∃ x, ll[k]? = some x := ⟨_, List.getElem?_eq_getElem hkl⟩
    have hx2 := hL1.1.2.1.2.1.2 x (List.mem_of_getElem? hx)
    have hp := (TKe_part hL1.1.1 hx2.1).1
    have kp := k_partAt (F := F) (c := c) hS hR hL1.2.1 hl1 hx
    have next : ∀ τ1, rF sk L τ1 → fF τ0 τ1 → ∃ τ', f_Filler_write_157 F c (f_Filler_write_87 F c f) 1710 (nI k) (cH sk L τ1) = some ((), cH sk L τ') ∧ rF sk L τ' ∧ fF τ0 τ' := fun τ1 h1 f1 => by
      unfold f_Filler_write_157
      rw [nI_add]
      exact ih (k + 1) f τ1 (by omega) (by omega) h1 f1
    obtain ⟨v, kv⟩ := k_spotOf (F := F) (c := c) hc hL1 hx2.1 hx2.2
    obtain ⟨τ1, a1, r1, f1⟩ := k_coverS (F := F) (c := c) (p := v) (q := fI τ (152 + x) 7) (m := fI τ (152 + x) 5) (G8 hS) (by decide) hL1.1.2.2.1.1 h
    unfold f_Filler_write_87
    rw [C1r1 (G1710 hS) (GR_r (v := 1700) hR (by decide)), bs, C2g11 (G1700 hS), bs, hL1.2.1.1, if_neg (nI_ge hkl (by omega)), bs, c_o (G1700 hS), bs, kp, xb_mk, bs, C8g4 hp, bs]
    split
    · exact next τ h hfr
    · rw [bs]
      split
      · exact next τ h hfr
      · rw [C8g10 hp, bs]
        split
        · rw [C1r4 (G1710 hS) (GR_r (v := 1711) hR (by decide)), bs, c_o (G1710 hS), bs, kv, xb_mk, C1r3 (G1710 hS) (GR_r (v := 7) hR (by decide)), bs, C10r0 (G7 hS) (GR_r (v := 8) hR (by decide)), bs, C8g7 hp, bs, C8g5 hp, bs, c_o h.1, bs, a1, xb_mk]
          exact next τ1 r1 (frRw_trans hfr f1)
        · exact next τ h hfr
theorem k_w_43 {τ : px_TT} (hF : 65536 < F) (hc : KT c) (hr : STr fs s on R ST) (hN : SLN s.2.2.1.length (tB fs s.2.2.1)) (hfe : fe3 < 2 ^ 62) (hL : LAD sk L own τ0 fs s xs ST rn ll sl C B cpf tO th NA pp ad fe3 tp sp fp0 fp1 fp2 bg0 bg1 bg2) (h : rF sk L τ) (hfr : fF τ0 τ) : ∃ τ', f_Filler_write_43 F c 1710 (cH sk L τ) = some ((), cH sk L τ') ∧ rF sk L τ' ∧ fF τ0 τ' := by
  have hL1 := LAD_Z hL (frZ_F hfr)
  have hS := hL1.1.1.1
  have hR := hL1.1.1.2.1
  have hl1 := hL.1.2.1.2.1.1
  have e70 : ∀ τ1, rF sk L τ1 → fF τ0 τ1 → ∃ τ', f_Filler_write_70 F c 1710 (cH sk L τ1) = some ((), cH sk L τ') ∧ rF sk L τ' ∧ fF τ0 τ' := fun τ1 h1 f1 => by
    have hL2 := LAD_Z hL (frZ_F f1)
    have hR2 := hL2.1.1.2.1
    obtain ⟨τ2, a1, r1, g1⟩ := k_fillToS (F := F) (c := c) (e := fe3) (w := nI 0) hF hfe h1
    obtain ⟨τ3, b1, b2, b3⟩ := k_w_87 (F := F) (c := c) hF hc hr hN hL ll.length 0 F τ2 (Nat.zero_add _) (by omega) r1 (frRw_trans f1 g1)
    refine ⟨τ3, ?_, b2, b3⟩
    unfold f_Filler_write_70
    rw [C1r4 (G1710 hS) (GR_r (v := 1711) hR2 (by decide)), bs, C1r1 (G1710 hS) (GR_r (v := 1700) hR2 (by decide)), bs, C2g18 (G1700 hS), bs, hL2.2.2.2.2.2.2.2.2.1, c_o h1.1, bs, a1, xb_mk]
    exact b1
  unfold f_Filler_write_43
  rw [C1r1 (G1710 hS) (GR_r (v := 1700) hR (by decide)), bs, C2r4 (G1700 hS) (GR_r (v := 1703) hR (by decide)), bs, c_aI (G1703 hS) (by decide) (by decide) (by decide), bs]
  split
  · exact e70 τ h hfr
  · obtain ⟨τ1, a1, r1, f1⟩ := k_writeRow (F := F) (c := c) (j := 3) (a := nI 7) (b := nI 4) (w := fJ τ 1700 16) hF hS hR (by decide) h
    obtain ⟨τ2, b1, b2, b3⟩ := e70 τ1 r1 (frRw_trans hfr f1)
    refine ⟨τ2, ?_, b2, b3⟩
    rw [bs, C2g16 (G1700 hS), bs, c_o (G1710 hS), bs, a1, xb_mk]
    exact b1
theorem k_w_6 (hF : 65536 < F) (hc : KT c) (hr : STr fs s on R ST) (hN : SLN s.2.2.1.length (tB fs s.2.2.1)) (hfe : fe3 < 2 ^ 62) (hL : LAD sk L own τ0 fs s xs ST rn ll sl C B cpf tO th NA pp ad fe3 tp sp fp0 fp1 fp2 bg0 bg1 bg2) : ∀ (d j f : Nat) (τ : px_TT), j + d = 3 → d < f → rF sk L τ → fF τ0 τ → ∃ τ', f_Filler_write_6 F c f 1710 (nI j) (cH sk L τ) = some ((), cH sk L τ') ∧ rF sk L τ' ∧ fF τ0 τ' := by
  intro d
  induction d with
  | zero =>
    intro j f τ hj hf h hfr
    obtain ⟨f, rfl⟩ : ∃ x, f = x + 1 := ⟨f - 1, by omega⟩
    unfold f_Filler_write_6
    rw [if_pos (nI_le (by omega) (by omega))]
    exact k_w_43 hF hc hr hN hfe hL h hfr
  | succ d ih =>
    intro j f τ hj hf h hfr
    obtain ⟨f, rfl⟩ : ∃ x, f = x + 1 := ⟨f - 1, by omega⟩
    have hL1 := LAD_Z hL (frZ_F hfr)
    have hS := hL1.1.1.1
    have hR := hL1.1.1.2.1
    have next : ∀ τ1, rF sk L τ1 → fF τ0 τ1 → ∃ τ', f_Filler_write_37 F c (f_Filler_write_6 F c f) 1710 (nI j) (cH sk L τ1) = some ((), cH sk L τ') ∧ rF sk L τ' ∧ fF τ0 τ' := fun τ1 h1 f1 => by
      unfold f_Filler_write_37
      rw [nI_add]
      exact ih (j + 1) f τ1 (by omega) (by omega) h1 f1
    unfold f_Filler_write_6
    rw [if_neg (nI_ge (by omega) (by omega)), C1r1 (G1710 hS) (GR_r (v := 1700) hR (by decide)), bs, C2r4 (G1700 hS) (GR_r (v := 1703) hR (by decide)), bs, c_aI (G1703 hS) (by decide) (by decide) (by omega), bs]
    split
    · exact next τ h hfr
    · obtain ⟨τ1, a1, r1, f1⟩ := k_writeRow (F := F) (c := c) (j := j) (a := nI 1) (b := nI ([5, 4, 6].getD j 0)) (w := (4096 : Int64)) hF hS hR (by omega) h
      rw [xkI_at hc.2.1.2 (by decide) hc.2.1.1 (by decide) (by show j < 3; omega), bs, c_o (G1710 hS), bs, a1, xb_mk]
      exact next τ1 r1 (frRw_trans hfr f1)
theorem k_write (hF : 65536 < F) (hc : KT c) (hr : STr fs s on R ST) (hN : SLN s.2.2.1.length (tB fs s.2.2.1)) (hfe : fe3 < 2 ^ 62) (hL : LAD sk L own τ0 fs s xs ST rn ll sl C B cpf tO th NA pp ad fe3 tp sp fp0 fp1 fp2 bg0 bg1 bg2) (hst : isNm τ0 1696 wST) (h : rF sk L τ0) : ∃ τ', f_Filler_write F c 1710 (cH sk L τ0) = some ((), cH sk L τ') ∧ rF sk L τ' ∧ fF τ0 τ' := by
  obtain ⟨τ1, a1, r1, f1⟩ := k_writeHead (F := F) (c := c) hF hc hL.1.1 hst hL.2.2.2.1.1 h
  obtain ⟨τ2, b1, b2, b3⟩ := k_w_6 (F := F) (c := c) hF hc hr hN hfe hL 3 0 F τ1 rfl (by omega) r1 f1
  refine ⟨τ2, ?_, b2, b3⟩
  unfold f_Filler_write
  rw [c_o (G1710 hL.1.1.1), bs, a1, xb_mk]
  exact b1
end CWS
