/-! layText of the class, segment by segment -/
section CTY
variable {F : Nat} {c : px_CT} {sk : Nat → Nat × Nat × Nat} {L : Nat} {own : Nat → Nat × Nat} {fs : px_FS} {s : px_TK} {xs : px_NL} {ST rn : Nat → Bool} {ll : List Nat} {th : Nat → Bool}
def JS0 (a k : Nat) : Prop := J11 a k ∨ (a = 1700 ∧ k = 14)
def JS1 (a k : Nat) : Prop := J11 a k ∨ (a = 1697 ∧ k = 5)
theorem JS0_Ly (a k : Nat) (w : JS0 a k) : a = 1697 ∨ a = 1700 ∨ (152 ≤ a ∧ a < 1688 ∧ k = 11) ∨ (1815 ≤ a ∧ k = 14) := by unfold JS0 J11 at w; omega
theorem JS1_Ly (a k : Nat) (w : JS1 a k) : a = 1697 ∨ a = 1700 ∨ (152 ≤ a ∧ a < 1688 ∧ k = 11) ∨ (1815 ≤ a ∧ k = 14) := by unfold JS1 J11 at w; omega
theorem ES_Ly {j : Nat} (a i : Nat) (w : ESj j a i) : 1704 ≤ a ∧ a ≤ 1707 := ⟨w.1, w.2.1⟩
theorem k_lx_0 {τ : px_TT} {n fe bg mem fe1 mem1 : Nat} {ad : Nat → Nat} {G0 : px_PG} (hF : 65536 < F) (hc : KT c) (hk : STk fs s ST) (hl : llS2 s ST ll) (hnd : ll.Nodup) (h : TKe sk L own τ fs s xs ST rn) (ho : COr τ ll) (hth : ∀ j, j < 3 → eI τ 1703 j = bI (th j)) (hfe : fe < 2 ^ 36) (hmem : mem < 2 ^ 36) (eb : bg = bgN mem (upN fe 16) (th 0)) (eG : G0 = ll.foldl (pg1 (tB fs s.2.2.1) 0 (th 0)) (bg, ad, none)) (ef : fe1 = (if th 0 = true then upN fe 16 + (G0.1 - bg) else fe)) (em : mem1 = (if th 0 = true then bg + (G0.1 - bg) else mem)) : ∃ τ', f_Layout_layText_34 F c (n + 1) 1700 (lN fe) (lN mem) (nI 0) (cH sk L τ) = f_Layout_layText_34 F c n 1700 (lN fe1) (lN mem1) (nI 1) (cH sk L τ') ∧ (∀ x, x ∈ ll → cnd (tB fs s.2.2.1) 0 x = true → fJ τ' (152 + x) 11 = lN (G0.2.1 x)) ∧ fJ τ' 1700 14 = lN G0.1 ∧ (eJ τ' 1704 0 = lN (upN fe 16) ∧ eJ τ' 1705 0 = lN bg ∧ eJ τ' 1706 0 = lN (G0.1 - bg) ∧ eJ τ' 1707 0 = lN (G0.1 - bg)) ∧ frJE JS0 (ESj 0) τ τ' := by
  have hl1 := hl.1
  have h6 := ar_6 (K := 0) hl1
  have hS := h.1
  have hR := h.2.1
  have o := G1700 hS
  have hZ := TKe_Z h hk hl
  have ub := bgN_lt (mem := mem) (fp := upN fe 16) (th := th 0)
  rw [← eb] at ub
  have hT := BK_T (s := s) h.2.2.2.2.1.1
  obtain ⟨x, y, p1, p2⟩ := k_lx_pre (F := F) (c := c) (n := n) (j := 0) (th := th) (a := fe) (e := mem) hS hR (by decide) (hth 0 (by decide)) (by omega) (by omega)
  rw [← eb] at p2
  obtain ⟨τ1, hτ1⟩ : ∃ y, y = vJ τ 1704 (vp_updL (eJ τ 1704) 0 (lN (upN fe 16))) := ⟨_, rfl⟩
  obtain ⟨τ2, hτ2⟩ : ∃ y, y = vJ τ1 1705 (vp_updL (eJ τ1 1705) 0 (lN bg)) := ⟨_, rfl⟩
  have f1 : frJE JS0 (ESj 0) τ τ1 := by rw [hτ1]; exact frJE_E ⟨by decide, by decide, rfl⟩
  have f2 : frJE JS0 (ESj 0) τ τ2 := frJE_trans f1 (by rw [hτ2]; exact frJE_E ⟨by decide, by decide, rfl⟩)
  have h2 := TKe_Ly h (frJE_Ly f2 JS0_Ly ES_Ly)
  have ho2 : COr τ2 ll := COr_fx ho (f2.1 1700 11) (f2.2.2.2.2.2 1701)
  have b4 : eJ τ2 1704 0 = lN (upN fe 16) := by rw [hτ2, eJ_un (Or.inl (by decide)), hτ1, eJ_up]
  have b5 : eJ τ2 1705 0 = lN bg := by rw [hτ2, eJ_up]
  obtain ⟨τ3, a1, a2, a3⟩ := k_layGroup (F := F) (c := c) (g := 0) (th := th 0) (D := fun _ => False) (G := (bg, ad, none)) hF hc hk hl hnd (by decide) (fun _ q => q.elim) h2 ho2 (by rw [f2.2.2.2.1]; exact hth 0 (by decide)) (show bg < _ by omega) (fun _ _ q => q.elim)
  have m0 := pgs_m (g := 0) (th := th 0) ll (bg, ad, none) hZ
  rw [← eG] at a1 a2 m0
  have m0 : bg ≤ G0.1 ∧ G0.1 ≤ bg + ll.length * 20480 := m0
  have f3 : frJE JS0 (ESj 0) τ τ3 := frJE_trans f2 (frJE_mono a3 (fun _ _ w => Or.inl w) (fun _ _ w => w.elim))
  obtain ⟨τ4, hτ4⟩ : ∃ y, y = tJ τ3 1700 14 (lN G0.1) := ⟨_, rfl⟩
  have f4 : frJE JS0 (ESj 0) τ τ4 := frJE_trans f3 (by rw [hτ4]; exact frJE_J (Or.inr ⟨rfl, rfl⟩))
  have h4 := TKe_Ly h (frJE_Ly f4 JS0_Ly ES_Ly)
  have d4 : eJ τ4 1704 0 = lN (upN fe 16) := by rw [hτ4]; show eJ τ3 1704 0 = _; rw [a3.2.2.2.2.1 _ _ (fun w => w)]; exact b4
  have d5 : eJ τ4 1705 0 = lN bg := by rw [hτ4]; show eJ τ3 1705 0 = _; rw [a3.2.2.2.2.1 _ _ (fun w => w)]; exact b5
  obtain ⟨τ5, c1, c2, c3⟩ := k_lx_158 (F := F) (c := c) (th := th) (a := fe) (e := mem) (j := 0) (fp := upN fe 16) (bg := bg) (cur := G0.1) (K := f_Layout_layText_34 F c n) hS h4.2.1 (by decide) (by rw [f4.2.2.2.1]; exact hth 0 (by decide)) d4 d5 m0.1
  refine ⟨τ5, ?_, fun x hx hcd => ?_, ?_, c2, frJE_trans f4 (frJE_mono c3 (fun _ _ w => w.elim) (fun _ _ w => w))⟩
  · rw [p1, ← hτ1]
    unfold f_Layout_layText_92
    rw [p2, c_sJ (G1705 hS) (by decide) (by decide), bs, ← hτ2, if_neg (by decide), C2r6 o (GR_r (v := 1705) h2.2.1 (by decide)), bs, c_aJ (G1705 hS) (by decide) (by decide), bs, b5, c_o o, bs, a1, xb_mk, if_pos (show nI 0 = 0 from rfl), C2p14 o, bs, ← hτ4, c1, ef, em]
  · have hx1 := (hl.2 x hx).1
    rw [c3.2.1 _ _ (fun w => w), hτ4, tJ_ne (Or.inl (by omega))]
    exact a2 x hx (Or.inr hcd)
  · rw [c3.2.1 _ _ (fun w => w), hτ4, tJ_at]
theorem k_lx_1 {τ : px_TT} {n fe bg mem fe1 mem1 pz : Nat} {ad : Nat → Nat} {G1 : px_PG} {D : Nat → Prop} (hF : 65536 < F) (hc : KT c) (hk : STk fs s ST) (hl : llS2 s ST ll) (hnd : ll.Nodup) (h : TKe sk L own τ fs s xs ST rn) (ho : COr τ ll) (hth : ∀ j, j < 3 → eI τ 1703 j = bI (th j)) (hfe : fe < 2 ^ 36) (hmem : mem < 2 ^ 36) (hpz : pz ≤ 2 ^ 30) (h4 : fI τ 1697 4 = nI pz) (hD : ∀ x, D x → cnd (tB fs s.2.2.1) 1 x = false) (hA : ∀ x, x ∈ ll → D x → fJ τ (152 + x) 11 = lN (ad x)) (eb : bg = bgN mem (upN fe 16) (th 1)) (eG : G1 = ll.foldl (pg1 (tB fs s.2.2.1) 1 (th 1)) (bg, ad, none)) (ef : fe1 = (if th 1 = true then upN fe 16 + (G1.1 + pz - bg) else fe)) (em : mem1 = (if th 1 = true then bg + (G1.1 + pz - bg) else mem)) : ∃ τ', f_Layout_layText_34 F c (n + 1) 1700 (lN fe) (lN mem) (nI 1) (cH sk L τ) = f_Layout_layText_34 F c n 1700 (lN fe1) (lN mem1) (nI 2) (cH sk L τ') ∧ (∀ x, x ∈ ll → (D x ∨ cnd (tB fs s.2.2.1) 1 x = true) → fJ τ' (152 + x) 11 = lN (G1.2.1 x)) ∧ fJ τ' 1697 5 = lN G1.1 ∧ (eJ τ' 1704 1 = lN (upN fe 16) ∧ eJ τ' 1705 1 = lN bg ∧ eJ τ' 1706 1 = lN (G1.1 + pz - bg) ∧ eJ τ' 1707 1 = lN (G1.1 + pz - bg)) ∧ frJE JS1 (ESj 1) τ τ' := by
  have hl1 := hl.1
  have h6 := ar_6 (K := 0) hl1
  have hS := h.1
  have hR := h.2.1
  have o := G1700 hS
  have hZ := TKe_Z h hk hl
  have ub := bgN_lt (mem := mem) (fp := upN fe 16) (th := th 1)
  rw [← eb] at ub
  have hT := BK_T (s := s) h.2.2.2.2.1.1
  obtain ⟨x, y, p1, p2⟩ := k_lx_pre (F := F) (c := c) (n := n) (j := 1) (th := th) (a := fe) (e := mem) hS hR (by decide) (hth 1 (by decide)) (by omega) (by omega)
  rw [← eb] at p2
  obtain ⟨τ1, hτ1⟩ : ∃ y, y = vJ τ 1704 (vp_updL (eJ τ 1704) 1 (lN (upN fe 16))) := ⟨_, rfl⟩
  obtain ⟨τ2, hτ2⟩ : ∃ y, y = vJ τ1 1705 (vp_updL (eJ τ1 1705) 1 (lN bg)) := ⟨_, rfl⟩
  have f1 : frJE JS1 (ESj 1) τ τ1 := by rw [hτ1]; exact frJE_E ⟨by decide, by decide, rfl⟩
  have f2 : frJE JS1 (ESj 1) τ τ2 := frJE_trans f1 (by rw [hτ2]; exact frJE_E ⟨by decide, by decide, rfl⟩)
  have h2 := TKe_Ly h (frJE_Ly f2 JS1_Ly ES_Ly)
  have ho2 : COr τ2 ll := COr_fx ho (f2.1 1700 11) (f2.2.2.2.2.2 1701)
  have b4 : eJ τ2 1704 1 = lN (upN fe 16) := by rw [hτ2, eJ_un (Or.inl (by decide)), hτ1, eJ_up]
  have b5 : eJ τ2 1705 1 = lN bg := by rw [hτ2, eJ_up]
  have eF : ∀ a k, fJ τ2 a k = fJ τ a k := fun a k => by rw [hτ2, hτ1]; rfl
  obtain ⟨τ3, a1, a2, a3⟩ := k_layGroup (F := F) (c := c) (g := 1) (th := th 1) (D := D) (G := (bg, ad, none)) hF hc hk hl hnd (by decide) hD h2 ho2 (by rw [f2.2.2.2.1]; exact hth 1 (by decide)) (show bg < _ by omega) (fun x hx hd => by rw [eF]; exact hA x hx hd)
  have m0 := pgs_m (g := 1) (th := th 1) ll (bg, ad, none) hZ
  rw [← eG] at a1 a2 m0
  have m0 : bg ≤ G1.1 ∧ G1.1 ≤ bg + ll.length * 20480 := m0
  have f3 : frJE JS1 (ESj 1) τ τ3 := frJE_trans f2 (frJE_mono a3 (fun _ _ w => Or.inl w) (fun _ _ w => w.elim))
  have h3 := TKe_Ly h (frJE_Ly f3 JS1_Ly ES_Ly)
  obtain ⟨τ4, hτ4⟩ : ∃ y, y = tJ τ3 1697 5 (lN G1.1) := ⟨_, rfl⟩
  have f4 : frJE JS1 (ESj 1) τ τ4 := frJE_trans f3 (by rw [hτ4]; exact frJE_J (Or.inr ⟨rfl, rfl⟩))
  have h5 := TKe_Ly h (frJE_Ly f4 JS1_Ly ES_Ly)
  have d4 : eJ τ4 1704 1 = lN (upN fe 16) := by rw [hτ4]; show eJ τ3 1704 1 = _; rw [a3.2.2.2.2.1 _ _ (fun w => w)]; exact b4
  have d5 : eJ τ4 1705 1 = lN bg := by rw [hτ4]; show eJ τ3 1705 1 = _; rw [a3.2.2.2.2.1 _ _ (fun w => w)]; exact b5
  obtain ⟨τ5, c1, c2, c3⟩ := k_lx_158 (F := F) (c := c) (th := th) (a := fe) (e := mem) (j := 1) (fp := upN fe 16) (bg := bg) (cur := G1.1 + pz) (K := f_Layout_layText_34 F c n) hS h5.2.1 (by decide) (by rw [f4.2.2.2.1]; exact hth 1 (by decide)) d4 d5 (by omega)
  refine ⟨τ5, ?_, fun x hx hcd => ?_, ?_, c2, frJE_trans f4 (frJE_mono c3 (fun _ _ w => w.elim) (fun _ _ w => w))⟩
  · rw [p1, ← hτ1]
    unfold f_Layout_layText_92
    rw [p2, c_sJ (G1705 hS) (by decide) (by decide), bs, ← hτ2, if_neg (by decide), C2r6 o (GR_r (v := 1705) h2.2.1 (by decide)), bs, c_aJ (G1705 hS) (by decide) (by decide), bs, b5, c_o o, bs, a1, xb_mk, if_neg (by decide), C2r1 o (GR_r (v := 1697) h3.2.1 (by decide)), bs, C9p5 (G1697 hS), bs, ← hτ4, C2r1 o (GR_r (v := 1697) h5.2.1 (by decide)), bs, C9g4 (G1697 hS), bs, f4.1, h4, nI_l (by omega), lN_add, c1, ef, em]
  · have hx1 := (hl.2 x hx).1
    rw [c3.2.1 _ _ (fun w => w), hτ4, tJ_ne (Or.inl (by omega))]
    exact a2 x hx hcd
  · rw [c3.2.1 _ _ (fun w => w), hτ4, tJ_at]
end CTY
