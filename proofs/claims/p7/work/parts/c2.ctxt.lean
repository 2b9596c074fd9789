/-! layText of the class -/
section CTX
variable {F : Nat} {c : px_CT} {sk : Nat → Nat × Nat × Nat} {L : Nat} {τ : px_TT} {th : Nat → Bool}
theorem k_cs_4 (hS : GS sk L) (hR : GR τ) (hth : ∀ j, j < 3 → eI τ 1703 j = bI (th j)) : ∀ (d k f : Nat), k + d = 3 → d < f → f_Layout_countSegments_4 F c f 1700 (nI (sgN th k)) (nI k) (cH sk L τ) = some (nI (sgN th 3), cH sk L τ) := by
  intro d
  induction d with
  | zero =>
    intro k f hk hf
    obtain ⟨f, rfl⟩ : ∃ x, f = x + 1 := ⟨f - 1, by omega⟩
    unfold f_Layout_countSegments_4 f_Layout_countSegments_32
    rw [if_pos (nI_le (by omega) (by omega)), show k = 3 by omega]
  | succ d ih =>
    intro k f hk hf
    obtain ⟨f, rfl⟩ : ∃ x, f = x + 1 := ⟨f - 1, by omega⟩
    have := ih (k + 1) f (by omega) (by omega)
    have e : sgN th (k + 1) = sgN th k + (if th k = true then 1 else 0) := rfl
    rw [e] at this
    unfold f_Layout_countSegments_4 f_Layout_countSegments_24
    rw [if_neg (nI_ge (by omega) (by omega)), C2r4 (G1700 hS) (GR_r (v := 1703) hR (by decide)), bs, c_aI (G1703 hS) (by decide) (by decide) (by omega), bs, hth k (by omega), nI_add, nI_add, nI_add]
    cases et : th k with
    | false => rw [if_pos (show bI false = 0 from rfl)]; rw [et, if_neg (by decide)] at this; exact this
    | true => rw [if_neg (show ¬ bI true = 0 by decide)]; rw [et, if_pos rfl] at this; exact this
theorem k_countSegments (hF : 8 < F) (hS : GS sk L) (hR : GR τ) (hth : ∀ j, j < 3 → eI τ 1703 j = bI (th j)) : f_Layout_countSegments F c 1700 (cH sk L τ) = some (nI (sgN th 3), cH sk L τ) := k_cs_4 hS hR hth 3 0 F rfl (by omega)
theorem k_lx_pre {n a e j : Nat} (hS : GS sk L) (hR : GR τ) (hj : j < 3) (hth : eI τ 1703 j = bI (th j)) (ha : a < 2 ^ 40) (he : e < 2 ^ 40) : ∃ x y, f_Layout_layText_34 F c (n + 1) 1700 (lN a) (lN e) (nI j) (cH sk L τ) = f_Layout_layText_92 F c (f_Layout_layText_34 F c n) 1700 (lN a) (lN e) (nI j) 1705 (nI j) x y (cH sk L (vJ τ 1704 (vp_updL (eJ τ 1704) j (lN (upN a 16))))) ∧ x + y = lN (bgN e (upN a 16) (th j)) := by
  have o := G1700 hS
  have u1 := upN_le (v := a) (a := 16) (by decide)
  have k16 := k_up (F := F) (c := c) (ph := cH sk L τ) (v := a) (k := 4) (by decide) (by omega)
  obtain ⟨τ1, hτ1⟩ : ∃ y, y = vJ τ 1704 (vp_updL (eJ τ 1704) j (lN (upN a 16))) := ⟨_, rfl⟩
  have k12 := k_up (F := F) (c := c) (ph := cH sk L τ1) (v := e) (k := 12) (by decide) (by omega)
  have hr : ∀ k v, (1700, k, v) ∈ grl → fN τ1 1700 k = some v := fun k v w => by rw [hτ1]; exact GR_r hR w
  have e1 : eI τ1 1703 j = bI (th j) := by rw [hτ1]; exact hth
  have e4 : eJ τ1 1704 j = lN (upN a 16) := by rw [hτ1, eJ_up]
  rw [← hτ1]
  refine ⟨lN (upN e 4096), lN (if th j = true then upN a 16 % 4096 else 0), ?_, by rw [lN_add]; rfl⟩
  unfold f_Layout_layText_34
  rw [if_neg (nI_ge (by omega) (by omega)), C2r5 o (GR_r (v := 1704) hR (by decide)), bs, show (16 : Int64) = lN (2 ^ 4) from rfl, k16, xb_mk, c_sJ (G1704 hS) (by decide) (by omega), bs, show upN a (2 ^ 4) = upN a 16 from rfl, ← hτ1, C2r6 o (hr 6 1705 (by decide)), bs, show (4096 : Int64) = lN (2 ^ 12) from rfl, k12, xb_mk, C2r4 o (hr 4 1703 (by decide)), bs, c_aI (G1703 hS) (by decide) (by decide) (by omega), bs, e1]
  cases et : th j with
  | false => rw [if_pos (show bI false = 0 from rfl), if_neg (by decide)]
  | true =>
    rw [if_neg (show ¬ bI true = 0 by decide), if_pos rfl, C2r5 o (hr 5 1704 (by decide)), bs, c_aJ (G1704 hS) (by decide) (by omega), bs, e4, show (4095 : Int64) = lN (2 ^ 12 - 1) from rfl, wb_mask (by omega) (by decide)]
theorem k_lx_189 {a e j fp bg fb mb : Nat} {K : Nat → Int64 → Int64 → Int32 → px_H → Option (Unit × px_H)} (hS : GS sk L) (hR : GR τ) (hj : j < 3) (hth : eI τ 1703 j = bI (th j)) (h4 : eJ τ 1704 j = lN fp) (h5 : eJ τ 1705 j = lN bg) (h6 : eJ τ 1706 j = lN fb) (h7 : eJ τ 1707 j = lN mb) : f_Layout_layText_189 F c K 1700 (lN a) (lN e) (nI j) (cH sk L τ) = K 1700 (lN (if th j = true then fp + fb else a)) (lN (if th j = true then bg + mb else e)) (nI (j + 1)) (cH sk L τ) := by
  have o := G1700 hS
  unfold f_Layout_layText_189 f_Layout_layText_231
  rw [C2r4 o (GR_r (v := 1703) hR (by decide)), bs, c_aI (G1703 hS) (by decide) (by decide) (by omega), bs, hth, nI_add]
  cases et : th j with
  | false => rw [if_pos (show bI false = 0 from rfl), if_neg (by decide), if_neg (by decide)]
  | true =>
    rw [if_neg (show ¬ bI true = 0 by decide), if_pos rfl, if_pos rfl, C2r5 o (GR_r (v := 1704) hR (by decide)), bs, c_aJ (G1704 hS) (by decide) (by omega), bs, C2r7 o (GR_r (v := 1706) hR (by decide)), bs, c_aJ (G1706 hS) (by decide) (by omega), bs, C2r6 o (GR_r (v := 1705) hR (by decide)), bs, c_aJ (G1705 hS) (by decide) (by omega), bs, C2r8 o (GR_r (v := 1707) hR (by decide)), bs, c_aJ (G1707 hS) (by decide) (by omega), bs, h4, h5, h6, h7, lN_add, lN_add]
def JT (a k : Nat) : Prop := JD a k ∨ (a = 1697 ∧ k = 5) ∨ (a = 1700 ∧ (k = 14 ∨ k = 18))
def ET (a _i : Nat) : Prop := 1704 ≤ a ∧ a ≤ 1707
theorem JT_Ly (a k : Nat) (w : JT a k) : a = 1697 ∨ a = 1700 ∨ (152 ≤ a ∧ a < 1688 ∧ k = 11) ∨ (1815 ≤ a ∧ k = 14) := by unfold JT JD J63 J11 J14 J16 at w; omega
theorem ET_Ly (a i : Nat) (w : ET a i) : 1704 ≤ a ∧ a ≤ 1707 := w
def JN (_ _ : Nat) : Prop := False
/-- segment j's four longs -/
def ESj (j a i : Nat) : Prop := 1704 ≤ a ∧ a ≤ 1707 ∧ i = j
theorem k_lx_158 {a e j fp bg cur : Nat} {K : Nat → Int64 → Int64 → Int32 → px_H → Option (Unit × px_H)} (hS : GS sk L) (hR : GR τ) (hj : j < 3) (hth : eI τ 1703 j = bI (th j)) (h4 : eJ τ 1704 j = lN fp) (h5 : eJ τ 1705 j = lN bg) (hb : bg ≤ cur) : ∃ τ', f_Layout_layText_158 F c K 1700 (lN a) (lN e) (nI j) (lN cur) (cH sk L τ) = K 1700 (lN (if th j = true then fp + (cur - bg) else a)) (lN (if th j = true then bg + (cur - bg) else e)) (nI (j + 1)) (cH sk L τ') ∧ (eJ τ' 1704 j = lN fp ∧ eJ τ' 1705 j = lN bg ∧ eJ τ' 1706 j = lN (cur - bg) ∧ eJ τ' 1707 j = lN (cur - bg)) ∧ frJE JN (ESj j) τ τ' := by
  have o := G1700 hS
  obtain ⟨τ1, hτ1⟩ : ∃ y, y = vJ τ 1706 (vp_updL (eJ τ 1706) j (lN (cur - bg))) := ⟨_, rfl⟩
  obtain ⟨τ2, hτ2⟩ : ∃ y, y = vJ τ1 1707 (vp_updL (eJ τ1 1707) j (lN (cur - bg))) := ⟨_, rfl⟩
  have f1 : frJE JN (ESj j) τ τ1 := by rw [hτ1]; exact frJE_E ⟨by decide, by decide, rfl⟩
  have f2 : frJE JN (ESj j) τ τ2 := frJE_trans f1 (by rw [hτ2]; exact frJE_E ⟨by decide, by decide, rfl⟩)
  have hR1 := GR_Ly hR (frJE_Ly f1 (fun _ _ w => w.elim) (fun _ _ w => ⟨w.1, w.2.1⟩))
  have hR2 := GR_Ly hR (frJE_Ly f2 (fun _ _ w => w.elim) (fun _ _ w => ⟨w.1, w.2.1⟩))
  have g4 : eJ τ2 1704 j = lN fp := by rw [hτ2, eJ_un (Or.inl (by decide)), hτ1, eJ_un (Or.inl (by decide))]; exact h4
  have g5 : eJ τ2 1705 j = lN bg := by rw [hτ2, eJ_un (Or.inl (by decide)), hτ1, eJ_un (Or.inl (by decide))]; exact h5
  have g6 : eJ τ2 1706 j = lN (cur - bg) := by rw [hτ2, eJ_un (Or.inl (by decide)), hτ1, eJ_up]
  have g7 : eJ τ2 1707 j = lN (cur - bg) := by rw [hτ2, eJ_up]
  refine ⟨τ2, ?_, ⟨g4, g5, g6, g7⟩, f2⟩
  unfold f_Layout_layText_158
  rw [C2r7 o (GR_r (v := 1706) hR (by decide)), bs, C2r6 o (GR_r (v := 1705) hR (by decide)), bs, c_aJ (G1705 hS) (by decide) (by omega), bs, h5, lN_sub hb, c_sJ (G1706 hS) (by decide) (by omega), bs, ← hτ1, C2r8 o (GR_r (v := 1707) hR1 (by decide)), bs, C2r7 o (GR_r (v := 1706) hR1 (by decide)), bs, c_aJ (G1706 hS) (by decide) (by omega), bs, show eJ τ1 1706 j = lN (cur - bg) by rw [hτ1, eJ_up], c_sJ (G1707 hS) (by decide) (by omega), bs, ← hτ2]
  exact k_lx_189 hS hR2 hj (by rw [f2.2.2.2.1]; exact hth) g4 g5 g6 g7
end CTX
