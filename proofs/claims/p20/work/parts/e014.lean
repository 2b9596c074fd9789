section
/-! layData of the class, whole -/
section CDU
variable {F : Nat} {c : px_CT} {sk : Nat → Nat × Nat × Nat} {L : Nat} {own : Nat → Nat × Nat} {fs : px_FS} {s : px_TK} {xs : px_NL} {ST rn : Nat → Bool} {ll : List Nat} {th on : Bool} {rn0 : Nat → Bool} {D : Nat → Prop}
def JD (a k : Nat) : Prop := J63 a k ∨ J16 a k ∨ (a = 1700 ∧ k = 13)
def ED (a i : Nat) : Prop := E63 a i ∨ E3 a i
theorem JD_Ly (a k : Nat) (w : JD a k) : a = 1697 ∨ a = 1700 ∨ (152 ≤ a ∧ a < 1688 ∧ k = 11) ∨ (1815 ≤ a ∧ k = 14) := by unfold JD J63 J11 J14 J16 at w; omega
theorem ED_Ly (a i : Nat) (w : ED a i) : 1704 ≤ a ∧ a ≤ 1707 := by unfold ED E63 E3 at w; omega
theorem k_layData {τ : px_TT} {ns sp bg2 : Nat} {ad : Nat → Nat} {G4 G5 G2 G3 CM : px_PG} (hF : 65536 < F) (hc : KT c) (hk : STk fs s ST) (hl : llS2 s ST ll) (hnd : ll.Nodup) (hsr : srt (tB fs s.2.2.1) ll) (hok : okL xs) (hcm : cmOK xs) (hcq : AL cmQ xs) (hrn : ∀ i, rn i = (!on || rn0 i)) (hod : ∀ d, d ∈ s.1.2.2.1 → d < xs.length) (h : TKe sk L own τ fs s xs ST rn) (ho : COr τ ll) (ht : eI τ 1703 2 = bI th) (hb2 : eJ τ 1705 2 = lN bg2) (he : bg2 < 2 ^ 36) (h12 : fI τ 1700 12 = nI ns) (hns : ns ≤ 2800) (hD : ∀ x, D x → cnd (tB fs s.2.2.1) 4 x = false ∧ cnd (tB fs s.2.2.1) 5 x = false ∧ cnd (tB fs s.2.2.1) 2 x = false ∧ cnd (tB fs s.2.2.1) 3 x = false) (hA : ∀ x, x ∈ ll → D x → fJ τ (152 + x) 11 = lN (ad x)) (e4 : G4 = ll.foldl (pg1 (tB fs s.2.2.1) 4 th) (bg2, ad, none)) (e5 : G5 = ll.foldl (pg1 (tB fs s.2.2.1) 5 th) (G4.1, G4.2.1, none)) (e2 : G2 = ll.foldl (pg1 (tB fs s.2.2.1) 2 th) (G4.1, G5.2.1, none)) (esp : sp = (if 0 < ns then upN G2.1 8 else G2.1)) (e3 : G3 = ll.foldl (pg1 (tB fs s.2.2.1) 3 th) (sp + 8 * ns, G2.2.1, none)) (eC : CM = s.1.2.2.1.foldl (pc1 xs on rn0 th) (G3.1, (fun _ => 0), G3.2.2)) : ∃ τ', f_Layout_layData F c 1700 (cH sk L τ) = some ((), cH sk L τ') ∧ (∀ x, x ∈ ll → (((((D x ∨ cnd (tB fs s.2.2.1) 4 x = true) ∨ cnd (tB fs s.2.2.1) 5 x = true) ∨ cnd (tB fs s.2.2.1) 2 x = true)) ∨ cnd (tB fs s.2.2.1) 3 x = true) → fJ τ' (152 + x) 11 = lN (G3.2.1 x)) ∧ (0 < ns → fJ τ' 1700 13 = lN sp) ∧ fJ τ' 1700 17 = lN (tpN bg2 (ll.foldl (ft1 (tB fs s.2.2.1) G3.2.1) (false, 0, 1, 0))) ∧ fJ τ' 1700 15 = lN (CM.2.2.getD CM.1) ∧ (eJ τ' 1706 2 = lN (sp + 8 * ns - bg2) ∧ eJ τ' 1707 2 = lN (CM.1 - bg2)) ∧ (∀ n, n ∈ s.1.2.2.1 → cB xs on rn0 n = true → fJ τ' (pN τ 149 n) 14 = lN (CM.2.1 n)) ∧ frJE JD ED τ τ' := by
  have hl1 := hl.1
  have h6 := ar_6 (K := 0) hl1
  have hS := h.1
  have hR := h.2.1
  have o := G1700 hS
  have hZ := TKe_Z h hk hl
  obtain ⟨τ1, a1, a2, a3⟩ := k_layGroup (F := F) (c := c) (g := 4) (th := th) (D := D) (G := (bg2, ad, none)) hF hc hk hl hnd (by decide) (fun x hx => (hD x hx).1) h ho ht (show bg2 < _ by omega) hA
  have m4 := pgs_m (g := 4) (th := th) ll (bg2, ad, none) hZ
  rw [← e4] at a1 a2 m4
  have m4 : bg2 ≤ G4.1 ∧ G4.1 ≤ bg2 + ll.length * 20480 := m4
  have f1 : frJE JD ED τ τ1 := frJE_mono a3 (fun _ _ w => Or.inl (Or.inl w)) (fun _ _ w => w.elim)
  have h1 := TKe_Ly h (frJE_Ly f1 JD_Ly ED_Ly)
  have ho1 : COr τ1 ll := COr_fx ho (f1.1 1700 11) (f1.2.2.2.2.2 1701)
  obtain ⟨τ2, b1, b2, b3⟩ := k_layGroup (F := F) (c := c) (g := 5) (th := th) (D := fun x => D x ∨ cnd (tB fs s.2.2.1) 4 x = true) (G := (G4.1, G4.2.1, none)) hF hc hk hl hnd (by decide) (fun x hx => hx.elim (fun q => (hD x q).2.1) (fun q => cnd_x q (by decide))) h1 ho1 (by rw [f1.2.2.2.1]; exact ht) (show G4.1 < _ by omega) a2
  have m5 := pgs_m (g := 5) (th := th) ll (G4.1, G4.2.1, none) hZ
  rw [← e5] at b1 b2 m5
  have m5 : G4.1 ≤ G5.1 ∧ G5.1 ≤ G4.1 + ll.length * 20480 := m5
  have f2 : frJE JD ED τ τ2 := frJE_trans f1 (frJE_mono b3 (fun _ _ w => Or.inl (Or.inl w)) (fun _ _ w => w.elim))
  have h2 := TKe_Ly h (frJE_Ly f2 JD_Ly ED_Ly)
  have ho2 : COr τ2 ll := COr_fx ho (f2.1 1700 11) (f2.2.2.2.2.2 1701)
  have b13 : eJ τ2 1705 2 = lN bg2 := by rw [b3.2.2.2.2.1 _ _ (fun w => w), a3.2.2.2.2.1 _ _ (fun w => w)]; exact hb2
  have hFT := tp_eq (th := th) (ad := G3.2.1) hsr e4 e5 (fun x hx hg => by
    have hg5 := oG_5 (b := tB fs s.2.2.1 (x / 24)) (i := x % 24)
    rw [e3, pg_k (by rw [cnd_q (by decide)]; exact decide_eq_false (by omega))]
    show G2.2.1 x = _
    rw [e2, pg_k (by rw [cnd_q (by decide)]; exact decide_eq_false (by omega))])
  obtain ⟨τ3, c1, c2, c3⟩ := k_layTemplate (F := F) (c := c) (ad := G3.2.1) (fe := G4.1) (bg2 := bg2) (e5 := G5.1) hF hk hl h2 ho2 b13 (by omega) hFT
  have f3 : frJE JD ED τ τ3 := frJE_trans f2 (frJE_mono c3 (fun _ _ w => Or.inr (Or.inl w)) (fun _ _ w => Or.inr w))
  have h3 := TKe_Ly h (frJE_Ly f3 JD_Ly ED_Ly)
  have ho3 : COr τ3 ll := COr_fx ho (f3.1 1700 11) (f3.2.2.2.2.2 1701)
  obtain ⟨τ4, d1, d2, d3⟩ := k_layGroup (F := F) (c := c) (g := 2) (th := th) (D := fun x => (D x ∨ cnd (tB fs s.2.2.1) 4 x = true) ∨ cnd (tB fs s.2.2.1) 5 x = true) (G := (G4.1, G5.2.1, none)) hF hc hk hl hnd (by decide) (fun x hx => hx.elim (fun q => q.elim (fun q => (hD x q).2.2.1) (fun q => cnd_x q (by decide))) (fun q => cnd_x q (by decide))) h3 ho3 (by rw [f3.2.2.2.1]; exact ht) (show G4.1 < _ by omega) (fun x hx hd => by
    have hx1 := (hl.2 x hx).1
    have hT := BK_T (s := s) h.2.2.2.2.1.1
    rw [c3.2.1 _ _ (fun w => by unfold J16 at w; omega)]
    exact b2 x hx hd)
  have m2 := pgs_m (g := 2) (th := th) ll (G4.1, G5.2.1, none) hZ
  rw [← e2] at d1 d2 m2
  have m2 : G4.1 ≤ G2.1 ∧ G2.1 ≤ G4.1 + ll.length * 20480 := m2
  have f4 : frJE JD ED τ τ4 := frJE_trans f3 (frJE_mono d3 (fun _ _ w => Or.inl (Or.inl w)) (fun _ _ w => w.elim))
  have u8 := upN_le (v := G2.1) (a := 8) (by decide)
  have hsp : G2.1 ≤ sp ∧ sp < G2.1 + 8 := by rw [esp]; split <;> omega
  have t17 : fJ τ4 1700 17 = lN (tpN bg2 (ll.foldl (ft1 (tB fs s.2.2.1) G3.2.1) (false, 0, 1, 0))) := by
    rw [d3.2.1 _ _ (fun w => by unfold J11 at w; omega)]; exact c2
  have b14 : eJ τ4 1705 2 = lN bg2 := by rw [d3.2.2.2.2.1 _ _ (fun w => w), c3.2.2.2.2.1 _ _ (fun w => by unfold E3 at w; omega)]; exact b13
  have last : ∀ τ5, frJE JD ED τ τ5 → (∀ x, x ∈ ll → (((D x ∨ cnd (tB fs s.2.2.1) 4 x = true) ∨ cnd (tB fs s.2.2.1) 5 x = true) ∨ cnd (tB fs s.2.2.1) 2 x = true) → fJ τ5 (152 + x) 11 = lN (G2.2.1 x)) → eJ τ5 1705 2 = lN bg2 → fJ τ5 1700 17 = lN (tpN bg2 (ll.foldl (ft1 (tB fs s.2.2.1) G3.2.1) (false, 0, 1, 0))) → (0 < ns → fJ τ5 1700 13 = lN sp) → ∃ τ', f_Layout_layData_63 F c 1700 (lN (sp + 8 * ns)) (cH sk L τ5) = some ((), cH sk L τ') ∧ (∀ x, x ∈ ll → (((((D x ∨ cnd (tB fs s.2.2.1) 4 x = true) ∨ cnd (tB fs s.2.2.1) 5 x = true) ∨ cnd (tB fs s.2.2.1) 2 x = true)) ∨ cnd (tB fs s.2.2.1) 3 x = true) → fJ τ' (152 + x) 11 = lN (G3.2.1 x)) ∧ (0 < ns → fJ τ' 1700 13 = lN sp) ∧ fJ τ' 1700 17 = lN (tpN bg2 (ll.foldl (ft1 (tB fs s.2.2.1) G3.2.1) (false, 0, 1, 0))) ∧ fJ τ' 1700 15 = lN (CM.2.2.getD CM.1) ∧ (eJ τ' 1706 2 = lN (sp + 8 * ns - bg2) ∧ eJ τ' 1707 2 = lN (CM.1 - bg2)) ∧ (∀ n, n ∈ s.1.2.2.1 → cB xs on rn0 n = true → fJ τ' (pN τ 149 n) 14 = lN (CM.2.1 n)) ∧ frJE JD ED τ τ' := fun τ5 f5 hA5 hb5 h17 h13 => by
    have h5 := TKe_Ly h (frJE_Ly f5 JD_Ly ED_Ly)
    have ho5 : COr τ5 ll := COr_fx ho (f5.1 1700 11) (f5.2.2.2.2.2 1701)
    have eP : ∀ n, pN τ5 149 n = pN τ 149 n := fun n => by unfold pN; rw [f5.2.2.2.2.2]
    obtain ⟨τ6, g1, g2, g3, g4, g5, g6⟩ := k_dt_63 (F := F) (c := c) (th := th) (on := on) (rn0 := rn0) (D := fun x => (((D x ∨ cnd (tB fs s.2.2.1) 4 x = true) ∨ cnd (tB fs s.2.2.1) 5 x = true) ∨ cnd (tB fs s.2.2.1) 2 x = true)) (e := sp + 8 * ns) (bg2 := bg2) (ad := G2.2.1) (G3 := G3) (CM := CM) hF hc hk hl hnd hok hcm hcq hrn hod h5 ho5 (by rw [f5.2.2.2.1]; exact ht) hb5 (by omega) (by omega) (fun x hx => hx.elim (fun q => q.elim (fun q => q.elim (fun q => (hD x q).2.2.2) (fun q => cnd_x q (by decide))) (fun q => cnd_x q (by decide))) (fun q => cnd_x q (by decide))) hA5 e3 eC
    refine ⟨τ6, g1, g2, fun w => ?_, ?_, g3, g4, fun n hn hc => by rw [← eP]; exact g5 n hn hc, frJE_trans f5 (frJE_mono g6 (fun _ _ w => Or.inl w) (fun _ _ w => Or.inl w))⟩
    · rw [g6.2.1 _ _ (fun w => by unfold J63 J11 J14 at w; omega)]; exact h13 w
    · rw [g6.2.1 _ _ (fun w => by unfold J63 J11 J14 at w; omega)]; exact h17
  unfold f_Layout_layData
  rw [C2r6 o (GR_r (v := 1705) hR (by decide)), bs, c_aJ (G1705 hS) (by decide) (by decide), bs, hb2, c_o o, bs, a1, xb_mk, c_o o, bs, b1, xb_mk, c_o o, bs, c1, xb_mk, c_o o, bs, d1, xb_mk, C2g12 o, bs, f4.1, h12]
  by_cases cn : 0 < ns
  · have e8 : f_H_up F c (lN G2.1) ((8 : Int64)) (cH sk L τ4) = some (lN sp, cH sk L τ4) := by
      rw [esp, if_pos cn]
      exact k_up (k := 3) (by decide) (by omega)
    obtain ⟨τ5, hτ5⟩ : ∃ y, y = tJ τ4 1700 13 (lN sp) := ⟨_, rfl⟩
    have f5 : frJE JD ED τ τ5 := frJE_trans f4 (by rw [hτ5]; exact frJE_J (Or.inr (Or.inr ⟨rfl, rfl⟩)))
    rw [if_neg (show ¬ nI ns ≤ 0 from nI_ge (a := 0) cn (by omega)), e8, xb_mk, C2p13 o, bs, ← hτ5, C2g13 o, bs, show fJ τ5 1700 13 = lN sp by rw [hτ5, tJ_at], C2g12 o, bs, f5.1, h12, nI_l (by omega), show (8 : Int64) = lN 8 from rfl, lN_mul, lN_add]
    exact last τ5 f5 (fun x hx hd => by
      have hx1 := (hl.2 x hx).1
      have hT := BK_T (s := s) h.2.2.2.2.1.1
      rw [hτ5, tJ_ne (Or.inl (by omega))]; exact d2 x hx hd) (by rw [hτ5]; exact b14) (by rw [hτ5, tJ_ne (Or.inr (by decide))]; exact t17) (fun _ => by rw [hτ5, tJ_at])
  · have e0 : ns = 0 := by omega
    have l4 := last τ4 f4 d2 b14 t17 (fun w => absurd w cn)
    rw [if_pos (show nI ns ≤ 0 by rw [e0]; decide)]
    rw [show lN G2.1 = lN (sp + 8 * ns) by rw [esp, if_neg cn, e0, Nat.mul_zero, Nat.add_zero]]
    exact l4
end CDU
end
section
/-! layText of the class -/
section CTX
variable {F : Nat} {c : px_CT} {sk : Nat → Nat × Nat × Nat} {L : Nat} {τ : px_TT} {th : Nat → Bool}
theorem k_cs_4 (hS : GS sk L) (hR : GR τ) (hth : ∀ j, j < 3 → eI τ 1703 j = bI (th j)) : ∀ (d k f : Nat), k + d = 3 → d < f → f_Layout_countSegments_4 F c f 1700 (nI (sgN th k)) (nI k) (cH sk L τ) = some (nI (sgN th 3), cH sk L τ) := by
  intro d
  induction d with
  | zero =>
    intro k f hk hf
    obtain ⟨f, rfl⟩ : ∃ x, f = x + 1 := ⟨f - 1, by omega⟩
    unfold f_Layout_countSegments_4 f_Layout_countSegments_32
    rw [if_pos (nI_le (by omega) (by omega)), show k = 3 by omega]
  | succ d ih =>
    intro k f hk hf
    obtain ⟨f, rfl⟩ : ∃ x, f = x + 1 := ⟨f - 1, by omega⟩
    have := ih (k + 1) f (by omega) (by omega)
    have e : sgN th (k + 1) = sgN th k + (if th k = true then 1 else 0) := rfl
    rw [e] at this
    unfold f_Layout_countSegments_4 f_Layout_countSegments_24
    rw [if_neg (nI_ge (by omega) (by omega)), C2r4 (G1700 hS) (GR_r (v := 1703) hR (by decide)), bs, c_aI (G1703 hS) (by decide) (by decide) (by omega), bs, hth k (by omega), nI_add, nI_add, nI_add]
    cases et : th k with
    | false => rw [if_pos (show bI false = 0 from rfl)]; rw [et, if_neg (by decide)] at this; exact this
    | true => rw [if_neg (show ¬ bI true = 0 by decide)]; rw [et, if_pos rfl] at this; exact this
theorem k_countSegments (hF : 8 < F) (hS : GS sk L) (hR : GR τ) (hth : ∀ j, j < 3 → eI τ 1703 j = bI (th j)) : f_Layout_countSegments F c 1700 (cH sk L τ) = some (nI (sgN th 3), cH sk L τ) := k_cs_4 hS hR hth 3 0 F rfl (by omega)
theorem k_lx_pre {n a e j : Nat} (hS : GS sk L) (hR : GR τ) (hj : j < 3) (hth : eI τ 1703 j = bI (th j)) (ha : a < 2 ^ 40) (he : e < 2 ^ 40) : ∃ x y, f_Layout_layText_34 F c (n + 1) 1700 (lN a) (lN e) (nI j) (cH sk L τ) = f_Layout_layText_92 F c (f_Layout_layText_34 F c n) 1700 (lN a) (lN e) (nI j) 1705 (nI j) x y (cH sk L (vJ τ 1704 (vp_updL (eJ τ 1704) j (lN (upN a 16))))) ∧ x + y = lN (bgN e (upN a 16) (th j)) := by
  have o := G1700 hS
  have u1 := upN_le (v := a) (a := 16) (by decide)
  have k16 := k_up (F := F) (c := c) (ph := cH sk L τ) (v := a) (k := 4) (by decide) (by omega)
  obtain ⟨τ1, hτ1⟩ : ∃ y, y = vJ τ 1704 (vp_updL (eJ τ 1704) j (lN (upN a 16))) := ⟨_, rfl⟩
  have k12 := k_up (F := F) (c := c) (ph := cH sk L τ1) (v := e) (k := 12) (by decide) (by omega)
  have hr : ∀ k v, (1700, k, v) ∈ grl → fN τ1 1700 k = some v := fun k v w => by rw [hτ1]; exact GR_r hR w
  have e1 : eI τ1 1703 j = bI (th j) := by rw [hτ1]; exact hth
  have e4 : eJ τ1 1704 j = lN (upN a 16) := by rw [hτ1, eJ_up]
  rw [← hτ1]
  refine ⟨lN (upN e 4096), lN (if th j = true then upN a 16 % 4096 else 0), ?_, by rw [lN_add]; rfl⟩
  unfold f_Layout_layText_34
  rw [if_neg (nI_ge (by omega) (by omega)), C2r5 o (GR_r (v := 1704) hR (by decide)), bs, show (16 : Int64) = lN (2 ^ 4) from rfl, k16, xb_mk, c_sJ (G1704 hS) (by decide) (by omega), bs, show upN a (2 ^ 4) = upN a 16 from rfl, ← hτ1, C2r6 o (hr 6 1705 (by decide)), bs, show (4096 : Int64) = lN (2 ^ 12) from rfl, k12, xb_mk, C2r4 o (hr 4 1703 (by decide)), bs, c_aI (G1703 hS) (by decide) (by decide) (by omega), bs, e1]
  cases et : th j with
  | false => rw [if_pos (show bI false = 0 from rfl), if_neg (by decide)]
  | true =>
    rw [if_neg (show ¬ bI true = 0 by decide), if_pos rfl, C2r5 o (hr 5 1704 (by decide)), bs, c_aJ (G1704 hS) (by decide) (by omega), bs, e4, show (4095 : Int64) = lN (2 ^ 12 - 1) from rfl, wb_mask (by omega) (by decide)]
theorem k_lx_189 {a e j fp bg fb mb : Nat} {K : Nat → Int64 → Int64 → Int32 → px_H → Option (Unit × px_H)} (hS : GS sk L) (hR : GR τ) (hj : j < 3) (hth : eI τ 1703 j = bI (th j)) (h4 : eJ τ 1704 j = lN fp) (h5 : eJ τ 1705 j = lN bg) (h6 : eJ τ 1706 j = lN fb) (h7 : eJ τ 1707 j = lN mb) : f_Layout_layText_189 F c K 1700 (lN a) (lN e) (nI j) (cH sk L τ) = K 1700 (lN (if th j = true then fp + fb else a)) (lN (if th j = true then bg + mb else e)) (nI (j + 1)) (cH sk L τ) := by
  have o := G1700 hS
  unfold f_Layout_layText_189 f_Layout_layText_231
  rw [C2r4 o (GR_r (v := 1703) hR (by decide)), bs, c_aI (G1703 hS) (by decide) (by decide) (by omega), bs, hth, nI_add]
  cases et : th j with
  | false => rw [if_pos (show bI false = 0 from rfl), if_neg (by decide), if_neg (by decide)]
  | true =>
    rw [if_neg (show ¬ bI true = 0 by decide), if_pos rfl, if_pos rfl, C2r5 o (GR_r (v := 1704) hR (by decide)), bs, c_aJ (G1704 hS) (by decide) (by omega), bs, C2r7 o (GR_r (v := 1706) hR (by decide)), bs, c_aJ (G1706 hS) (by decide) (by omega), bs, C2r6 o (GR_r (v := 1705) hR (by decide)), bs, c_aJ (G1705 hS) (by decide) (by omega), bs, C2r8 o (GR_r (v := 1707) hR (by decide)), bs, c_aJ (G1707 hS) (by decide) (by omega), bs, h4, h5, h6, h7, lN_add, lN_add]
def JT (a k : Nat) : Prop := JD a k ∨ (a = 1697 ∧ k = 5) ∨ (a = 1700 ∧ (k = 14 ∨ k = 18))
def ET (a _i : Nat) : Prop := 1704 ≤ a ∧ a ≤ 1707
theorem JT_Ly (a k : Nat) (w : JT a k) : a = 1697 ∨ a = 1700 ∨ (152 ≤ a ∧ a < 1688 ∧ k = 11) ∨ (1815 ≤ a ∧ k = 14) := by unfold JT JD J63 J11 J14 J16 at w; omega
theorem ET_Ly (a i : Nat) (w : ET a i) : 1704 ≤ a ∧ a ≤ 1707 := w
def JN (_ _ : Nat) : Prop := False
/-- segment j's four longs -/
def ESj (j a i : Nat) : Prop := 1704 ≤ a ∧ a ≤ 1707 ∧ i = j
theorem k_lx_158 {a e j fp bg cur : Nat} {K : Nat → Int64 → Int64 → Int32 → px_H → Option (Unit × px_H)} (hS : GS sk L) (hR : GR τ) (hj : j < 3) (hth : eI τ 1703 j = bI (th j)) (h4 : eJ τ 1704 j = lN fp) (h5 : eJ τ 1705 j = lN bg) (hb : bg ≤ cur) : ∃ τ', f_Layout_layText_158 F c K 1700 (lN a) (lN e) (nI j) (lN cur) (cH sk L τ) = K 1700 (lN (if th j = true then fp + (cur - bg) else a)) (lN (if th j = true then bg + (cur - bg) else e)) (nI (j + 1)) (cH sk L τ') ∧ (eJ τ' 1704 j = lN fp ∧ eJ τ' 1705 j = lN bg ∧ eJ τ' 1706 j = lN (cur - bg) ∧ eJ τ' 1707 j = lN (cur - bg)) ∧ frJE JN (ESj j) τ τ' := by
  have o := G1700 hS
  obtain ⟨τ1, hτ1⟩ : ∃ y, y = vJ τ 1706 (vp_updL (eJ τ 1706) j (lN (cur - bg))) := ⟨_, rfl⟩
  obtain ⟨τ2, hτ2⟩ : ∃ y, y = vJ τ1 1707 (vp_updL (eJ τ1 1707) j (lN (cur - bg))) := ⟨_, rfl⟩
  have f1 : frJE JN (ESj j) τ τ1 := by rw [hτ1]; exact frJE_E ⟨by decide, by decide, rfl⟩
  have f2 : frJE JN (ESj j) τ τ2 := frJE_trans f1 (by rw [hτ2]; exact frJE_E ⟨by decide, by decide, rfl⟩)
  have hR1 := GR_Ly hR (frJE_Ly f1 (fun _ _ w => w.elim) (fun _ _ w => ⟨w.1, w.2.1⟩))
  have hR2 := GR_Ly hR (frJE_Ly f2 (fun _ _ w => w.elim) (fun _ _ w => ⟨w.1, w.2.1⟩))
  have g4 : eJ τ2 1704 j = lN fp := by rw [hτ2, eJ_un (Or.inl (by decide)), hτ1, eJ_un (Or.inl (by decide))]; exact h4
  have g5 : eJ τ2 1705 j = lN bg := by rw [hτ2, eJ_un (Or.inl (by decide)), hτ1, eJ_un (Or.inl (by decide))]; exact h5
  have g6 : eJ τ2 1706 j = lN (cur - bg) := by rw [hτ2, eJ_un (Or.inl (by decide)), hτ1, eJ_up]
  have g7 : eJ τ2 1707 j = lN (cur - bg) := by rw [hτ2, eJ_up]
  refine ⟨τ2, ?_, ⟨g4, g5, g6, g7⟩, f2⟩
  unfold f_Layout_layText_158
  rw [C2r7 o (GR_r (v := 1706) hR (by decide)), bs, C2r6 o (GR_r (v := 1705) hR (by decide)), bs, c_aJ (G1705 hS) (by decide) (by omega), bs, h5, lN_sub hb, c_sJ (G1706 hS) (by decide) (by omega), bs, ← hτ1, C2r8 o (GR_r (v := 1707) hR1 (by decide)), bs, C2r7 o (GR_r (v := 1706) hR1 (by decide)), bs, c_aJ (G1706 hS) (by decide) (by omega), bs, show eJ τ1 1706 j = lN (cur - bg) by rw [hτ1, eJ_up], c_sJ (G1707 hS) (by decide) (by omega), bs, ← hτ2]
  exact k_lx_189 hS hR2 hj (by rw [f2.2.2.2.1]; exact hth) g4 g5 g6 g7
end CTX
end
section
/-! layText of the class, segment by segment -/
section CTY
variable {F : Nat} {c : px_CT} {sk : Nat → Nat × Nat × Nat} {L : Nat} {own : Nat → Nat × Nat} {fs : px_FS} {s : px_TK} {xs : px_NL} {ST rn : Nat → Bool} {ll : List Nat} {th : Nat → Bool}
def JS0 (a k : Nat) : Prop := J11 a k ∨ (a = 1700 ∧ k = 14)
def JS1 (a k : Nat) : Prop := J11 a k ∨ (a = 1697 ∧ k = 5)
theorem JS0_Ly (a k : Nat) (w : JS0 a k) : a = 1697 ∨ a = 1700 ∨ (152 ≤ a ∧ a < 1688 ∧ k = 11) ∨ (1815 ≤ a ∧ k = 14) := by unfold JS0 J11 at w; omega
theorem JS1_Ly (a k : Nat) (w : JS1 a k) : a = 1697 ∨ a = 1700 ∨ (152 ≤ a ∧ a < 1688 ∧ k = 11) ∨ (1815 ≤ a ∧ k = 14) := by unfold JS1 J11 at w; omega
theorem ES_Ly {j : Nat} (a i : Nat) (w : ESj j a i) : 1704 ≤ a ∧ a ≤ 1707 := ⟨w.1, w.2.1⟩
theorem k_lx_0 {τ : px_TT} {n fe bg mem fe1 mem1 : Nat} {ad : Nat → Nat} {G0 : px_PG} (hF : 65536 < F) (hc : KT c) (hk : STk fs s ST) (hl : llS2 s ST ll) (hnd : ll.Nodup) (h : TKe sk L own τ fs s xs ST rn) (ho : COr τ ll) (hth : ∀ j, j < 3 → eI τ 1703 j = bI (th j)) (hfe : fe < 2 ^ 36) (hmem : mem < 2 ^ 36) (eb : bg = bgN mem (upN fe 16) (th 0)) (eG : G0 = ll.foldl (pg1 (tB fs s.2.2.1) 0 (th 0)) (bg, ad, none)) (ef : fe1 = (if th 0 = true then upN fe 16 + (G0.1 - bg) else fe)) (em : mem1 = (if th 0 = true then bg + (G0.1 - bg) else mem)) : ∃ τ', f_Layout_layText_34 F c (n + 1) 1700 (lN fe) (lN mem) (nI 0) (cH sk L τ) = f_Layout_layText_34 F c n 1700 (lN fe1) (lN mem1) (nI 1) (cH sk L τ') ∧ (∀ x, x ∈ ll → cnd (tB fs s.2.2.1) 0 x = true → fJ τ' (152 + x) 11 = lN (G0.2.1 x)) ∧ fJ τ' 1700 14 = lN G0.1 ∧ (eJ τ' 1704 0 = lN (upN fe 16) ∧ eJ τ' 1705 0 = lN bg ∧ eJ τ' 1706 0 = lN (G0.1 - bg) ∧ eJ τ' 1707 0 = lN (G0.1 - bg)) ∧ frJE JS0 (ESj 0) τ τ' := by
  have hl1 := hl.1
  have h6 := ar_6 (K := 0) hl1
  have hS := h.1
  have hR := h.2.1
  have o := G1700 hS
  have hZ := TKe_Z h hk hl
  have ub := bgN_lt (mem := mem) (fp := upN fe 16) (th := th 0)
  rw [← eb] at ub
  have hT := BK_T (s := s) h.2.2.2.2.1.1
  obtain ⟨x, y, p1, p2⟩ := k_lx_pre (F := F) (c := c) (n := n) (j := 0) (th := th) (a := fe) (e := mem) hS hR (by decide) (hth 0 (by decide)) (by omega) (by omega)
  rw [← eb] at p2
  obtain ⟨τ1, hτ1⟩ : ∃ y, y = vJ τ 1704 (vp_updL (eJ τ 1704) 0 (lN (upN fe 16))) := ⟨_, rfl⟩
  obtain ⟨τ2, hτ2⟩ : ∃ y, y = vJ τ1 1705 (vp_updL (eJ τ1 1705) 0 (lN bg)) := ⟨_, rfl⟩
  have f1 : frJE JS0 (ESj 0) τ τ1 := by rw [hτ1]; exact frJE_E ⟨by decide, by decide, rfl⟩
  have f2 : frJE JS0 (ESj 0) τ τ2 := frJE_trans f1 (by rw [hτ2]; exact frJE_E ⟨by decide, by decide, rfl⟩)
  have h2 := TKe_Ly h (frJE_Ly f2 JS0_Ly ES_Ly)
  have ho2 : COr τ2 ll := COr_fx ho (f2.1 1700 11) (f2.2.2.2.2.2 1701)
  have b4 : eJ τ2 1704 0 = lN (upN fe 16) := by rw [hτ2, eJ_un (Or.inl (by decide)), hτ1, eJ_up]
  have b5 : eJ τ2 1705 0 = lN bg := by rw [hτ2, eJ_up]
  obtain ⟨τ3, a1, a2, a3⟩ := k_layGroup (F := F) (c := c) (g := 0) (th := th 0) (D := fun _ => False) (G := (bg, ad, none)) hF hc hk hl hnd (by decide) (fun _ q => q.elim) h2 ho2 (by rw [f2.2.2.2.1]; exact hth 0 (by decide)) (show bg < _ by omega) (fun _ _ q => q.elim)
  have m0 := pgs_m (g := 0) (th := th 0) ll (bg, ad, none) hZ
  rw [← eG] at a1 a2 m0
  have m0 : bg ≤ G0.1 ∧ G0.1 ≤ bg + ll.length * 20480 := m0
  have f3 : frJE JS0 (ESj 0) τ τ3 := frJE_trans f2 (frJE_mono a3 (fun _ _ w => Or.inl w) (fun _ _ w => w.elim))
  obtain ⟨τ4, hτ4⟩ : ∃ y, y = tJ τ3 1700 14 (lN G0.1) := ⟨_, rfl⟩
  have f4 : frJE JS0 (ESj 0) τ τ4 := frJE_trans f3 (by rw [hτ4]; exact frJE_J (Or.inr ⟨rfl, rfl⟩))
  have h4 := TKe_Ly h (frJE_Ly f4 JS0_Ly ES_Ly)
  have d4 : eJ τ4 1704 0 = lN (upN fe 16) := by rw [hτ4]; show eJ τ3 1704 0 = _; rw [a3.2.2.2.2.1 _ _ (fun w => w)]; exact b4
  have d5 : eJ τ4 1705 0 = lN bg := by rw [hτ4]; show eJ τ3 1705 0 = _; rw [a3.2.2.2.2.1 _ _ (fun w => w)]; exact b5
  obtain ⟨τ5, c1, c2, c3⟩ := k_lx_158 (F := F) (c := c) (th := th) (a := fe) (e := mem) (j := 0) (fp := upN fe 16) (bg := bg) (cur := G0.1) (K := f_Layout_layText_34 F c n) hS h4.2.1 (by decide) (by rw [f4.2.2.2.1]; exact hth 0 (by decide)) d4 d5 m0.1
  refine ⟨τ5, ?_, fun x hx hcd => ?_, ?_, c2, frJE_trans f4 (frJE_mono c3 (fun _ _ w => w.elim) (fun _ _ w => w))⟩
  · rw [p1, ← hτ1]
    unfold f_Layout_layText_92
    rw [p2, c_sJ (G1705 hS) (by decide) (by decide), bs, ← hτ2, if_neg (by decide), C2r6 o (GR_r (v := 1705) h2.2.1 (by decide)), bs, c_aJ (G1705 hS) (by decide) (by decide), bs, b5, c_o o, bs, a1, xb_mk, if_pos (show nI 0 = 0 from rfl), C2p14 o, bs, ← hτ4, c1, ef, em]
  · have hx1 := (hl.2 x hx).1
    rw [c3.2.1 _ _ (fun w => w), hτ4, tJ_ne (Or.inl (by omega))]
    exact a2 x hx (Or.inr hcd)
  · rw [c3.2.1 _ _ (fun w => w), hτ4, tJ_at]
theorem k_lx_1 {τ : px_TT} {n fe bg mem fe1 mem1 pz : Nat} {ad : Nat → Nat} {G1 : px_PG} {D : Nat → Prop} (hF : 65536 < F) (hc : KT c) (hk : STk fs s ST) (hl : llS2 s ST ll) (hnd : ll.Nodup) (h : TKe sk L own τ fs s xs ST rn) (ho : COr τ ll) (hth : ∀ j, j < 3 → eI τ 1703 j = bI (th j)) (hfe : fe < 2 ^ 36) (hmem : mem < 2 ^ 36) (hpz : pz ≤ 2 ^ 30) (h4 : fI τ 1697 4 = nI pz) (hD : ∀ x, D x → cnd (tB fs s.2.2.1) 1 x = false) (hA : ∀ x, x ∈ ll → D x → fJ τ (152 + x) 11 = lN (ad x)) (eb : bg = bgN mem (upN fe 16) (th 1)) (eG : G1 = ll.foldl (pg1 (tB fs s.2.2.1) 1 (th 1)) (bg, ad, none)) (ef : fe1 = (if th 1 = true then upN fe 16 + (G1.1 + pz - bg) else fe)) (em : mem1 = (if th 1 = true then bg + (G1.1 + pz - bg) else mem)) : ∃ τ', f_Layout_layText_34 F c (n + 1) 1700 (lN fe) (lN mem) (nI 1) (cH sk L τ) = f_Layout_layText_34 F c n 1700 (lN fe1) (lN mem1) (nI 2) (cH sk L τ') ∧ (∀ x, x ∈ ll → (D x ∨ cnd (tB fs s.2.2.1) 1 x = true) → fJ τ' (152 + x) 11 = lN (G1.2.1 x)) ∧ fJ τ' 1697 5 = lN G1.1 ∧ (eJ τ' 1704 1 = lN (upN fe 16) ∧ eJ τ' 1705 1 = lN bg ∧ eJ τ' 1706 1 = lN (G1.1 + pz - bg) ∧ eJ τ' 1707 1 = lN (G1.1 + pz - bg)) ∧ frJE JS1 (ESj 1) τ τ' := by
  have hl1 := hl.1
  have h6 := ar_6 (K := 0) hl1
  have hS := h.1
  have hR := h.2.1
  have o := G1700 hS
  have hZ := TKe_Z h hk hl
  have ub := bgN_lt (mem := mem) (fp := upN fe 16) (th := th 1)
  rw [← eb] at ub
  have hT := BK_T (s := s) h.2.2.2.2.1.1
  obtain ⟨x, y, p1, p2⟩ := k_lx_pre (F := F) (c := c) (n := n) (j := 1) (th := th) (a := fe) (e := mem) hS hR (by decide) (hth 1 (by decide)) (by omega) (by omega)
  rw [← eb] at p2
  obtain ⟨τ1, hτ1⟩ : ∃ y, y = vJ τ 1704 (vp_updL (eJ τ 1704) 1 (lN (upN fe 16))) := ⟨_, rfl⟩
  obtain ⟨τ2, hτ2⟩ : ∃ y, y = vJ τ1 1705 (vp_updL (eJ τ1 1705) 1 (lN bg)) := ⟨_, rfl⟩
  have f1 : frJE JS1 (ESj 1) τ τ1 := by rw [hτ1]; exact frJE_E ⟨by decide, by decide, rfl⟩
  have f2 : frJE JS1 (ESj 1) τ τ2 := frJE_trans f1 (by rw [hτ2]; exact frJE_E ⟨by decide, by decide, rfl⟩)
  have h2 := TKe_Ly h (frJE_Ly f2 JS1_Ly ES_Ly)
  have ho2 : COr τ2 ll := COr_fx ho (f2.1 1700 11) (f2.2.2.2.2.2 1701)
  have b4 : eJ τ2 1704 1 = lN (upN fe 16) := by rw [hτ2, eJ_un (Or.inl (by decide)), hτ1, eJ_up]
  have b5 : eJ τ2 1705 1 = lN bg := by rw [hτ2, eJ_up]
  have eF : ∀ a k, fJ τ2 a k = fJ τ a k := fun a k => by rw [hτ2, hτ1]; rfl
  obtain ⟨τ3, a1, a2, a3⟩ := k_layGroup (F := F) (c := c) (g := 1) (th := th 1) (D := D) (G := (bg, ad, none)) hF hc hk hl hnd (by decide) hD h2 ho2 (by rw [f2.2.2.2.1]; exact hth 1 (by decide)) (show bg < _ by omega) (fun x hx hd => by rw [eF]; exact hA x hx hd)
  have m0 := pgs_m (g := 1) (th := th 1) ll (bg, ad, none) hZ
  rw [← eG] at a1 a2 m0
  have m0 : bg ≤ G1.1 ∧ G1.1 ≤ bg + ll.length * 20480 := m0
  have f3 : frJE JS1 (ESj 1) τ τ3 := frJE_trans f2 (frJE_mono a3 (fun _ _ w => Or.inl w) (fun _ _ w => w.elim))
  have h3 := TKe_Ly h (frJE_Ly f3 JS1_Ly ES_Ly)
  obtain ⟨τ4, hτ4⟩ : ∃ y, y = tJ τ3 1697 5 (lN G1.1) := ⟨_, rfl⟩
  have f4 : frJE JS1 (ESj 1) τ τ4 := frJE_trans f3 (by rw [hτ4]; exact frJE_J (Or.inr ⟨rfl, rfl⟩))
  have h5 := TKe_Ly h (frJE_Ly f4 JS1_Ly ES_Ly)
  have d4 : eJ τ4 1704 1 = lN (upN fe 16) := by rw [hτ4]; show eJ τ3 1704 1 = _; rw [a3.2.2.2.2.1 _ _ (fun w => w)]; exact b4
  have d5 : eJ τ4 1705 1 = lN bg := by rw [hτ4]; show eJ τ3 1705 1 = _; rw [a3.2.2.2.2.1 _ _ (fun w => w)]; exact b5
  obtain ⟨τ5, c1, c2, c3⟩ := k_lx_158 (F := F) (c := c) (th := th) (a := fe) (e := mem) (j := 1) (fp := upN fe 16) (bg := bg) (cur := G1.1 + pz) (K := f_Layout_layText_34 F c n) hS h5.2.1 (by decide) (by rw [f4.2.2.2.1]; exact hth 1 (by decide)) d4 d5 (by omega)
  refine ⟨τ5, ?_, fun x hx hcd => ?_, ?_, c2, frJE_trans f4 (frJE_mono c3 (fun _ _ w => w.elim) (fun _ _ w => w))⟩
  · rw [p1, ← hτ1]
    unfold f_Layout_layText_92
    rw [p2, c_sJ (G1705 hS) (by decide) (by decide), bs, ← hτ2, if_neg (by decide), C2r6 o (GR_r (v := 1705) h2.2.1 (by decide)), bs, c_aJ (G1705 hS) (by decide) (by decide), bs, b5, c_o o, bs, a1, xb_mk, if_neg (by decide), C2r1 o (GR_r (v := 1697) h3.2.1 (by decide)), bs, C9p5 (G1697 hS), bs, ← hτ4, C2r1 o (GR_r (v := 1697) h5.2.1 (by decide)), bs, C9g4 (G1697 hS), bs, f4.1, h4, nI_l (by omega), lN_add, c1, ef, em]
  · have hx1 := (hl.2 x hx).1
    rw [c3.2.1 _ _ (fun w => w), hτ4, tJ_ne (Or.inl (by omega))]
    exact a2 x hx hcd
  · rw [c3.2.1 _ _ (fun w => w), hτ4, tJ_at]
end CTY
end
section
/-! layText of the class, whole -/
section CTZ
variable {F : Nat} {c : px_CT} {sk : Nat → Nat × Nat × Nat} {L : Nat} {own : Nat → Nat × Nat} {fs : px_FS} {s : px_TK} {xs : px_NL} {ST rn : Nat → Bool} {ll : List Nat} {th : Nat → Bool} {on : Bool} {rn0 : Nat → Bool}
def ES2 (a i : Nat) : Prop := 1704 ≤ a ∧ a ≤ 1707 ∧ (i = 2 ∨ i = 3)
theorem ES2_Ly (a i : Nat) (w : ES2 a i) : 1704 ≤ a ∧ a ≤ 1707 := ⟨w.1, w.2.1⟩
theorem ED_S2 (a i : Nat) (w : ED a i) : ES2 a i := by unfold ED E63 E3 at w; unfold ES2; omega
theorem k_lx_2 {τ : px_TT} {n fe bg2 mem fe3 ns sp : Nat} {ad : Nat → Nat} {G4 G5 G2 G3 CM : px_PG} {D : Nat → Prop} (hF : 65536 < F) (hc : KT c) (hk : STk fs s ST) (hl : llS2 s ST ll) (hnd : ll.Nodup) (hsr : srt (tB fs s.2.2.1) ll) (hok : okL xs) (hcm : cmOK xs) (hcq : AL cmQ xs) (hrn : ∀ i, rn i = (!on || rn0 i)) (hod : ∀ d, d ∈ s.1.2.2.1 → d < xs.length) (h : TKe sk L own τ fs s xs ST rn) (ho : COr τ ll) (hth : ∀ j, j < 3 → eI τ 1703 j = bI (th j)) (hfe : fe < 2 ^ 35) (hmem : mem < 2 ^ 35) (h12 : fI τ 1700 12 = nI ns) (hns : ns ≤ 2800) (hD : ∀ x, D x → cnd (tB fs s.2.2.1) 4 x = false ∧ cnd (tB fs s.2.2.1) 5 x = false ∧ cnd (tB fs s.2.2.1) 2 x = false ∧ cnd (tB fs s.2.2.1) 3 x = false) (hA : ∀ x, x ∈ ll → D x → fJ τ (152 + x) 11 = lN (ad x)) (eb : bg2 = bgN mem (upN fe 16) (th 2)) (e4 : G4 = ll.foldl (pg1 (tB fs s.2.2.1) 4 (th 2)) (bg2, ad, none)) (e5 : G5 = ll.foldl (pg1 (tB fs s.2.2.1) 5 (th 2)) (G4.1, G4.2.1, none)) (e2 : G2 = ll.foldl (pg1 (tB fs s.2.2.1) 2 (th 2)) (G4.1, G5.2.1, none)) (esp : sp = (if 0 < ns then upN G2.1 8 else G2.1)) (e3 : G3 = ll.foldl (pg1 (tB fs s.2.2.1) 3 (th 2)) (sp + 8 * ns, G2.2.1, none)) (eC : CM = s.1.2.2.1.foldl (pc1 xs on rn0 (th 2)) (G3.1, (fun _ => 0), G3.2.2)) (ef : fe3 = (if th 2 = true then upN fe 16 + (sp + 8 * ns - bg2) else fe)) : ∃ τ' m', f_Layout_layText_34 F c (n + 1) 1700 (lN fe) (lN mem) (nI 2) (cH sk L τ) = f_Layout_layText_34 F c n 1700 (lN fe3) m' (nI 3) (cH sk L τ') ∧ (∀ x, x ∈ ll → (((((D x ∨ cnd (tB fs s.2.2.1) 4 x = true) ∨ cnd (tB fs s.2.2.1) 5 x = true) ∨ cnd (tB fs s.2.2.1) 2 x = true)) ∨ cnd (tB fs s.2.2.1) 3 x = true) → fJ τ' (152 + x) 11 = lN (G3.2.1 x)) ∧ (0 < ns → fJ τ' 1700 13 = lN sp) ∧ fJ τ' 1700 17 = lN (tpN bg2 (ll.foldl (ft1 (tB fs s.2.2.1) G3.2.1) (false, 0, 1, 0))) ∧ fJ τ' 1700 15 = lN (CM.2.2.getD CM.1) ∧ (eJ τ' 1704 2 = lN (upN fe 16) ∧ eJ τ' 1705 2 = lN bg2 ∧ eJ τ' 1706 2 = lN (sp + 8 * ns - bg2) ∧ eJ τ' 1707 2 = lN (CM.1 - bg2)) ∧ (∀ n, n ∈ s.1.2.2.1 → cB xs on rn0 n = true → fJ τ' (pN τ 149 n) 14 = lN (CM.2.1 n)) ∧ frJE JD ES2 τ τ' := by
  have hl1 := hl.1
  have h6 := ar_6 (K := 0) hl1
  have hS := h.1
  have hR := h.2.1
  have o := G1700 hS
  have ub := bgN_lt (mem := mem) (fp := upN fe 16) (th := th 2)
  rw [← eb] at ub
  obtain ⟨x, y, p1, p2⟩ := k_lx_pre (F := F) (c := c) (n := n) (j := 2) (th := th) (a := fe) (e := mem) hS hR (by decide) (hth 2 (by decide)) (by omega) (by omega)
  rw [← eb] at p2
  obtain ⟨τ1, hτ1⟩ : ∃ y, y = vJ τ 1704 (vp_updL (eJ τ 1704) 2 (lN (upN fe 16))) := ⟨_, rfl⟩
  obtain ⟨τ2, hτ2⟩ : ∃ y, y = vJ τ1 1705 (vp_updL (eJ τ1 1705) 2 (lN bg2)) := ⟨_, rfl⟩
  have f1 : frJE JD ES2 τ τ1 := by rw [hτ1]; exact frJE_E ⟨by decide, by decide, Or.inl rfl⟩
  have f2 : frJE JD ES2 τ τ2 := frJE_trans f1 (by rw [hτ2]; exact frJE_E ⟨by decide, by decide, Or.inl rfl⟩)
  have h2 := TKe_Ly h (frJE_Ly f2 JD_Ly ES2_Ly)
  have ho2 : COr τ2 ll := COr_fx ho (f2.1 1700 11) (f2.2.2.2.2.2 1701)
  have b4 : eJ τ2 1704 2 = lN (upN fe 16) := by rw [hτ2, eJ_un (Or.inl (by decide)), hτ1, eJ_up]
  have b5 : eJ τ2 1705 2 = lN bg2 := by rw [hτ2, eJ_up]
  have eF : ∀ a k, fJ τ2 a k = fJ τ a k := fun a k => by rw [hτ2, hτ1]; rfl
  have eP : ∀ n, pN τ2 149 n = pN τ 149 n := fun n => by unfold pN; rw [f2.2.2.2.2.2]
  obtain ⟨τ3, a1, a2, a3, a4, a5, a6, a7, a8⟩ := k_layData (F := F) (c := c) (th := th 2) (on := on) (rn0 := rn0) (D := D) (ns := ns) (sp := sp) (bg2 := bg2) (ad := ad) hF hc hk hl hnd hsr hok hcm hcq hrn hod h2 ho2 (by rw [f2.2.2.2.1]; exact hth 2 (by decide)) b5 (by omega) (by rw [f2.1]; exact h12) hns hD (fun x hx hd => by rw [eF]; exact hA x hx hd) e4 e5 e2 esp e3 eC
  have f3 : frJE JD ES2 τ τ3 := frJE_trans f2 (frJE_mono a8 (fun _ _ w => w) ED_S2)
  have h3 := TKe_Ly h (frJE_Ly f3 JD_Ly ES2_Ly)
  have d4 : eJ τ3 1704 2 = lN (upN fe 16) := by rw [a8.2.2.2.2.1 _ _ (fun w => by unfold ED E63 E3 at w; omega)]; exact b4
  have d5 : eJ τ3 1705 2 = lN bg2 := by rw [a8.2.2.2.2.1 _ _ (fun w => by unfold ED E63 E3 at w; omega)]; exact b5
  have k9 := k_lx_189 (F := F) (c := c) (th := th) (a := fe) (e := mem) (j := 2) (fp := upN fe 16) (bg := bg2) (fb := sp + 8 * ns - bg2) (mb := CM.1 - bg2) (K := f_Layout_layText_34 F c n) hS h3.2.1 (by decide) (by rw [f3.2.2.2.1]; exact hth 2 (by decide)) d4 d5 a6.1 a6.2
  refine ⟨τ3, lN (if th 2 = true then bg2 + (CM.1 - bg2) else mem), ?_, a2, a3, a4, a5, ⟨d4, d5, a6.1, a6.2⟩, fun n hn hcb => by rw [← eP]; exact a7 n hn hcb, f3⟩
  rw [p1, ← hτ1]
  unfold f_Layout_layText_92
  rw [p2, c_sJ (G1705 hS) (by decide) (by decide), bs, ← hτ2, if_pos rfl, c_o o, bs, a1, xb_mk, k9, ef]
def JX (a k : Nat) : Prop := JD a k ∨ (a = 1697 ∧ k = 5) ∨ (a = 1700 ∧ (k = 14 ∨ k = 18))
def EX4 (a _i : Nat) : Prop := 1704 ≤ a ∧ a ≤ 1707
theorem JX_Ly (a k : Nat) (w : JX a k) : a = 1697 ∨ a = 1700 ∨ (152 ≤ a ∧ a < 1688 ∧ k = 11) ∨ (1815 ≤ a ∧ k = 14) := by unfold JX JD J63 J11 J14 J16 at w; omega
theorem EX4_Ly (a i : Nat) (w : EX4 a i) : 1704 ≤ a ∧ a ≤ 1707 := w
/-- what a layout says of the class's cells -/
def LYc (τ : px_TT) (s : px_TK) (xs : px_NL) (on : Bool) (rn0 : Nat → Bool) (ns pz : Nat) (tp fe0 bg0 : Nat) (G0 : px_PG) (fe1 bg1 : Nat) (G1 : px_PG) (fe2 bg2 sp : Nat) (CM : px_PG) (fe3 : Nat) : Prop := (0 < ns → fJ τ 1700 13 = lN sp) ∧ fJ τ 1700 17 = lN tp ∧ fJ τ 1700 15 = lN (CM.2.2.getD CM.1) ∧ fJ τ 1700 14 = lN G0.1 ∧ fJ τ 1697 5 = lN G1.1 ∧ fJ τ 1700 18 = lN fe3 ∧ (eJ τ 1704 0 = lN (upN fe0 16) ∧ eJ τ 1705 0 = lN bg0 ∧ eJ τ 1706 0 = lN (G0.1 - bg0) ∧ eJ τ 1707 0 = lN (G0.1 - bg0)) ∧ (eJ τ 1704 1 = lN (upN fe1 16) ∧ eJ τ 1705 1 = lN bg1 ∧ eJ τ 1706 1 = lN (G1.1 + pz - bg1) ∧ eJ τ 1707 1 = lN (G1.1 + pz - bg1)) ∧ (eJ τ 1704 2 = lN (upN fe2 16) ∧ eJ τ 1705 2 = lN bg2 ∧ eJ τ 1706 2 = lN (sp + 8 * ns - bg2) ∧ eJ τ 1707 2 = lN (CM.1 - bg2)) ∧ ∀ n, n ∈ s.1.2.2.1 → cB xs on rn0 n = true → fJ τ (pN τ 149 n) 14 = lN (CM.2.1 n)
theorem k_layText {τ : px_TT} {ns pz : Nat} {thr : Bool} {ad1 : Nat → Nat} {fe0 bg0 : Nat} {G0 : px_PG} {fe1 mem1 bg1 : Nat} {G1 : px_PG} {fe2 mem2 bg2 : Nat} {G4 G5 G2 : px_PG} {sp : Nat} {G3 CM : px_PG} {fe3 : Nat} (hF : 65536 < F) (hc : KT c) (hk : STk fs s ST) (hl : llS2 s ST ll) (hnd : ll.Nodup) (hsr : srt (tB fs s.2.2.1) ll) (hok : okL xs) (hcm : cmOK xs) (hcq : AL cmQ xs) (hrn : ∀ i, rn i = (!on || rn0 i)) (hod : ∀ d, d ∈ s.1.2.2.1 → d < xs.length) (h : TKe sk L own τ fs s xs ST rn) (ho : COr τ ll) (hth : ∀ j, j < 3 → eI τ 1703 j = bI (th j)) (hth3 : eI τ 1703 3 = bI thr) (h12 : fI τ 1700 12 = nI ns) (hns : ns ≤ 2800) (h4 : fI τ 1697 4 = nI pz) (hpz : pz ≤ 2 ^ 30) (ha1 : ∀ x, x ∈ ll → sS (tB fs s.2.2.1) x = false → ad1 x = G1.2.1 x) (q0 : fe0 = 64 + 56 * sgN th 3 + (if thr = true then 56 else 0)) (q1 : bg0 = bgN 4194304 (upN fe0 16) (th 0)) (q2 : G0 = ll.foldl (pg1 (tB fs s.2.2.1) 0 (th 0)) (bg0, (fun _ => 0), none)) (q3 : fe1 = (if th 0 = true then upN fe0 16 + (G0.1 - bg0) else fe0)) (q4 : mem1 = (if th 0 = true then bg0 + (G0.1 - bg0) else 4194304)) (q5 : bg1 = bgN mem1 (upN fe1 16) (th 1)) (q6 : G1 = ll.foldl (pg1 (tB fs s.2.2.1) 1 (th 1)) (bg1, G0.2.1, none)) (q7 : fe2 = (if th 1 = true then upN fe1 16 + (G1.1 + pz - bg1) else fe1)) (q8 : mem2 = (if th 1 = true then bg1 + (G1.1 + pz - bg1) else mem1)) (q9 : bg2 = bgN mem2 (upN fe2 16) (th 2)) (q10 : G4 = ll.foldl (pg1 (tB fs s.2.2.1) 4 (th 2)) (bg2, ad1, none)) (q11 : G5 = ll.foldl (pg1 (tB fs s.2.2.1) 5 (th 2)) (G4.1, G4.2.1, none)) (q12 : G2 = ll.foldl (pg1 (tB fs s.2.2.1) 2 (th 2)) (G4.1, G5.2.1, none)) (q13 : sp = (if 0 < ns then upN G2.1 8 else G2.1)) (q14 : G3 = ll.foldl (pg1 (tB fs s.2.2.1) 3 (th 2)) (sp + 8 * ns, G2.2.1, none)) (q15 : CM = s.1.2.2.1.foldl (pc1 xs on rn0 (th 2)) (G3.1, (fun _ => 0), G3.2.2)) (q16 : fe3 = (if th 2 = true then upN fe2 16 + (sp + 8 * ns - bg2) else fe2)) : ∃ τ', f_Layout_layText F c 1700 (cH sk L τ) = some ((), cH sk L τ') ∧ (∀ x, x ∈ ll → sS (tB fs s.2.2.1) x = false → fJ τ' (152 + x) 11 = lN (G3.2.1 x)) ∧ LYc τ' s xs on rn0 ns pz (tpN bg2 (ll.foldl (ft1 (tB fs s.2.2.1) G3.2.1) (false, 0, 1, 0))) fe0 bg0 G0 fe1 bg1 G1 fe2 bg2 sp CM fe3 ∧ G1.1 < 2 ^ 36 ∧ frJE JX EX4 τ τ' := by
  have hl1 := hl.1
  have h6 := ar_6 (K := 0) hl1
  have hS := h.1
  have hR := h.2.1
  have o := G1700 hS
  have hZ := TKe_Z h hk hl
  have hT := BK_T (s := s) h.2.2.2.2.1.1
  have hsg : sgN th 3 ≤ 3 := by
    show (((0 + (if th 0 = true then 1 else 0)) + (if th 1 = true then 1 else 0)) + (if th 2 = true then 1 else 0)) ≤ 3
    split <;> split <;> split <;> omega
  have u0 := upN_le (v := fe0) (a := 16) (by decide)
  have v0 := bgN_lt (mem := 4194304) (fp := upN fe0 16) (th := th 0)
  rw [← q1] at v0
  have hfe0 : fe0 ≤ 288 := by rw [q0]; split <;> omega
  obtain ⟨n, hn⟩ : ∃ n, F = n + 4 := ⟨F - 4, by omega⟩
  obtain ⟨τ1, a1, a2, a3, a4, a5⟩ := k_lx_0 (F := F) (c := c) (n := n + 3) (th := th) (mem := 4194304) hF hc hk hl hnd h ho hth (show fe0 < _ by omega) (by decide) q1 q2 q3 q4
  have m0 := pgs_m (g := 0) (th := th 0) ll (bg0, (fun _ => 0), none) hZ
  rw [← q2] at m0
  have m0 : bg0 ≤ G0.1 ∧ G0.1 ≤ bg0 + ll.length * 20480 := m0
  have hfe1 : fe1 < 2 ^ 34 := by rw [q3]; split <;> omega
  have hmem1 : mem1 < 2 ^ 34 := by rw [q4]; split <;> omega
  have h1 := TKe_Ly h (frJE_Ly a5 JS0_Ly ES_Ly)
  have ho1 : COr τ1 ll := COr_fx ho (a5.1 1700 11) (a5.2.2.2.2.2 1701)
  have hth1 : ∀ j, j < 3 → eI τ1 1703 j = bI (th j) := fun j hj => by rw [a5.2.2.2.1]; exact hth j hj
  obtain ⟨τ2, b1, b2, b3, b4, b5⟩ := k_lx_1 (F := F) (c := c) (n := n + 2) (th := th) (pz := pz) (D := fun x => cnd (tB fs s.2.2.1) 0 x = true) hF hc hk hl hnd h1 ho1 hth1 (by omega) (by omega) hpz (by rw [a5.1]; exact h4) (fun x hx => cnd_x hx (by decide)) a2 q5 q6 q7 q8
  have v1 := bgN_lt (mem := mem1) (fp := upN fe1 16) (th := th 1)
  rw [← q5] at v1
  have u1 := upN_le (v := fe1) (a := 16) (by decide)
  have m1 := pgs_m (g := 1) (th := th 1) ll (bg1, G0.2.1, none) hZ
  rw [← q6] at m1
  have m1 : bg1 ≤ G1.1 ∧ G1.1 ≤ bg1 + ll.length * 20480 := m1
  have hfe2 : fe2 < 2 ^ 35 := by rw [q7]; split <;> omega
  have hmem2 : mem2 < 2 ^ 35 := by rw [q8]; split <;> omega
  have f2 : frJE JX EX4 τ τ2 := frJE_trans (frJE_mono a5 (fun _ _ w => by unfold JS0 J11 at w; unfold JX JD J63 J11 J14 J16; omega) (fun _ _ w => ⟨w.1, w.2.1⟩)) (frJE_mono b5 (fun _ _ w => by unfold JS1 J11 at w; unfold JX JD J63 J11 J14 J16; omega) (fun _ _ w => ⟨w.1, w.2.1⟩))
  have h2 := TKe_Ly h (frJE_Ly f2 JX_Ly EX4_Ly)
  have ho2 : COr τ2 ll := COr_fx ho (f2.1 1700 11) (f2.2.2.2.2.2 1701)
  have hth2 : ∀ j, j < 3 → eI τ2 1703 j = bI (th j) := fun j hj => by rw [f2.2.2.2.1]; exact hth j hj
  obtain ⟨τ3, m', c1, c2, c3, c4, c5, c6, c7, c8⟩ := k_lx_2 (F := F) (c := c) (n := n + 1) (th := th) (on := on) (rn0 := rn0) (ad := ad1) (D := fun x => cnd (tB fs s.2.2.1) 0 x = true ∨ cnd (tB fs s.2.2.1) 1 x = true) hF hc hk hl hnd hsr hok hcm hcq hrn hod h2 ho2 hth2 hfe2 hmem2 (by rw [f2.1]; exact h12) hns (fun x hx => hx.elim (fun q => ⟨cnd_x q (by decide), cnd_x q (by decide), cnd_x q (by decide), cnd_x q (by decide)⟩) (fun q => ⟨cnd_x q (by decide), cnd_x q (by decide), cnd_x q (by decide), cnd_x q (by decide)⟩)) (fun x hx hd => by
    have hs0 : sS (tB fs s.2.2.1) x = false := by
      rcases hd with q | q
      · exact cnd_0s q (by decide)
      · unfold cnd at q
        rw [Bool.and_eq_true, Bool.not_eq_true', decide_eq_true rfl, Bool.true_and] at q
        exact q.2
    rw [ha1 x hx hs0]
    exact b2 x hx hd) q9 q10 q11 q12 q13 q14 q15 q16
  have f3 : frJE JX EX4 τ τ3 := frJE_trans f2 (frJE_mono c8 (fun _ _ w => Or.inl w) (fun _ _ w => ⟨w.1, w.2.1⟩))
  have eP : ∀ n, pN τ2 149 n = pN τ 149 n := fun n => by unfold pN; rw [f2.2.2.2.2.2]
  have eP3 : ∀ n v, pN (tJ τ3 1700 18 v) 149 n = pN τ 149 n := fun n v => by unfold pN; show ((eN τ3 149 n).getD 0) = _; rw [f3.2.2.2.2.2]
  obtain ⟨τ4, hτ4⟩ : ∃ y, y = tJ τ3 1700 18 (lN fe3) := ⟨_, rfl⟩
  have nJ : ∀ {a k : Nat}, (a ≠ 1700 ∨ k ≠ 18) → fJ τ4 a k = fJ τ3 a k := fun hh => by rw [hτ4]; exact tJ_ne hh
  have nE : ∀ a i, eJ τ4 a i = eJ τ3 a i := fun a i => by rw [hτ4]; rfl
  refine ⟨τ4, ?_, fun x hx hs0 => ?_, ⟨fun w => by rw [nJ (Or.inr (by decide))]; exact c3 w, by rw [nJ (Or.inr (by decide))]; exact c4, by rw [nJ (Or.inr (by decide))]; exact c5, ?_, ?_, by rw [hτ4, tJ_at], ?_, ?_, ?_, fun n hn hcb => ?_⟩, by omega, frJE_trans f3 (by rw [hτ4]; exact frJE_J (Or.inr (Or.inr ⟨rfl, Or.inr rfl⟩)))⟩
  · have hcs := k_countSegments (F := F) (c := c) (th := th) (by omega) hS hR hth
    have e22 : ∀ z : Nat, z = (if thr = true then 1 else 0) → f_Layout_layText_22 F c 1700 (nI 64) (nI 56) (nI (sgN th 3)) (nI z) (cH sk L τ) = some ((), cH sk L τ4) := fun z hz => by
      unfold f_Layout_layText_22
      rw [nI_add, pk_mul, nI_add, nI_l (by rw [hz]; split <;> omega), show (4194304 : Int64) = lN 4194304 from rfl, show 64 + 56 * (sgN th 3 + z) = fe0 by rw [q0, hz]; split <;> omega]
      have e34 : f_Layout_layText_34 F c F = f_Layout_layText_34 F c (n + 3 + 1) := by rw [show n + 3 + 1 = F by omega]
      rw [e34, a1, b1, c1]
      unfold f_Layout_layText_34
      rw [if_pos (by decide)]
      unfold f_Layout_layText_237
      rw [C2p18 o, bs, ← hτ4]
    unfold f_Layout_layText
    rw [c_o o, bs, hcs, xb_mk, C2r4 o (GR_r (v := 1703) hR (by decide)), bs, show nI 3 = nI 3 from rfl, c_aI (G1703 hS) (by decide) (by decide) (by decide), bs, hth3]
    cases et : thr with
    | false => rw [if_pos (show bI false = 0 from rfl)]; exact e22 0 (by rw [et]; rfl)
    | true => rw [if_neg (show ¬ bI true = 0 by decide)]; exact e22 1 (by rw [et]; rfl)
  · have hx1 := (hl.2 x hx).1
    rw [nJ (Or.inl (by omega))]
    refine c2 x hx ?_
    rcases cnd_all (tb := tB fs s.2.2.1) (x := x) with ((q | q) | q) | q
    · rcases q with q | q
      · exact q.elim
      · exact Or.inl (Or.inl (Or.inl (Or.inl (Or.inl q))))
    · exact Or.inl (Or.inl (Or.inl (Or.inl (Or.inr q))))
    · rw [hs0] at q; exact absurd q (by decide)
    · rcases q with q | q | q | q
      · exact Or.inl (Or.inl (Or.inl (Or.inr q)))
      · exact Or.inl (Or.inl (Or.inr q))
      · exact Or.inl (Or.inr q)
      · exact Or.inr q
  · rw [nJ (Or.inr (by decide)), c8.2.1 _ _ (fun w => by unfold JD J63 J11 J14 J16 at w; omega), b5.2.1 _ _ (fun w => by unfold JS1 J11 at w; omega)]; exact a3
  · rw [nJ (Or.inl (by decide)), c8.2.1 _ _ (fun w => by unfold JD J63 J11 J14 J16 at w; omega)]; exact b3
  · have eq0 : ∀ a, 1704 ≤ a → a ≤ 1707 → eJ τ4 a 0 = eJ τ1 a 0 := fun a h1 h2 => by rw [nE, c8.2.2.2.2.1 _ _ (fun w => by unfold ES2 at w; omega), b5.2.2.2.2.1 _ _ (fun w => by unfold ESj at w; omega)]
    rw [eq0 1704 (by decide) (by decide), eq0 1705 (by decide) (by decide), eq0 1706 (by decide) (by decide), eq0 1707 (by decide) (by decide)]
    exact a4
  · have eq1 : ∀ a, 1704 ≤ a → a ≤ 1707 → eJ τ4 a 1 = eJ τ2 a 1 := fun a h1 h2 => by rw [nE, c8.2.2.2.2.1 _ _ (fun w => by unfold ES2 at w; omega)]
    rw [eq1 1704 (by decide) (by decide), eq1 1705 (by decide) (by decide), eq1 1706 (by decide) (by decide), eq1 1707 (by decide) (by decide)]
    exact b4
  · rw [nE, nE, nE, nE]; exact c6
  · rw [hτ4, eP3, ← hτ4]
    have hn2 := hod n hn
    have hnp := (CLm_at (sk := sk) (L := L) h.2.2.2.1.2.1 (List.getElem?_eq_getElem hn2)).2.1
    have hge := (h.2.2.2.1.1 149 n _ (Or.inr (Or.inr rfl)) hnp).1
    rw [nJ (Or.inl (by omega)), ← eP]
    exact c7 n hn hcb
end CTZ
end
section
/-! the class's addressIn is the document's -/
section CAP
variable {C B : Nat → Nat} {A p Z : Nat}
theorem nxt_rel (hb : ∀ i, i < Z → C (A + i) = B (p + i)) : ∀ (d j : Nat), j + d ≤ Z → nxt C A j d = nxt B p j d := by
  intro d
  induction d with
  | zero => intro j _; rfl
  | succ d ih =>
    intro j hj
    rw [nxt_s, nxt_s, hb j (by omega), ih (j + 1) (by omega)]
theorem st_rel {V : Nat} (hA : A + Z ≤ 65536) (hp : p + Z ≤ 65536) (hb : ∀ i, i < Z → C (A + i) = B (p + i)) (hz : B (p + (Z - 1)) = 0) (hV : V < Z) : st C (frm C A (nxt B p V (Z - V))) = st B (frm B p (nxt B p V (Z - V))) := by
  obtain ⟨m1, m2, m3⟩ := nxt_0 (B := B) (p := p) hz (Z - V) V (by omega) (by omega)
  generalize nxt B p V (Z - V) = m at *
  have s1 := frm_st (C := C) (A := A) (j := m) (by omega) (by rw [hb m m3]; exact m1)
  have s2 := frm_st (C := B) (A := p) (j := m) (by omega) m1
  obtain ⟨k, k1, k2, k3⟩ := frm_rel (C := C) (B := B) (A := A) (p := p) m (fun i hi => hb i (by omega))
  rw [k2] at s1 ⊢
  rw [k3] at s2 ⊢
  refine isSt_text s1 s2 (by omega) (fun i hi => ?_)
  rw [Nat.add_assoc, Nat.add_assoc]
  exact hb (k + i) (by omega)
end CAP
/-- the strings' sections as the class has them and as the reference has them -/
def CBR (C B : Nat → Nat) (cA tO : Nat → Nat) (tb : Nat → Nat → Nat) (ll : List Nat) : Prop := ∀ x, x ∈ ll → sS tb x = true → cA x + zS tb x ≤ 65536 ∧ pS tO tb x + zS tb x ≤ 65536 ∧ (∀ i, i < zS tb x → C (cA x + i) = B (pS tO tb x + i)) ∧ B (pS tO tb x + (zS tb x - 1)) = 0
theorem ndB_0 {B : Nat → Nat} {tO : Nat → Nat} {tb : Nat → Nat → Nat} {ll : List Nat} (hin : ∀ x, x ∈ ll → sS tb x = true → pS tO tb x + zS tb x ≤ 65536) : ndB B (nd0 B tO tb ll) := fun w hw => by
  rcases nd0_char (B := B) (tO := tO) (tb := tb) (ll := ll) ll [[]] (fun x h => h) (fun w hw => Or.inl (List.mem_singleton.mp hw)) w hw with e | ⟨x, j, y, x1, x2, x3, x4, x5, x6, x7⟩
  · exact ⟨65536, by decide, by rw [e]; rfl⟩
  · exact ⟨y, by have := hin x x1 x2; omega, x7⟩
/-- byte V of section x -/
def adV (ST : Nat → Bool) (B : Nat → Nat) (pf : List Nat) (tO : Nat → Nat) (tb : Nat → Nat → Nat) (pp : Nat) (ad : Nat → Nat) (x V : Nat) : Int64 := if ST x = true then (if sS tb x = true then lN (pp + baN B pf (pS tO tb x) (zS tb x) V) else lN (ad x + V)) else lN 0
/-- what addressIn reads -/
def LAc (sk : Nat → Nat × Nat × Nat) (L : Nat) (own : Nat → Nat × Nat) (τ : px_TT) (fs : px_FS) (s : px_TK) (xs : px_NL) (ST rn : Nat → Bool) (ll : List Nat) (C B : Nat → Nat) (cpf : List Nat) (tO : Nat → Nat) (pp : Nat) (ad : Nat → Nat) : Prop := TKe sk L own τ fs s xs ST rn ∧ (STk fs s ST ∧ llS2 s ST ll ∧ ∀ x, x < 24 * s.2.2.1.length → ST x = true → x ∈ ll) ∧ CB τ C ∧ CPl τ C cpf ∧ fJ τ 1697 5 = lN pp ∧ pp < 2 ^ 40 ∧ (∀ x, x ∈ ll → sS (tB fs s.2.2.1) x = false → fJ τ (152 + x) 11 = lN (ad x)) ∧ (cpf.map (st C) = (pf0 B tO (tB fs s.2.2.1) ll).map (st B) ∧ CBR C B (cAd fs s.2.2.1 (tB fs s.2.2.1)) tO (tB fs s.2.2.1) ll)
section CAQ
variable {F : Nat} {c : px_CT} {sk : Nat → Nat × Nat × Nat} {L : Nat} {τ τ' : px_TT} {own : Nat → Nat × Nat} {fs : px_FS} {s : px_TK} {xs : px_NL} {ST rn : Nat → Bool} {ll : List Nat} {C B : Nat → Nat} {cpf : List Nat} {tO : Nat → Nat} {pp : Nat} {ad : Nat → Nat}
theorem TKe_st (h : TKe sk L own τ fs s xs ST rn) {x : Nat} (hx : x < 24 * s.2.2.1.length) : fI τ (152 + x) 9 = bI (ST x) ∧ ob sk L 8 (152 + x) := ⟨(TKe_part h hx).2.1, (TKe_part h hx).1⟩
theorem k_addressIn {x V : Nat} (hF : 65536 < F) (h : LAc sk L own τ fs s xs ST rn ll C B cpf tO pp ad) (hx : x < 24 * s.2.2.1.length) (hV : V < 2 ^ 64) : f_Pool_addressIn F c 1697 (some (152 + x)) (lN V) (cH sk L τ) = some (adV ST B (pf0 B tO (tB fs s.2.2.1) ll) tO (tB fs s.2.2.1) pp ad x V, cH sk L τ) := by
  obtain ⟨h1, ⟨hk, hl, hall⟩, hcb, hpl, h5, hpp, had, hT, hrel⟩ := h
  obtain ⟨h9, hp⟩ := TKe_st h1 hx
  have hS := h1.1
  have hR := h1.2.1
  by_cases c1 : ST x = true
  · have hxl := hall x hx c1
    obtain ⟨p4, p5, p6, p7, p10, _⟩ := TKe_pt h1 hk hx c1
    have eA : adV ST B (pf0 B tO (tB fs s.2.2.1) ll) tO (tB fs s.2.2.1) pp ad x V = (if sS (tB fs s.2.2.1) x = true then lN (pp + baN B (pf0 B tO (tB fs s.2.2.1) ll) (pS tO (tB fs s.2.2.1) x) (zS (tB fs s.2.2.1) x) V) else lN (ad x + V)) := by unfold adV; rw [if_pos c1]
    rw [eA]
    rw [c1] at h9
    by_cases c2 : sS (tB fs s.2.2.1) x = true
    · obtain ⟨r1, r2, r3, r4⟩ := hrel x hxl c2
      rw [if_pos c2]
      rw [c2] at p10
      have hz16 := (TKe_Z h1 hk hl x hxl).1
      have hpz1 := psz_le cpf hpl.2.2.1.2
      have hpz2 := stL_len hpl.2.2.1
      have hn := ndB_0 (B := B) (tO := tO) (tb := tB fs s.2.2.1) (ll := ll) (fun y hy hs => (hrel y hy hs).2.1)
      have e39 : f_Pool_addressIn_39 F c 1697 (cH sk L τ) = some (lN (pp + psz B (pf0 B tO (tB fs s.2.2.1) ll)), cH sk L τ) := by
        unfold f_Pool_addressIn_39
        rw [C9g5 (G1697 hS), bs, C9g4 (G1697 hS), bs, h5, hpl.2.1, nI_l (by omega), lN_add, psz_T hT]
      by_cases c3 : V < zS (tB fs s.2.2.1) x
      · have enx := nxt_rel (C := C) (B := B) r3 (zS (tB fs s.2.2.1) x - V) V (by omega)
        have est := st_rel (V := V) r1 r2 r3 r4 c3
        obtain ⟨m1, m2, m3⟩ := nxt_0 (B := B) (p := pS tO (tB fs s.2.2.1) x) r4 (zS (tB fs s.2.2.1) x - V) V (by omega) (by omega)
        have hsm := pf0_all (B := B) (tO := tO) (tb := tB fs s.2.2.1) (ll := ll) (x := x) hn (fun y hy hs => (hrel y hy hs).2.1) hxl c2 m3 m1
        obtain ⟨y, hy⟩ := Option.isSome_iff_exists.mp hsm
        have hi24 : x % 24 < oS (tB fs s.2.2.1 (x / 24)) := (TKe_pt h1 hk hx c1).2.2.2.2.2
        have hcin := sS_cin h1 (show x / 24 < _ by omega) hi24 c2
        have hss : off fs fs.length ≤ 65536 := by
          have hb := h1.2.2.2.2.1.1
          obtain ⟨q, hq⟩ : ∃ q, s.2.2.1[x / 24]? = some q := ⟨_, List.getElem?_eq_getElem (show x / 24 < _ by omega)⟩
          obtain ⟨o, n, b, hob⟩ := (hb.2.2.2.2.2.2 q (List.mem_of_getElem? hq)).2
          exact (CF_ob h1.2.2.1 hob).2.2.2.2.1
        have ks := k_addressIn_s (F := F) (c := c) (τ := τ) (V := V) (pa := pp) (y := y) (A := cAd fs s.2.2.1 (tB fs s.2.2.1) x) (Z := zS (tB fs s.2.2.1) x) hS hR hF hcb h1.2.2.1.2.2.2.1 hss hcin hp p7 p5 h9 p10 (by rw [r3 _ (by omega)]; exact r4) hpl hpp h5 c3 (by rw [enx, peO_T (u := _) hT, est]; exact hy)
        rw [ks, enx]
        unfold baN
        rw [if_pos c3, hy]
        rfl
      · have eb : baN B (pf0 B tO (tB fs s.2.2.1) ll) (pS tO (tB fs s.2.2.1) x) (zS (tB fs s.2.2.1) x) V = psz B (pf0 B tO (tB fs s.2.2.1) ll) := by unfold baN; rw [if_neg c3]
        rw [eb]
        unfold f_Pool_addressIn
        rw [bs, C8g9 hp, bs, h9, if_neg (show ¬ bI true = 0 by decide), C8g10 hp, bs, p10, if_neg (show ¬ bI true = 0 by decide)]
        by_cases c4 : V < 2 ^ 63
        · rw [if_neg (show ¬ lN V < lN 0 from fun w => by have := (lN_neg hV).mp w; omega), C8g5 hp, bs, p5, nI_l (by omega), if_neg (show ¬ lN V < lN (zS (tB fs s.2.2.1) x) from fun w => c3 ((pk_lLT c4 (by omega)).mp w)), e39]
        · rw [if_pos ((lN_neg hV).mpr (by omega)), e39]
    · rw [if_neg c2]
      have c2' : sS (tB fs s.2.2.1) x = false := by cases hh : sS (tB fs s.2.2.1) x with | false => rfl | true => exact absurd hh c2
      rw [c2'] at p10
      unfold f_Pool_addressIn
      rw [bs, C8g9 hp, bs, h9, if_neg (show ¬ bI true = 0 by decide), C8g10 hp, bs, p10, if_pos (show bI false = 0 from rfl), C8g11 hp, bs, had x hxl c2', lN_add]
  · have c1' : ST x = false := by cases hh : ST x with | false => rfl | true => exact absurd hh c1
    have eA : adV ST B (pf0 B tO (tB fs s.2.2.1) ll) tO (tB fs s.2.2.1) pp ad x V = lN 0 := by unfold adV; rw [if_neg c1]
    rw [eA]
    rw [c1'] at h9
    unfold f_Pool_addressIn
    rw [bs, C8g9 hp, bs, h9, if_pos (show bI false = 0 from rfl)]
/-- frames that addressIn's cells bear -/
theorem LAc_J {J : Nat → Nat → Prop} (h : LAc sk L own τ fs s xs ST rn ll C B cpf tO pp ad) (f : frJE J E0 τ τ') (hJ : ∀ a k, J a k → (a = 1700) ∨ (152 ≤ a ∧ a < 1688 ∧ k = 11 ∧ sS (tB fs s.2.2.1) (a - 152) = true) ∨ (1815 ≤ a ∧ k = 14)) : LAc sk L own τ' fs s xs ST rn ll C B cpf tO pp ad := by
  obtain ⟨h1, ⟨hk, hl, hall⟩, hcb, hpl, h5, hpp, had, hT, hrel⟩ := h
  have hT4 := BK_T (s := s) h1.2.2.2.2.1.1
  have fl := frJE_Ly f (fun a k w => by have := hJ a k w; omega) (fun a i w => w.elim)
  refine ⟨TKe_Ly h1 fl, ⟨hk, hl, hall⟩, CB_Ly hcb fl, CPl_fx hpl (f.1 1697 3) (f.1 1697 4) (f.2.2.2.1 1698) (f.2.2.2.1 1699), ?_, hpp, fun x hx hs => ?_, hT, hrel⟩
  · rw [f.2.1 _ _ (fun w => by have := hJ _ _ w; omega)]; exact h5
  · have hx1 := (hl.2 x hx).1
    rw [f.2.1 _ _ (fun w => by
      rcases hJ _ _ w with q | q | q
      · omega
      · have q4 := q.2.2.2
        rw [show 152 + x - 152 = x by omega, hs] at q4
        exact absurd q4 (by decide)
      · omega)]
    exact had x hx hs
end CAQ
end
section
/-! the class's addresses of strings' sections and of names -/
def J18 (tb : Nat → Nat → Nat) (a k : Nat) : Prop := 152 ≤ a ∧ a < 1688 ∧ k = 11 ∧ sS tb (a - 152) = true
def J60 (a k : Nat) : Prop := 1815 ≤ a ∧ k = 14
section CAL
variable {F : Nat} {c : px_CT} {sk : Nat → Nat × Nat × Nat} {L : Nat} {own : Nat → Nat × Nat} {fs : px_FS} {s : px_TK} {xs : px_NL} {ST rn : Nat → Bool} {ll : List Nat} {C B : Nat → Nat} {cpf : List Nat} {tO : Nat → Nat} {pp : Nat} {ad : Nat → Nat}
theorem k_ly_18 (hF : 65536 < F) : ∀ (d P f : Nat) (τ : px_TT), P + d = ll.length → d < f → LAc sk L own τ fs s xs ST rn ll C B cpf tO pp ad → COr τ ll → (∀ x, x ∈ ll.take P → sS (tB fs s.2.2.1) x = true → fJ τ (152 + x) 11 = lN (pp + baN B (pf0 B tO (tB fs s.2.2.1) ll) (pS tO (tB fs s.2.2.1) x) (zS (tB fs s.2.2.1) x) 0)) → ∃ τ', f_Layout_lay_18 F c f 1700 (nI P) (cH sk L τ) = f_Layout_lay_58 F c 1700 (cH sk L τ') ∧ (∀ x, x ∈ ll → sS (tB fs s.2.2.1) x = true → fJ τ' (152 + x) 11 = lN (pp + baN B (pf0 B tO (tB fs s.2.2.1) ll) (pS tO (tB fs s.2.2.1) x) (zS (tB fs s.2.2.1) x) 0)) ∧ frJE (J18 (tB fs s.2.2.1)) E0 τ τ' := by
  intro d
  induction d with
  | zero =>
    intro P f τ hP hf h ho hA
    obtain ⟨f, rfl⟩ : ∃ x, f = x + 1 := ⟨f - 1, by omega⟩
    have hl1 := h.2.1.2.1.1
    refine ⟨τ, ?_, fun x hx hs => hA x (by rw [List.take_of_length_le (by omega)]; exact hx) hs, frJE_refl⟩
    unfold f_Layout_lay_18
    rw [C2g11 (G1700 h.1.1), bs, ho.1, if_pos (nI_le (by omega) (by omega))]
  | succ d ih =>
    intro P f τ hP hf h ho hA
    obtain ⟨f, rfl⟩ : ∃ x, f = x + 1 := ⟨f - 1, by omega⟩
    have hl1 := h.2.1.2.1.1
    have hPl : P < ll.length := by omega
    obtain ⟨x, hx⟩ : ∃ x, ll[P]? = some x := ⟨_, List.getElem?_eq_getElem hPl⟩
    have hxm := List.mem_of_getElem? hx
    have hx2 := h.2.1.2.1.2 x hxm
    have hT := BK_T (s := s) h.1.2.2.2.2.1.1
    have hp := (TKe_st h.1 hx2.1).2
    have p10 := (TKe_pt h.1 h.2.1.1 hx2.1 hx2.2).2.2.2.2.1
    have kp := k_partAt (F := F) (c := c) h.1.1 h.1.2.1 ho hl1 hx
    have o := G1700 h.1.1
    have htk : ∀ y, y ∈ ll.take (P + 1) → y ∈ ll.take P ∨ y = x := fun y hy => by
      rw [List.take_succ, hx] at hy
      rcases List.mem_append.mp hy with q | q
      · exact Or.inl q
      · exact Or.inr (List.mem_singleton.mp q)
    unfold f_Layout_lay_18 f_Layout_lay_52
    rw [C2g11 o, bs, ho.1, if_neg (nI_ge hPl (by omega)), c_o o, bs, kp, xb_mk, bs, C8g10 hp, bs, p10, nI_add]
    by_cases c1 : sS (tB fs s.2.2.1) x = true
    · have ka := k_addressIn (F := F) (c := c) (V := 0) hF h hx2.1 (by decide)
      have eA : adV ST B (pf0 B tO (tB fs s.2.2.1) ll) tO (tB fs s.2.2.1) pp ad x 0 = lN (pp + baN B (pf0 B tO (tB fs s.2.2.1) ll) (pS tO (tB fs s.2.2.1) x) (zS (tB fs s.2.2.1) x) 0) := by unfold adV; rw [if_pos hx2.2, if_pos c1]
      rw [eA] at ka
      obtain ⟨τ1, hτ1⟩ : ∃ y, y = tJ τ (152 + x) 11 (lN (pp + baN B (pf0 B tO (tB fs s.2.2.1) ll) (pS tO (tB fs s.2.2.1) x) (zS (tB fs s.2.2.1) x) 0)) := ⟨_, rfl⟩
      have f1 : frJE (J18 (tB fs s.2.2.1)) E0 τ τ1 := by rw [hτ1]; exact frJE_J ⟨by omega, by omega, rfl, by rw [show 152 + x - 152 = x by omega]; exact c1⟩
      obtain ⟨τ2, g1, g2, g3⟩ := ih (P + 1) f τ1 (by omega) (by omega) (LAc_J h f1 (fun a k w => Or.inr (Or.inl w))) (COr_fx ho (f1.1 1700 11) (f1.2.2.2.2.2 1701)) (fun y hy hs => by
        by_cases cy : y = x
        · rw [cy, hτ1, tJ_at]
        · have hy2 := (htk y hy).resolve_right cy
          rw [hτ1, tJ_ne (Or.inl (by omega))]
          exact hA y hy2 hs)
      refine ⟨τ2, ?_, g2, frJE_trans f1 g3⟩
      rw [c1, if_neg (show ¬ bI true = 0 by decide), C2r1 o (GR_r (v := 1697) h.1.2.1 (by decide)), bs, c_o (G1697 h.1.1), bs, ka, xb_mk, C8p11 hp, bs, ← hτ1, g1]
    · have c1' : sS (tB fs s.2.2.1) x = false := by cases hh : sS (tB fs s.2.2.1) x with | false => rfl | true => exact absurd hh c1
      obtain ⟨τ2, g1, g2, g3⟩ := ih (P + 1) f τ (by omega) (by omega) h ho (fun y hy hs => by
        rcases htk y hy with q | q
        · exact hA y q hs
        · rw [q] at hs; exact absurd hs c1)
      refine ⟨τ2, ?_, g2, g3⟩
      rw [c1', if_pos (show bI false = 0 from rfl), g1]
/-- how the address of a definition goes by its section -/
theorem ownV_c {tb : Nat → Nat → Nat} {dr : Nat → Bool} {on : Bool} {R : Nat → Bool} {pf : List Nat} {t k : Nat} (hy : yOK (tb t) k = true) (hS : oS (tb t) ≤ 24) (hc : yW (tb t) k ≠ 65522) (hST : ∀ i, i < 24 → ST (24 * t + i) = (kpB (tb t) i && (!dr (24 * t + i) && (!on || R (24 * t + i))))) : ownV B pf tO tb dr (sta tb dr on R) pp ad t k = if yW (tb t) k = 0 then lN 0 else if yW (tb t) k < 24 ∧ (kpB (tb t) (yW (tb t) k) = true ∨ dr (24 * t + yW (tb t) k) = true) then adV ST B pf tO tb pp ad (24 * t + yW (tb t) k) (yV (tb t) k) else lN (yV (tb t) k) := by
  have hw := (of_decide_eq_true hy).2.1
  have eW : wNo dr t (tb t) k = if 0 < yW (tb t) k ∧ yW (tb t) k < 24 ∧ dr (24 * t + yW (tb t) k) = true then 0 else yW (tb t) k := rfl
  unfold ownV
  generalize yW (tb t) k = w at *
  generalize wNo dr t (tb t) k = u at *
  generalize yV (tb t) k = V at *
  by_cases c0 : w = 0
  · have eu : u = 0 := by rw [eW, if_neg (by omega)]; exact c0
    rw [if_pos eu, if_pos c0]
  · rw [if_neg c0]
    by_cases c1 : w < 24
    · have e1 : (24 * t + w) / 24 = t := by omega
      have e2 : (24 * t + w) % 24 = w := by omega
      have hs := hST w c1
      by_cases c2 : dr (24 * t + w) = true
      · have eu : u = 0 := by rw [eW, if_pos ⟨by omega, c1, c2⟩]
        rw [if_pos eu, if_pos ⟨c1, Or.inr c2⟩]
        rw [c2] at hs
        have hs : ST (24 * t + w) = false := by rw [hs]; cases kpB (tb t) w <;> rfl
        unfold adV
        rw [if_neg (by rw [hs]; decide)]
      · have c2' : dr (24 * t + w) = false := by cases hh : dr (24 * t + w) with | false => rfl | true => exact absurd hh c2
        have eu : u = w := by rw [eW, if_neg (fun q => c2 q.2.2)]
        rw [eu, if_neg c0]
        rw [c2'] at hs
        have hwS : w < oS (tb t) := by omega
        have ek : kpB (tb t) w = oK (tb t) w := by unfold kpB; rw [decide_eq_true hwS, Bool.true_and]
        rw [ek] at hs ⊢
        by_cases c3 : oK (tb t) w = true
        · rw [if_neg (show ¬ (w = 65521 ∨ oK (tb t) w = false) from fun q => by
            rcases q with q | q
            · omega
            · rw [c3] at q; exact absurd q (by decide))]
          have eR : (if w < 24 ∧ (oK (tb t) w = true ∨ dr (24 * t + w) = true) then adV ST B pf tO tb pp ad (24 * t + w) V else lN V) = adV ST B pf tO tb pp ad (24 * t + w) V := if_pos ⟨c1, Or.inl c3⟩
          rw [eR]
          have hsy : sta tb dr on R t w = ST (24 * t + w) := by
            unfold sta
            rw [hs, c2']
          rw [hsy]
          unfold adV
          by_cases c4 : ST (24 * t + w) = true
          · rw [if_neg (by rw [c4]; decide), if_pos c4]
            have es : sS tb (24 * t + w) = oStr (tb t) w := by unfold sS; rw [e1, e2]
            have ez : zS tb (24 * t + w) = oZ (tb t) w := by unfold zS; rw [e1, e2]
            have ep : pS tO tb (24 * t + w) = tO t + oP (tb t) w := by unfold pS; rw [e1, e2]
            rw [es, ez, ep]
          · have c4' : ST (24 * t + w) = false := by cases hh : ST (24 * t + w) with | false => rfl | true => exact absurd hh c4
            rw [if_pos c4', if_neg c4]
        · have c3' : oK (tb t) w = false := by cases hh : oK (tb t) w with | false => rfl | true => exact absurd hh c3
          rw [if_pos (Or.inr c3'), if_neg (fun q => by
            rcases q.2 with q | q
            · exact c3 q
            · exact c2 q)]
    · have eu : u = w := by rw [eW, if_neg (fun q => c1 q.2.1)]
      rw [eu, if_neg c0, if_pos (Or.inl (by omega)), if_neg (fun q => c1 q.1)]
theorem k_nat148 {τ : px_TT} {i : Nat} (h : TKe sk L own τ fs s xs ST rn) (hi : i < xs.length) : f_Names_at F c 148 (nI i) (cH sk L τ) = some (some (pN τ 149 i), cH sk L τ) := by
  obtain ⟨s1, s2, s3, s4, s5, s6, s7⟩ := h.2.2.2.1.2.1.1
  obtain ⟨z1, z2, z3, z4⟩ := s7 i _ (List.getElem?_eq_getElem (show i < (xs.map Prod.fst).length by rw [List.length_map]; exact hi))
  rw [List.length_map] at s4 s6
  unfold f_Names_at
  rw [if_neg (show ¬ nI i < 0 from nI_nlt (b := 0) (Nat.zero_le _) (by omega)), C6g2 s1, bs, s6, if_neg (nI_ge hi (by omega)), C6r0 s1 s2, bs, c_l s3 (by decide), bs, if_neg (nI_ge (by omega) (by omega)), bs, c_aN s3 (by decide) (by omega) (by omega), bs]
  unfold f_Names_at_31 f_Names_at_44
  rw [z2]
theorem k_ownAddress {τ : px_TT} {te bg2 fb2 bss mb2 k : Nat} (hS : GS sk L) (hR : GR τ) (h1 : 1 ≤ k) (hk : k ≤ 4) (h14 : fJ τ 1700 14 = lN te) (h15 : fJ τ 1700 15 = lN bss) (e5 : eJ τ 1705 2 = lN bg2) (e6 : eJ τ 1706 2 = lN fb2) (e7 : eJ τ 1707 2 = lN mb2) : f_Layout_ownAddress F c 1700 (lN (k - 1)).toInt32 (cH sk L τ) = some (lN (ownK te bg2 fb2 bss mb2 k), cH sk L τ) := by
  have o := G1700 hS
  rw [lN_i]
  unfold f_Layout_ownAddress ownK
  by_cases c1 : k = 1
  · rw [c1, if_pos rfl, if_pos rfl, C2g14 o, bs, h14]
  · rw [if_neg (fun q => by have := (nI_eq (by omega) (by decide)).mp q; omega), if_neg c1]
    by_cases c2 : k = 2
    · rw [c2, if_pos rfl, if_pos rfl, C2r6 o (GR_r (v := 1705) hR (by decide)), bs, c_aJ (G1705 hS) (by decide) (by decide), bs, C2r7 o (GR_r (v := 1706) hR (by decide)), bs, c_aJ (G1706 hS) (by decide) (by decide), bs, e5, e6, lN_add]
    · rw [if_neg (fun q => by have := (nI_eq (by omega) (by decide)).mp q; omega), if_neg c2]
      by_cases c3 : k = 3
      · rw [c3, if_pos rfl, if_pos rfl, C2g15 o, bs, h15]
      · rw [if_neg (fun q => by have := (nI_eq (by omega) (by decide)).mp q; omega), if_neg c3, C2r6 o (GR_r (v := 1705) hR (by decide)), bs, c_aJ (G1705 hS) (by decide) (by decide), bs, C2r8 o (GR_r (v := 1707) hR (by decide)), bs, c_aJ (G1707 hS) (by decide) (by decide), bs, e5, e7, lN_add]
end CAL
end
section
/-! the class's addresses of names -/
theorem pc1_y {xs : px_NL} {on : Bool} {rn : Nat → Bool} {th : Bool} {s : px_PG} {n : Nat} (h : cB xs on rn n = true) : ∃ v w o, pc1 xs on rn th s n = (w, (fun y => if y = n then v else s.2.1 y), o) := ⟨pcA xs th s.1 n, _, _, by unfold pc1; rw [if_pos h]⟩
theorem pc1_n {xs : px_NL} {on : Bool} {rn : Nat → Bool} {th : Bool} {s : px_PG} {n : Nat} (h : ¬ cB xs on rn n = true) : pc1 xs on rn th s n = s := by unfold pc1; rw [if_neg h]
theorem pc_no {xs : px_NL} {on : Bool} {rn : Nat → Bool} {th : Bool} {m : Nat} (hm : ¬ cB xs on rn m = true) : ∀ (l : List Nat) (s : px_PG), (l.foldl (pc1 xs on rn th) s).2.1 m = s.2.1 m := by
  intro l
  induction l with
  | nil => intro s; rfl
  | cons n l ih =>
    intro s
    rw [List.foldl_cons, ih]
    by_cases c1 : cB xs on rn n = true
    · obtain ⟨v, w, o, e⟩ := pc1_y (th := th) (s := s) c1
      rw [e]
      show (if m = n then v else s.2.1 m) = _
      rw [if_neg (fun q => hm (by rw [q]; exact c1))]
    · rw [pc1_n c1]
theorem own1_ge {k : Nat} {w : List Nat} {xs : px_NL} (hk : 1 ≤ k ∧ k ≤ 4) (h : AL (fun x => x.2.1 = 4 → 1 ≤ x.2.2.2.1 ∧ x.2.2.2.1 ≤ 4) xs) : AL (fun x => x.2.1 = 4 → 1 ≤ x.2.2.2.1 ∧ x.2.2.2.1 ≤ 4) (own1 k w xs) := AL_own1 (fun _ _ _ _ => hk) h
theorem ownL_ge {xs : px_NL} (h : AL (fun x => x.2.1 ≤ 3) xs) : AL (fun x => x.2.1 = 4 → 1 ≤ x.2.2.2.1 ∧ x.2.2.2.1 ≤ 4) (ownL xs) := by
  unfold ownL
  exact own1_ge ⟨by decide, by decide⟩ (own1_ge ⟨by decide, by decide⟩ (own1_ge ⟨by decide, by decide⟩ (own1_ge ⟨by decide, by decide⟩ (fun i x hx e => by have := h i x hx; omega))))
/-- the numbers of the layout that names are laid by -/
def LYn (τ : px_TT) (te bg2 fb2 bss mb2 : Nat) : Prop := fJ τ 1700 14 = lN te ∧ fJ τ 1700 15 = lN bss ∧ eJ τ 1705 2 = lN bg2 ∧ eJ τ 1706 2 = lN fb2 ∧ eJ τ 1707 2 = lN mb2
section CAM
variable {F : Nat} {c : px_CT} {sk : Nat → Nat × Nat × Nat} {L : Nat} {own : Nat → Nat × Nat} {fs : px_FS} {s : px_TK} {xs : px_NL} {ST rn : Nat → Bool} {ll : List Nat} {C B : Nat → Nat} {cpf : List Nat} {tO : Nat → Nat} {pp : Nat} {ad : Nat → Nat} {on : Bool} {R rn0 : Nat → Bool} {te bg2 fb2 bss mb2 : Nat} {na : Nat → Nat}
theorem STr_i (hr : STr fs s on R ST) {t : Nat} (ht : t < s.2.2.1.length) : ∀ i, i < 24 → ST (24 * t + i) = (kpB (tB fs s.2.2.1 t) i && (!s.2.1.1 (24 * t + i) && (!on || R (24 * t + i)))) := fun i hi => by
  have := hr (24 * t + i) (by omega)
  rw [show (24 * t + i) / 24 = t by omega, show (24 * t + i) % 24 = i by omega] at this
  exact this
theorem k_addressOf {τ : px_TT} {i : Nat} {x : List Nat × px_NR} (hF : 65536 < F) (h : LAc sk L own τ fs s xs ST rn ll C B cpf tO pp ad) (hr : STr fs s on R ST) (hW : WP s.2.2.1.length (tB fs s.2.2.1) s.2.1.1 xs) (hg : AL (fun x => x.2.1 = 4 → 1 ≤ x.2.2.2.1 ∧ x.2.2.2.1 ≤ 4) xs) (hn : LYn τ te bg2 fb2 bss mb2) (hx : xs[i]? = some x) (hcm : x.2.1 = 2 → (rn i = true → fJ τ (pN τ 149 i) 14 = lN (na i)) ∧ (rn i = false → na i = 0)) : f_Layout_addressOf F c 1700 (some (pN τ 149 i)) (cH sk L τ) = some (naV (ownV B (pf0 B tO (tB fs s.2.2.1) ll) tO (tB fs s.2.2.1) s.2.1.1 (sta (tB fs s.2.2.1) s.2.1.1 on R) pp ad) (ownK te bg2 fb2 bss mb2) na i x.2, cH sk L τ) := by
  have hS := h.1.1
  have hR := h.1.2.1
  have o := G1700 hS
  obtain ⟨z1, z2, hp, z4⟩ := CLm_at h.1.2.2.2.1.2.1 hx
  obtain ⟨⟨_, _, cd⟩, c13⟩ := h.1.2.2.2.1.2.1.2.1 i x hx
  obtain ⟨d0, d4, d2, dn, ds⟩ := cd
  have hby := hW.2.2.1 i x hx
  have hle : x.2.1 ≤ 4 := h.1.2.2.2.2.2.1 i x hx
  have hg4 := hg i x hx
  obtain ⟨w, r⟩ := x
  obtain ⟨st, fl, ok, by', gv, cs, cv⟩ := r
  unfold f_Layout_addressOf f_Layout_addressOf_62 f_Layout_addressOf_83
  rw [bs, C5g5 hp, bs]
  by_cases e2 : st = 2
  · subst e2
    have f13 := c13 rfl
    have d2 := d2 rfl
    have hcm := hcm rfl
    show _ = some (lN (na i), _)
    rw [d2.1, if_neg (by decide), if_neg (by decide), if_pos rfl, C5g13 hp, bs, f13]
    cases er : rn i with
    | false => rw [if_pos (show bI false = 0 from rfl), hcm.2 er]
    | true => rw [if_neg (show ¬ bI true = 0 by decide), C5g14 hp, bs, hcm.1 er]
  · by_cases e4 : st = 4
    · subst e4
      have d4 := d4 rfl
      have g4 := hg4 rfl
      have ko := k_ownAddress (F := F) (c := c) (k := ok) hS hR g4.1 g4.2 hn.1 hn.2.1 hn.2.2.1 hn.2.2.2.1 hn.2.2.2.2
      show _ = some (lN (ownK te bg2 fb2 bss mb2 ok), _)
      rw [d4.1, if_neg (by decide), if_neg (by decide), if_neg (by decide), if_pos rfl, C5g7 hp, bs, d4.2, c_o o, bs]
      show xb (f_Layout_ownAddress F c 1700 (lN (ok - 1)).toInt32 (cH sk L τ)) _ = _
      rw [ko, xb_mk]
    · by_cases e0 : st = 0
      · subst e0
        rw [d0 rfl, if_neg (by decide), if_neg (by decide), if_neg (by decide), if_neg (by decide)]
        rfl
      · have e13 : st = 1 ∨ st = 3 := by
          have : st ≤ 4 := hle
          omega
        cases by' with
        | none =>
          have dn := dn e13 rfl
          have en : naV (ownV B (pf0 B tO (tB fs s.2.2.1) ll) tO (tB fs s.2.2.1) s.2.1.1 (sta (tB fs s.2.2.1) s.2.1.1 on R) pp ad) (ownK te bg2 fb2 bss mb2) na i (st, fl, ok, none, gv, cs, cv) = gv := by unfold naV; rw [if_neg e2, if_neg e4, if_neg e0]
          rw [en, dn.1, if_neg (by decide), if_pos rfl, C5g7 hp, bs, dn.2]
        | some q =>
          obtain ⟨t, k⟩ := q
          obtain ⟨hv, hfx, hsc⟩ := ds e13 t k rfl
          have hby : t < s.2.2.1.length ∧ (1 ≤ k ∧ k < oM (tB fs s.2.2.1 t)) ∧ yB (tB fs s.2.2.1 t) k ≠ 0 ∧ sOf s.2.1.1 t (tB fs s.2.2.1 t) k = st ∧ st ≠ 0 ∧ yT (tB fs s.2.2.1 t) k = w := hby
          have en : naV (ownV B (pf0 B tO (tB fs s.2.2.1) ll) tO (tB fs s.2.2.1) s.2.1.1 (sta (tB fs s.2.2.1) s.2.1.1 on R) pp ad) (ownK te bg2 fb2 bss mb2) na i (st, fl, ok, some (t, k), gv, cs, cv) = ownV B (pf0 B tO (tB fs s.2.2.1) ll) tO (tB fs s.2.2.1) s.2.1.1 (sta (tB fs s.2.2.1) s.2.1.1 on R) pp ad t k := by unfold naV; rw [if_neg e2, if_neg e4, if_neg e0]
          obtain ⟨qq, hq, _, _, _, he, _, _, _⟩ := TKe_ob h.1 hby.1
          obtain ⟨w2', hyk, _⟩ := eObj_0 he
          have hyo := hyk k hby.2.1.1 hby.2.1.2
          have hS24 := w2'.1.2.1.2
          have hV : yV (tB fs s.2.2.1 t) k < 2 ^ 64 := by
            obtain ⟨_, _, _, _, e5, _⟩ := TKe_ob h.1 hby.1
            rw [← e5]
            exact le_lt (cb_lt _ _ _) _ 8
          have hso : wNo s.2.1.1 t (tB fs s.2.2.1 t) k ≠ 0 ∧ wNo s.2.1.1 t (tB fs s.2.2.1 t) k ≠ 65522 := by
            have h4 := hby.2.2.2.1
            unfold sOf at h4
            refine ⟨fun q => ?_, fun q => ?_⟩
            · rw [if_pos q] at h4; exact e0 h4.symm
            · rw [q, if_neg (by decide), if_pos rfl] at h4; exact e2 h4.symm
          have hw0 : yW (tB fs s.2.2.1 t) k ≠ 0 ∧ yW (tB fs s.2.2.1 t) k ≠ 65522 := by
            unfold wNo at hso
            refine ⟨fun q => ?_, fun q => ?_⟩
            · rw [if_neg (by omega)] at hso; exact hso.1 q
            · rw [if_neg (by omega)] at hso; exact hso.2 q
          rw [en, ownV_c (ST := ST) hyo hS24 hw0.2 (STr_i hr hby.1), if_neg hw0.1]
          by_cases cw : yW (tB fs s.2.2.1 t) k = 65521
          · rw [hfx cw, if_neg (by decide), if_pos rfl, C5g7 hp, bs, hv, if_neg (fun q => by omega)]
          · have hwS : yW (tB fs s.2.2.1 t) k < oS (tB fs s.2.2.1 t) := by
              have := (of_decide_eq_true hyo).2.1
              omega
            have hkp : kpB (tB fs s.2.2.1 t) (yW (tB fs s.2.2.1 t) k) = true := by
              have := ((of_decide_eq_true hyo).2.2.2 hby.2.2.1).1 (by omega) hwS
              unfold kpB
              rw [this, decide_eq_true hwS]; rfl
            have hsc := hsc cw
            have ka := k_addressIn (F := F) (c := c) (x := 24 * t + yW (tB fs s.2.2.1 t) k) hF h (by have := hby.1; omega) hV
            have eR : (if yW (tB fs s.2.2.1 t) k < 24 ∧ (kpB (tB fs s.2.2.1 t) (yW (tB fs s.2.2.1 t) k) = true ∨ s.2.1.1 (24 * t + yW (tB fs s.2.2.1 t) k) = true) then adV ST B (pf0 B tO (tB fs s.2.2.1) ll) tO (tB fs s.2.2.1) pp ad (24 * t + yW (tB fs s.2.2.1 t) k) (yV (tB fs s.2.2.1 t) k) else lN (yV (tB fs s.2.2.1 t) k)) = adV ST B (pf0 B tO (tB fs s.2.2.1) ll) tO (tB fs s.2.2.1) pp ad (24 * t + yW (tB fs s.2.2.1 t) k) (yV (tB fs s.2.2.1 t) k) := if_pos ⟨by omega, Or.inl hkp⟩
            rw [eR, hsc.1, if_pos rfl, C5n6 hp, bs, hsc.2]
            show ((xgR (cH sk L τ) 2 1 1700).bind fun t5 => _) = _
            rw [C2r1 o (GR_r (v := 1697) hR (by decide)), bs, bs, C5g7 hp, bs, hv, c_o (G1697 hS), bs, ka, xb_mk]
theorem k_ly_60 (hF : 65536 < F) (hr : STr fs s on R ST) (hW : WP s.2.2.1.length (tB fs s.2.2.1) s.2.1.1 xs) (hg : AL (fun x => x.2.1 = 4 → 1 ≤ x.2.2.2.1 ∧ x.2.2.2.1 ≤ 4) xs) (hna : ∀ i, rn i = false → na i = 0) : ∀ (d i f : Nat) (τ : px_TT), i + d = xs.length → d < f → LAc sk L own τ fs s xs ST rn ll C B cpf tO pp ad → LYn τ te bg2 fb2 bss mb2 → (∀ n, i ≤ n → n < xs.length → stN xs n = 2 → rn n = true → fJ τ (pN τ 149 n) 14 = lN (na n)) → (∀ j, j < i → fJ τ (pN τ 149 j) 14 = naF (ownV B (pf0 B tO (tB fs s.2.2.1) ll) tO (tB fs s.2.2.1) s.2.1.1 (sta (tB fs s.2.2.1) s.2.1.1 on R) pp ad) (ownK te bg2 fb2 bss mb2) na xs j) → ∃ τ', f_Layout_lay_60 F c f 1700 (nI i) (cH sk L τ) = some ((), cH sk L τ') ∧ (∀ j, j < xs.length → fJ τ' (pN τ' 149 j) 14 = naF (ownV B (pf0 B tO (tB fs s.2.2.1) ll) tO (tB fs s.2.2.1) s.2.1.1 (sta (tB fs s.2.2.1) s.2.1.1 on R) pp ad) (ownK te bg2 fb2 bss mb2) na xs j) ∧ frJE J60 E0 τ τ' := by
  intro d
  induction d with
  | zero =>
    intro i f τ hi hf h hn hc hA
    obtain ⟨f, rfl⟩ : ∃ x, f = x + 1 := ⟨f - 1, by omega⟩
    obtain ⟨s1, s2, s3, s4, s5, s6, s7⟩ := h.1.2.2.2.1.2.1.1
    rw [List.length_map] at s4 s6
    refine ⟨τ, ?_, fun j hj => hA j (by omega), frJE_refl⟩
    unfold f_Layout_lay_60 f_Layout_lay_101
    rw [C2r0 (G1700 h.1.1) (GR_r (v := 147) h.1.2.1 (by decide)), bs, C3r3 (G147 h.1.1) (GR_r (v := 148) h.1.2.1 (by decide)), bs, C6g2 s1, bs, s6, if_pos (nI_le (by omega) (by omega))]
  | succ d ih =>
    intro i f τ hi hf h hn hc hA
    obtain ⟨f, rfl⟩ : ∃ x, f = x + 1 := ⟨f - 1, by omega⟩
    have hil : i < xs.length := by omega
    obtain ⟨x, hx⟩ : ∃ x, xs[i]? = some x := ⟨_, List.getElem?_eq_getElem hil⟩
    have hgx : xs.getD i ([], nr0) = x := by rw [List.getD_eq_getElem?_getD, hx]; rfl
    obtain ⟨s1, s2, s3, s4, s5, s6, s7⟩ := h.1.2.2.2.1.2.1.1
    rw [List.length_map] at s4 s6
    obtain ⟨_, z2, hp, _⟩ := CLm_at h.1.2.2.2.1.2.1 hx
    have hge := (h.1.2.2.2.1.1 149 i _ (Or.inr (Or.inr rfl)) z2).1
    have ka := k_addressOf (F := F) (c := c) (on := on) (R := R) (te := te) (bg2 := bg2) (fb2 := fb2) (bss := bss) (mb2 := mb2) (na := na) hF h hr hW hg hn hx (fun e => ⟨fun er => hc i (Nat.le_refl _) hil (by unfold stN; rw [hgx]; exact e) er, hna i⟩)
    have eV : naV (ownV B (pf0 B tO (tB fs s.2.2.1) ll) tO (tB fs s.2.2.1) s.2.1.1 (sta (tB fs s.2.2.1) s.2.1.1 on R) pp ad) (ownK te bg2 fb2 bss mb2) na i x.2 = naF (ownV B (pf0 B tO (tB fs s.2.2.1) ll) tO (tB fs s.2.2.1) s.2.1.1 (sta (tB fs s.2.2.1) s.2.1.1 on R) pp ad) (ownK te bg2 fb2 bss mb2) na xs i := by unfold naF; rw [hgx]
    rw [eV] at ka
    obtain ⟨τ1, hτ1⟩ : ∃ y, y = tJ τ (pN τ 149 i) 14 (naF (ownV B (pf0 B tO (tB fs s.2.2.1) ll) tO (tB fs s.2.2.1) s.2.1.1 (sta (tB fs s.2.2.1) s.2.1.1 on R) pp ad) (ownK te bg2 fb2 bss mb2) na xs i) := ⟨_, rfl⟩
    have f1 : frJE J60 E0 τ τ1 := by rw [hτ1]; exact frJE_J ⟨hge, rfl⟩
    have eP : ∀ n, pN τ1 149 n = pN τ 149 n := fun n => by unfold pN; rw [f1.2.2.2.2.2]
    have hne : ∀ n, n < xs.length → n ≠ i → pN τ 149 n ≠ pN τ 149 i := fun n hn2 hni => by
      have zn := (CLm_at h.1.2.2.2.1.2.1 (List.getElem?_eq_getElem hn2)).2.1
      exact NP_ne h.1.2.2.2.1.1 (Or.inr (Or.inr rfl)) (Or.inr (Or.inr rfl)) zn z2 (fun q => hni q.2)
    obtain ⟨τ2, g1, g2, g3⟩ := ih (i + 1) f τ1 (by omega) (by omega) (LAc_J h f1 (fun a k w => Or.inr (Or.inr w))) ⟨by rw [f1.2.1 _ _ (fun w => by unfold J60 at w; omega)]; exact hn.1, by rw [f1.2.1 _ _ (fun w => by unfold J60 at w; omega)]; exact hn.2.1, by rw [f1.2.2.2.2.1 _ _ (fun w => w)]; exact hn.2.2.1, by rw [f1.2.2.2.2.1 _ _ (fun w => w)]; exact hn.2.2.2.1, by rw [f1.2.2.2.2.1 _ _ (fun w => w)]; exact hn.2.2.2.2⟩ (fun n h1 h2 h3 h4 => by
      rw [eP, hτ1, tJ_ne (Or.inl (hne n h2 (by omega)))]
      exact hc n (by omega) h2 h3 h4) (fun j hj => by
      rw [eP]
      by_cases cj : j = i
      · rw [cj, hτ1, tJ_at]
      · rw [hτ1, tJ_ne (Or.inl (hne j (by omega) cj))]
        exact hA j (by omega))
    refine ⟨τ2, ?_, g2, frJE_trans f1 g3⟩
    unfold f_Layout_lay_60
    rw [C2r0 (G1700 h.1.1) (GR_r (v := 147) h.1.2.1 (by decide)), bs, C3r3 (G147 h.1.1) (GR_r (v := 148) h.1.2.1 (by decide)), bs, C6g2 s1, bs, s6, if_neg (nI_ge hil (by omega)), bs, C3r3 (G147 h.1.1) (GR_r (v := 148) h.1.2.1 (by decide)), bs, c_o s1, bs, k_nat148 h.1 hil, xb_mk, c_o (G1700 h.1.1), bs, ka, xb_mk, bs, C5p14 hp, bs, ← hτ1, nI_add, g1]
end CAM
end
section
/-! lay of the class, whole -/
section LIL
variable {T : Nat} {tb : Nat → Nat → Nat} {sy : Nat → Nat → Bool}
theorem LI_2 {u t : Nat} (hu : u < 6) (ht : t < T) (hS : oS (tb t) ≤ 24) : ∀ (c i : Nat) (l : List Nat), 1 ≤ i → i + c = oS (tb t) → LI T tb sy u (24 * t + i) l → LI T tb sy u (24 * (t + 1)) (itr (lay3 tb sy (gOf u) t) i c l) := by
  intro c
  induction c with
  | zero => intro i l _ hi h; rw [itr_0]; exact LI_p h (by omega)
  | succ c ih => intro i l h1 hi h; rw [itr_s]; exact ih (i + 1) _ (by omega) (by omega) (LI_3 hu ht h1 (by omega) hS h)
theorem LI_1 {u : Nat} (hu : u < 6) (hS : ∀ t, t < T → 1 ≤ oS (tb t) ∧ oS (tb t) ≤ 24) : ∀ (c t : Nat) (l : List Nat), t + c = T → LI T tb sy u (24 * t) l → LI T tb sy u (24 * T) (itr (lay2 tb sy (gOf u)) t c l) := by
  intro c
  induction c with
  | zero => intro t l ht h; rw [itr_0]; exact LI_p h (by omega)
  | succ c ih =>
    intro t l ht h
    rw [itr_s]
    have hs := hS t (by omega)
    exact ih (t + 1) _ (by omega) (LI_2 hu (by omega) hs.2 (oS (tb t) - 1) 1 l (Nat.le_refl _) (by omega) (LI_p h (by omega)))
theorem LI_0 (hS : ∀ t, t < T → 1 ≤ oS (tb t) ∧ oS (tb t) ≤ 24) : ∀ (c u : Nat) (l : List Nat), u + c = 6 → LI T tb sy u 0 l → LI T tb sy 6 0 (itr (lay1 T tb sy) u c l) := by
  intro c
  induction c with
  | zero => intro u l hu h; rw [itr_0, show (6 : Nat) = u by omega]; exact h
  | succ c ih =>
    intro u l hu h
    rw [itr_s]
    exact ih (u + 1) _ (by omega) (LI_u (LI_1 (by omega) hS T 0 l (by omega) h))
theorem LI_lay (hS : ∀ t, t < T → 1 ≤ oS (tb t) ∧ oS (tb t) ≤ 24) : LI T tb sy 6 0 (layL T tb sy) := LI_0 hS 6 0 [] rfl ⟨List.Pairwise.nil, fun x hx => nomatch hx⟩
end LIL
section CLW
variable {F : Nat} {c : px_CT} {sk : Nat → Nat × Nat × Nat} {L : Nat} {own : Nat → Nat × Nat} {fs : px_FS} {s : px_TK} {xs : px_NL} {ST rn : Nat → Bool} {ll sl : List Nat} {th : Nat → Bool} {rc : Bool} {R rn0 : Nat → Bool} {C B : Nat → Nat} {tO : Nat → Nat}
/-- what stands where after the class's layout -/
def LAD (sk : Nat → Nat × Nat × Nat) (L : Nat) (own : Nat → Nat × Nat) (τ : px_TT) (fs : px_FS) (s : px_TK) (xs : px_NL) (ST rn : Nat → Bool) (ll sl : List Nat) (C B : Nat → Nat) (cpf : List Nat) (tO : Nat → Nat) (th : Nat → Bool) (NA : Nat → Int64) (pp : Nat) (ad : Nat → Nat) (fe3 tp sp fp0 fp1 fp2 bg0 bg1 bg2 : Nat) : Prop := LAc sk L own τ fs s xs ST rn ll C B cpf tO pp ad ∧ COr τ ll ∧ (SLc s.2.2.1.length (tB fs s.2.2.1) xs τ sl ∧ SLI s.2.2.1.length (tB fs s.2.2.1) sl) ∧ ((∀ j, j < 3 → eI τ 1703 j = bI (th j)) ∧ eI τ 1703 3 = bI (ll.any (thr1 (tB fs s.2.2.1)))) ∧ (∀ j, j < xs.length → fJ τ (pN τ 149 j) 14 = NA j) ∧ (∀ x, x ∈ ll → fJ τ (152 + x) 11 = lN (ad x)) ∧ (0 < sl.length → fJ τ 1700 13 = lN sp) ∧ fJ τ 1700 17 = lN tp ∧ fJ τ 1700 18 = lN fe3 ∧ (eJ τ 1704 0 = lN fp0 ∧ eJ τ 1704 1 = lN fp1 ∧ eJ τ 1704 2 = lN fp2) ∧ (eJ τ 1705 0 = lN bg0 ∧ eJ τ 1705 1 = lN bg1 ∧ eJ τ 1705 2 = lN bg2)
theorem STr_ll {τ : px_TT} (h : TKe sk L own τ fs s xs ST rn) (hr : STr fs s rc R ST) (hll : ll = layL s.2.2.1.length (tB fs s.2.2.1) (sta (tB fs s.2.2.1) s.2.1.1 rc R)) : llS2 s ST ll ∧ ll.Nodup ∧ (∀ x, x < 24 * s.2.2.1.length → ST x = true → x ∈ ll) ∧ srt (tB fs s.2.2.1) ll := by
  have hT := BK_T (s := s) h.2.2.2.2.1.1
  have hob : ∀ t, t < s.2.2.1.length → ∃ m, eObj (tB fs s.2.2.1 t) m = 0 := fun t ht => by
    obtain ⟨q, _, _, _, _, he, _⟩ := TKe_ob h ht
    exact ⟨_, he⟩
  have hS : ∀ t, t < s.2.2.1.length → 1 ≤ oS (tB fs s.2.2.1 t) ∧ oS (tB fs s.2.2.1 t) ≤ 24 := fun t ht => by obtain ⟨m, hm⟩ := hob t ht; exact (eObj_0 hm).1.1.2.1
  have hLI := LI_lay (T := s.2.2.1.length) (tb := tB fs s.2.2.1) (sy := sta (tB fs s.2.2.1) s.2.1.1 rc R) hS
  rw [← hll] at hLI
  refine ⟨⟨LI_len hT hLI, fun x hx => ?_⟩, hLI.1, fun x hx hs => ?_, by rw [hll]; exact srt_lay (fun t ht => (hS t ht).2)⟩
  · obtain ⟨x1, x2, x3, x4⟩ := (hLI.2 x hx).1
    refine ⟨x1, ?_⟩
    rw [hr x x1]
    unfold sta at x4
    rw [show 24 * (x / 24) + x % 24 = x by omega] at x4
    unfold kpB
    rw [decide_eq_true x3, Bool.true_and]
    exact x4
  · have hs2 := hs
    rw [hr x hx] at hs2
    have hk : kpB (tB fs s.2.2.1 (x / 24)) (x % 24) = true := by rw [Bool.and_eq_true] at hs2; exact hs2.1
    have ht : x / 24 < s.2.2.1.length := by omega
    have hxS : x % 24 < oS (tB fs s.2.2.1 (x / 24)) := by unfold kpB at hk; rw [Bool.and_eq_true] at hk; exact of_decide_eq_true hk.1
    have hK : oK (tB fs s.2.2.1 (x / 24)) (x % 24) = true := by unfold kpB at hk; rw [Bool.and_eq_true] at hk; exact hk.2
    have h1 : 1 ≤ x % 24 := by
      rcases Nat.eq_zero_or_pos (x % 24) with e | e
      · obtain ⟨m, hm⟩ := hob _ ht
        have h0 := (eObj_g hm).1
        rw [e] at hK
        have := (of_decide_eq_true hK).1
        rw [h0] at this
        omega
      · exact e
    have hm := llS_lay (T := s.2.2.1.length) (tb := tB fs s.2.2.1) (sy := sta (tB fs s.2.2.1) s.2.1.1 rc R) (x / 24) (x % 24) ht h1 hxS (by
      unfold sta
      rw [show 24 * (x / 24) + x % 24 = x by omega]
      rw [hk, Bool.true_and] at hs2
      rw [hK, Bool.true_and]
      exact hs2)
    rw [show 24 * (x / 24) + x % 24 = x by omega, ← hll] at hm
    exact hm
theorem k_lay {τ : px_TT} {fe0 bg0 : Nat} {G0 : px_PG} {fe1 mem1 bg1 : Nat} {G1 : px_PG} {fe2 mem2 bg2 : Nat} {G4 G5 G2 : px_PG} {sp : Nat} {G3 CM : px_PG} {fe3 : Nat} (hF : 65536 < F) (hc : KT c) (hsum : off fs fs.length ≤ 32768) (hr : STr fs s rc R ST) (hW : WP s.2.2.1.length (tB fs s.2.2.1) s.2.1.1 xs) (hN : SLN s.2.2.1.length (tB fs s.2.2.1)) (hcm : AL cmP xs) (hcq : AL cmQ xs) (hg : AL (fun x => x.2.1 = 4 → 1 ≤ x.2.2.2.1 ∧ x.2.2.2.1 ≤ 4) xs) (hrn : ∀ i, rn i = (!rc || rn0 i)) (hod : ∀ d, d ∈ s.1.2.2.1 → d < xs.length) (hoT : ∀ d, stN xs d = 2 → d ∈ s.1.2.2.1) (hll : ll = layL s.2.2.1.length (tB fs s.2.2.1) (sta (tB fs s.2.2.1) s.2.1.1 rc R)) (hsl : sl = slL s.2.2.1.length (tB fs s.2.2.1) s.2.1.1 xs (sta (tB fs s.2.2.1) s.2.1.1 rc R)) (hth : th = thS (tB fs s.2.2.1) ll xs s.1.2.2.1 rc rn0 sl.length) (hrel : CBR C B (cAd fs s.2.2.1 (tB fs s.2.2.1)) tO (tB fs s.2.2.1) ll) (hL : LYe B tO (tB fs s.2.2.1) ll xs s.1.2.2.1 sl.length rc rn0 th fe0 bg0 G0 fe1 mem1 bg1 G1 fe2 mem2 bg2 G4 G5 G2 sp G3 CM fe3) (h : TKe sk L own τ fs s xs ST rn) (hz : Z15 τ xs) (hb : CB τ C) : ∃ τ' cpf, f_Layout_lay F c 1700 (cH sk L τ) = some ((), cH sk L τ') ∧ LAD sk L own τ' fs s xs ST rn ll sl C B cpf tO th (naF (ownV B (pf0 B tO (tB fs s.2.2.1) ll) tO (tB fs s.2.2.1) s.2.1.1 (sta (tB fs s.2.2.1) s.2.1.1 rc R) G1.1 G3.2.1) (ownK G0.1 bg2 (sp + 8 * sl.length - bg2) (CM.2.2.getD CM.1) (CM.1 - bg2)) CM.2.1 xs) G1.1 G3.2.1 fe3 (tpN bg2 (ll.foldl (ft1 (tB fs s.2.2.1) G3.2.1) (false, 0, 1, 0))) sp (upN fe0 16) (upN fe1 16) (upN fe2 16) bg0 bg1 bg2 ∧ (eJ τ' 1707 0 = lN (G0.1 - bg0) ∧ eJ τ' 1707 1 = lN (G1.1 + psz B (pf0 B tO (tB fs s.2.2.1) ll) - bg1) ∧ eJ τ' 1707 2 = lN (CM.1 - bg2)) ∧ frLy τ τ' := by
  have hk := STr_k hr
  obtain ⟨hl, hnd, hall, hsr⟩ := STr_ll h hr hll
  have hok := hW.2.1
  obtain ⟨τ1, a1, a2, a3, a4⟩ := k_gather (F := F) (c := c) hF hc hsum h hr hb
  rw [← hll] at a2 a3
  obtain ⟨cpf, hcpf⟩ : ∃ cpf, cpf = ll.foldl (sC C (tB fs s.2.2.1) (cAd fs s.2.2.1 (tB fs s.2.2.1))) [] := ⟨_, rfl⟩
  rw [← hcpf] at a3
  have h1 := TKe_Ly h a4.1
  have hb1 := CB_Ly hb a4.1
  have hz1 : Z15 τ1 xs := fun i hi => by
    have z2 := (CLm_at h.2.2.2.1.2.1 (List.getElem?_eq_getElem hi)).2.1
    have hge := (h.2.2.2.1.1 149 i _ (Or.inr (Or.inr rfl)) z2).1
    have eP : pN τ1 149 i = pN τ 149 i := by unfold pN; rw [a4.1.2.2.2.2.2.2.2 149 (by decide)]
    rw [eP, a4.2 _ _ hge, a4.2 _ _ hge]
    exact hz i hi
  obtain ⟨τ2, b1, b2, b3⟩ := k_findSlots (F := F) (c := c) hr hF hW hN h1 hz1
  rw [← hsl] at b2
  have h2 := b2.1
  have ho2 := COr_Sl a2 b3
  have hp2 := CPl_Sl a3 b3
  have hb2 := CB_Ly hb1 b3.1
  have hns := hN _ b2.2.2
  obtain ⟨τ3, c1, c2, c3, c4, c5, ⟨c6, c7, c8, c9⟩, c10⟩ := k_findSegments (F := F) (c := c) (on := rc) (rn0 := rn0) (ns := sl.length) hF hc hk hl hok hrn h2 ho2 b2.2.1.1 (by omega)
  have h3 := TKe_Ly h2 c10
  have ho3 : COr τ3 ll := COr_fx ho2 (c6 1700 11) (c9 1701)
  have hp3 : CPl τ3 C cpf := CPl_fx hp2 (c6 1697 3) (c6 1697 4) (c8 1698 (by decide)) (c8 1699 (by decide))
  have hb3 := CB_Ly hb2 c10
  have hT : cpf.map (st C) = (pf0 B tO (tB fs s.2.2.1) ll).map (st B) := by
    rw [hcpf]
    exact pool_T (fun x hx hs => ⟨(hrel x hx hs).1, (hrel x hx hs).2.1, (hrel x hx hs).2.2.1⟩)
  have hpzE := psz_T hT
  have hpz1 := psz_le cpf hp3.2.2.1.2
  have hpz2 := stL_len hp3.2.2.1
  obtain ⟨q0, q1, q2, q3, q4, q5, q6, q7, q8, q9, q10, q11, q12, q13, q14, q15, q16⟩ := hL
  obtain ⟨τ4, d1, d2, d3, d4, d5⟩ := k_layText (F := F) (c := c) (τ := τ3) (th := th) (on := rc) (rn0 := rn0) (ns := sl.length) (pz := psz B (pf0 B tO (tB fs s.2.2.1) ll)) (thr := ll.any (thr1 (tB fs s.2.2.1))) (ad1 := psF B (pf0 B tO (tB fs s.2.2.1) ll) tO (tB fs s.2.2.1) G1.1 G1.2.1) hF hc hk hl hnd hsr hok (cmOK_of hcm) hcq hrn hod h3 ho3 (fun j hj => by rw [hth]; exact c2 j hj) c3 (by rw [c6]; exact b2.2.1.1) hns (by rw [← hpzE]; exact hp3.2.1) (by rw [← hpzE]; omega) (fun x hx hs => by unfold psF; rw [if_neg (by rw [hs]; decide)]) q0 q1 q2 q3 q4 q5 q6 q7 q8 q9 q10 q11 q12 q13 q14 q15 q16
  have fl4 := frJE_Ly d5 JX_Ly EX4_Ly
  have h4 := TKe_Ly h3 fl4
  have ho4 : COr τ4 ll := COr_fx ho3 (d5.1 1700 11) (d5.2.2.2.2.2 1701)
  have hA4 : LAc sk L own τ4 fs s xs ST rn ll C B cpf tO G1.1 G3.2.1 := ⟨h4, ⟨hk, hl, hall⟩, CB_Ly hb3 fl4, CPl_fx hp3 (d5.1 1697 3) (d5.1 1697 4) (d5.2.2.2.1 1698) (d5.2.2.2.1 1699), d3.2.2.2.2.1, by omega, d2, hT, hrel⟩
  obtain ⟨τ5, e1, e2, e3⟩ := k_ly_18 (F := F) (c := c) hF ll.length 0 F τ4 (Nat.zero_add _) (by have := hl.1; omega) hA4 ho4 (fun x hx => by rw [List.take_zero] at hx; exact absurd hx List.not_mem_nil)
  have hA5 := LAc_J hA4 e3 (fun a k w => Or.inr (Or.inl w))
  have hn5 : LYn τ5 G0.1 bg2 (sp + 8 * sl.length - bg2) (CM.2.2.getD CM.1) (CM.1 - bg2) := ⟨by rw [e3.2.1 _ _ (fun w => by unfold J18 at w; omega)]; exact d3.2.2.2.1, by rw [e3.2.1 _ _ (fun w => by unfold J18 at w; omega)]; exact d3.2.2.1, by rw [e3.2.2.2.2.1 _ _ (fun w => w)]; exact d3.2.2.2.2.2.2.2.2.1.2.1, by rw [e3.2.2.2.2.1 _ _ (fun w => w)]; exact d3.2.2.2.2.2.2.2.2.1.2.2.1, by rw [e3.2.2.2.2.1 _ _ (fun w => w)]; exact d3.2.2.2.2.2.2.2.2.1.2.2.2⟩
  have eP5 : ∀ n, pN τ5 149 n = pN τ4 149 n := fun n => by unfold pN; rw [e3.2.2.2.2.2]
  have hge5 : ∀ n, n < xs.length → 1815 ≤ pN τ4 149 n := fun n hn => (h4.2.2.2.1.1 149 n _ (Or.inr (Or.inr rfl)) (CLm_at h4.2.2.2.1.2.1 (List.getElem?_eq_getElem hn)).2.1).1
  obtain ⟨τ6, g1, g2, g3⟩ := k_ly_60 (F := F) (c := c) (on := rc) (R := R) (na := CM.2.1) hF hr hW hg (fun i hi => by
    rw [q15, pc_no (by
      unfold cB
      rw [hrn i] at hi
      rw [hi, Bool.and_false]
      decide)]) xs.length 0 F τ5 (Nat.zero_add _) (by have := h4.2.2.2.1.2.1.1.2.2.2.1; rw [List.length_map] at this; omega) hA5 hn5 (fun n _ hn h2n hrn2 => by
    have := hge5 n hn
    rw [eP5, e3.2.1 _ _ (fun w => by unfold J18 at w; omega)]
    refine d3.2.2.2.2.2.2.2.2.2 n (hoT n h2n) ?_
    unfold cB
    rw [← hrn n, hrn2, decide_eq_true h2n]
    rfl) (fun j hj => absurd hj (by omega))
  have f46 : frJE (fun a k => J18 (tB fs s.2.2.1) a k ∨ J60 a k) E0 τ4 τ6 := frJE_trans (frJE_mono e3 (fun _ _ w => Or.inl w) (fun _ _ w => w)) (frJE_mono g3 (fun _ _ w => Or.inr w) (fun _ _ w => w))
  have nJ : ∀ {a k : Nat}, ¬ (152 ≤ a ∧ a < 1688) → a < 1815 → fJ τ6 a k = fJ τ4 a k := fun h1 h2 => f46.2.1 _ _ (fun w => by unfold J18 J60 at w; omega)
  have nE : ∀ a i, eJ τ6 a i = eJ τ4 a i := fun a i => f46.2.2.2.2.1 a i (fun w => w)
  have hA6 := LAc_J hA5 g3 (fun a k w => Or.inr (Or.inr w))
  refine ⟨τ6, cpf, ?_, ⟨hA6, COr_fx ho4 (f46.1 1700 11) (f46.2.2.2.2.2 1701), ⟨?_, b2.2.2⟩, ⟨fun j hj => ?_, ?_⟩, g2, fun x hx => ?_, fun w => ?_, ?_, ?_, ⟨?_, ?_, ?_⟩, ⟨?_, ?_, ?_⟩⟩, ⟨?_, ?_, ?_⟩, ?_⟩
  · unfold f_Layout_lay
    rw [c_o (G1700 h.1), bs, a1, xb_mk, c_o (G1700 h.1), bs, b1, xb_mk, c_o (G1700 h.1), bs, c1, xb_mk, c_o (G1700 h.1), bs, d1, xb_mk, e1]
    unfold f_Layout_lay_58
    exact g1
  · have eI6 : ∀ a k, fI τ6 a k = fI τ2 a k := fun a k => by rw [f46.1, d5.1, c6]
    have eP6 : ∀ n, pN τ6 149 n = pN τ2 149 n := fun n => by unfold pN; rw [f46.2.2.2.2.2, d5.2.2.2.2.2, c9]
    have eE6 : ∀ a, a ≠ 1703 → eI τ6 a = eI τ2 a := fun a ha => by rw [f46.2.2.2.1, d5.2.2.2.1, c8 a ha]
    obtain ⟨z1, z2, z3, z4⟩ := b2.2.1
    refine ⟨by rw [eI6]; exact z1, fun i z hz => by rw [eE6 _ (by decide)]; exact z2 i z hz, fun P hP t ht => by rw [eI6, eP6]; exact z3 P hP t ht, fun z hz hn => by rw [eE6 _ (by decide)]; exact z4 z hz hn⟩
  · rw [f46.2.2.2.1, d5.2.2.2.1, hth]; exact c2 j hj
  · rw [f46.2.2.2.1, d5.2.2.2.1]; exact c3
  · have hx1 := (hl.2 x hx).1
    have hT64 := BK_T (s := s) h.2.2.2.2.1.1
    by_cases cs : sS (tB fs s.2.2.1) x = true
    · rw [g3.2.1 _ _ (fun w => by unfold J60 at w; omega), e2 x hx cs]
      congr 1
      have k1 : G3.2.1 x = G2.2.1 x := by rw [q14]; exact pg_k (cnd_s cs (by decide)) ll _
      have k2 : G2.2.1 x = G5.2.1 x := by rw [q12]; exact pg_k (cnd_s cs (by decide)) ll _
      have k3 : G5.2.1 x = G4.2.1 x := by rw [q11]; exact pg_k (cnd_s cs (by decide)) ll _
      have k4 : G4.2.1 x = psF B (pf0 B tO (tB fs s.2.2.1) ll) tO (tB fs s.2.2.1) G1.1 G1.2.1 x := by rw [q10]; exact pg_k (cnd_s cs (by decide)) ll _
      rw [k1, k2, k3, k4]
      unfold psF
      rw [if_pos cs]
    · exact hA6.2.2.2.2.2.2.1 x hx (by cases hh : sS (tB fs s.2.2.1) x with | false => rfl | true => exact absurd hh cs)
  · rw [nJ (by omega) (by omega)]; exact d3.1 w
  · rw [nJ (by omega) (by omega)]; exact d3.2.1
  · rw [nJ (by omega) (by omega)]; exact d3.2.2.2.2.2.1
  · rw [nE]; exact d3.2.2.2.2.2.2.1.1
  · rw [nE]; exact d3.2.2.2.2.2.2.2.1.1
  · rw [nE]; exact d3.2.2.2.2.2.2.2.2.1.1
  · rw [nE]; exact d3.2.2.2.2.2.2.1.2.1
  · rw [nE]; exact d3.2.2.2.2.2.2.2.1.2.1
  · rw [nE]; exact d3.2.2.2.2.2.2.2.2.1.2.1
  · rw [nE]; exact d3.2.2.2.2.2.2.1.2.2.2
  · rw [nE]; exact d3.2.2.2.2.2.2.2.1.2.2.2
  · rw [nE]; exact d3.2.2.2.2.2.2.2.2.1.2.2.2
  · exact frLy_trans a4.1 (frLy_trans b3.1 (frLy_trans c10 (frLy_trans fl4 (frJE_Ly f46 (fun a k w => by unfold J18 J60 at w; omega) (fun a i w => w.elim)))))
end CLW
end
section
/-! too large: the class's answer 3 -/
theorem pg_same {tb : Nat → Nat → Nat} {g : Nat} : ∀ (l : List Nat) (s : px_PG), (∀ x, x ∈ l → cnd tb g x = true → zS tb x = 0) → (l.foldl (pg1 tb g false) s).1 = s.1 := by
  intro l
  induction l with
  | nil => intro s _; rfl
  | cons x l ih =>
    intro s hz
    rw [List.foldl_cons, ih _ (fun y hy => hz y (List.mem_cons_of_mem _ hy))]
    by_cases c : cnd tb g x = true
    · have e : (pg1 tb g false s x).1 = pgA tb false s.1 x + zS tb x := by unfold pg1; rw [if_pos c]
      rw [e, hz x (List.mem_cons_self) c]
      unfold pgA
      rw [if_neg (fun q => by cases q.1)]
      rfl
    · rw [pg1_n (by cases hh : cnd tb g x with | false => rfl | true => exact absurd hh c)]
theorem pc_same {xs : px_NL} {on : Bool} {rn : Nat → Bool} : ∀ (l : List Nat) (s : px_PG), (∀ n, n ∈ l → cB xs on rn n = true → cmZ xs n = 0) → (l.foldl (pc1 xs on rn false) s).1 = s.1 := by
  intro l
  induction l with
  | nil => intro s _; rfl
  | cons x l ih =>
    intro s hz
    rw [List.foldl_cons, ih _ (fun y hy => hz y (List.mem_cons_of_mem _ hy))]
    by_cases c : cB xs on rn x = true
    · have e : (pc1 xs on rn false s x).1 = pcA xs false s.1 x + cmZ xs x := by unfold pc1; rw [if_pos c]
      rw [e, hz x (List.mem_cons_self) c]
      unfold pcA
      rw [if_neg (by decide)]
      rfl
    · rw [pc1_n c]
theorem pf_no {B : Nat → Nat} {tO : Nat → Nat} {tb : Nat → Nat → Nat} {nd : List (List Nat)} : ∀ (l : List Nat) (pf : List Nat), (∀ x, x ∈ l → sS tb x = false) → l.foldl (s1F B nd tO tb) pf = pf := by
  intro l
  induction l with
  | nil => intro pf _; rfl
  | cons x l ih =>
    intro pf h
    rw [List.foldl_cons]
    have e : s1F B nd tO tb pf x = pf := by unfold s1F; rw [if_neg (by rw [h x List.mem_cons_self]; decide)]
    rw [e]
    exact ih pf (fun y hy => h y (List.mem_cons_of_mem _ hy))
theorem thx_z {tb : Nat → Nat → Nat} {ll : List Nat} {j : Nat} (h : ll.any (thx tb j) = false) {x : Nat} (hx : x ∈ ll) (hg : sgO (oG (tb (x / 24)) (x % 24)) = j) : zS tb x = 0 := by
  rcases Nat.eq_zero_or_pos (zS tb x) with e | e
  · exact e
  · have : ll.any (thx tb j) = true := List.any_eq_true.mpr ⟨x, hx, by unfold thx; rw [decide_eq_true hg, decide_eq_true e]; rfl⟩
    rw [h] at this
    cases this
theorem cnd_og {tb : Nat → Nat → Nat} {g x : Nat} (h : cnd tb g x = true) : oG (tb (x / 24)) (x % 24) = g := by
  unfold cnd at h
  rw [Bool.and_eq_true] at h
  exact of_decide_eq_true h.1
section LYB
variable {tb : Nat → Nat → Nat} {xs : px_NL} {ll od : List Nat} {ns : Nat} {th : Nat → Bool} {on : Bool} {rn : Nat → Bool} {B tO : Nat → Nat} {fe0 bg0 : Nat} {G0 : px_PG} {fe1 mem1 bg1 : Nat} {G1 : px_PG} {fe2 mem2 bg2 : Nat} {G4 G5 G2 : px_PG} {sp : Nat} {G3 CM : px_PG} {fe3 : Nat}
theorem LYe_z (hth : th = thS tb ll xs od on rn ns) (hL : LYe B tO tb ll xs od ns on rn th fe0 bg0 G0 fe1 mem1 bg1 G1 fe2 mem2 bg2 G4 G5 G2 sp G3 CM fe3) : (th 0 = false → G0.1 - bg0 = 0) ∧ (th 1 = false → G1.1 + psz B (pf0 B tO tb ll) - bg1 = 0) ∧ (th 2 = false → CM.1 - bg2 = 0) := by
  obtain ⟨q0, q1, q2, q3, q4, q5, q6, q7, q8, q9, q10, q11, q12, q13, q14, q15, q16⟩ := hL
  refine ⟨fun e => ?_, fun e => ?_, fun e => ?_⟩
  · have e2 := e
    rw [hth] at e2
    unfold thS at e2
    rw [Bool.or_eq_false_iff] at e2
    have := pg_same (tb := tb) (g := 0) ll (bg0, (fun _ => 0), none) (fun x hx hc => thx_z e2.1 hx (by rw [cnd_og hc]; rfl))
    rw [q2, e, this]
    exact Nat.sub_self bg0
  · have e2 := e
    rw [hth] at e2
    unfold thS at e2
    rw [Bool.or_eq_false_iff] at e2
    have hs : ∀ x, x ∈ ll → sS tb x = false := fun x hx => by
      cases hh : sS tb x with
      | false => rfl
      | true =>
        have h1 := sS_z hh
        have h2 := thx_z e2.1 hx (by rw [sS_g hh]; rfl)
        omega
    have := pg_same (tb := tb) (g := 1) ll (bg1, G0.2.1, none) (fun x hx hc => thx_z e2.1 hx (by rw [cnd_og hc]; rfl))
    have e0 : pf0 B tO tb ll = [] := by unfold pf0; exact pf_no ll [] hs
    rw [q6, e, this, e0]
    exact Nat.sub_self bg1
  · have e2 := e
    rw [hth] at e2
    unfold thS at e2
    rw [Bool.or_eq_false_iff, decide_eq_true (rfl : (2 : Nat) = 2), Bool.true_and, Bool.or_eq_false_iff] at e2
    have hn0 : ns = 0 := by have := of_decide_eq_false e2.2.2; omega
    have s4 := pg_same (tb := tb) (g := 4) ll (bg2, psF B (pf0 B tO tb ll) tO tb G1.1 G1.2.1, none) (fun x hx hc => thx_z e2.1 hx (by rw [cnd_og hc]; rfl))
    have s2 := pg_same (tb := tb) (g := 2) ll (G4.1, G5.2.1, none) (fun x hx hc => thx_z e2.1 hx (by rw [cnd_og hc]; rfl))
    have s3 := pg_same (tb := tb) (g := 3) ll (sp + 8 * ns, G2.2.1, none) (fun x hx hc => thx_z e2.1 hx (by rw [cnd_og hc]; rfl))
    have sc := pc_same (xs := xs) (on := on) (rn := rn) od (G3.1, (fun _ => 0), G3.2.2) (fun n hn hc => by
      rcases Nat.eq_zero_or_pos (cmZ xs n) with z | z
      · exact z
      · have : od.any (thc xs on rn) = true := List.any_eq_true.mpr ⟨n, hn, by unfold thc; rw [hc, decide_eq_true z]; rfl⟩
        rw [e2.2.1] at this
        cases this)
    rw [← e, ← q10] at s4
    rw [← e, ← q12] at s2
    rw [← e, ← q14] at s3
    rw [← e, ← q15] at sc
    have s4 : G4.1 = bg2 := s4
    have s2 : G2.1 = G4.1 := s2
    have s3 : G3.1 = sp + 8 * ns := s3
    have sc : CM.1 = G3.1 := sc
    rw [hn0, if_neg (by decide)] at q13
    omega
theorem LYe_b (hZ : ∀ x, x ∈ ll → zS tb x ≤ 16384 ∧ alS tb x ≤ 4096) (hl1 : ll.length ≤ 1536) (hns : ns ≤ 2800) (hpz : psz B (pf0 B tO tb ll) ≤ 2 ^ 30) (hcm : cmOK xs) (hod : ∀ d, d ∈ od → d < xs.length) (hol : od.length ≤ 4128) (hL : LYe B tO tb ll xs od ns on rn th fe0 bg0 G0 fe1 mem1 bg1 G1 fe2 mem2 bg2 G4 G5 G2 sp G3 CM fe3) : (G0.1 < 2 ^ 40 ∧ G1.1 + psz B (pf0 B tO tb ll) < 2 ^ 40 ∧ CM.1 < 2 ^ 40 ∧ fe3 < 2 ^ 40) ∧ (upN fe0 16 < 2 ^ 40 ∧ upN fe1 16 < 2 ^ 40 ∧ upN fe2 16 < 2 ^ 40) ∧ (bg0 ≤ G0.1 ∧ bg1 ≤ G1.1 ∧ bg2 ≤ sp ∧ sp < 2 ^ 40) := by
  obtain ⟨q0, q1, q2, q3, q4, q5, q6, q7, q8, q9, q10, q11, q12, q13, q14, q15, q16⟩ := hL
  have h6 := ar_6 (K := 0) hl1
  have hsg : sgN th 3 ≤ 3 := by
    show (((0 + (if th 0 = true then 1 else 0)) + (if th 1 = true then 1 else 0)) + (if th 2 = true then 1 else 0)) ≤ 3
    split <;> split <;> split <;> omega
  have hfe0 : fe0 ≤ 288 := by rw [q0]; split <;> omega
  have u0 := upN_le (v := fe0) (a := 16) (by decide)
  have v0 := bgN_lt (mem := 4194304) (fp := upN fe0 16) (th := th 0)
  rw [← q1] at v0
  have m0 := pgs_m (g := 0) (th := th 0) ll (bg0, (fun _ => 0), none) hZ
  rw [← q2] at m0
  have m0 : bg0 ≤ G0.1 ∧ G0.1 ≤ bg0 + ll.length * 20480 := m0
  have hfe1 : fe1 < 2 ^ 34 := by rw [q3]; split <;> omega
  have hmem1 : mem1 < 2 ^ 34 := by rw [q4]; split <;> omega
  have u1 := upN_le (v := fe1) (a := 16) (by decide)
  have v1 := bgN_lt (mem := mem1) (fp := upN fe1 16) (th := th 1)
  rw [← q5] at v1
  have m1 := pgs_m (g := 1) (th := th 1) ll (bg1, G0.2.1, none) hZ
  rw [← q6] at m1
  have m1 : bg1 ≤ G1.1 ∧ G1.1 ≤ bg1 + ll.length * 20480 := m1
  have hfe2 : fe2 < 2 ^ 35 := by rw [q7]; split <;> omega
  have hmem2 : mem2 < 2 ^ 35 := by rw [q8]; split <;> omega
  have u2 := upN_le (v := fe2) (a := 16) (by decide)
  have v2 := bgN_lt (mem := mem2) (fp := upN fe2 16) (th := th 2)
  rw [← q9] at v2
  have m4 := pgs_m (g := 4) (th := th 2) ll (bg2, psF B (pf0 B tO tb ll) tO tb G1.1 G1.2.1, none) hZ
  rw [← q10] at m4
  have m4 : bg2 ≤ G4.1 ∧ G4.1 ≤ bg2 + ll.length * 20480 := m4
  have m2 := pgs_m (g := 2) (th := th 2) ll (G4.1, G5.2.1, none) hZ
  rw [← q12] at m2
  have m2 : G4.1 ≤ G2.1 ∧ G2.1 ≤ G4.1 + ll.length * 20480 := m2
  have u8 := upN_le (v := G2.1) (a := 8) (by decide)
  have hsp : G2.1 ≤ sp ∧ sp < G2.1 + 8 := by rw [q13]; split <;> omega
  have m3 := pgs_m (g := 3) (th := th 2) ll (sp + 8 * ns, G2.2.1, none) hZ
  rw [← q14] at m3
  have m3 : sp + 8 * ns ≤ G3.1 ∧ G3.1 ≤ sp + 8 * ns + ll.length * 20480 := m3
  have mc := pcs_m (on := on) (rn := rn) (th := th 2) hcm od (G3.1, (fun _ => 0), G3.2.2) hod
  rw [← q15] at mc
  have mc : G3.1 ≤ CM.1 ∧ CM.1 ≤ G3.1 + od.length * 20480 := mc
  have ho : od.length * 20480 ≤ 4128 * 20480 := Nat.mul_le_mul_right _ hol
  have hfe3 : fe3 < 2 ^ 39 := by rw [q16]; split <;> omega
  refine ⟨⟨by omega, by omega, by omega, by omega⟩, ⟨by omega, by omega, by omega⟩, by omega, by omega, by omega, by omega⟩
end LYB
section CBG
variable {F : Nat} {c : px_CT} {sk : Nat → Nat × Nat × Nat} {L : Nat} {τ : px_TT}
theorem k_tl_2 {mb : Nat → Nat} {fe : Nat} (hS : GS sk L) (hR : GR τ) (h7 : ∀ j, j < 3 → eJ τ 1707 j = lN (mb j) ∧ mb j < 2 ^ 40) (h18 : fJ τ 1700 18 = lN fe) (hfe : fe < 2 ^ 40) : ∀ (d j f : Nat), j + d = 3 → d < f → f_Layout_isTooLarge_2 F c f 1700 (nI j) (cH sk L τ) = some (bI (ex1 (fun i => decide (65536 < mb i)) j d || decide (65536 < fe)), cH sk L τ) := by
  intro d
  induction d with
  | zero =>
    intro j f hj hf
    obtain ⟨f, rfl⟩ : ∃ x, f = x + 1 := ⟨f - 1, by omega⟩
    unfold f_Layout_isTooLarge_2 f_Layout_isTooLarge_28 f_Layout_isTooLarge_44
    rw [if_pos (nI_le (by omega) (by omega)), C2g18 (G1700 hS), bs, h18, show (65536 : Int64) = lN 65536 from rfl]
    show _ = some (bI (false || decide (65536 < fe)), _)
    rw [Bool.false_or]
    by_cases c1 : fe ≤ 65536
    · rw [if_pos ((pk_lLE (by omega) (by decide)).mpr c1), xz_0, decide_eq_false (by omega)]
    · rw [if_neg (fun q => c1 ((pk_lLE (by omega) (by decide)).mp q)), xz_1, decide_eq_true (by omega)]
  | succ d ih =>
    intro j f hj hf
    obtain ⟨f, rfl⟩ : ∃ x, f = x + 1 := ⟨f - 1, by omega⟩
    have h7j := h7 j (by omega)
    unfold f_Layout_isTooLarge_2 f_Layout_isTooLarge_20
    rw [if_neg (nI_ge (by omega) (by omega)), C2r8 (G1700 hS) (GR_r (v := 1707) hR (by decide)), bs, c_aJ (G1707 hS) (by decide) (by omega), bs, h7j.1, show (65536 : Int64) = lN 65536 from rfl, nI_add]
    show _ = some (bI (ex1 (fun i => decide (65536 < mb i)) j (d + 1) || decide (65536 < fe)), _)
    have e : ex1 (fun i => decide (65536 < mb i)) j (d + 1) = (decide (65536 < mb j) || ex1 (fun i => decide (65536 < mb i)) (j + 1) d) := ex1_s
    rw [e]
    by_cases c1 : mb j ≤ 65536
    · rw [if_pos ((pk_lLE (by omega) (by decide)).mpr c1), ih (j + 1) f (by omega) (by omega), decide_eq_false (show ¬ 65536 < mb j by omega), Bool.false_or]
    · rw [if_neg (fun q => c1 ((pk_lLE (by omega) (by decide)).mp q)), decide_eq_true (show 65536 < mb j by omega)]
      rfl
theorem k_isTooLarge {th : Nat → Bool} {mb0 mb1 mb2 fe : Nat} (hF : 8 < F) (hS : GS sk L) (hR : GR τ) (e0 : eJ τ 1707 0 = lN mb0) (e1 : eJ τ 1707 1 = lN mb1) (e2 : eJ τ 1707 2 = lN mb2) (h18 : fJ τ 1700 18 = lN fe) (hb : mb0 < 2 ^ 40 ∧ mb1 < 2 ^ 40 ∧ mb2 < 2 ^ 40 ∧ fe < 2 ^ 40) (hz : (th 0 = false → mb0 = 0) ∧ (th 1 = false → mb1 = 0) ∧ (th 2 = false → mb2 = 0)) : f_Layout_isTooLarge F c 1700 (cH sk L τ) = some (bI (lyA th mb0 mb1 mb2 fe), cH sk L τ) := by
  have k := k_tl_2 (F := F) (c := c) (τ := τ) (mb := fun j => if j = 0 then mb0 else if j = 1 then mb1 else mb2) (fe := fe) hS hR (fun j hj => by
    rcases (show j = 0 ∨ j = 1 ∨ j = 2 by omega) with e | e | e
    · subst e; exact ⟨e0, hb.1⟩
    · subst e; exact ⟨e1, hb.2.1⟩
    · subst e; exact ⟨e2, hb.2.2.1⟩) h18 hb.2.2.2 3 0 F rfl (by omega)
  have a0 : decide (65536 < mb0) = (th 0 && decide (65536 < mb0)) := by
    cases e : th 0 with
    | false => rw [hz.1 e]; rfl
    | true => rw [Bool.true_and]
  have a1 : decide (65536 < mb1) = (th 1 && decide (65536 < mb1)) := by
    cases e : th 1 with
    | false => rw [hz.2.1 e]; rfl
    | true => rw [Bool.true_and]
  have a2 : decide (65536 < mb2) = (th 2 && decide (65536 < mb2)) := by
    cases e : th 2 with
    | false => rw [hz.2.2 e]; rfl
    | true => rw [Bool.true_and]
  unfold f_Layout_isTooLarge lyA
  rw [k, ← a0, ← a1, ← a2]
  show some (bI ((decide (65536 < mb0) || (decide (65536 < mb1) || (decide (65536 < mb2) || false))) || decide (65536 < fe)), _) = _
  rw [Bool.or_false, Bool.or_assoc, Bool.or_assoc, Bool.or_assoc]
end CBG
end
section
/-! the class's rows: whatever is written, they stay rows -/
def rowOK (sk : Nat → Nat × Nat × Nat) (L : Nat) (τ : px_TT) (r A n : Nat) : Prop := ob sk L 10 r ∧ ar sk L 0 n A ∧ n ≤ 65536 ∧ fN τ r 0 = some A ∧ (∃ z, z ≤ n ∧ fI τ r 1 = nI z) ∧ (∃ b, fI τ r 2 = bI b) ∧ ∀ k, isB (eI τ A k)
def frRw (r A : Nat) (τ τ' : px_TT) : Prop := (∀ a k, (a ≠ r ∨ (k ≠ 1 ∧ k ≠ 2)) → fI τ' a k = fI τ a k) ∧ (∀ a k, fJ τ' a k = fJ τ a k) ∧ (∀ a k, fN τ' a k = fN τ a k) ∧ (∀ a, a ≠ A → eI τ' a = eI τ a) ∧ (∀ a, eJ τ' a = eJ τ a) ∧ ∀ a, eN τ' a = eN τ a
theorem frRw_refl {r A : Nat} {τ : px_TT} : frRw r A τ τ := ⟨fun _ _ _ => rfl, fun _ _ => rfl, fun _ _ => rfl, fun _ _ => rfl, fun _ => rfl, fun _ => rfl⟩
theorem frRw_trans {r A : Nat} {τ τ1 τ2 : px_TT} (h : frRw r A τ τ1) (g : frRw r A τ1 τ2) : frRw r A τ τ2 := ⟨fun a k x => (g.1 a k x).trans (h.1 a k x), fun a k => (g.2.1 a k).trans (h.2.1 a k), fun a k => (g.2.2.1 a k).trans (h.2.2.1 a k), fun a x => (g.2.2.2.1 a x).trans (h.2.2.2.1 a x), fun a => (g.2.2.2.2.1 a).trans (h.2.2.2.2.1 a), fun a => (g.2.2.2.2.2 a).trans (h.2.2.2.2.2 a)⟩
theorem frRw_1 {r A : Nat} {τ : px_TT} {v : Int32} : frRw r A τ (tI τ r 1 v) := ⟨fun a k h => tI_ne (by omega), fun _ _ => rfl, fun _ _ => rfl, fun _ _ => rfl, fun _ => rfl, fun _ => rfl⟩
theorem frRw_2 {r A : Nat} {τ : px_TT} {v : Int32} : frRw r A τ (tI τ r 2 v) := ⟨fun a k h => tI_ne (by omega), fun _ _ => rfl, fun _ _ => rfl, fun _ _ => rfl, fun _ => rfl, fun _ => rfl⟩
theorem frRw_v {r A : Nat} {τ : px_TT} {g : Nat → Int32} : frRw r A τ (vI τ A g) := ⟨fun _ _ _ => rfl, fun _ _ => rfl, fun _ _ => rfl, fun a h => eI_v_ne h, fun _ => rfl, fun _ => rfl⟩
theorem GR_mx {τ τ' : px_TT} (h : GR τ) (hN : ∀ a k, a < 1726 → fN τ' a k = fN τ a k) (hI : ∀ a k, 10 ≤ a → a < 138 → k < 3 → fI τ' a k = fI τ a k) (h9 : eN τ' 9 = eN τ 9) (h151 : eN τ' 151 = eN τ 151) : GR τ' := by
  refine ⟨fun x hx => ?_, fun i hi => ?_, fun i hi => ?_⟩
  · have hlt : ∀ x, x ∈ grl → x.1 < 1726 := by decide
    rw [hN _ _ (hlt x hx)]
    exact h.1 x hx
  · have g := h.2.1 i hi
    rw [hN _ _ (by omega), hN _ _ (by omega), h9, hI _ _ (by omega) (by omega) (by omega), hI _ _ (by omega) (by omega) (by omega)]
    exact g
  · rw [h151]; exact h.2.2 i hi
theorem GR_Rw {r A : Nat} {τ τ' : px_TT} (h : GR τ) (f : frRw r A τ τ') (hr : r < 10 ∨ 138 ≤ r) : GR τ' := GR_mx h (fun a k _ => f.2.2.1 a k) (fun a k h1 h2 _ => f.1 a k (Or.inl (by omega))) (f.2.2.2.2.2 9) (f.2.2.2.2.2 151)
section CRW
variable {F : Nat} {c : px_CT} {sk : Nat → Nat × Nat × Nat} {L : Nat} {r A n : Nat}
theorem rowOK_1 {τ : px_TT} {z : Nat} (h : rowOK sk L τ r A n) (hz : z ≤ n) : rowOK sk L (tI τ r 1 (nI z)) r A n := by
  obtain ⟨h1, h2, h3, h4, h5, ⟨b, h6⟩, h7⟩ := h
  exact ⟨h1, h2, h3, h4, ⟨z, hz, tI_at⟩, ⟨b, by rw [tI_ne (Or.inr (by decide))]; exact h6⟩, h7⟩
theorem rowOK_2 {τ : px_TT} {b : Bool} (h : rowOK sk L τ r A n) : rowOK sk L (tI τ r 2 (bI b)) r A n := by
  obtain ⟨h1, h2, h3, h4, ⟨z, hz, h5⟩, h6, h7⟩ := h
  exact ⟨h1, h2, h3, h4, ⟨z, hz, by rw [tI_ne (Or.inr (by decide))]; exact h5⟩, ⟨b, tI_at⟩, h7⟩
theorem rowOK_v {τ : px_TT} {g : Nat → Int32} (h : rowOK sk L τ r A n) (hg : ∀ k, isB (g k)) : rowOK sk L (vI τ A g) r A n := by
  obtain ⟨h1, h2, h3, h4, h5, h6, h7⟩ := h
  exact ⟨h1, h2, h3, h4, h5, h6, fun k => by rw [vI_at]; exact hg k⟩
theorem upd_B {g : Nat → Int32} {i : Nat} {v : Int32} (h : ∀ k, isB (g k)) (hv : isB v) (k : Nat) : isB (upd g i v k) := by
  by_cases e : k = i
  · rw [e, pk_us]; exact hv
  · rw [pk_un e]; exact h k
theorem k_clearS {τ : px_TT} (h : rowOK sk L τ r A n) : ∃ τ', f_Row_clear F c r (cH sk L τ) = some ((), cH sk L τ') ∧ rowOK sk L τ' r A n ∧ frRw r A τ τ' := by
  refine ⟨tI (tI τ r 1 (nI 0)) r 2 (bI false), ?_, rowOK_2 (rowOK_1 h (Nat.zero_le _)), frRw_trans frRw_1 frRw_2⟩
  unfold f_Row_clear
  rw [C10p1 h.1, bs, show (nI 0 : Int32) = bI false from rfl, C10z2 h.1, bs]
theorem k_put_3S {v : Int64} {k : Nat} (hk : k < 2 ^ 31) : ∀ (d j f : Nat) (τ : px_TT), j + d = k → d < f → rowOK sk L τ r A n → ∃ τ', f_Row_put_3 F c f r (nI k) v (nI j) (cH sk L τ) = some ((), cH sk L τ') ∧ rowOK sk L τ' r A n ∧ frRw r A τ τ' := by
  intro d
  induction d with
  | zero =>
    intro j f τ hj hf h
    obtain ⟨f, rfl⟩ : ∃ x, f = x + 1 := ⟨f - 1, by omega⟩
    refine ⟨τ, ?_, h, frRw_refl⟩
    unfold f_Row_put_3 f_Row_put_63
    rw [if_pos (nI_le (by omega) (by omega))]
  | succ d ih =>
    intro j f τ hj hf h
    obtain ⟨f, rfl⟩ : ∃ x, f = x + 1 := ⟨f - 1, by omega⟩
    obtain ⟨z, hz, ez⟩ := h.2.2.2.2.1
    have hn := h.2.2.1
    unfold f_Row_put_3 f_Row_put_57
    rw [if_neg (nI_ge (by omega) (by omega)), C10g1 h.1, bs, C10r0 h.1 h.2.2.2.1, bs, c_l h.2.1 (by decide), bs, ez, nI_add]
    by_cases c1 : n ≤ z
    · obtain ⟨τ', g1, g2, g3⟩ := ih (j + 1) f (tI τ r 2 (bI true)) (by omega) (by omega) (rowOK_2 h)
      refine ⟨τ', ?_, g2, frRw_trans frRw_2 g3⟩
      rw [if_pos (nI_le c1 (by omega)), show (nI 1 : Int32) = bI true from rfl, C10z2 h.1, bs]
      exact g1
    · have h1 := rowOK_v (g := upd (eI τ A) z (((((v.toUInt64 >>> (((nI 8) * (nI j)).toInt64.toUInt64 &&& Int64.toUInt64 63)).toInt64).toInt32).toInt8.toInt32).toInt8.toInt32)) h (upd_B h.2.2.2.2.2.2 (isB_8 _))
      have h2 := rowOK_1 (z := z + 1) h1 (by omega)
      obtain ⟨τ', g1, g2, g3⟩ := ih (j + 1) f _ (by omega) (by omega) h2
      refine ⟨τ', ?_, g2, frRw_trans (frRw_trans frRw_v frRw_1) g3⟩
      rw [if_neg (nI_ge (by omega) (by omega)), bs, bs, c_sI h.2.1 (Or.inl rfl) (by omega) (by omega), bs, C10g1 h.1, bs]
      show ((xpI _ 10 1 r (fI τ r 1 + nI 1)).bind _) = _
      rw [ez, nI_add, C10p1 h.1, bs]
      exact g1
theorem k_putS {τ : px_TT} {v : Int64} {k : Nat} (hF : k < F) (hk : k < 2 ^ 31) (h : rowOK sk L τ r A n) : ∃ τ', f_Row_put F c r (nI k) v (cH sk L τ) = some ((), cH sk L τ') ∧ rowOK sk L τ' r A n ∧ frRw r A τ τ' := k_put_3S hk k 0 F τ (Nat.zero_add _) hF h
theorem k_set_3S {v : Int64} {k : Nat} {p : Int32} (hk : k < 2 ^ 31) : ∀ (d j f : Nat) (τ : px_TT), j + d = k → d < f → rowOK sk L τ r A n → ∃ τ', f_Row_set_3 F c f r p (nI k) v (nI j) (cH sk L τ) = some ((), cH sk L τ') ∧ rowOK sk L τ' r A n ∧ frRw r A τ τ' := by
  intro d
  induction d with
  | zero =>
    intro j f τ hj hf h
    obtain ⟨f, rfl⟩ : ∃ x, f = x + 1 := ⟨f - 1, by omega⟩
    refine ⟨τ, ?_, h, frRw_refl⟩
    unfold f_Row_set_3 f_Row_set_51
    rw [if_pos (nI_le (by omega) (by omega))]
  | succ d ih =>
    intro j f τ hj hf h
    obtain ⟨f, rfl⟩ : ∃ x, f = x + 1 := ⟨f - 1, by omega⟩
    obtain ⟨z, hz, ez⟩ := h.2.2.2.2.1
    have hn := h.2.2.1
    unfold f_Row_set_3 f_Row_set_45
    rw [if_neg (nI_ge (by omega) (by omega)), nI_add]
    by_cases c0 : p + nI j < 0
    · rw [if_pos c0]; exact ih (j + 1) f τ (by omega) (by omega) h
    · rw [if_neg c0, C10g1 h.1, bs, ez]
      obtain ⟨i, hi, ei⟩ := nI_of c0
      rw [ei]
      by_cases c1 : z ≤ i
      · rw [if_pos (nI_le c1 hi)]; exact ih (j + 1) f τ (by omega) (by omega) h
      · have h1 := rowOK_v (g := upd (eI τ A) i (((((v.toUInt64 >>> (((nI 8) * (nI j)).toInt64.toUInt64 &&& Int64.toUInt64 63)).toInt64).toInt32).toInt8.toInt32).toInt8.toInt32)) h (upd_B h.2.2.2.2.2.2 (isB_8 _))
        obtain ⟨τ', g1, g2, g3⟩ := ih (j + 1) f _ (by omega) (by omega) h1
        refine ⟨τ', ?_, g2, frRw_trans frRw_v g3⟩
        rw [if_neg (nI_ge (by omega) (by omega)), C10r0 h.1 h.2.2.2.1, bs, c_sI h.2.1 (Or.inl rfl) (by omega) (by omega), bs]
        exact g1
theorem k_setS {τ : px_TT} {v : Int64} {k : Nat} {p : Int32} (hF : k < F) (hk : k < 2 ^ 31) (h : rowOK sk L τ r A n) : ∃ τ', f_Row_set F c r p (nI k) v (cH sk L τ) = some ((), cH sk L τ') ∧ rowOK sk L τ' r A n ∧ frRw r A τ τ' := k_set_3S hk k 0 F τ (Nat.zero_add _) hF h
theorem k_fill3_10S {w : Int32} {e : Nat} (he : e ≤ n) : ∀ (d j f : Nat) (τ : px_TT), j + d = e → d < f → rowOK sk L τ r A n → ∃ τ', f_Arrays_fill_3_10 F c f A (nI e) w (nI j) (cH sk L τ) = some ((), cH sk L τ') ∧ rowOK sk L τ' r A n ∧ frRw r A τ τ' := by
  intro d
  induction d with
  | zero =>
    intro j f τ hj hf h
    have hn := h.2.2.1
    obtain ⟨f, rfl⟩ : ∃ x, f = x + 1 := ⟨f - 1, by omega⟩
    refine ⟨τ, ?_, h, frRw_refl⟩
    unfold f_Arrays_fill_3_10 f_Arrays_fill_3_27
    rw [if_pos (nI_le (by omega) (by omega))]
  | succ d ih =>
    intro j f τ hj hf h
    have hn := h.2.2.1
    obtain ⟨f, rfl⟩ : ∃ x, f = x + 1 := ⟨f - 1, by omega⟩
    obtain ⟨τ', g1, g2, g3⟩ := ih (j + 1) f _ (by omega) (by omega) (rowOK_v (g := upd (eI τ A) j w.toInt8.toInt32) h (upd_B h.2.2.2.2.2.2 (isB_8 _)))
    refine ⟨τ', ?_, g2, frRw_trans frRw_v g3⟩
    unfold f_Arrays_fill_3_10
    rw [if_neg (nI_ge (by omega) (by omega)), c_sI h.2.1 (Or.inl rfl) (by omega) (by omega), bs, nI_add]
    exact g1
theorem k_fillTo_16S {τ : px_TT} {e : Nat} {w : Int32} (hF : 65536 < F) (he : e < 2 ^ 62) (h : rowOK sk L τ r A n) : ∃ τ', f_Row_fillTo_16 F c r (lN e) w (cH sk L τ) = some ((), cH sk L τ') ∧ rowOK sk L τ' r A n ∧ frRw r A τ τ' := by
  obtain ⟨z, hz, ez⟩ := h.2.2.2.2.1
  have hn := h.2.2.1
  obtain ⟨m, hm⟩ : ∃ m, m = (if (nI n).toInt64 < lN e then (nI n).toInt64 else lN e).toInt32 := ⟨_, rfl⟩
  have hmq : ∃ q, q ≤ n ∧ m = nI q := by
    rw [nI_l (by omega)] at hm
    by_cases c2 : lN n < lN e
    · rw [if_pos c2, lN_i] at hm
      exact ⟨n, Nat.le_refl _, hm⟩
    · rw [if_neg c2, lN_i] at hm
      exact ⟨e, Nat.le_of_not_lt (fun q => c2 ((pk_lLT (by omega) (by omega)).mpr q)), hm⟩
  obtain ⟨q, q1, q3⟩ := hmq
  unfold f_Row_fillTo_16 f_Row_fillTo_59
  rw [C10r0 h.1 h.2.2.2.1, bs, c_l h.2.1 (by decide), bs, C10g1 h.1, bs, ez, ← hm, q3]
  by_cases c1 : q ≤ z
  · exact ⟨τ, by rw [if_pos (nI_le c1 (by omega))], h, frRw_refl⟩
  · obtain ⟨τ1, g1, g2, g3⟩ := k_fill3_10S (F := F) (c := c) (w := w.toInt8.toInt32) q1 (q - z) z F τ (by omega) (by omega) h
    refine ⟨tI τ1 r 1 (nI q), ?_, rowOK_1 g2 q1, frRw_trans g3 frRw_1⟩
    rw [if_neg (nI_ge (by omega) (by omega)), bs, bs]
    unfold f_Arrays_fill_3 f_Arrays_rangeCheck
    rw [c_l h.2.1 (by decide), bs, if_pos (nI_le (by omega) (by omega)), if_pos (nI_0le (by omega)), if_pos (nI_le q1 (by omega)), xb_mk, g1, xb_mk, C10p1 h.1, bs]
theorem k_fillToS {τ : px_TT} {e : Nat} {w : Int32} (hF : 65536 < F) (he : e < 2 ^ 62) (h : rowOK sk L τ r A n) : ∃ τ', f_Row_fillTo F c r (lN e) w (cH sk L τ) = some ((), cH sk L τ') ∧ rowOK sk L τ' r A n ∧ frRw r A τ τ' := by
  unfold f_Row_fillTo
  rw [C10r0 h.1 h.2.2.2.1, bs, c_l h.2.1 (by decide), bs]
  by_cases c1 : lN e ≤ (nI n).toInt64
  · rw [if_pos c1]; exact k_fillTo_16S hF he h
  · obtain ⟨τ', g1, g2, g3⟩ := k_fillTo_16S (F := F) (c := c) (e := e) (w := w) hF he (rowOK_2 (b := true) h)
    refine ⟨τ', ?_, g2, frRw_trans frRw_2 g3⟩
    rw [if_neg c1, show (nI 1 : Int32) = bI true from rfl, C10z2 h.1, bs]
    exact g1
theorem k_putAll_2S {j m : Nat} {l : List Nat} (hj : j < pg_nc) (hkB : ki_B (c j).1 = true) (hkv : kv c j l) (hl : l.length = m) (hm : m < 2 ^ 30) (hF : 1 < F) : ∀ (d i f : Nat) (τ : px_TT), i + d = m → d < f → rowOK sk L τ r A n → ∃ τ', f_Row_putAll_2 F c f r j (nI i) (cH sk L τ) = some ((), cH sk L τ') ∧ rowOK sk L τ' r A n ∧ frRw r A τ τ' := by
  intro d
  induction d with
  | zero =>
    intro i f τ hi hf h
    obtain ⟨f, rfl⟩ : ∃ x, f = x + 1 := ⟨f - 1, by omega⟩
    refine ⟨τ, ?_, h, frRw_refl⟩
    unfold f_Row_putAll_2 f_Row_putAll_23
    rw [xkl_at hkv hj, bs, hl, if_pos (nI_le (by omega) (by omega))]
  | succ d ih =>
    intro i f τ hi hf h
    obtain ⟨f, rfl⟩ : ∃ x, f = x + 1 := ⟨f - 1, by omega⟩
    obtain ⟨τ1, a1, a2, a3⟩ := k_putS (F := F) (c := c) (v := (nI (l.getD i 0)).toInt64) (k := 1) hF (by decide) h
    obtain ⟨τ', g1, g2, g3⟩ := ih (i + 1) f τ1 (by omega) (by omega) a2
    refine ⟨τ', ?_, g2, frRw_trans a3 g3⟩
    unfold f_Row_putAll_2
    rw [xkl_at hkv hj, bs, hl, if_neg (nI_ge (by omega) (by omega)), xkB_at hkv hj hkB (by omega) (by omega), bs, c_o h.1, bs, a1, xb_mk, nI_add]
    exact g1
end CRW
end
section
/-! the class's rows: copies, names, digits -/
theorem subI31 {z p : Nat} (hz : z < 2 ^ 30) (hp : p < 2 ^ 31) : (nI z - nI p).toInt = (z : Int) - (p : Int) := by
  rw [Int32.toInt_sub, nI_toInt (by omega), nI_toInt hp]
  exact Int.bmod_eq_of_le (by omega) (by omega)
theorem sub_le31 {z p m : Nat} (hz : z < 2 ^ 30) (hp : p < 2 ^ 31) (hm : m < 2 ^ 31) : (nI m ≤ nI z - nI p) ↔ p + m ≤ z := by
  rw [Int32.le_iff_toInt_le, subI31 hz hp, nI_toInt hm]
  omega
theorem sub_lt31 {z p m : Nat} (hz : z < 2 ^ 30) (hp : p < 2 ^ 31) (hm : m < 2 ^ 31) : (nI z - nI p < nI m) ↔ ¬ p + m ≤ z := by
  rw [Int32.lt_iff_toInt_lt, subI31 hz hp, nI_toInt hm]
  omega
theorem cpy_B {f g : Nat → Int32} {sp dp n : Nat} (hf : ∀ k, isB (f k)) (hg : ∀ k, isB (g k)) (k : Nat) : isB (va_cpy f g sp dp n k) := by
  unfold va_cpy
  split
  · exact hf _
  · exact hg _
section CRX
variable {F : Nat} {c : px_CT} {sk : Nat → Nat × Nat × Nat} {L : Nat} {r A n : Nat}
theorem c_cpy {τ : px_TT} {S N sp dp m : Nat} (hA : ar sk L 0 n A) (hS : ar sk L 0 N S) (hB : ∀ k, isB (eI τ S k)) (h1 : sp < 2 ^ 31) (h2 : dp < 2 ^ 31) (h3 : m < 2 ^ 31) (h4 : sp + m ≤ N) (h5 : dp + m ≤ n) : xcpy (cH sk L τ) S (nI sp) A (nI dp) (nI m) = some (cH sk L (vI τ A (va_cpy (eI τ S) (eI τ A) sp dp m))) := by
  unfold xcpy
  rw [c_A hS (Or.inl rfl), bs, c_A hA (Or.inl rfl), bs, nI_clamp h1, nI_clamp h2, nI_clamp h3, if_pos ⟨⟨nI_pos h1, nI_pos h2, nI_pos h3⟩, h4, h5, xfit_B hB sp m⟩]
  congr 1
  refine cH_set _ ?_ ?_
  · unfold cell
    rw [hA.1, vI_at]
    rfl
  · intro x hx
    exact cell_eq (fun _ => rfl) (fun _ => rfl) (fun _ => rfl) (u1_ne hx) rfl rfl
theorem k_coverS {τ : px_TT} {S N : Nat} {p q m : Int32} (hS : ar sk L 0 N S) (hN : N ≤ 65536) (hB : ∀ k, isB (eI τ S k)) (h : rowOK sk L τ r A n) : ∃ τ', f_Row_cover F c r p S q m (cH sk L τ) = some ((), cH sk L τ') ∧ rowOK sk L τ' r A n ∧ frRw r A τ τ' := by
  obtain ⟨z, hz, ez⟩ := h.2.2.2.2.1
  have hn := h.2.2.1
  unfold f_Row_cover f_Row_cover_33
  by_cases c1 : p < 0
  · exact ⟨τ, by rw [if_pos c1], h, frRw_refl⟩
  · rw [if_neg c1]
    by_cases c2 : q < 0
    · exact ⟨τ, by rw [if_pos c2], h, frRw_refl⟩
    · rw [if_neg c2]
      by_cases c3 : m < 0
      · exact ⟨τ, by rw [if_pos c3], h, frRw_refl⟩
      · obtain ⟨p', hp, ep⟩ := nI_of c1
        obtain ⟨q', hq, eq⟩ := nI_of c2
        obtain ⟨m', hm, em⟩ := nI_of c3
        rw [if_neg c3, C10g1 h.1, bs, ez, c_l hS (by decide), ep, eq, em]
        by_cases c4 : p' + m' ≤ z
        · rw [if_neg (fun w => (sub_lt31 (by omega) hp hm).mp w c4), bs]
          by_cases c5 : q' + m' ≤ N
          · refine ⟨vI τ A (va_cpy (eI τ S) (eI τ A) q' p' m'), ?_, rowOK_v h (cpy_B hB h.2.2.2.2.2.2), frRw_v⟩
            rw [if_pos ((sub_le31 (by omega) hq hm).mpr c5), C10r0 h.1 h.2.2.2.1, bs, c_cpy h.2.1 hS hB hq hp hm c5 (by omega), bs]
          · exact ⟨τ, by rw [if_neg (fun w => c5 ((sub_le31 (by omega) hq hm).mp w))], h, frRw_refl⟩
        · exact ⟨τ, by rw [if_pos ((sub_lt31 (by omega) hp hm).mpr c4)], h, frRw_refl⟩
theorem k_copyS {τ : px_TT} {S N : Nat} {q m : Int32} (hS : ar sk L 0 N S) (hN : N ≤ 65536) (hB : ∀ k, isB (eI τ S k)) (h : rowOK sk L τ r A n) : ∃ τ', f_Row_copy F c r S q m (cH sk L τ) = some ((), cH sk L τ') ∧ rowOK sk L τ' r A n ∧ frRw r A τ τ' := by
  obtain ⟨z, hz, ez⟩ := h.2.2.2.2.1
  have hn := h.2.2.1
  unfold f_Row_copy f_Row_copy_16
  by_cases c2 : q < 0
  · exact ⟨τ, by rw [if_pos c2], h, frRw_refl⟩
  · rw [if_neg c2]
    by_cases c3 : m < 0
    · exact ⟨τ, by rw [if_pos c3], h, frRw_refl⟩
    · obtain ⟨q', hq, eq⟩ := nI_of c2
      obtain ⟨m', hm, em⟩ := nI_of c3
      rw [if_neg c3, c_l hS (by decide), bs, eq, em]
      by_cases c5 : q' + m' ≤ N
      · rw [if_pos ((sub_le31 (by omega) hq hm).mpr c5), C10r0 h.1 h.2.2.2.1, bs, c_l h.2.1 (by decide), bs, C10g1 h.1, bs, ez]
        by_cases c6 : z + m' ≤ n
        · refine ⟨tI (vI τ A (va_cpy (eI τ S) (eI τ A) q' z m')) r 1 (nI (z + m')), ?_, rowOK_1 (rowOK_v h (cpy_B hB h.2.2.2.2.2.2)) c6, frRw_trans frRw_v frRw_1⟩
          rw [if_pos ((sub_le31 (by omega) (by omega) hm).mpr c6), bs, bs, c_cpy h.2.1 hS hB hq (by omega) hm c5 c6, bs, C10g1 h.1, bs]
          show ((xpI _ 10 1 r (fI τ r 1 + nI m')).bind _) = _
          rw [ez, nI_add, C10p1 h.1, bs]
        · refine ⟨tI τ r 2 (bI true), ?_, rowOK_2 h, frRw_2⟩
          rw [if_neg (fun w => c6 ((sub_le31 (by omega) (by omega) hm).mp w)), show (nI 1 : Int32) = bI true from rfl, C10z2 h.1, bs]
      · exact ⟨τ, by rw [if_neg (fun w => c5 ((sub_le31 (by omega) hq hm).mp w))], h, frRw_refl⟩
theorem k_writeTo_2S {p : Nat} (hF : 1 < F) (hp : ob sk L 5 p) : ∀ (d j f : Nat) (τ : px_TT), j + d = 24 → d < f → rowOK sk L τ r A n → ∃ τ', f_Name_writeTo_2 F c f p r (nI j) (cH sk L τ) = some ((), cH sk L τ') ∧ rowOK sk L τ' r A n ∧ frRw r A τ τ' := by
  intro d
  induction d with
  | zero =>
    intro j f τ hj hf h
    obtain ⟨f, rfl⟩ : ∃ x, f = x + 1 := ⟨f - 1, by omega⟩
    refine ⟨τ, ?_, h, frRw_refl⟩
    unfold f_Name_writeTo_2 f_Name_writeTo_67
    rw [C5g3 hp, bs]
    split
    · rfl
    · rw [if_pos (nI_le (by omega) (by omega))]
  | succ d ih =>
    intro j f τ hj hf h
    obtain ⟨f, rfl⟩ : ∃ x, f = x + 1 := ⟨f - 1, by omega⟩
    have step : ∀ w : Int64, ∃ τ', f_Name_writeTo_46 F c (f_Name_writeTo_2 F c f) p r (nI j) w (cH sk L τ) = some ((), cH sk L τ') ∧ rowOK sk L τ' r A n ∧ frRw r A τ τ' := fun w => by
      obtain ⟨τ1, a1, a2, a3⟩ := k_putS (F := F) (c := c) (v := ((w.toUInt64 >>> (((nI 8) * ((nI j) &&& (nI 7))).toInt64.toUInt64 &&& Int64.toUInt64 63)).toInt64)) (k := 1) hF (by decide) h
      obtain ⟨τ2, b1, b2, b3⟩ := ih (j + 1) f τ1 (by omega) (by omega) a2
      refine ⟨τ2, ?_, b2, frRw_trans a3 b3⟩
      unfold f_Name_writeTo_46
      rw [c_o h.1, bs, a1, xb_mk, nI_add]
      exact b1
    unfold f_Name_writeTo_2 f_Name_writeTo_67
    rw [C5g3 hp, bs, if_neg (nI_ge (show j < 24 by omega) (by decide)), C5g0 hp, C5g1 hp, C5g2 hp, bs, bs, bs]
    split
    · exact ⟨τ, rfl, h, frRw_refl⟩
    · split
      · split
        · exact step _
        · exact step _
      · exact step _
theorem k_writeToS {τ : px_TT} {p : Nat} (hF : 24 < F) (hp : ob sk L 5 p) (h : rowOK sk L τ r A n) : ∃ τ', f_Name_writeTo F c p r (cH sk L τ) = some ((), cH sk L τ') ∧ rowOK sk L τ' r A n ∧ frRw r A τ τ' := k_writeTo_2S (by omega) hp 24 0 F τ rfl (by omega) h
theorem k_putHex_3S {v : Int64} (hF : 1 < F) : ∀ (d f : Nat) (τ : px_TT), d ≤ 16 → d < f → rowOK sk L τ r A n → ∃ τ', f_Row_putHex_3 F c f r v (nI (4 * d) - nI 4) (cH sk L τ) = some ((), cH sk L τ') ∧ rowOK sk L τ' r A n ∧ frRw r A τ τ' := by
  intro d
  induction d with
  | zero =>
    intro f τ hd hf h
    obtain ⟨f, rfl⟩ : ∃ x, f = x + 1 := ⟨f - 1, by omega⟩
    refine ⟨τ, ?_, h, frRw_refl⟩
    unfold f_Row_putHex_3 f_Row_putHex_52
    rw [if_pos (by decide)]
  | succ d ih =>
    intro f τ hd hf h
    obtain ⟨f, rfl⟩ : ∃ x, f = x + 1 := ⟨f - 1, by omega⟩
    have e4 : nI (4 * (d + 1)) - nI 4 = nI (4 * d) := by rw [pk_sub (by omega), show 4 * (d + 1) - 4 = 4 * d by omega]
    have em : nI (4 * d) + Int32.ofInt (-4) = nI (4 * d) - nI 4 := by rw [Int32.sub_eq_add_neg]; rfl
    have step : ∀ w : Int64, ∃ τ', f_Row_putHex_43 F c (f_Row_putHex_3 F c f) r v (nI (4 * d)) r (nI 1) w (cH sk L τ) = some ((), cH sk L τ') ∧ rowOK sk L τ' r A n ∧ frRw r A τ τ' := fun w => by
      obtain ⟨τ1, a1, a2, a3⟩ := k_putS (F := F) (c := c) (v := w) (k := 1) hF (by decide) h
      obtain ⟨τ2, b1, b2, b3⟩ := ih f τ1 (by omega) (by omega) a2
      refine ⟨τ2, ?_, b2, frRw_trans a3 b3⟩
      unfold f_Row_putHex_43
      rw [c_o h.1, bs, a1, xb_mk, em]
      exact b1
    rw [e4]
    unfold f_Row_putHex_3 f_Row_putHex_52
    rw [if_neg (show ¬ nI (4 * d) < 0 from nI_pos (by omega))]
    split
    · exact step _
    · exact step _
theorem k_putHexS {τ : px_TT} {v : Int64} (hF : 16 < F) (h : rowOK sk L τ r A n) : ∃ τ', f_Row_putHex F c r v (cH sk L τ) = some ((), cH sk L τ') ∧ rowOK sk L τ' r A n ∧ frRw r A τ τ' := k_putHex_3S (by omega) 16 F τ (Nat.le_refl _) (by omega) h
theorem k_putDec_3S {v : Int32} (hF : 1 < F) : ∀ (d f : Nat) (τ : px_TT), d ≤ 9 → d + 1 < f → rowOK sk L τ r A n → ∃ τ', f_Row_putDecimal_3 F c f r v (nI (10 ^ d)) (cH sk L τ) = some ((), cH sk L τ') ∧ rowOK sk L τ' r A n ∧ frRw r A τ τ' := by
  intro d
  induction d with
  | zero =>
    intro f τ hd hf h
    obtain ⟨f, rfl⟩ : ∃ x, f = x + 2 := ⟨f - 2, by omega⟩
    have e0 : ∀ τ1, f_Row_putDecimal_32 F c (f_Row_putDecimal_3 F c (f + 1)) r v (nI (10 ^ 0)) (cH sk L τ1) = some ((), cH sk L τ1) := fun τ1 => by
      unfold f_Row_putDecimal_32 f_Row_putDecimal_3 f_Row_putDecimal_40
      rw [if_pos (by decide)]
    obtain ⟨τ1, a1, a2, a3⟩ := k_putS (F := F) (c := c) (v := (((nI 48) + ((v / (nI (10 ^ 0))) - (v / (nI (10 ^ 0))) / (nI 10) * (nI 10))).toInt64)) (k := 1) hF (by decide) h
    have e17 : f_Row_putDecimal_17 F c (f_Row_putDecimal_3 F c (f + 1)) r v (nI (10 ^ 0)) (cH sk L τ) = some ((), cH sk L τ1) := by
      unfold f_Row_putDecimal_17
      rw [show xnzI (nI (10 ^ 0)) = some () from rfl, bs, c_o h.1, bs, a1, xb_mk, e0]
    refine ⟨τ1, ?_, a2, a3⟩
    unfold f_Row_putDecimal_3
    rw [if_neg (by decide), e17, if_pos (show nI (10 ^ 0) = nI 1 from rfl)]
    split
    · rfl
    · rfl
  | succ d ih =>
    intro f τ hd hf h
    obtain ⟨f, rfl⟩ : ∃ x, f = x + 1 := ⟨f - 1, by omega⟩
    have hp : 10 ^ (d + 1) ≤ 10 ^ 9 := Nat.pow_le_pow_right (by decide) hd
    have hpos : 0 < 10 ^ (d + 1) := Nat.pow_pos (by decide)
    have ed : nI (10 ^ (d + 1)) / nI 10 = nI (10 ^ d) := by rw [pk_div (by omega) (by decide) (by decide), Nat.pow_succ, Nat.mul_div_cancel _ (by decide)]
    have e32 : ∀ τ1, rowOK sk L τ1 r A n → ∃ τ', f_Row_putDecimal_32 F c (f_Row_putDecimal_3 F c f) r v (nI (10 ^ (d + 1))) (cH sk L τ1) = some ((), cH sk L τ') ∧ rowOK sk L τ' r A n ∧ frRw r A τ1 τ' := fun τ1 h1 => by
      unfold f_Row_putDecimal_32
      rw [ed]
      exact ih f τ1 (by omega) (by omega) h1
    have e17 : ∃ τ', f_Row_putDecimal_17 F c (f_Row_putDecimal_3 F c f) r v (nI (10 ^ (d + 1))) (cH sk L τ) = some ((), cH sk L τ') ∧ rowOK sk L τ' r A n ∧ frRw r A τ τ' := by
      obtain ⟨τ1, a1, a2, a3⟩ := k_putS (F := F) (c := c) (v := (((nI 48) + ((v / (nI (10 ^ (d + 1)))) - (v / (nI (10 ^ (d + 1)))) / (nI 10) * (nI 10))).toInt64)) (k := 1) hF (by decide) h
      obtain ⟨τ2, b1, b2, b3⟩ := e32 τ1 a2
      refine ⟨τ2, ?_, b2, frRw_trans a3 b3⟩
      unfold f_Row_putDecimal_17
      have e0 : xnzI (nI (10 ^ (d + 1))) = some () := by
        unfold xnzI
        rw [if_neg (fun q => by have := (nI_eq (by omega) (by decide)).mp (show nI (10 ^ (d + 1)) = nI 0 from q); omega)]
      rw [e0, bs, c_o h.1, bs, a1, xb_mk]
      exact b1
    unfold f_Row_putDecimal_3
    rw [if_neg (show ¬ nI (10 ^ (d + 1)) ≤ 0 from nI_ge (a := 0) hpos (by omega))]
    split
    · exact e17
    · split
      · exact e17
      · exact e32 τ h
theorem k_putDecS {τ : px_TT} {v : Int32} (hF : 16 < F) (h : rowOK sk L τ r A n) : ∃ τ', f_Row_putDecimal F c r v (cH sk L τ) = some ((), cH sk L τ') ∧ rowOK sk L τ' r A n ∧ frRw r A τ τ' := k_putDec_3S (by omega) 9 F τ (Nat.le_refl _) (by omega) h
theorem k_putHigh_3S {v : Int32} (hF : 1 < F) : ∀ (d f : Nat) (τ : px_TT), d ≤ 4 → d < f → rowOK sk L τ r A n → ∃ τ', f_Row_putHighestFirst_3 F c f r v (nI (8 * d) - nI 8) (cH sk L τ) = some ((), cH sk L τ') ∧ rowOK sk L τ' r A n ∧ frRw r A τ τ' := by
  intro d
  induction d with
  | zero =>
    intro f τ hd hf h
    obtain ⟨f, rfl⟩ : ∃ x, f = x + 1 := ⟨f - 1, by omega⟩
    refine ⟨τ, ?_, h, frRw_refl⟩
    unfold f_Row_putHighestFirst_3 f_Row_putHighestFirst_22
    rw [if_pos (by decide)]
  | succ d ih =>
    intro f τ hd hf h
    obtain ⟨f, rfl⟩ : ∃ x, f = x + 1 := ⟨f - 1, by omega⟩
    have e4 : nI (8 * (d + 1)) - nI 8 = nI (8 * d) := by rw [pk_sub (by omega), show 8 * (d + 1) - 8 = 8 * d by omega]
    have em : nI (8 * d) + Int32.ofInt (-8) = nI (8 * d) - nI 8 := by rw [Int32.sub_eq_add_neg]; rfl
    rw [e4]
    obtain ⟨τ1, a1, a2, a3⟩ := k_putS (F := F) (c := c) (v := (((v.toUInt32 >>> ((nI (8 * d)).toUInt32 &&& Int32.toUInt32 31)).toInt32).toInt64)) (k := 1) hF (by decide) h
    obtain ⟨τ2, b1, b2, b3⟩ := ih f τ1 (by omega) (by omega) a2
    refine ⟨τ2, ?_, b2, frRw_trans a3 b3⟩
    unfold f_Row_putHighestFirst_3 f_Row_putHighestFirst_22
    rw [if_neg (show ¬ nI (8 * d) < 0 from nI_pos (by omega)), c_o h.1, bs, a1, xb_mk, em]
    exact b1
theorem k_putHighS {τ : px_TT} {v : Int32} (hF : 16 < F) (h : rowOK sk L τ r A n) : ∃ τ', f_Row_putHighestFirst F c r v (cH sk L τ) = some ((), cH sk L τ') ∧ rowOK sk L τ' r A n ∧ frRw r A τ τ' := k_putHigh_3S (by omega) 4 F τ (Nat.le_refl _) (by omega) h
end CRX
end
section
/-! the class's rows, with what stands in them -/
abbrev px_FW : Type := Nat × (Nat → Int32)
def iN (x : Int32) : Nat := x.toInt.toNat
theorem iN_n {i : Nat} (h : i < 2 ^ 31) : iN (nI i) = i := by
  unfold iN
  rw [nI_toInt h]
  exact Int.toNat_natCast i
/-- byte j of a long, as it is written -/
def bV (v : Int64) (j : Nat) : Int32 := (((((v.toUInt64 >>> (((nI 8) * (nI j)).toInt64.toUInt64 &&& Int64.toUInt64 63)).toInt64).toInt32).toInt8.toInt32).toInt8.toInt32)
def wP1 (n : Nat) (b : Int32) (w : px_FW) : px_FW := if n ≤ w.1 then w else (w.1 + 1, upd w.2 w.1 b)
def wPut (n k : Nat) (v : Int64) (w : px_FW) : px_FW := itr (fun j => wP1 n (bV v j)) 0 k w
def wS1 (p b : Int32) (w : px_FW) : px_FW := if p < 0 then w else if w.1 ≤ iN p then w else (w.1, upd w.2 (iN p) b)
def wSet (p : Int32) (k : Nat) (v : Int64) (w : px_FW) : px_FW := itr (fun j => wS1 (p + nI j) (bV v j)) 0 k w
def wCov (S : Nat → Int32) (N : Nat) (p q m : Int32) (w : px_FW) : px_FW := if p < 0 then w else if q < 0 then w else if m < 0 then w else if iN p + iN m ≤ w.1 ∧ iN q + iN m ≤ N then (w.1, va_cpy S w.2 (iN q) (iN p) (iN m)) else w
def wFil (e : Nat) (b : Int32) (w : px_FW) : px_FW := if e ≤ w.1 then w else (e, fun i => if i < w.1 then w.2 i else b)
/-- a row's size and its bytes -/
def fW (r A n : Nat) (τ : px_TT) (w : px_FW) : Prop := w.1 ≤ n ∧ fI τ r 1 = nI w.1 ∧ ∀ i, i < w.1 → eI τ A i = w.2 i
section CRC
variable {F : Nat} {c : px_CT} {sk : Nat → Nat × Nat × Nat} {L : Nat} {r A n : Nat}
theorem fW_z {τ : px_TT} {w : px_FW} {z : Nat} (hw : fW r A n τ w) (hn : n ≤ 65536) (hz : z ≤ n) (ez : fI τ r 1 = nI z) : w.1 = z := (nI_eq (by have := hw.1; omega) (by omega)).mp (hw.2.1.symm.trans ez)
theorem fW_2 {τ : px_TT} {w : px_FW} {v : Int32} (h : fW r A n τ w) : fW r A n (tI τ r 2 v) w := ⟨h.1, (tI_ne (Or.inr (by decide))).trans h.2.1, h.2.2⟩
theorem fW_put {τ : px_TT} {w : px_FW} {z : Nat} {b : Int32} (h : fW r A n τ w) (e : w.1 = z) (hz : z < n) : fW r A n (tI (vI τ A (upd (eI τ A) z b)) r 1 (nI (z + 1))) (wP1 n b w) := by
  subst e
  unfold wP1
  rw [if_neg (by omega)]
  refine ⟨by show w.1 + 1 ≤ n; omega, tI_at, fun i hi => ?_⟩
  have hi' : i < w.1 + 1 := hi
  show eI (vI τ A (upd (eI τ A) w.1 b)) A i = upd w.2 w.1 b i
  rw [vI_at]
  by_cases e : i = w.1
  · rw [e, pk_us, pk_us]
  · rw [pk_un e, pk_un e]
    exact h.2.2 i (by omega)
theorem fW_set {τ : px_TT} {w : px_FW} {i : Nat} {b : Int32} (h : fW r A n τ w) : fW r A n (vI τ A (upd (eI τ A) i b)) (w.1, upd w.2 i b) := by
  refine ⟨h.1, h.2.1, fun k hk => ?_⟩
  show eI (vI τ A (upd (eI τ A) i b)) A k = upd w.2 i b k
  rw [vI_at]
  by_cases e : k = i
  · rw [e, pk_us, pk_us]
  · rw [pk_un e, pk_un e]
    exact h.2.2 k hk
theorem k_clearC {τ : px_TT} (h : rowOK sk L τ r A n) : ∃ τ', f_Row_clear F c r (cH sk L τ) = some ((), cH sk L τ') ∧ rowOK sk L τ' r A n ∧ frRw r A τ τ' ∧ ∀ g, fW r A n τ' (0, g) := by
  refine ⟨tI (tI τ r 1 (nI 0)) r 2 (bI false), ?_, rowOK_2 (rowOK_1 h (Nat.zero_le _)), frRw_trans frRw_1 frRw_2, fun g => ⟨Nat.zero_le _, (tI_ne (Or.inr (by decide))).trans tI_at, fun i hi => absurd hi (Nat.not_lt_zero _)⟩⟩
  unfold f_Row_clear
  rw [C10p1 h.1, bs, show (nI 0 : Int32) = bI false from rfl, C10z2 h.1, bs]
theorem k_put_3C {v : Int64} {k : Nat} (hk : k < 2 ^ 31) : ∀ (d j f : Nat) (τ : px_TT), j + d = k → d < f → rowOK sk L τ r A n → ∃ τ', f_Row_put_3 F c f r (nI k) v (nI j) (cH sk L τ) = some ((), cH sk L τ') ∧ rowOK sk L τ' r A n ∧ frRw r A τ τ' ∧ ∀ w, fW r A n τ w → fW r A n τ' (itr (fun j => wP1 n (bV v j)) j d w) := by
  intro d
  induction d with
  | zero =>
    intro j f τ hj hf h
    obtain ⟨f, rfl⟩ : ∃ x, f = x + 1 := ⟨f - 1, by omega⟩
    refine ⟨τ, ?_, h, frRw_refl, fun w hw => hw⟩
    unfold f_Row_put_3 f_Row_put_63
    rw [if_pos (nI_le (by omega) (by omega))]
  | succ d ih =>
    intro j f τ hj hf h
    obtain ⟨f, rfl⟩ : ∃ x, f = x + 1 := ⟨f - 1, by omega⟩
    obtain ⟨z, hz, ez⟩ := h.2.2.2.2.1
    have hn := h.2.2.1
    unfold f_Row_put_3 f_Row_put_57
    rw [if_neg (nI_ge (by omega) (by omega)), C10g1 h.1, bs, C10r0 h.1 h.2.2.2.1, bs, c_l h.2.1 (by decide), bs, ez, nI_add]
    by_cases c1 : n ≤ z
    · obtain ⟨τ', g1, g2, g3, g4⟩ := ih (j + 1) f (tI τ r 2 (bI true)) (by omega) (by omega) (rowOK_2 h)
      refine ⟨τ', ?_, g2, frRw_trans frRw_2 g3, fun w hw => ?_⟩
      · rw [if_pos (nI_le c1 (by omega)), show (nI 1 : Int32) = bI true from rfl, C10z2 h.1, bs]
        exact g1
      · have e := fW_z hw hn hz ez
        have e1 : wP1 n (bV v j) w = w := by unfold wP1; rw [if_pos (by omega)]
        show fW r A n τ' (itr (fun j => wP1 n (bV v j)) (j + 1) d (wP1 n (bV v j) w))
        rw [e1]
        exact g4 w (fW_2 hw)
    · have h1 := rowOK_v (g := upd (eI τ A) z (bV v j)) h (upd_B h.2.2.2.2.2.2 (isB_8 _))
      have h2 := rowOK_1 (z := z + 1) h1 (by omega)
      obtain ⟨τ', g1, g2, g3, g4⟩ := ih (j + 1) f _ (by omega) (by omega) h2
      refine ⟨τ', ?_, g2, frRw_trans (frRw_trans frRw_v frRw_1) g3, fun w hw => g4 _ (fW_put hw (fW_z hw hn hz ez) (by omega))⟩
      rw [if_neg (nI_ge (by omega) (by omega)), bs, bs, c_sI h.2.1 (Or.inl rfl) (by omega) (by omega), bs, C10g1 h.1, bs]
      show ((xpI _ 10 1 r (fI τ r 1 + nI 1)).bind _) = _
      rw [ez, nI_add, C10p1 h.1, bs]
      exact g1
theorem k_putC {τ : px_TT} {v : Int64} {k : Nat} (hF : k < F) (hk : k < 2 ^ 31) (h : rowOK sk L τ r A n) : ∃ τ', f_Row_put F c r (nI k) v (cH sk L τ) = some ((), cH sk L τ') ∧ rowOK sk L τ' r A n ∧ frRw r A τ τ' ∧ ∀ w, fW r A n τ w → fW r A n τ' (wPut n k v w) := k_put_3C hk k 0 F τ (Nat.zero_add _) hF h
theorem k_set_3C {v : Int64} {k : Nat} {p : Int32} (hk : k < 2 ^ 31) : ∀ (d j f : Nat) (τ : px_TT), j + d = k → d < f → rowOK sk L τ r A n → ∃ τ', f_Row_set_3 F c f r p (nI k) v (nI j) (cH sk L τ) = some ((), cH sk L τ') ∧ rowOK sk L τ' r A n ∧ frRw r A τ τ' ∧ ∀ w, fW r A n τ w → fW r A n τ' (itr (fun j => wS1 (p + nI j) (bV v j)) j d w) := by
  intro d
  induction d with
  | zero =>
    intro j f τ hj hf h
    obtain ⟨f, rfl⟩ : ∃ x, f = x + 1 := ⟨f - 1, by omega⟩
    refine ⟨τ, ?_, h, frRw_refl, fun w hw => hw⟩
    unfold f_Row_set_3 f_Row_set_51
    rw [if_pos (nI_le (by omega) (by omega))]
  | succ d ih =>
    intro j f τ hj hf h
    obtain ⟨f, rfl⟩ : ∃ x, f = x + 1 := ⟨f - 1, by omega⟩
    obtain ⟨z, hz, ez⟩ := h.2.2.2.2.1
    have hn := h.2.2.1
    unfold f_Row_set_3 f_Row_set_45
    rw [if_neg (nI_ge (by omega) (by omega)), nI_add]
    by_cases c0 : p + nI j < 0
    · obtain ⟨τ', g1, g2, g3, g4⟩ := ih (j + 1) f τ (by omega) (by omega) h
      refine ⟨τ', ?_, g2, g3, fun w hw => ?_⟩
      · rw [if_pos c0]; exact g1
      · have e1 : wS1 (p + nI j) (bV v j) w = w := by unfold wS1; rw [if_pos c0]
        show fW r A n τ' (itr (fun j => wS1 (p + nI j) (bV v j)) (j + 1) d (wS1 (p + nI j) (bV v j) w))
        rw [e1]
        exact g4 w hw
    · rw [if_neg c0, C10g1 h.1, bs, ez]
      obtain ⟨i, hi, ei⟩ := nI_of c0
      have eN : iN (p + nI j) = i := by rw [ei]; exact iN_n hi
      by_cases c1 : z ≤ i
      · obtain ⟨τ', g1, g2, g3, g4⟩ := ih (j + 1) f τ (by omega) (by omega) h
        refine ⟨τ', ?_, g2, g3, fun w hw => ?_⟩
        · rw [ei, if_pos (nI_le c1 hi)]; exact g1
        · have e := fW_z hw hn hz ez
          have e1 : wS1 (p + nI j) (bV v j) w = w := by unfold wS1; rw [if_neg c0, if_pos (by rw [eN]; omega)]
          show fW r A n τ' (itr (fun j => wS1 (p + nI j) (bV v j)) (j + 1) d (wS1 (p + nI j) (bV v j) w))
          rw [e1]
          exact g4 w hw
      · have h1 := rowOK_v (g := upd (eI τ A) i (bV v j)) h (upd_B h.2.2.2.2.2.2 (isB_8 _))
        obtain ⟨τ', g1, g2, g3, g4⟩ := ih (j + 1) f _ (by omega) (by omega) h1
        refine ⟨τ', ?_, g2, frRw_trans frRw_v g3, fun w hw => ?_⟩
        · rw [ei, if_neg (nI_ge (by omega) (by omega)), C10r0 h.1 h.2.2.2.1, bs, c_sI h.2.1 (Or.inl rfl) (by omega) (by omega), bs]
          exact g1
        · have e := fW_z hw hn hz ez
          have e1 : wS1 (p + nI j) (bV v j) w = (w.1, upd w.2 i (bV v j)) := by unfold wS1; rw [if_neg c0, eN, if_neg (by omega)]
          show fW r A n τ' (itr (fun j => wS1 (p + nI j) (bV v j)) (j + 1) d (wS1 (p + nI j) (bV v j) w))
          rw [e1]
          exact g4 _ (fW_set hw)
theorem k_setC {τ : px_TT} {v : Int64} {k : Nat} {p : Int32} (hF : k < F) (hk : k < 2 ^ 31) (h : rowOK sk L τ r A n) : ∃ τ', f_Row_set F c r p (nI k) v (cH sk L τ) = some ((), cH sk L τ') ∧ rowOK sk L τ' r A n ∧ frRw r A τ τ' ∧ ∀ w, fW r A n τ w → fW r A n τ' (wSet p k v w) := k_set_3C hk k 0 F τ (Nat.zero_add _) hF h
theorem k_fill3_10C {w : Int32} {e : Nat} (he : e ≤ n) : ∀ (d j f : Nat) (τ : px_TT), j + d = e → d < f → rowOK sk L τ r A n → ∃ τ', f_Arrays_fill_3_10 F c f A (nI e) w (nI j) (cH sk L τ) = some ((), cH sk L τ') ∧ rowOK sk L τ' r A n ∧ frRw r A τ τ' ∧ (∀ a k, fI τ' a k = fI τ a k) ∧ ∀ i, eI τ' A i = if j ≤ i ∧ i < e then w.toInt8.toInt32 else eI τ A i := by
  intro d
  induction d with
  | zero =>
    intro j f τ hj hf h
    have hn := h.2.2.1
    obtain ⟨f, rfl⟩ : ∃ x, f = x + 1 := ⟨f - 1, by omega⟩
    refine ⟨τ, ?_, h, frRw_refl, fun _ _ => rfl, fun i => by rw [if_neg (by omega)]⟩
    unfold f_Arrays_fill_3_10 f_Arrays_fill_3_27
    rw [if_pos (nI_le (by omega) (by omega))]
  | succ d ih =>
    intro j f τ hj hf h
    have hn := h.2.2.1
    obtain ⟨f, rfl⟩ : ∃ x, f = x + 1 := ⟨f - 1, by omega⟩
    obtain ⟨τ', g1, g2, g3, g4, g5⟩ := ih (j + 1) f _ (by omega) (by omega) (rowOK_v (g := upd (eI τ A) j w.toInt8.toInt32) h (upd_B h.2.2.2.2.2.2 (isB_8 _)))
    refine ⟨τ', ?_, g2, frRw_trans frRw_v g3, fun a k => g4 a k, fun i => ?_⟩
    · unfold f_Arrays_fill_3_10
      rw [if_neg (nI_ge (by omega) (by omega)), c_sI h.2.1 (Or.inl rfl) (by omega) (by omega), bs, nI_add]
      exact g1
    · rw [g5 i, vI_at]
      by_cases e1 : i = j
      · rw [e1, if_neg (by omega), if_pos (by omega), pk_us]
      · rw [pk_un e1]
        by_cases e2 : j + 1 ≤ i ∧ i < e
        · rw [if_pos e2, if_pos (by omega)]
        · rw [if_neg e2, if_neg (by omega)]
theorem k_fillTo_16C {τ : px_TT} {e : Nat} {x : Int32} (hF : 65536 < F) (he : e < 2 ^ 62) (h : rowOK sk L τ r A n) : ∃ τ', f_Row_fillTo_16 F c r (lN e) x (cH sk L τ) = some ((), cH sk L τ') ∧ rowOK sk L τ' r A n ∧ frRw r A τ τ' ∧ (e ≤ n → ∀ w, fW r A n τ w → fW r A n τ' (wFil e (x.toInt8.toInt32.toInt8.toInt32) w)) := by
  obtain ⟨z, hz, ez⟩ := h.2.2.2.2.1
  have hn := h.2.2.1
  obtain ⟨m, hm⟩ : ∃ m, m = (if (nI n).toInt64 < lN e then (nI n).toInt64 else lN e).toInt32 := ⟨_, rfl⟩
  have hmq : ∃ q, q ≤ n ∧ m = nI q ∧ (e ≤ n → q = e) := by
    rw [nI_l (by omega)] at hm
    by_cases c2 : lN n < lN e
    · rw [if_pos c2, lN_i] at hm
      exact ⟨n, Nat.le_refl _, hm, fun w => absurd ((pk_lLT (by omega) (by omega)).mp c2) (by omega)⟩
    · rw [if_neg c2, lN_i] at hm
      exact ⟨e, Nat.le_of_not_lt (fun q => c2 ((pk_lLT (by omega) (by omega)).mpr q)), hm, fun _ => rfl⟩
  obtain ⟨q, q1, q3, q4⟩ := hmq
  unfold f_Row_fillTo_16 f_Row_fillTo_59
  rw [C10r0 h.1 h.2.2.2.1, bs, c_l h.2.1 (by decide), bs, C10g1 h.1, bs, ez, ← hm, q3]
  by_cases c1 : q ≤ z
  · refine ⟨τ, by rw [if_pos (nI_le c1 (by omega))], h, frRw_refl, fun hen w hw => ?_⟩
    have e1 := q4 hen
    have e2 := fW_z hw hn hz ez
    unfold wFil
    rw [if_pos (by omega)]
    exact hw
  · obtain ⟨τ1, g1, g2, g3, g4, g5⟩ := k_fill3_10C (F := F) (c := c) (w := x.toInt8.toInt32) q1 (q - z) z F τ (by omega) (by omega) h
    refine ⟨tI τ1 r 1 (nI q), ?_, rowOK_1 g2 q1, frRw_trans g3 frRw_1, fun hen w hw => ?_⟩
    · rw [if_neg (nI_ge (by omega) (by omega)), bs, bs]
      unfold f_Arrays_fill_3 f_Arrays_rangeCheck
      rw [c_l h.2.1 (by decide), bs, if_pos (nI_le (by omega) (by omega)), if_pos (nI_0le (by omega)), if_pos (nI_le q1 (by omega)), xb_mk, g1, xb_mk, C10p1 h.1, bs]
    · have e1 := q4 hen
      have e2 := fW_z hw hn hz ez
      unfold wFil
      rw [if_neg (by omega)]
      refine ⟨hen, by rw [tI_at, e1], fun i hi => ?_⟩
      have hi' : i < e := hi
      show eI τ1 A i = if i < w.1 then w.2 i else x.toInt8.toInt32.toInt8.toInt32
      rw [g5 i]
      by_cases e3 : i < w.1
      · rw [if_neg (by omega), if_pos e3]; exact hw.2.2 i e3
      · rw [if_pos (by omega), if_neg e3]
theorem k_fillToC {τ : px_TT} {e : Nat} {x : Int32} (hF : 65536 < F) (he : e < 2 ^ 62) (h : rowOK sk L τ r A n) : ∃ τ', f_Row_fillTo F c r (lN e) x (cH sk L τ) = some ((), cH sk L τ') ∧ rowOK sk L τ' r A n ∧ frRw r A τ τ' ∧ (e ≤ n → ∀ w, fW r A n τ w → fW r A n τ' (wFil e (x.toInt8.toInt32.toInt8.toInt32) w)) := by
  have hn := h.2.2.1
  unfold f_Row_fillTo
  rw [C10r0 h.1 h.2.2.2.1, bs, c_l h.2.1 (by decide), bs]
  by_cases c1 : lN e ≤ (nI n).toInt64
  · rw [if_pos c1]; exact k_fillTo_16C hF he h
  · obtain ⟨τ', g1, g2, g3, g4⟩ := k_fillTo_16C (F := F) (c := c) (e := e) (x := x) hF he (rowOK_2 (b := true) h)
    refine ⟨τ', ?_, g2, frRw_trans frRw_2 g3, fun hen w hw => g4 hen w (fW_2 hw)⟩
    rw [if_neg c1, show (nI 1 : Int32) = bI true from rfl, C10z2 h.1, bs]
    exact g1
theorem k_putAll_2C {j m : Nat} {l : List Nat} (hj : j < pg_nc) (hkB : ki_B (c j).1 = true) (hkv : kv c j l) (hl : l.length = m) (hm : m < 2 ^ 30) (hF : 1 < F) : ∀ (d i f : Nat) (τ : px_TT), i + d = m → d < f → rowOK sk L τ r A n → ∃ τ', f_Row_putAll_2 F c f r j (nI i) (cH sk L τ) = some ((), cH sk L τ') ∧ rowOK sk L τ' r A n ∧ frRw r A τ τ' ∧ ∀ w, fW r A n τ w → fW r A n τ' (itr (fun i => wPut n 1 ((nI (l.getD i 0)).toInt64)) i d w) := by
  intro d
  induction d with
  | zero =>
    intro i f τ hi hf h
    obtain ⟨f, rfl⟩ : ∃ x, f = x + 1 := ⟨f - 1, by omega⟩
    refine ⟨τ, ?_, h, frRw_refl, fun w hw => hw⟩
    unfold f_Row_putAll_2 f_Row_putAll_23
    rw [xkl_at hkv hj, bs, hl, if_pos (nI_le (by omega) (by omega))]
  | succ d ih =>
    intro i f τ hi hf h
    obtain ⟨f, rfl⟩ : ∃ x, f = x + 1 := ⟨f - 1, by omega⟩
    obtain ⟨τ1, a1, a2, a3, a4⟩ := k_putC (F := F) (c := c) (v := (nI (l.getD i 0)).toInt64) (k := 1) hF (by decide) h
    obtain ⟨τ', g1, g2, g3, g4⟩ := ih (i + 1) f τ1 (by omega) (by omega) a2
    refine ⟨τ', ?_, g2, frRw_trans a3 g3, fun w hw => g4 _ (a4 w hw)⟩
    unfold f_Row_putAll_2
    rw [xkl_at hkv hj, bs, hl, if_neg (nI_ge (by omega) (by omega)), xkB_at hkv hj hkB (by omega) (by omega), bs, c_o h.1, bs, a1, xb_mk, nI_add]
    exact g1
theorem k_coverC {τ : px_TT} {S N : Nat} {p q m : Int32} (hS : ar sk L 0 N S) (hN : N ≤ 65536) (hB : ∀ k, isB (eI τ S k)) (h : rowOK sk L τ r A n) : ∃ τ', f_Row_cover F c r p S q m (cH sk L τ) = some ((), cH sk L τ') ∧ rowOK sk L τ' r A n ∧ frRw r A τ τ' ∧ ∀ w, fW r A n τ w → fW r A n τ' (wCov (eI τ S) N p q m w) := by
  obtain ⟨z, hz, ez⟩ := h.2.2.2.2.1
  have hn := h.2.2.1
  unfold f_Row_cover f_Row_cover_33
  by_cases c1 : p < 0
  · exact ⟨τ, by rw [if_pos c1], h, frRw_refl, fun w hw => by unfold wCov; rw [if_pos c1]; exact hw⟩
  · rw [if_neg c1]
    by_cases c2 : q < 0
    · exact ⟨τ, by rw [if_pos c2], h, frRw_refl, fun w hw => by unfold wCov; rw [if_neg c1, if_pos c2]; exact hw⟩
    · rw [if_neg c2]
      by_cases c3 : m < 0
      · exact ⟨τ, by rw [if_pos c3], h, frRw_refl, fun w hw => by unfold wCov; rw [if_neg c1, if_neg c2, if_pos c3]; exact hw⟩
      · obtain ⟨p', hp, ep⟩ := nI_of c1
        obtain ⟨q', hq, eq⟩ := nI_of c2
        obtain ⟨m', hm, em⟩ := nI_of c3
        have ip : iN p = p' := by rw [ep]; exact iN_n hp
        have iq : iN q = q' := by rw [eq]; exact iN_n hq
        have im : iN m = m' := by rw [em]; exact iN_n hm
        have eW : ∀ w : px_FW, wCov (eI τ S) N p q m w = if p' + m' ≤ w.1 ∧ q' + m' ≤ N then (w.1, va_cpy (eI τ S) w.2 q' p' m') else w := fun w => by
          unfold wCov
          rw [if_neg c1, if_neg c2, if_neg c3, ip, iq, im]
        rw [if_neg c3, C10g1 h.1, bs, ez, c_l hS (by decide), ep, eq, em]
        rw [ep, eq, em] at eW
        by_cases c4 : p' + m' ≤ z
        · rw [if_neg (fun w => (sub_lt31 (by omega) hp hm).mp w c4), bs]
          by_cases c5 : q' + m' ≤ N
          · refine ⟨vI τ A (va_cpy (eI τ S) (eI τ A) q' p' m'), ?_, rowOK_v h (cpy_B hB h.2.2.2.2.2.2), frRw_v, fun w hw => ?_⟩
            · rw [if_pos ((sub_le31 (by omega) hq hm).mpr c5), C10r0 h.1 h.2.2.2.1, bs, c_cpy h.2.1 hS hB hq hp hm c5 (by omega), bs]
            · have e := fW_z hw hn hz ez
              rw [eW w, if_pos ⟨by omega, c5⟩]
              refine ⟨hw.1, hw.2.1, fun i hi => ?_⟩
              show eI (vI τ A (va_cpy (eI τ S) (eI τ A) q' p' m')) A i = va_cpy (eI τ S) w.2 q' p' m' i
              rw [vI_at]
              unfold va_cpy
              split
              · rfl
              · exact hw.2.2 i hi
          · exact ⟨τ, by rw [if_neg (fun w => c5 ((sub_le31 (by omega) hq hm).mp w))], h, frRw_refl, fun w hw => by rw [eW w, if_neg (fun u => c5 u.2)]; exact hw⟩
        · exact ⟨τ, by rw [if_pos ((sub_lt31 (by omega) hp hm).mpr c4)], h, frRw_refl, fun w hw => by have e := fW_z hw hn hz ez; rw [eW w, if_neg (fun u => c4 (by omega))]; exact hw⟩
end CRC
end
