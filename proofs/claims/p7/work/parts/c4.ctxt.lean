/-! layText of the class, whole -/
section CTZ
variable {F : Nat} {c : px_CT} {sk : Nat → Nat × Nat × Nat} {L : Nat} {own : Nat → Nat × Nat} {fs : px_FS} {s : px_TK} {xs : px_NL} {ST rn : Nat → Bool} {ll : List Nat} {th : Nat → Bool} {on : Bool} {rn0 : Nat → Bool}
def ES2 (a i : Nat) : Prop := 1704 ≤ a ∧ a ≤ 1707 ∧ (i = 2 ∨ i = 3)
theorem ES2_Ly (a i : Nat) (w : ES2 a i) : 1704 ≤ a ∧ a ≤ 1707 := ⟨w.1, w.2.1⟩
theorem ED_S2 (a i : Nat) (w : ED a i) : ES2 a i := by unfold ED E63 E3 at w; unfold ES2; omega
theorem k_lx_2 {τ : px_TT} {n fe bg2 mem fe3 ns sp : Nat} {ad : Nat → Nat} {G4 G5 G2 G3 CM : px_PG} {D : Nat → Prop} (hF : 65536 < F) (hc : KT c) (hk : STk fs s ST) (hl : llS2 s ST ll) (hnd : ll.Nodup) (hsr : srt (tB fs s.2.2.1) ll) (hok : okL xs) (hcm : cmOK xs) (hcq : AL cmQ xs) (hrn : ∀ i, rn i = (!on || rn0 i)) (hod : ∀ d, d ∈ s.1.2.2.1 → d < xs.length) (h : TKe sk L own τ fs s xs ST rn) (ho : COr τ ll) (hth : ∀ j, j < 3 → eI τ 1703 j = bI (th j)) (hfe : fe < 2 ^ 35) (hmem : mem < 2 ^ 35) (h12 : fI τ 1700 12 = nI ns) (hns : ns ≤ 2800) (hD : ∀ x, D x → cnd (tB fs s.2.2.1) 4 x = false ∧ cnd (tB fs s.2.2.1) 5 x = false ∧ cnd (tB fs s.2.2.1) 2 x = false ∧ cnd (tB fs s.2.2.1) 3 x = false) (hA : ∀ x, x ∈ ll → D x → fJ τ (152 + x) 11 = lN (ad x)) (eb : bg2 = bgN mem (upN fe 16) (th 2)) (e4 : G4 = ll.foldl (pg1 (tB fs s.2.2.1) 4 (th 2)) (bg2, ad, none)) (e5 : G5 = ll.foldl (pg1 (tB fs s.2.2.1) 5 (th 2)) (G4.1, G4.2.1, none)) (e2 : G2 = ll.foldl (pg1 (tB fs s.2.2.1) 2 (th 2)) (G4.1, G5.2.1, none)) (esp : sp = (if 0 < ns then upN G2.1 8 else G2.1)) (e3 : G3 = ll.foldl (pg1 (tB fs s.2.2.1) 3 (th 2)) (sp + 8 * ns, G2.2.1, none)) (eC : CM = s.1.2.2.1.foldl (pc1 xs on rn0 (th 2)) (G3.1, (fun _ => 0), G3.2.2)) (ef : fe3 = (if th 2 = true then upN fe 16 + (sp + 8 * ns - bg2) else fe)) : ∃ τ' m', f_Layout_layText_34 F c (n + 1) 1700 (lN fe) (lN mem) (nI 2) (cH sk L τ) = f_Layout_layText_34 F c n 1700 (lN fe3) m' (nI 3) (cH sk L τ') ∧ (∀ x, x ∈ ll → (((((D x ∨ cnd (tB fs s.2.2.1) 4 x = true) ∨ cnd (tB fs s.2.2.1) 5 x = true) ∨ cnd (tB fs s.2.2.1) 2 x = true)) ∨ cnd (tB fs s.2.2.1) 3 x = true) → fJ τ' (152 + x) 11 = lN (G3.2.1 x)) ∧ (0 < ns → fJ τ' 1700 13 = lN sp) ∧ fJ τ' 1700 17 = lN (tpN bg2 (ll.foldl (ft1 (tB fs s.2.2.1) G3.2.1) (false, 0, 1, 0))) ∧ fJ τ' 1700 15 = lN (CM.2.2.getD CM.1) ∧ (eJ τ' 1704 2 = lN (upN fe 16) ∧ eJ τ' 1705 2 = lN bg2 ∧ eJ τ' 1706 2 = lN (sp + 8 * ns - bg2) ∧ eJ τ' 1707 2 = lN (CM.1 - bg2)) ∧ (∀ n, n ∈ s.1.2.2.1 → cB xs on rn0 n = true → fJ τ' (pN τ 149 n) 14 = lN (CM.2.1 n)) ∧ frJE JD ES2 τ τ' := by
  have hl1 := hl.1
  have h6 := ar_6 (K := 0) hl1
  have hS := h.1
  have hR := h.2.1
  have o := G1700 hS
  have ub := bgN_lt (mem := mem) (fp := upN fe 16) (th := th 2)
  rw [← eb] at ub
  obtain ⟨x, y, p1, p2⟩ := k_lx_pre (F := F) (c := c) (n := n) (j := 2) (th := th) (a := fe) (e := mem) hS hR (by decide) (hth 2 (by decide)) (by omega) (by omega)
  rw [← eb] at p2
  obtain ⟨τ1, hτ1⟩ : ∃ y, y = vJ τ 1704 (vp_updL (eJ τ 1704) 2 (lN (upN fe 16))) := ⟨_, rfl⟩
  obtain ⟨τ2, hτ2⟩ : ∃ y, y = vJ τ1 1705 (vp_updL (eJ τ1 1705) 2 (lN bg2)) := ⟨_, rfl⟩
  have f1 : frJE JD ES2 τ τ1 := by rw [hτ1]; exact frJE_E ⟨by decide, by decide, Or.inl rfl⟩
  have f2 : frJE JD ES2 τ τ2 := frJE_trans f1 (by rw [hτ2]; exact frJE_E ⟨by decide, by decide, Or.inl rfl⟩)
  have h2 := TKe_Ly h (frJE_Ly f2 JD_Ly ES2_Ly)
  have ho2 : COr τ2 ll := COr_fx ho (f2.1 1700 11) (f2.2.2.2.2.2 1701)
  have b4 : eJ τ2 1704 2 = lN (upN fe 16) := by rw [hτ2, eJ_un (Or.inl (by decide)), hτ1, eJ_up]
  have b5 : eJ τ2 1705 2 = lN bg2 := by rw [hτ2, eJ_up]
  have eF : ∀ a k, fJ τ2 a k = fJ τ a k := fun a k => by rw [hτ2, hτ1]; rfl
  have eP : ∀ n, pN τ2 149 n = pN τ 149 n := fun n => by unfold pN; rw [f2.2.2.2.2.2]
  obtain ⟨τ3, a1, a2, a3, a4, a5, a6, a7, a8⟩ := k_layData (F := F) (c := c) (th := th 2) (on := on) (rn0 := rn0) (D := D) (ns := ns) (sp := sp) (bg2 := bg2) (ad := ad) hF hc hk hl hnd hsr hok hcm hcq hrn hod h2 ho2 (by rw [f2.2.2.2.1]; exact hth 2 (by decide)) b5 (by omega) (by rw [f2.1]; exact h12) hns hD (fun x hx hd => by rw [eF]; exact hA x hx hd) e4 e5 e2 esp e3 eC
  have f3 : frJE JD ES2 τ τ3 := frJE_trans f2 (frJE_mono a8 (fun _ _ w => w) ED_S2)
  have h3 := TKe_Ly h (frJE_Ly f3 JD_Ly ES2_Ly)
  have d4 : eJ τ3 1704 2 = lN (upN fe 16) := by rw [a8.2.2.2.2.1 _ _ (fun w => by unfold ED E63 E3 at w; omega)]; exact b4
  have d5 : eJ τ3 1705 2 = lN bg2 := by rw [a8.2.2.2.2.1 _ _ (fun w => by unfold ED E63 E3 at w; omega)]; exact b5
  have k9 := k_lx_189 (F := F) (c := c) (th := th) (a := fe) (e := mem) (j := 2) (fp := upN fe 16) (bg := bg2) (fb := sp + 8 * ns - bg2) (mb := CM.1 - bg2) (K := f_Layout_layText_34 F c n) hS h3.2.1 (by decide) (by rw [f3.2.2.2.1]; exact hth 2 (by decide)) d4 d5 a6.1 a6.2
  refine ⟨τ3, lN (if th 2 = true then bg2 + (CM.1 - bg2) else mem), ?_, a2, a3, a4, a5, ⟨d4, d5, a6.1, a6.2⟩, fun n hn hcb => by rw [← eP]; exact a7 n hn hcb, f3⟩
  rw [p1, ← hτ1]
  unfold f_Layout_layText_92
  rw [p2, c_sJ (G1705 hS) (by decide) (by decide), bs, ← hτ2, if_pos rfl, c_o o, bs, a1, xb_mk, k9, ef]
def JX (a k : Nat) : Prop := JD a k ∨ (a = 1697 ∧ k = 5) ∨ (a = 1700 ∧ (k = 14 ∨ k = 18))
def EX4 (a _i : Nat) : Prop := 1704 ≤ a ∧ a ≤ 1707
theorem JX_Ly (a k : Nat) (w : JX a k) : a = 1697 ∨ a = 1700 ∨ (152 ≤ a ∧ a < 1688 ∧ k = 11) ∨ (1815 ≤ a ∧ k = 14) := by unfold JX JD J63 J11 J14 J16 at w; omega
theorem EX4_Ly (a i : Nat) (w : EX4 a i) : 1704 ≤ a ∧ a ≤ 1707 := w
/-- what a layout says of the class's cells -/
def LYc (τ : px_TT) (s : px_TK) (xs : px_NL) (on : Bool) (rn0 : Nat → Bool) (ns pz : Nat) (tp fe0 bg0 : Nat) (G0 : px_PG) (fe1 bg1 : Nat) (G1 : px_PG) (fe2 bg2 sp : Nat) (CM : px_PG) (fe3 : Nat) : Prop := (0 < ns → fJ τ 1700 13 = lN sp) ∧ fJ τ 1700 17 = lN tp ∧ fJ τ 1700 15 = lN (CM.2.2.getD CM.1) ∧ fJ τ 1700 14 = lN G0.1 ∧ fJ τ 1697 5 = lN G1.1 ∧ fJ τ 1700 18 = lN fe3 ∧ (eJ τ 1704 0 = lN (upN fe0 16) ∧ eJ τ 1705 0 = lN bg0 ∧ eJ τ 1706 0 = lN (G0.1 - bg0) ∧ eJ τ 1707 0 = lN (G0.1 - bg0)) ∧ (eJ τ 1704 1 = lN (upN fe1 16) ∧ eJ τ 1705 1 = lN bg1 ∧ eJ τ 1706 1 = lN (G1.1 + pz - bg1) ∧ eJ τ 1707 1 = lN (G1.1 + pz - bg1)) ∧ (eJ τ 1704 2 = lN (upN fe2 16) ∧ eJ τ 1705 2 = lN bg2 ∧ eJ τ 1706 2 = lN (sp + 8 * ns - bg2) ∧ eJ τ 1707 2 = lN (CM.1 - bg2)) ∧ ∀ n, n ∈ s.1.2.2.1 → cB xs on rn0 n = true → fJ τ (pN τ 149 n) 14 = lN (CM.2.1 n)
theorem k_layText {τ : px_TT} {ns pz : Nat} {thr : Bool} {ad1 : Nat → Nat} {fe0 bg0 : Nat} {G0 : px_PG} {fe1 mem1 bg1 : Nat} {G1 : px_PG} {fe2 mem2 bg2 : Nat} {G4 G5 G2 : px_PG} {sp : Nat} {G3 CM : px_PG} {fe3 : Nat} (hF : 65536 < F) (hc : KT c) (hk : STk fs s ST) (hl : llS2 s ST ll) (hnd : ll.Nodup) (hsr : srt (tB fs s.2.2.1) ll) (hok : okL xs) (hcm : cmOK xs) (hcq : AL cmQ xs) (hrn : ∀ i, rn i = (!on || rn0 i)) (hod : ∀ d, d ∈ s.1.2.2.1 → d < xs.length) (h : TKe sk L own τ fs s xs ST rn) (ho : COr τ ll) (hth : ∀ j, j < 3 → eI τ 1703 j = bI (th j)) (hth3 : eI τ 1703 3 = bI thr) (h12 : fI τ 1700 12 = nI ns) (hns : ns ≤ 2800) (h4 : fI τ 1697 4 = nI pz) (hpz : pz ≤ 2 ^ 30) (ha1 : ∀ x, x ∈ ll → sS (tB fs s.2.2.1) x = false → ad1 x = G1.2.1 x) (q0 : fe0 = 64 + 56 * sgN th 3 + (if thr = true then 56 else 0)) (q1 : bg0 = bgN 4194304 (upN fe0 16) (th 0)) (q2 : G0 = ll.foldl (pg1 (tB fs s.2.2.1) 0 (th 0)) (bg0, (fun _ => 0), none)) (q3 : fe1 = (if th 0 = true then upN fe0 16 + (G0.1 - bg0) else fe0)) (q4 : mem1 = (if th 0 = true then bg0 + (G0.1 - bg0) else 4194304)) (q5 : bg1 = bgN mem1 (upN fe1 16) (th 1)) (q6 : G1 = ll.foldl (pg1 (tB fs s.2.2.1) 1 (th 1)) (bg1, G0.2.1, none)) (q7 : fe2 = (if th 1 = true then upN fe1 16 + (G1.1 + pz - bg1) else fe1)) (q8 : mem2 = (if th 1 = true then bg1 + (G1.1 + pz - bg1) else mem1)) (q9 : bg2 = bgN mem2 (upN fe2 16) (th 2)) (q10 : G4 = ll.foldl (pg1 (tB fs s.2.2.1) 4 (th 2)) (bg2, ad1, none)) (q11 : G5 = ll.foldl (pg1 (tB fs s.2.2.1) 5 (th 2)) (G4.1, G4.2.1, none)) (q12 : G2 = ll.foldl (pg1 (tB fs s.2.2.1) 2 (th 2)) (G4.1, G5.2.1, none)) (q13 : sp = (if 0 < ns then upN G2.1 8 else G2.1)) (q14 : G3 = ll.foldl (pg1 (tB fs s.2.2.1) 3 (th 2)) (sp + 8 * ns, G2.2.1, none)) (q15 : CM = s.1.2.2.1.foldl (pc1 xs on rn0 (th 2)) (G3.1, (fun _ => 0), G3.2.2)) (q16 : fe3 = (if th 2 = true then upN fe2 16 + (sp + 8 * ns - bg2) else fe2)) : ∃ τ', f_Layout_layText F c 1700 (cH sk L τ) = some ((), cH sk L τ') ∧ (∀ x, x ∈ ll → sS (tB fs s.2.2.1) x = false → fJ τ' (152 + x) 11 = lN (G3.2.1 x)) ∧ LYc τ' s xs on rn0 ns pz (tpN bg2 (ll.foldl (ft1 (tB fs s.2.2.1) G3.2.1) (false, 0, 1, 0))) fe0 bg0 G0 fe1 bg1 G1 fe2 bg2 sp CM fe3 ∧ G1.1 < 2 ^ 36 ∧ frJE JX EX4 τ τ' := by
  have hl1 := hl.1
  have h6 := ar_6 (K := 0) hl1
  have hS := h.1
  have hR := h.2.1
  have o := G1700 hS
  have hZ := TKe_Z h hk hl
  have hT := BK_T (s := s) h.2.2.2.2.1.1
  have hsg : sgN th 3 ≤ 3 := by
    show (((0 + (if th 0 = true then 1 else 0)) + (if th 1 = true then 1 else 0)) + (if th 2 = true then 1 else 0)) ≤ 3
    split <;> split <;> split <;> omega
  have u0 := upN_le (v := fe0) (a := 16) (by decide)
  have v0 := bgN_lt (mem := 4194304) (fp := upN fe0 16) (th := th 0)
  rw [← q1] at v0
  have hfe0 : fe0 ≤ 288 := by rw [q0]; split <;> omega
  obtain ⟨n, hn⟩ : ∃ n, F = n + 4 := ⟨F - 4, by omega⟩
  obtain ⟨τ1, a1, a2, a3, a4, a5⟩ := k_lx_0 (F := F) (c := c) (n := n + 3) (th := th) (mem := 4194304) hF hc hk hl hnd h ho hth (show fe0 < _ by omega) (by decide) q1 q2 q3 q4
  have m0 := pgs_m (g := 0) (th := th 0) ll (bg0, (fun _ => 0), none) hZ
  rw [← q2] at m0
  have m0 : bg0 ≤ G0.1 ∧ G0.1 ≤ bg0 + ll.length * 20480 := m0
  have hfe1 : fe1 < 2 ^ 34 := by rw [q3]; split <;> omega
  have hmem1 : mem1 < 2 ^ 34 := by rw [q4]; split <;> omega
  have h1 := TKe_Ly h (frJE_Ly a5 JS0_Ly ES_Ly)
  have ho1 : COr τ1 ll := COr_fx ho (a5.1 1700 11) (a5.2.2.2.2.2 1701)
  have hth1 : ∀ j, j < 3 → eI τ1 1703 j = bI (th j) := fun j hj => by rw [a5.2.2.2.1]; exact hth j hj
  obtain ⟨τ2, b1, b2, b3, b4, b5⟩ := k_lx_1 (F := F) (c := c) (n := n + 2) (th := th) (pz := pz) (D := fun x => cnd (tB fs s.2.2.1) 0 x = true) hF hc hk hl hnd h1 ho1 hth1 (by omega) (by omega) hpz (by rw [a5.1]; exact h4) (fun x hx => cnd_x hx (by decide)) a2 q5 q6 q7 q8
  have v1 := bgN_lt (mem := mem1) (fp := upN fe1 16) (th := th 1)
  rw [← q5] at v1
  have u1 := upN_le (v := fe1) (a := 16) (by decide)
  have m1 := pgs_m (g := 1) (th := th 1) ll (bg1, G0.2.1, none) hZ
  rw [← q6] at m1
  have m1 : bg1 ≤ G1.1 ∧ G1.1 ≤ bg1 + ll.length * 20480 := m1
  have hfe2 : fe2 < 2 ^ 35 := by rw [q7]; split <;> omega
  have hmem2 : mem2 < 2 ^ 35 := by rw [q8]; split <;> omega
  have f2 : frJE JX EX4 τ τ2 := frJE_trans (frJE_mono a5 (fun _ _ w => by unfold JS0 J11 at w; unfold JX JD J63 J11 J14 J16; omega) (fun _ _ w => ⟨w.1, w.2.1⟩)) (frJE_mono b5 (fun _ _ w => by unfold JS1 J11 at w; unfold JX JD J63 J11 J14 J16; omega) (fun _ _ w => ⟨w.1, w.2.1⟩))
  have h2 := TKe_Ly h (frJE_Ly f2 JX_Ly EX4_Ly)
  have ho2 : COr τ2 ll := COr_fx ho (f2.1 1700 11) (f2.2.2.2.2.2 1701)
  have hth2 : ∀ j, j < 3 → eI τ2 1703 j = bI (th j) := fun j hj => by rw [f2.2.2.2.1]; exact hth j hj
  obtain ⟨τ3, m', c1, c2, c3, c4, c5, c6, c7, c8⟩ := k_lx_2 (F := F) (c := c) (n := n + 1) (th := th) (on := on) (rn0 := rn0) (ad := ad1) (D := fun x => cnd (tB fs s.2.2.1) 0 x = true ∨ cnd (tB fs s.2.2.1) 1 x = true) hF hc hk hl hnd hsr hok hcm hcq hrn hod h2 ho2 hth2 hfe2 hmem2 (by rw [f2.1]; exact h12) hns (fun x hx => hx.elim (fun q => ⟨cnd_x q (by decide), cnd_x q (by decide), cnd_x q (by decide), cnd_x q (by decide)⟩) (fun q => ⟨cnd_x q (by decide), cnd_x q (by decide), cnd_x q (by decide), cnd_x q (by decide)⟩)) (fun x hx hd => by
    have hs0 : sS (tB fs s.2.2.1) x = false := by
      rcases hd with q | q
      · exact cnd_0s q (by decide)
      · unfold cnd at q
        rw [Bool.and_eq_true, Bool.not_eq_true', decide_eq_true rfl, Bool.true_and] at q
        exact q.2
    rw [ha1 x hx hs0]
    exact b2 x hx hd) q9 q10 q11 q12 q13 q14 q15 q16
  have f3 : frJE JX EX4 τ τ3 := frJE_trans f2 (frJE_mono c8 (fun _ _ w => Or.inl w) (fun _ _ w => ⟨w.1, w.2.1⟩))
  have eP : ∀ n, pN τ2 149 n = pN τ 149 n := fun n => by unfold pN; rw [f2.2.2.2.2.2]
  have eP3 : ∀ n v, pN (tJ τ3 1700 18 v) 149 n = pN τ 149 n := fun n v => by unfold pN; show ((eN τ3 149 n).getD 0) = _; rw [f3.2.2.2.2.2]
  obtain ⟨τ4, hτ4⟩ : ∃ y, y = tJ τ3 1700 18 (lN fe3) := ⟨_, rfl⟩
  have nJ : ∀ {a k : Nat}, (a ≠ 1700 ∨ k ≠ 18) → fJ τ4 a k = fJ τ3 a k := fun hh => by rw [hτ4]; exact tJ_ne hh
  have nE : ∀ a i, eJ τ4 a i = eJ τ3 a i := fun a i => by rw [hτ4]; rfl
  refine ⟨τ4, ?_, fun x hx hs0 => ?_, ⟨fun w => by rw [nJ (Or.inr (by decide))]; exact c3 w, by rw [nJ (Or.inr (by decide))]; exact c4, by rw [nJ (Or.inr (by decide))]; exact c5, ?_, ?_, by rw [hτ4, tJ_at], ?_, ?_, ?_, fun n hn hcb => ?_⟩, by omega, frJE_trans f3 (by rw [hτ4]; exact frJE_J (Or.inr (Or.inr ⟨rfl, Or.inr rfl⟩)))⟩
  · have hcs := k_countSegments (F := F) (c := c) (th := th) (by omega) hS hR hth
    have e22 : ∀ z : Nat, z = (if thr = true then 1 else 0) → f_Layout_layText_22 F c 1700 (nI 64) (nI 56) (nI (sgN th 3)) (nI z) (cH sk L τ) = some ((), cH sk L τ4) := fun z hz => by
      unfold f_Layout_layText_22
      rw [nI_add, pk_mul, nI_add, nI_l (by rw [hz]; split <;> omega), show (4194304 : Int64) = lN 4194304 from rfl, show 64 + 56 * (sgN th 3 + z) = fe0 by rw [q0, hz]; split <;> omega]
      have e34 : f_Layout_layText_34 F c F = f_Layout_layText_34 F c (n + 3 + 1) := by rw [show n + 3 + 1 = F by omega]
      rw [e34, a1, b1, c1]
      unfold f_Layout_layText_34
      rw [if_pos (by decide)]
      unfold f_Layout_layText_237
      rw [C2p18 o, bs, ← hτ4]
    unfold f_Layout_layText
    rw [c_o o, bs, hcs, xb_mk, C2r4 o (GR_r (v := 1703) hR (by decide)), bs, show nI 3 = nI 3 from rfl, c_aI (G1703 hS) (by decide) (by decide) (by decide), bs, hth3]
    cases et : thr with
    | false => rw [if_pos (show bI false = 0 from rfl)]; exact e22 0 (by rw [et]; rfl)
    | true => rw [if_neg (show ¬ bI true = 0 by decide)]; exact e22 1 (by rw [et]; rfl)
  · have hx1 := (hl.2 x hx).1
    rw [nJ (Or.inl (by omega))]
    refine c2 x hx ?_
    rcases cnd_all (tb := tB fs s.2.2.1) (x := x) with ((q | q) | q) | q
    · rcases q with q | q
      · exact q.elim
      · exact Or.inl (Or.inl (Or.inl (Or.inl (Or.inl q))))
    · exact Or.inl (Or.inl (Or.inl (Or.inl (Or.inr q))))
    · rw [hs0] at q; exact absurd q (by decide)
    · rcases q with q | q | q | q
      · exact Or.inl (Or.inl (Or.inl (Or.inr q)))
      · exact Or.inl (Or.inl (Or.inr q))
      · exact Or.inl (Or.inr q)
      · exact Or.inr q
  · rw [nJ (Or.inr (by decide)), c8.2.1 _ _ (fun w => by unfold JD J63 J11 J14 J16 at w; omega), b5.2.1 _ _ (fun w => by unfold JS1 J11 at w; omega)]; exact a3
  · rw [nJ (Or.inl (by decide)), c8.2.1 _ _ (fun w => by unfold JD J63 J11 J14 J16 at w; omega)]; exact b3
  · have eq0 : ∀ a, 1704 ≤ a → a ≤ 1707 → eJ τ4 a 0 = eJ τ1 a 0 := fun a h1 h2 => by rw [nE, c8.2.2.2.2.1 _ _ (fun w => by unfold ES2 at w; omega), b5.2.2.2.2.1 _ _ (fun w => by unfold ESj at w; omega)]
    rw [eq0 1704 (by decide) (by decide), eq0 1705 (by decide) (by decide), eq0 1706 (by decide) (by decide), eq0 1707 (by decide) (by decide)]
    exact a4
  · have eq1 : ∀ a, 1704 ≤ a → a ≤ 1707 → eJ τ4 a 1 = eJ τ2 a 1 := fun a h1 h2 => by rw [nE, c8.2.2.2.2.1 _ _ (fun w => by unfold ES2 at w; omega)]
    rw [eq1 1704 (by decide) (by decide), eq1 1705 (by decide) (by decide), eq1 1706 (by decide) (by decide), eq1 1707 (by decide) (by decide)]
    exact b4
  · rw [nE, nE, nE, nE]; exact c6
  · rw [hτ4, eP3, ← hτ4]
    have hn2 := hod n hn
    have hnp := (CLm_at (sk := sk) (L := L) h.2.2.2.1.2.1 (List.getElem?_eq_getElem hn2)).2.1
    have hge := (h.2.2.2.1.1 149 n _ (Or.inr (Or.inr rfl)) hnp).1
    rw [nJ (Or.inl (by omega)), ← eP]
    exact c7 n hn hcb
end CTZ
