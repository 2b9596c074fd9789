/-! layData of the class, whole -/
section CDU
variable {F : Nat} {c : px_CT} {sk : Nat → Nat × Nat × Nat} {L : Nat} {own : Nat → Nat × Nat} {fs : px_FS} {s : px_TK} {xs : px_NL} {ST rn : Nat → Bool} {ll : List Nat} {th on : Bool} {rn0 : Nat → Bool} {D : Nat → Prop}
def JD (a k : Nat) : Prop := J63 a k ∨ J16 a k ∨ (a = 1700 ∧ k = 13)
def ED (a i : Nat) : Prop := E63 a i ∨ E3 a i
theorem JD_Ly (a k : Nat) (w : JD a k) : a = 1697 ∨ a = 1700 ∨ (152 ≤ a ∧ a < 1688 ∧ k = 11) ∨ (1815 ≤ a ∧ k = 14) := by unfold JD J63 J11 J14 J16 at w; omega
theorem ED_Ly (a i : Nat) (w : ED a i) : 1704 ≤ a ∧ a ≤ 1707 := by unfold ED E63 E3 at w; omega
theorem k_layData {τ : px_TT} {ns sp bg2 : Nat} {ad : Nat → Nat} {G4 G5 G2 G3 CM : px_PG} (hF : 65536 < F) (hc : KT c) (hk : STk fs s ST) (hl : llS2 s ST ll) (hnd : ll.Nodup) (hsr : srt (tB fs s.2.2.1) ll) (hok : okL xs) (hcm : cmOK xs) (hcq : AL cmQ xs) (hrn : ∀ i, rn i = (!on || rn0 i)) (hod : ∀ d, d ∈ s.1.2.2.1 → d < xs.length) (h : TKe sk L own τ fs s xs ST rn) (ho : COr τ ll) (ht : eI τ 1703 2 = bI th) (hb2 : eJ τ 1705 2 = lN bg2) (he : bg2 < 2 ^ 36) (h12 : fI τ 1700 12 = nI ns) (hns : ns ≤ 2800) (hD : ∀ x, D x → cnd (tB fs s.2.2.1) 4 x = false ∧ cnd (tB fs s.2.2.1) 5 x = false ∧ cnd (tB fs s.2.2.1) 2 x = false ∧ cnd (tB fs s.2.2.1) 3 x = false) (hA : ∀ x, x ∈ ll → D x → fJ τ (152 + x) 11 = lN (ad x)) (e4 : G4 = ll.foldl (pg1 (tB fs s.2.2.1) 4 th) (bg2, ad, none)) (e5 : G5 = ll.foldl (pg1 (tB fs s.2.2.1) 5 th) (G4.1, G4.2.1, none)) (e2 : G2 = ll.foldl (pg1 (tB fs s.2.2.1) 2 th) (G4.1, G5.2.1, none)) (esp : sp = (if 0 < ns then upN G2.1 8 else G2.1)) (e3 : G3 = ll.foldl (pg1 (tB fs s.2.2.1) 3 th) (sp + 8 * ns, G2.2.1, none)) (eC : CM = s.1.2.2.1.foldl (pc1 xs on rn0 th) (G3.1, (fun _ => 0), G3.2.2)) : ∃ τ', f_Layout_layData F c 1700 (cH sk L τ) = some ((), cH sk L τ') ∧ (∀ x, x ∈ ll → (((((D x ∨ cnd (tB fs s.2.2.1) 4 x = true) ∨ cnd (tB fs s.2.2.1) 5 x = true) ∨ cnd (tB fs s.2.2.1) 2 x = true)) ∨ cnd (tB fs s.2.2.1) 3 x = true) → fJ τ' (152 + x) 11 = lN (G3.2.1 x)) ∧ (0 < ns → fJ τ' 1700 13 = lN sp) ∧ fJ τ' 1700 17 = lN (tpN bg2 (ll.foldl (ft1 (tB fs s.2.2.1) G3.2.1) (false, 0, 1, 0))) ∧ fJ τ' 1700 15 = lN (CM.2.2.getD CM.1) ∧ (eJ τ' 1706 2 = lN (sp + 8 * ns - bg2) ∧ eJ τ' 1707 2 = lN (CM.1 - bg2)) ∧ (∀ n, n ∈ s.1.2.2.1 → cB xs on rn0 n = true → fJ τ' (pN τ 149 n) 14 = lN (CM.2.1 n)) ∧ frJE JD ED τ τ' := by
  have hl1 := hl.1
  have h6 := ar_6 (K := 0) hl1
  have hS := h.1
  have hR := h.2.1
  have o := G1700 hS
  have hZ := TKe_Z h hk hl
  obtain ⟨τ1, a1, a2, a3⟩ := k_layGroup (F := F) (c := c) (g := 4) (th := th) (D := D) (G := (bg2, ad, none)) hF hc hk hl hnd (by decide) (fun x hx => (hD x hx).1) h ho ht (show bg2 < _ by omega) hA
  have m4 := pgs_m (g := 4) (th := th) ll (bg2, ad, none) hZ
  rw [← e4] at a1 a2 m4
  have m4 : bg2 ≤ G4.1 ∧ G4.1 ≤ bg2 + ll.length * 20480 := m4
  have f1 : frJE JD ED τ τ1 := frJE_mono a3 (fun _ _ w => Or.inl (Or.inl w)) (fun _ _ w => w.elim)
  have h1 := TKe_Ly h (frJE_Ly f1 JD_Ly ED_Ly)
  have ho1 : COr τ1 ll := COr_fx ho (f1.1 1700 11) (f1.2.2.2.2.2 1701)
  obtain ⟨τ2, b1, b2, b3⟩ := k_layGroup (F := F) (c := c) (g := 5) (th := th) (D := fun x => D x ∨ cnd (tB fs s.2.2.1) 4 x = true) (G := (G4.1, G4.2.1, none)) hF hc hk hl hnd (by decide) (fun x hx => hx.elim (fun q => (hD x q).2.1) (fun q => cnd_x q (by decide))) h1 ho1 (by rw [f1.2.2.2.1]; exact ht) (show G4.1 < _ by omega) a2
  have m5 := pgs_m (g := 5) (th := th) ll (G4.1, G4.2.1, none) hZ
  rw [← e5] at b1 b2 m5
  have m5 : G4.1 ≤ G5.1 ∧ G5.1 ≤ G4.1 + ll.length * 20480 := m5
  have f2 : frJE JD ED τ τ2 := frJE_trans f1 (frJE_mono b3 (fun _ _ w => Or.inl (Or.inl w)) (fun _ _ w => w.elim))
  have h2 := TKe_Ly h (frJE_Ly f2 JD_Ly ED_Ly)
  have ho2 : COr τ2 ll := COr_fx ho (f2.1 1700 11) (f2.2.2.2.2.2 1701)
  have b13 : eJ τ2 1705 2 = lN bg2 := by rw [b3.2.2.2.2.1 _ _ (fun w => w), a3.2.2.2.2.1 _ _ (fun w => w)]; exact hb2
  have hFT := tp_eq (th := th) (ad := G3.2.1) hsr e4 e5 (fun x hx hg => by
    have hg5 := oG_5 (b := tB fs s.2.2.1 (x / 24)) (i := x % 24)
    rw [e3, pg_k (by rw [cnd_q (by decide)]; exact decide_eq_false (by omega))]
    show G2.2.1 x = _
    rw [e2, pg_k (by rw [cnd_q (by decide)]; exact decide_eq_false (by omega))])
  obtain ⟨τ3, c1, c2, c3⟩ := k_layTemplate (F := F) (c := c) (ad := G3.2.1) (fe := G4.1) (bg2 := bg2) (e5 := G5.1) hF hk hl h2 ho2 b13 (by omega) hFT
  have f3 : frJE JD ED τ τ3 := frJE_trans f2 (frJE_mono c3 (fun _ _ w => Or.inr (Or.inl w)) (fun _ _ w => Or.inr w))
  have h3 := TKe_Ly h (frJE_Ly f3 JD_Ly ED_Ly)
  have ho3 : COr τ3 ll := COr_fx ho (f3.1 1700 11) (f3.2.2.2.2.2 1701)
  obtain ⟨τ4, d1, d2, d3⟩ := k_layGroup (F := F) (c := c) (g := 2) (th := th) (D := fun x => (D x ∨ cnd (tB fs s.2.2.1) 4 x = true) ∨ cnd (tB fs s.2.2.1) 5 x = true) (G := (G4.1, G5.2.1, none)) hF hc hk hl hnd (by decide) (fun x hx => hx.elim (fun q => q.elim (fun q => (hD x q).2.2.1) (fun q => cnd_x q (by decide))) (fun q => cnd_x q (by decide))) h3 ho3 (by rw [f3.2.2.2.1]; exact ht) (show G4.1 < _ by omega) (fun x hx hd => by
    have hx1 := (hl.2 x hx).1
    have hT := BK_T (s := s) h.2.2.2.2.1.1
    rw [c3.2.1 _ _ (fun w => by unfold J16 at w; omega)]
    exact b2 x hx hd)
  have m2 := pgs_m (g := 2) (th := th) ll (G4.1, G5.2.1, none) hZ
  rw [← e2] at d1 d2 m2
  have m2 : G4.1 ≤ G2.1 ∧ G2.1 ≤ G4.1 + ll.length * 20480 := m2
  have f4 : frJE JD ED τ τ4 := frJE_trans f3 (frJE_mono d3 (fun _ _ w => Or.inl (Or.inl w)) (fun _ _ w => w.elim))
  have u8 := upN_le (v := G2.1) (a := 8) (by decide)
  have hsp : G2.1 ≤ sp ∧ sp < G2.1 + 8 := by rw [esp]; split <;> omega
  have t17 : fJ τ4 1700 17 = lN (tpN bg2 (ll.foldl (ft1 (tB fs s.2.2.1) G3.2.1) (false, 0, 1, 0))) := by
    rw [d3.2.1 _ _ (fun w => by unfold J11 at w; omega)]; exact c2
  have b14 : eJ τ4 1705 2 = lN bg2 := by rw [d3.2.2.2.2.1 _ _ (fun w => w), c3.2.2.2.2.1 _ _ (fun w => by unfold E3 at w; omega)]; exact b13
  have last : ∀ τ5, frJE JD ED τ τ5 → (∀ x, x ∈ ll → (((D x ∨ cnd (tB fs s.2.2.1) 4 x = true) ∨ cnd (tB fs s.2.2.1) 5 x = true) ∨ cnd (tB fs s.2.2.1) 2 x = true) → fJ τ5 (152 + x) 11 = lN (G2.2.1 x)) → eJ τ5 1705 2 = lN bg2 → fJ τ5 1700 17 = lN (tpN bg2 (ll.foldl (ft1 (tB fs s.2.2.1) G3.2.1) (false, 0, 1, 0))) → (0 < ns → fJ τ5 1700 13 = lN sp) → ∃ τ', f_Layout_layData_63 F c 1700 (lN (sp + 8 * ns)) (cH sk L τ5) = some ((), cH sk L τ') ∧ (∀ x, x ∈ ll → (((((D x ∨ cnd (tB fs s.2.2.1) 4 x = true) ∨ cnd (tB fs s.2.2.1) 5 x = true) ∨ cnd (tB fs s.2.2.1) 2 x = true)) ∨ cnd (tB fs s.2.2.1) 3 x = true) → fJ τ' (152 + x) 11 = lN (G3.2.1 x)) ∧ (0 < ns → fJ τ' 1700 13 = lN sp) ∧ fJ τ' 1700 17 = lN (tpN bg2 (ll.foldl (ft1 (tB fs s.2.2.1) G3.2.1) (false, 0, 1, 0))) ∧ fJ τ' 1700 15 = lN (CM.2.2.getD CM.1) ∧ (eJ τ' 1706 2 = lN (sp + 8 * ns - bg2) ∧ eJ τ' 1707 2 = lN (CM.1 - bg2)) ∧ (∀ n, n ∈ s.1.2.2.1 → cB xs on rn0 n = true → fJ τ' (pN τ 149 n) 14 = lN (CM.2.1 n)) ∧ frJE JD ED τ τ' := fun τ5 f5 hA5 hb5 h17 h13 => by
    have h5 := TKe_Ly h (frJE_Ly f5 JD_Ly ED_Ly)
    have ho5 : COr τ5 ll := COr_fx ho (f5.1 1700 11) (f5.2.2.2.2.2 1701)
    have eP : ∀ n, pN τ5 149 n = pN τ 149 n := fun n => by unfold pN; rw [f5.2.2.2.2.2]
    obtain ⟨τ6, g1, g2, g3, g4, g5, g6⟩ := k_dt_63 (F := F) (c := c) (th := th) (on := on) (rn0 := rn0) (D := fun x => (((D x ∨ cnd (tB fs s.2.2.1) 4 x = true) ∨ cnd (tB fs s.2.2.1) 5 x = true) ∨ cnd (tB fs s.2.2.1) 2 x = true)) (e := sp + 8 * ns) (bg2 := bg2) (ad := G2.2.1) (G3 := G3) (CM := CM) hF hc hk hl hnd hok hcm hcq hrn hod h5 ho5 (by rw [f5.2.2.2.1]; exact ht) hb5 (by omega) (by omega) (fun x hx => hx.elim (fun q => q.elim (fun q => q.elim (fun q => (hD x q).2.2.2) (fun q => cnd_x q (by decide))) (fun q => cnd_x q (by decide))) (fun q => cnd_x q (by decide))) hA5 e3 eC
    refine ⟨τ6, g1, g2, fun w => ?_, ?_, g3, g4, fun n hn hc => by rw [← eP]; exact g5 n hn hc, frJE_trans f5 (frJE_mono g6 (fun _ _ w => Or.inl w) (fun _ _ w => Or.inl w))⟩
    · rw [g6.2.1 _ _ (fun w => by unfold J63 J11 J14 at w; omega)]; exact h13 w
    · rw [g6.2.1 _ _ (fun w => by unfold J63 J11 J14 at w; omega)]; exact h17
  unfold f_Layout_layData
  rw [C2r6 o (GR_r (v := 1705) hR (by decide)), bs, c_aJ (G1705 hS) (by decide) (by decide), bs, hb2, c_o o, bs, a1, xb_mk, c_o o, bs, b1, xb_mk, c_o o, bs, c1, xb_mk, c_o o, bs, d1, xb_mk, C2g12 o, bs, f4.1, h12]
  by_cases cn : 0 < ns
  · have e8 : f_H_up F c (lN G2.1) ((8 : Int64)) (cH sk L τ4) = some (lN sp, cH sk L τ4) := by
      rw [esp, if_pos cn]
      exact k_up (k := 3) (by decide) (by omega)
    obtain ⟨τ5, hτ5⟩ : ∃ y, y = tJ τ4 1700 13 (lN sp) := ⟨_, rfl⟩
    have f5 : frJE JD ED τ τ5 := frJE_trans f4 (by rw [hτ5]; exact frJE_J (Or.inr (Or.inr ⟨rfl, rfl⟩)))
    rw [if_neg (show ¬ nI ns ≤ 0 from nI_ge (a := 0) cn (by omega)), e8, xb_mk, C2p13 o, bs, ← hτ5, C2g13 o, bs, show fJ τ5 1700 13 = lN sp by rw [hτ5, tJ_at], C2g12 o, bs, f5.1, h12, nI_l (by omega), show (8 : Int64) = lN 8 from rfl, lN_mul, lN_add]
    exact last τ5 f5 (fun x hx hd => by
      have hx1 := (hl.2 x hx).1
      have hT := BK_T (s := s) h.2.2.2.2.1.1
      rw [hτ5, tJ_ne (Or.inl (by omega))]; exact d2 x hx hd) (by rw [hτ5]; exact b14) (by rw [hτ5, tJ_ne (Or.inr (by decide))]; exact t17) (fun _ => by rw [hτ5, tJ_at])
  · have e0 : ns = 0 := by omega
    have l4 := last τ4 f4 d2 b14 t17 (fun w => absurd w cn)
    rw [if_pos (show nI ns ≤ 0 by rw [e0]; decide)]
    rw [show lN G2.1 = lN (sp + 8 * ns) by rw [esp, if_neg cn, e0, Nat.mul_zero, Nat.add_zero]]
    exact l4
end CDU
