/-! layout of the reference, as a whole -/
theorem baN_le {B : Nat → Nat} {pf : List Nat} {p Z V : Nat} : baN B pf p Z V ≤ psz B pf := by
  unfold baN
  split
  · cases e : peO B 0 pf (st B (frm B p (nxt B p V (Z - V)))) with
    | none => exact Nat.le_trans (Nat.sub_le _ _) (Nat.zero_le _)
    | some y =>
      have := peO_le e
      show y - _ ≤ _
      omega
  · exact Nat.le_refl _
theorem psF_le {B : Nat → Nat} {pf : List Nat} {tO : Nat → Nat} {tb : Nat → Nat → Nat} {pp K : Nat} {ad : Nat → Nat} (h : ∀ x, ad x ≤ K) (hK : pp + psz B pf ≤ K) : ∀ x, psF B pf tO tb pp ad x ≤ K := fun x => by
  unfold psF
  have h1 := baN_le (B := B) (pf := pf) (p := pS tO tb x) (Z := zS tb x) (V := 0)
  generalize baN B pf (pS tO tb x) (zS tb x) 0 = y at *
  split
  · omega
  · exact h x
theorem RSeg_oth {σ σ' : px_S} {s s' fp bg fb mb : Nat} (h : RSeg σ s fp bg fb mb) (ho : oth s' σ σ') (hne : s ≠ s') : RSeg σ' s fp bg fb mb := ⟨(ho 60 s (by decide) hne).trans h.1, (ho 61 s (by decide) hne).trans h.2.1, (ho 62 s (by decide) hne).trans h.2.2.1, (ho 63 s (by decide) hne).trans h.2.2.2⟩
theorem RSeg_FR {σ σ' : px_S} {I J A B : List Nat} {s fp bg fb mb : Nat} (h : RSeg σ s fp bg fb mb) (f : FR I J A B σ σ') (hB : ∀ k, k ∈ sgB4 → k ∉ B) : RSeg σ' s fp bg fb mb := by
  unfold RSeg
  rw [f.2.2.2 60 (hB 60 (by decide)), f.2.2.2 61 (hB 61 (by decide)), f.2.2.2 62 (hB 62 (by decide)), f.2.2.2 63 (hB 63 (by decide))]
  exact h
theorem bgN_lt {mem fp : Nat} {th : Bool} : mem ≤ bgN mem fp th ∧ bgN mem fp th < mem + 8192 := by
  have u2 := upN_le (v := mem) (a := 4096) (by decide)
  have := Nat.mod_lt fp (show 4096 > 0 by decide)
  unfold bgN
  split <;> omega
abbrev lyJ : List Nat := [64, 79, 80, 81, 83, 84, 85, 86, 87, 90]
abbrev lyB : List Nat := [29, 57, 58, 60, 61, 62, 63]
section MLB
variable {F m T : Nat} {h : px_H} {σ : px_S} {B : Nat → Nat} {tb : Nat → Nat → Nat} {tO tn tq : Nat → Nat} {dr : Nat → Bool} {xs : px_NL} {ll od : List Nat} {on : Bool} {R rn : Nat → Bool} {ns : Nat} {th : Nat → Bool}
theorem q_layout (hm : m ≤ h.length) (hF : 65540 < F) (hY : LYo T tb ll) (hWP : WP T tb dr xs) (hown : ∀ (i : Nat) (x : List Nat × px_NR), xs[i]? = some x → x.2.2.2.1 < 2 ^ 31) (hW : RWp σ T tO tn tq tb ll B) (hn : ndB B (nd0 B tO tb ll)) (hI : PIn B (nd0 B tO tb ll) (pf0 B tO tb ll)) (hpo : RPo σ B (nd0 B tO tb ll) (pf0 B tO tb ll)) (hd : RDr σ dr) (hs : RSt σ on R) (hS : llS T tb (sta tb dr on R) ll) (hR : RWg σ tq tb ll xs od on rn ns) (hod : ∀ d, d ∈ od → d < xs.length) (hcm : cmOK xs) (hns : ns ≤ 2800) (h13 : gI σ 13 = nI 0) (hth : th = thS tb ll xs od on rn ns) : ∃ (σ' : px_S) (fe0 bg0 : Nat) (G0 : px_PG) (fe1 mem1 bg1 : Nat) (G1 : px_PG) (fe2 mem2 bg2 : Nat) (G4 G5 G2 : px_PG) (sp : Nat) (G3 CM : px_PG) (fe3 : Nat), LYe B tO tb ll xs od ns on rn th fe0 bg0 G0 fe1 mem1 bg1 G1 fe2 mem2 bg2 G4 G5 G2 sp G3 CM fe3 ∧ f_M_layout F m (mh m h σ) = some ((), mh m h σ') ∧ gI σ' 13 = nI (if lyA th (G0.1 - bg0) (G1.1 + psz B (pf0 B tO tb ll) - bg1) (CM.1 - bg2) fe3 = true then 3 else 0) ∧ (gI σ' 15 = nI (sgN th 3) ∧ (∀ j, j < 3 → gA σ' 59 j = bI (th j)) ∧ gI σ' 82 = bI (ll.any (thr1 tb))) ∧ (RSeg σ' 0 (upN fe0 16) bg0 (G0.1 - bg0) (G0.1 - bg0) ∧ RSeg σ' 1 (upN fe1 16) bg1 (G1.1 + psz B (pf0 B tO tb ll) - bg1) (G1.1 + psz B (pf0 B tO tb ll) - bg1) ∧ RSeg σ' 2 (upN fe2 16) bg2 (sp + 8 * ns - bg2) (CM.1 - bg2)) ∧ (gJ σ' 64 = lN fe3 ∧ gJ σ' 79 = lN sp ∧ gJ σ' 90 = lN G1.1 ∧ gJ σ' 87 = lN (tpN bg2 (ll.foldl (ft1 tb G3.2.1) (false, 0, 1, 0)))) ∧ RAd σ' ll (fun _ => True) G3.2.1 ∧ (∀ (j : Nat) (x : List Nat × px_NR), xs[j]? = some x → gB σ' 29 j = naV (ownV B (pf0 B tO tb ll) tO tb dr (sta tb dr on R) G1.1 G3.2.1) (ownK G0.1 bg2 (sp + 8 * ns - bg2) (CM.2.2.getD CM.1) (CM.1 - bg2)) CM.2.1 j x.2) ∧ (∀ x, G3.2.1 x ≤ 2 ^ 39) ∧ FR [13, 15, 82] lyJ [59] lyB σ σ' := by
  have hY0 := hY
  obtain ⟨hT, hl, hnd, hZ⟩ := hY
  have hl1 := hl.1
  have h6 := ar_6 (K := 0) hl1
  have hxl : xs.length ≤ 4096 := by have := hR.2.1.1.2.1; rw [List.length_map] at this; exact this
  have h20 := hR.2.1.1.1
  rw [List.length_map] at h20
  have hol := hR.2.2.1.2.1
  have hsz := PIn_sz hI
  have hoc := Nat.mul_le_mul_right 20480 hol
  -- the names
  obtain ⟨σ1, a1, a2, a3⟩ := q_ly_2 (F := F) (h := h) hm hxl xs.length 0 F σ (by omega) (by omega) h20 (fun q hq => absurd hq (Nat.not_lt_zero q))
  have hR1 := RWg_FR hR a3 (by decide) (by decide) (by decide)
  -- the segments
  obtain ⟨σ2, b1, b2, b3, b4⟩ := q_findSegments (F := F) (h := h) (T := T) hm (by omega) hl (fun x hx => by have := (hZ x hx).1; omega) hWP.2.1 hod (by omega) hR1
  rw [← hth] at b2 b3
  have hR2 := RWg_FR hR1 b4 (by decide) (by decide) (by decide)
  have hit := q_isThreaded (F := F) (h := h) (T := T) hm (by omega) hl (fun x hx => by have := (hZ x hx).1; omega) hR2.1
  have hsg := sgN_le (th := th) 3
  generalize hthr : ll.any (thr1 tb) = thr at *
  obtain ⟨fe0, hfe0⟩ : ∃ x, x = 64 + 56 * sgN th 3 + (if thr = true then 56 else 0) := ⟨_, rfl⟩
  have hfe0b : fe0 ≤ 288 := by rw [hfe0]; split <;> omega
  obtain ⟨σ4, hσ4⟩ : ∃ z, z = sJ (sI σ2 82 (bI thr)) 64 (lN fe0) := ⟨_, rfl⟩
  have f4 : FR [13, 15, 82] lyJ [59] lyB σ2 σ4 := by
    rw [hσ4]
    exact FR_trans (FR_mono (FR_I σ2 82 _) (by decide) (by decide) (by decide) (by decide)) (FR_mono (FR_J _ 64 _) (by decide) (by decide) (by decide) (by decide))
  have f4b : FR [82] [64] [] [] σ2 σ4 := by
    rw [hσ4]
    exact FR_trans (FR_mono (FR_I σ2 82 _) (by decide) (by decide) (by decide) (by decide)) (FR_mono (FR_J _ 64 _) (by decide) (by decide) (by decide) (by decide))
  have F4 : FR [13, 15, 82] lyJ [59] lyB σ σ4 := FR_trans (FR_mono a3 (by decide) (by decide) (by decide) (by decide)) (FR_trans (FR_mono b4 (by decide) (by decide) (by decide) (by decide)) f4)
  have g64 : gJ σ4 64 = lN fe0 := by rw [hσ4, gJ_sJ, if_pos rfl]
  have g82 : gI σ4 82 = bI thr := by rw [hσ4, gI_sJ, gI_sI, if_pos rfl]
  have g59 : ∀ j, j < 3 → gA σ4 59 j = bI (th j) := fun j hj => by rw [f4b.2.2.1 59 (by decide)]; exact b3 j hj
  have g15 : gI σ4 15 = nI (sgN th 3) := by rw [f4b.1 15 (by decide)]; exact b2
  have g13 : gI σ4 13 = nI 0 := by rw [f4b.1 13 (by decide), b4.1 13 (by decide), a3.1 13 (by decide)]; exact h13
  have g29 : ∀ q, q < xs.length → gB σ4 29 q = lN 0 := fun q hq => by rw [f4b.2.2.2 29 (by decide), b4.2.2.2 29 (by decide)]; exact a2 q hq
  have hW4 := RWp_FR hW F4 (by decide) (by decide)
  obtain ⟨F1, hF1⟩ : ∃ x, F = x + 4 := ⟨F - 4, by omega⟩
  -- segment 0
  obtain ⟨bg0, hbg0⟩ : ∃ x, x = bgN 4194304 (upN fe0 16) (th 0) := ⟨_, rfl⟩
  obtain ⟨G0, hG0⟩ : ∃ x, x = ll.foldl (pg1 tb 0 (th 0)) (bg0, (fun _ => 0), none) := ⟨_, rfl⟩
  have w0 := bgN_lt (mem := 4194304) (fp := upN fe0 16) (th := th 0)
  rw [← hbg0] at w0
  have m0 := pgs_m (g := 0) (th := th 0) ll (bg0, (fun _ => 0), none) hZ
  rw [← hG0] at m0
  have m01 : bg0 ≤ G0.1 := m0.1
  have m02 : G0.1 ≤ bg0 + ll.length * 20480 := m0.2
  obtain ⟨σ5, c1, c2, c3, c4, c5, c6⟩ := q_pSeg0 (F := F) (h := h) (fe := fe0) (mem := 4194304) (D := fun _ => False) (ad := fun _ => 0) hm (by omega) hY0 (fun x hx => hx.elim) hW4.1 hW4.2.1 (fun P x _ hx => hx.elim) (g59 0 (by decide)) g64 (by omega) (by decide) G0 (by rw [← hbg0]; exact hG0)
  rw [← hbg0] at c2
  have u0 := upN_le (v := fe0) (a := 16) (by decide)
  obtain ⟨σ6, d1, d2, d3, d4⟩ := q_ly_step (F := F) (g := F1 + 3) hm (by decide) c1 c2 (by rw [c6.2.2.1 59 (by decide)]; exact g59 0 (by decide)) (show gJ σ5 64 = lN fe0 by rw [c6.2.1 64 (by decide)]; exact g64) (by omega) rfl
  have F6 : FR [13, 15, 82] lyJ [59] lyB σ σ6 := FR_trans F4 (FR_trans (FR_mono c6 (by decide) (by decide) (by decide) (by decide)) (FR_mono d4 (by decide) (by decide) (by decide) (by decide)))
  obtain ⟨fe1, hfe1⟩ : ∃ x, x = (if th 0 = true then upN fe0 16 + (G0.1 - bg0) else fe0) := ⟨_, rfl⟩
  obtain ⟨mem1, hmem1⟩ : ∃ x, x = (if th 0 = true then bg0 + (G0.1 - bg0) else 4194304) := ⟨_, rfl⟩
  rw [← hmem1] at d1
  rw [← hfe1] at d2
  have w1 : fe1 < 2 ^ 26 ∧ mem1 < 2 ^ 26 := by rw [hfe1, hmem1]; split <;> omega
  have g596 : ∀ j, j < 3 → gA σ6 59 j = bI (th j) := fun j hj => by rw [d4.2.2.1 59 (by decide), c6.2.2.1 59 (by decide)]; exact g59 j hj
  have hW6 := RWp_FR hW F6 (by decide) (by decide)
  have hpo6 := RPo_FR hpo F6 (by decide) (by decide)
  -- segment 1
  obtain ⟨bg1, hbg1⟩ : ∃ x, x = bgN mem1 (upN fe1 16) (th 1) := ⟨_, rfl⟩
  obtain ⟨G1, hG1⟩ : ∃ x, x = ll.foldl (pg1 tb 1 (th 1)) (bg1, G0.2.1, none) := ⟨_, rfl⟩
  have w1b := bgN_lt (mem := mem1) (fp := upN fe1 16) (th := th 1)
  rw [← hbg1] at w1b
  have m1 := pgs_m (g := 1) (th := th 1) ll (bg1, G0.2.1, none) hZ
  rw [← hG1] at m1
  have m11 : bg1 ≤ G1.1 := m1.1
  have m12 : G1.1 ≤ bg1 + ll.length * 20480 := m1.2
  obtain ⟨σ7, k1, k2, k3, k4, k5, k6⟩ := q_pSeg1 (F := F) (h := h) (fe := fe1) (mem := mem1) (D := fun x => False ∨ cnd tb 0 x = true) (ad := G0.2.1) hm hF hY0 (fun x hx => hx.elim (fun q => q.elim) (fun q => ⟨cnd_x q (by decide), cnd_0s q (by decide)⟩)) hW6 hn hI hpo6 (RAd_FR c4 d4 (by decide)) (g596 1 (by decide)) d2 (by omega) (by omega) G1 (by rw [← hbg1]; exact hG1)
  rw [← hbg1] at k2
  have u1 := upN_le (v := fe1) (a := 16) (by decide)
  generalize hps : psz B (pf0 B tO tb ll) = ps at *
  obtain ⟨σ8, p1, p2, p3, p4⟩ := q_ly_step (F := F) (g := F1 + 2) hm (by decide) k1 k2 (by rw [k6.2.2.1 59 (by decide)]; exact g596 1 (by decide)) (show gJ σ7 64 = lN fe1 by rw [k6.2.1 64 (by decide)]; exact d2) (by omega) rfl
  have F8 : FR [13, 15, 82] lyJ [59] lyB σ σ8 := FR_trans F6 (FR_trans (FR_mono k6 (by decide) (by decide) (by decide) (by decide)) (FR_mono p4 (by decide) (by decide) (by decide) (by decide)))
  obtain ⟨fe2, hfe2⟩ : ∃ x, x = (if th 1 = true then upN fe1 16 + (G1.1 + ps - bg1) else fe1) := ⟨_, rfl⟩
  obtain ⟨mem2, hmem2⟩ : ∃ x, x = (if th 1 = true then bg1 + (G1.1 + ps - bg1) else mem1) := ⟨_, rfl⟩
  rw [← hmem2] at p1
  rw [← hfe2] at p2
  have w2' : fe2 < 2 ^ 27 ∧ mem2 < 2 ^ 28 := by rw [hfe2, hmem2]; split <;> omega
  have g598 : ∀ j, j < 3 → gA σ8 59 j = bI (th j) := fun j hj => by rw [p4.2.2.1 59 (by decide), k6.2.2.1 59 (by decide)]; exact g596 j hj
  have hW8 := RWp_FR hW F8 (by decide) (by decide)
  have hR8 : RWg σ8 tq tb ll xs od on rn ns := RWg_FR hR F8 (by decide) (by decide) (by decide)
  -- segment 2
  obtain ⟨bg2, hbg2⟩ : ∃ x, x = bgN mem2 (upN fe2 16) (th 2) := ⟨_, rfl⟩
  obtain ⟨AD, hAD⟩ : ∃ x, x = psF B (pf0 B tO tb ll) tO tb G1.1 G1.2.1 := ⟨_, rfl⟩
  rw [← hAD] at k4
  obtain ⟨G4, hG4⟩ : ∃ x, x = ll.foldl (pg1 tb 4 (th 2)) (bg2, AD, none) := ⟨_, rfl⟩
  obtain ⟨G5, hG5⟩ : ∃ x, x = ll.foldl (pg1 tb 5 (th 2)) (G4.1, G4.2.1, none) := ⟨_, rfl⟩
  obtain ⟨G2, hG2⟩ : ∃ x, x = ll.foldl (pg1 tb 2 (th 2)) (G4.1, G5.2.1, none) := ⟨_, rfl⟩
  obtain ⟨sp, hsp⟩ : ∃ x, x = (if 0 < ns then upN G2.1 8 else G2.1) := ⟨_, rfl⟩
  obtain ⟨G3, hG3⟩ : ∃ x, x = ll.foldl (pg1 tb 3 (th 2)) (sp + 8 * ns, G2.2.1, none) := ⟨_, rfl⟩
  obtain ⟨CM, hCM⟩ : ∃ x, x = od.foldl (pc1 xs on rn (th 2)) (G3.1, (fun _ => 0), G3.2.2) := ⟨_, rfl⟩
  have hNa8 : RNa σ8 xs.length (fun _ => 0) := fun n hn => by
    rw [p4.2.2.2 29 (by decide), k6.2.2.2 29 (by decide), d4.2.2.2 29 (by decide), c6.2.2.2 29 (by decide)]
    exact g29 n hn
  obtain ⟨σ9, q1, q2, q3, q4, q5, q6, q7, q8⟩ := q_pSeg2 (F := F) (h := h) (fe := fe2) (mem := mem2) (D := fun x => ((False ∨ cnd tb 0 x = true) ∨ cnd tb 1 x = true) ∨ sS tb x = true) (ad := AD) (on := on) (rn := rn) hm (by omega) hY0 (fun x hx => by
    rcases hx with ((q | q) | q) | q
    · exact q.elim
    · exact ⟨cnd_x q (by decide), cnd_x q (by decide), cnd_x q (by decide), cnd_x q (by decide)⟩
    · exact ⟨cnd_x q (by decide), cnd_x q (by decide), cnd_x q (by decide), cnd_x q (by decide)⟩
    · exact ⟨cnd_s q (by decide), cnd_s q (by decide), cnd_s q (by decide), cnd_s q (by decide)⟩) hW8.1 hR8 hWP.2.1 hod hcm hns (RAd_FR k4 p4 (by decide)) hNa8 (g598 2 (by decide)) p2 (by omega) (by omega) bg2 hbg2 G4 G5 G2 G3 CM sp hG4 hG5 hG2 hsp hG3 hCM
  have w2b := bgN_lt (mem := mem2) (fp := upN fe2 16) (th := th 2)
  rw [← hbg2] at w2b
  have m4 := pgs_m (g := 4) (th := th 2) ll (bg2, AD, none) hZ
  rw [← hG4] at m4
  have m41 : bg2 ≤ G4.1 := m4.1
  have m42 : G4.1 ≤ bg2 + ll.length * 20480 := m4.2
  have m2 := pgs_m (g := 2) (th := th 2) ll (G4.1, G5.2.1, none) hZ
  rw [← hG2] at m2
  have m21 : G4.1 ≤ G2.1 := m2.1
  have m22 : G2.1 ≤ G4.1 + ll.length * 20480 := m2.2
  have hspb : G2.1 ≤ sp ∧ sp < G2.1 + 8 := by
    rw [hsp]
    split
    · have := upN_le (v := G2.1) (a := 8) (by decide); omega
    · omega
  have m3 := pgs_m (g := 3) (th := th 2) ll (sp + 8 * ns, G2.2.1, none) hZ
  rw [← hG3] at m3
  have m31 : sp + 8 * ns ≤ G3.1 := m3.1
  have m32 : G3.1 ≤ sp + 8 * ns + ll.length * 20480 := m3.2
  have mc := pcs_m (on := on) (rn := rn) (th := th 2) hcm od (G3.1, (fun _ => 0), G3.2.2) hod
  rw [← hCM] at mc
  have mc1 : G3.1 ≤ CM.1 := mc.1
  have mc2 : CM.1 ≤ G3.1 + od.length * 20480 := mc.2
  have u2 := upN_le (v := fe2) (a := 16) (by decide)
  obtain ⟨σ10, r1, r2, r3, r4⟩ := q_ly_step (F := F) (g := F1 + 1) hm (by decide) q1 q2 (by rw [q8.2.2.1 59 (by decide)]; exact g598 2 (by decide)) (show gJ σ9 64 = lN fe2 by rw [q8.2.1 64 (by decide)]; exact p2) (by omega) rfl
  have F10 : FR [13, 15, 82] lyJ [59] lyB σ σ10 := FR_trans F8 (FR_trans (FR_mono q8 (by decide) (by decide) (by decide) (by decide)) (FR_mono r4 (by decide) (by decide) (by decide) (by decide)))
  obtain ⟨fe3, hfe3⟩ : ∃ x, x = (if th 2 = true then upN fe2 16 + (sp + 8 * ns - bg2) else fe2) := ⟨_, rfl⟩
  rw [← hfe3] at r2
  have w3 : fe3 < 2 ^ 30 := by rw [hfe3]; split <;> omega
  -- where all lies
  have had0 : ∀ x, G0.2.1 x ≤ 2 ^ 39 := by rw [hG0]; exact pg_ad (g := 0) (th := th 0) (K := 2 ^ 39) ll (bg0, (fun _ => 0), none) hZ (fun x => Nat.zero_le _) (show bg0 + ll.length * 20480 ≤ 2 ^ 39 by omega)
  have had1 : ∀ x, G1.2.1 x ≤ 2 ^ 39 := by rw [hG1]; exact pg_ad (g := 1) (th := th 1) (K := 2 ^ 39) ll (bg1, G0.2.1, none) hZ had0 (show bg1 + ll.length * 20480 ≤ 2 ^ 39 by omega)
  have hadS : ∀ x, AD x ≤ 2 ^ 39 := by rw [hAD]; exact psF_le had1 (by rw [hps]; omega)
  have had4 : ∀ x, G4.2.1 x ≤ 2 ^ 39 := by rw [hG4]; exact pg_ad (g := 4) (th := th 2) (K := 2 ^ 39) ll (bg2, AD, none) hZ hadS (show bg2 + ll.length * 20480 ≤ 2 ^ 39 by omega)
  have had5 : ∀ x, G5.2.1 x ≤ 2 ^ 39 := by rw [hG5]; exact pg_ad (g := 5) (th := th 2) (K := 2 ^ 39) ll (G4.1, G4.2.1, none) hZ had4 (show G4.1 + ll.length * 20480 ≤ 2 ^ 39 by omega)
  have had2 : ∀ x, G2.2.1 x ≤ 2 ^ 39 := by rw [hG2]; exact pg_ad (g := 2) (th := th 2) (K := 2 ^ 39) ll (G4.1, G5.2.1, none) hZ had5 (show G4.1 + ll.length * 20480 ≤ 2 ^ 39 by omega)
  have had3 : ∀ x, G3.2.1 x ≤ 2 ^ 39 := by rw [hG3]; exact pg_ad (g := 3) (th := th 2) (K := 2 ^ 39) ll (sp + 8 * ns, G2.2.1, none) hZ had2 (show sp + 8 * ns + ll.length * 20480 ≤ 2 ^ 39 by omega)
  have hA10 : RAd σ10 ll (fun _ => True) G3.2.1 := fun P x hx _ => by
    have := RAd_FR q5 r4 (by decide)
    exact this P x hx cnd_all
  -- the answer
  obtain ⟨an, han⟩ : ∃ x, x = (if lyA th (G0.1 - bg0) (G1.1 + ps - bg1) (CM.1 - bg2) fe3 = true then 3 else 0) := ⟨_, rfl⟩
  have i5 : gI σ5 13 = nI 0 := by rw [c6.1 13 (by decide)]; exact g13
  have i7 : gI σ7 13 = gI σ6 13 := k6.1 13 (by decide)
  have i9 : gI σ9 13 = gI σ8 13 := q8.1 13 (by decide)
  obtain ⟨σ11, s1, s2, s3⟩ : ∃ σ11, f_M_layout_151 F m (mh m h σ10) = f_M_layout_167 F m (mh m h σ11) ∧ gI σ11 13 = nI an ∧ FR [13] [] [] [] σ10 σ11 := by
    unfold f_M_layout_151
    rw [Mg64 hm, bs, r2, show (65536 : Int64) = lN 65536 from rfl]
    have e13 : gI σ10 13 = nI (if ((th 0 && decide (65536 < G0.1 - bg0)) || (th 1 && decide (65536 < G1.1 + ps - bg1)) || (th 2 && decide (65536 < CM.1 - bg2))) = true then 3 else 0) := by
      rw [r3, i9, p3, i7, d3, i5]
      cases (th 0 && decide (65536 < G0.1 - bg0)) <;> cases (th 1 && decide (65536 < G1.1 + ps - bg1)) <;> cases (th 2 && decide (65536 < CM.1 - bg2)) <;> rfl
    have ea : lyA th (G0.1 - bg0) (G1.1 + ps - bg1) (CM.1 - bg2) fe3 = (((th 0 && decide (65536 < G0.1 - bg0)) || (th 1 && decide (65536 < G1.1 + ps - bg1)) || (th 2 && decide (65536 < CM.1 - bg2))) || decide (65536 < fe3)) := by
      unfold lyA
      rw [Bool.or_assoc, Bool.or_assoc, Bool.or_assoc]
    rw [han, ea]
    by_cases c : 65536 < fe3
    · rw [if_neg (fun q => by have := (pk_lLE (show fe3 < 2 ^ 63 by omega) (by decide)).mp q; omega), Mp13 hm, bs, decide_eq_true c, Bool.or_true]
      exact ⟨sI σ10 13 (nI 3), rfl, by rw [gI_sI, if_pos rfl]; rfl, FR_I σ10 13 _⟩
    · rw [if_pos ((pk_lLE (show fe3 < 2 ^ 63 by omega) (by decide)).mpr (by omega)), decide_eq_false c, Bool.or_false]
      exact ⟨σ10, rfl, e13, FR_refl σ10⟩
  have F11 : FR [13, 15, 82] lyJ [59] lyB σ σ11 := FR_trans F10 (FR_mono s3 (by decide) (by decide) (by decide) (by decide))
  have hW11 := RWp_FR hW F11 (by decide) (by decide)
  -- the template
  have RS2 : RSeg σ11 2 (upN fe2 16) bg2 (sp + 8 * ns - bg2) (CM.1 - bg2) := RSeg_FR (RSeg_FR q2 r4 (by decide)) s3 (by decide)
  have hft := ft_le (tb := tb) (ad := G3.2.1) (K := 2 ^ 40) ll (false, 0, 1, 0) (fun x hx => by have := had3 x; have := (hZ x hx).1; omega) (Nat.zero_le _)
  obtain ⟨σ12, t1, t2, t3⟩ := q_findTemplate (F := F) (h := h) (ad := G3.2.1) (bg2 := bg2) hm (by omega) hl hZ hW11.1 hW11.2.1 (fun P x hx _ => RAd_FR hA10 s3 (by decide) P x hx trivial) RS2.2.1 (by omega)
  have F12 : FR [13, 15, 82] lyJ [59] lyB σ σ12 := FR_trans F11 (FR_mono t3 (by decide) (by decide) (by decide) (by decide))
  have hA12 := RAd_FR (RAd_FR hA10 s3 (by decide)) t3 (by decide)
  have RS2' := RSeg_FR RS2 t3 (by decide)
  have j90 : gJ σ12 90 = lN G1.1 := by rw [t3.2.1 90 (by decide), s3.2.1 90 (by decide), r4.2.1 90 (by decide), q8.2.1 90 (by decide), p4.2.1 90 (by decide)]; exact k3
  have j80 : gJ σ12 80 = lN G0.1 := by rw [t3.2.1 80 (by decide), s3.2.1 80 (by decide), r4.2.1 80 (by decide), q8.2.1 80 (by decide), p4.2.1 80 (by decide), k6.2.1 80 (by decide), d4.2.1 80 (by decide)]; exact c3
  have j81 : gJ σ12 81 = lN (CM.2.2.getD CM.1) := by rw [t3.2.1 81 (by decide), s3.2.1 81 (by decide), r4.2.1 81 (by decide)]; exact q4
  have j79 : gJ σ12 79 = lN sp := by rw [t3.2.1 79 (by decide), s3.2.1 79 (by decide), r4.2.1 79 (by decide)]; exact q3
  have j64 : gJ σ12 64 = lN fe3 := by rw [t3.2.1 64 (by decide), s3.2.1 64 (by decide)]; exact r2
  -- the names
  obtain ⟨σ13, v1, v2, v3⟩ := q_ly_173 (F := F) (h := h) (na := CM.2.1) (te := G0.1) (bg2 := bg2) (fb2 := sp + 8 * ns - bg2) (bss := CM.2.2.getD CM.1) (mb2 := CM.1 - bg2) (pp := G1.1) (ad := G3.2.1) hm hF hWP hown hl hn hI hS xs.length 0 F σ12 (by omega) (by omega) (RL_FR hR.2.1 F12 (by decide) (by decide) (by decide)) (RWp_FR hW F12 (by decide) (by decide)) (RPo_FR hpo F12 (by decide) (by decide)) (fun i hi => by rw [F12.2.2.1 65 (by decide)]; exact hd i hi) (RSt_FR hs F12 (by decide) (by decide)) j90 (fun x hx _ => by
    obtain ⟨P, hP⟩ := List.getElem?_of_mem hx
    exact (hA12 P x hP trivial).2) j80 RS2'.2.1 RS2'.2.2.1 j81 RS2'.2.2.2 (fun j _ hj => by rw [t3.2.2.2 29 (by decide), s3.2.2.2 29 (by decide), r4.2.2.2 29 (by decide)]; exact q6 j hj) (fun j x hj => absurd hj (Nat.not_lt_zero j))
  have F13 : FR [13, 15, 82] lyJ [59] lyB σ σ13 := FR_trans F12 (FR_mono v3 (by decide) (by decide) (by decide) (by decide))
  refine ⟨σ13, fe0, bg0, G0, fe1, mem1, bg1, G1, fe2, mem2, bg2, G4, G5, G2, sp, G3, CM, fe3, ?_, ?_, ?_, ⟨?_, ?_, ?_⟩, ⟨?_, ?_, RSeg_FR RS2' v3 (by decide)⟩, ⟨?_, ?_, ?_, ?_⟩, RAd_FR hA12 v3 (by decide), v2, had3, F13⟩
  · unfold LYe
    rw [hps, hthr, ← hAD]
    exact ⟨hfe0, hbg0, hG0, hfe1, hmem1, hbg1, hG1, hfe2, hmem2, hbg2, hG4, hG5, hG2, hsp, hG3, hCM, hfe3⟩
  · unfold f_M_layout
    rw [a1]
    unfold f_M_layout_23
    have q15 : gI (sI σ2 82 (bI thr)) 15 = nI (sgN th 3) := by rw [gI_sI, if_neg (by decide)]; exact b2
    have q82 : gI (sI σ2 82 (bI thr)) 82 = bI thr := by rw [gI_sI, if_pos rfl]
    rw [e_o hm, bs, b1, xb_mk, e_o hm, bs, hit, xb_mk, Mz82 hm, bs, Mg15 hm, bs, q15, Mg82 hm, bs, q82, nI_l (by omega)]
    have e63 : (if bI thr = 0 then f_M_layout_63 F m m ((64 : Int64) + (56 : Int64) * lN (sgN th 3)) (lN 0) (mh m h (sI σ2 82 (bI thr))) else f_M_layout_63 F m m ((64 : Int64) + (56 : Int64) * lN (sgN th 3)) (56 : Int64) (mh m h (sI σ2 82 (bI thr)))) = f_M_layout_73 F F m (4194304 : Int64) (nI 0) (mh m h σ4) := by
      unfold f_M_layout_63
      rw [show (64 : Int64) = lN 64 from rfl, show (56 : Int64) = lN 56 from rfl, lN_mul, lN_add]
      cases ethr : thr with
      | false =>
        rw [ethr, if_neg (by decide)] at hfe0
        rw [if_pos (show bI false = 0 from rfl), lN_add, Mp64 hm, bs, ← hfe0, hσ4, ethr]
      | true =>
        rw [ethr, if_pos rfl] at hfe0
        rw [if_neg (show ¬ bI true = 0 by decide), lN_add, Mp64 hm, bs, ← hfe0, hσ4, ethr]
    rw [e63, show (4194304 : Int64) = lN 4194304 from rfl, show f_M_layout_73 F F m = f_M_layout_73 F (F1 + 4) m by rw [← hF1], d1, p1, r1]
    unfold f_M_layout_73
    rw [if_pos (by decide), s1]
    unfold f_M_layout_167
    rw [e_o hm, bs, t1, xb_mk, v1]
  · rw [v3.1 13 (by decide), t3.1 13 (by decide), s2, han]
  · rw [v3.1 15 (by decide), t3.1 15 (by decide), s3.1 15 (by decide), r4.1 15 (by decide), q8.1 15 (by decide), p4.1 15 (by decide), k6.1 15 (by decide), d4.1 15 (by decide), c6.1 15 (by decide)]; exact g15
  · intro j hj
    rw [v3.2.2.1 59 (by decide), t3.2.2.1 59 (by decide), s3.2.2.1 59 (by decide), r4.2.2.1 59 (by decide), q8.2.2.1 59 (by decide)]; exact g598 j hj
  · rw [v3.1 82 (by decide), t3.1 82 (by decide), s3.1 82 (by decide), r4.1 82 (by decide), q8.1 82 (by decide), p4.1 82 (by decide), k6.1 82 (by decide), d4.1 82 (by decide), c6.1 82 (by decide)]; exact g82
  · exact RSeg_FR (RSeg_FR (RSeg_FR (RSeg_FR (RSeg_oth (RSeg_FR (RSeg_oth (RSeg_FR c2 d4 (by decide)) k5 (by decide)) p4 (by decide)) q7 (by decide)) r4 (by decide)) s3 (by decide)) t3 (by decide)) v3 (by decide)
  · exact RSeg_FR (RSeg_FR (RSeg_FR (RSeg_FR (RSeg_oth (RSeg_FR k2 p4 (by decide)) q7 (by decide)) r4 (by decide)) s3 (by decide)) t3 (by decide)) v3 (by decide)
  · rw [v3.2.1 64 (by decide)]; exact j64
  · rw [v3.2.1 79 (by decide)]; exact j79
  · rw [v3.2.1 90 (by decide)]; exact j90
  · rw [v3.2.1 87 (by decide)]; exact t2
end MLB
