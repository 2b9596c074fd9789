/-! placeSegment of the reference: the third -/
theorem pgs_b {tb : Nat → Nat → Nat} {g : Nat} {th : Bool} : ∀ (l : List Nat) (s : px_PG), (∀ x, x ∈ l → zS tb x ≤ 16384 ∧ alS tb x ≤ 4096) → (∀ v, s.2.2 = some v → v ≤ s.1) → ∀ v, (l.foldl (pg1 tb g th) s).2.2 = some v → v ≤ (l.foldl (pg1 tb g th) s).1 := by
  intro l
  induction l with
  | nil => intro s _ h v hv; exact h v hv
  | cons x l ih =>
    intro s hz h
    rw [List.foldl_cons]
    refine ih _ (fun y hy => hz y (List.mem_cons_of_mem _ hy)) (fun v hv => ?_)
    have hm := pg1_m (g := g) (th := th) (s := s) (hz x List.mem_cons_self)
    unfold pg1 at hv hm ⊢
    by_cases c : cnd tb g x = true
    · rw [if_pos c] at hv hm ⊢
      have hv : (if g = 3 then some (s.2.2.getD (pgA tb th s.1 x)) else s.2.2) = some v := hv
      show v ≤ pgA tb th s.1 x + zS tb x
      have hm : s.1 ≤ pgA tb th s.1 x + zS tb x ∧ _ := hm
      by_cases c3 : g = 3
      · rw [if_pos c3] at hv
        have := Option.some.inj hv
        cases e : s.2.2 with
        | none => rw [e] at this; have : pgA tb th s.1 x = v := this; omega
        | some w => rw [e] at this; have h6 : w = v := this; have := h w e; omega
      · rw [if_neg c3] at hv
        have := h v hv
        omega
    · rw [if_neg c] at hv ⊢
      exact h v hv
theorem cnd_x {tb : Nat → Nat → Nat} {g g' x : Nat} (h : cnd tb g x = true) (hne : g ≠ g') : cnd tb g' x = false := by
  unfold cnd at *
  rw [Bool.and_eq_true] at h
  rw [decide_eq_false (fun q => hne ((of_decide_eq_true h.1).symm.trans q)), Bool.false_and]
section MSZ
variable {F m T : Nat} {h : px_H} {tb : Nat → Nat → Nat} {tO tn tq : Nat → Nat} {ll od : List Nat} {D : Nat → Prop} {ad : Nat → Nat} {xs : px_NL} {on : Bool} {rn : Nat → Bool}
theorem q_pSeg2 {σ : px_S} {fe mem ns : Nat} {th : Bool} {na : Nat → Nat} (hm : m ≤ h.length) (hF : 65536 < F) (hY : LYo T tb ll) (hD : ∀ x, D x → cnd tb 4 x = false ∧ cnd tb 5 x = false ∧ cnd tb 2 x = false ∧ cnd tb 3 x = false) (hB : ∀ t, t < T → OB σ t (tO t) (tn t) (tb t)) (hR : RWg σ tq tb ll xs od on rn ns) (hok : okL xs) (hod : ∀ d, d ∈ od → d < xs.length) (hcm : cmOK xs) (hns : ns ≤ 2800) (hA : RAd σ ll D ad) (hNa : RNa σ xs.length na) (h59 : gA σ 59 2 = bI th) (h64 : gJ σ 64 = lN fe) (hfe : fe < 2 ^ 37) (hmem : mem < 2 ^ 37) (bg : Nat) (hbg0 : bg = bgN mem (upN fe 16) th) (G4 G5 G2 G3 CM : px_PG) (sp : Nat) (e4 : G4 = ll.foldl (pg1 tb 4 th) (bg, ad, none)) (e5 : G5 = ll.foldl (pg1 tb 5 th) (G4.1, G4.2.1, none)) (e2 : G2 = ll.foldl (pg1 tb 2 th) (G4.1, G5.2.1, none)) (esp : sp = if 0 < ns then upN G2.1 8 else G2.1) (e3 : G3 = ll.foldl (pg1 tb 3 th) (sp + 8 * ns, G2.2.1, none)) (ec : CM = od.foldl (pc1 xs on rn th) (G3.1, na, G3.2.2)) : ∃ σ', f_M_placeSegment F m (nI 2) (lN mem) (mh m h σ) = some ((), mh m h σ') ∧ RSeg σ' 2 (upN fe 16) bg (sp + 8 * ns - bg) (CM.1 - bg) ∧ gJ σ' 79 = lN sp ∧ gJ σ' 81 = lN (CM.2.2.getD CM.1) ∧ RAd σ' ll (fun x => D x ∨ cnd tb 4 x = true ∨ cnd tb 5 x = true ∨ cnd tb 2 x = true ∨ cnd tb 3 x = true) G3.2.1 ∧ RNa σ' xs.length CM.2.1 ∧ oth 2 σ σ' ∧ FR [] [79, 81] [] [29, 57, 58, 60, 61, 62, 63] σ σ' := by
  obtain ⟨hT, hl, hnd, hZ⟩ := hY
  have hl1 := hl.1
  have h6 := ar_6 (K := 0) hl1
  have u1 := upN_le (v := fe) (a := 16) (by decide)
  have u2 := upN_le (v := mem) (a := 4096) (by decide)
  have hbg : bg < mem + 8192 := by rw [hbg0]; unfold bgN; have := Nat.mod_lt (upN fe 16) (show 4096 > 0 by decide); split <;> omega
  obtain ⟨σ1, a1, a2, a3, a4, a5⟩ := q_pSeg_pre (F := F) (h := h) (s := 2) hm (by decide) h59 h64 (by omega) (show mem < 2 ^ 50 by omega)
  rw [← hbg0] at a1 a3
  have hR1 := RWg_FR hR a5 (by decide) (by decide) (by decide)
  obtain ⟨σ2, b1, b2, b3, b4, b5⟩ := q_placeGroup (F := F) (h := h) (g := 4) (th := th) (D := D) (s := (bg, ad, none)) hm hF hT hl hnd hZ (by decide) (fun x hx => (hD x hx).1) (fun t ht => OB_FR (hB t ht) a5 (by decide)) hR1.1 (show bg < _ by omega) (fun v hv => nomatch hv) (RAd_FR hA a5 (by decide)) (fun q => absurd q (by decide))
  rw [← e4] at b1 b2
  have m4 := pgs_m (g := 4) (th := th) ll (bg, ad, none) hZ
  rw [← e4] at m4
  have m41 : bg ≤ G4.1 := m4.1
  have m42 : G4.1 ≤ bg + ll.length * 20480 := m4.2
  have F2 : FR [] [79, 81] [] [29, 57, 58, 60, 61, 62, 63] σ σ2 := FR_trans (FR_mono a5 (by decide) (by decide) (by decide) (by decide)) (FR_mono b5 (by decide) (by decide) (by decide) (by decide))
  have hR2 := RWg_FR hR F2 (by decide) (by decide) (by decide)
  obtain ⟨σ3, c1, c2, c3, c4, c5⟩ := q_placeGroup (F := F) (h := h) (g := 5) (th := th) (D := fun x => D x ∨ cnd tb 4 x = true) (s := (G4.1, G4.2.1, none)) hm hF hT hl hnd hZ (by decide) (fun x hx => hx.elim (fun q => (hD x q).2.1) (fun q => cnd_x q (by decide))) (fun t ht => OB_FR (hB t ht) F2 (by decide)) hR2.1 (show G4.1 < _ by omega) (fun v hv => nomatch hv) b2 (fun q => absurd q (by decide))
  rw [← e5] at c1 c2
  have F3 := FR_trans F2 (FR_mono c5 (I' := []) (J' := [79, 81]) (A' := []) (B' := [29, 57, 58, 60, 61, 62, 63]) (by decide) (by decide) (by decide) (by decide))
  have hR3 := RWg_FR hR F3 (by decide) (by decide) (by decide)
  obtain ⟨σ4, d1, d2, d3, d4, d5⟩ := q_placeGroup (F := F) (h := h) (g := 2) (th := th) (D := fun x => (D x ∨ cnd tb 4 x = true) ∨ cnd tb 5 x = true) (s := (G4.1, G5.2.1, none)) hm hF hT hl hnd hZ (by decide) (fun x hx => hx.elim (fun q => q.elim (fun q => (hD x q).2.2.1) (fun q => cnd_x q (by decide))) (fun q => cnd_x q (by decide))) (fun t ht => OB_FR (hB t ht) F3 (by decide)) hR3.1 (show G4.1 < _ by omega) (fun v hv => nomatch hv) c2 (fun q => absurd q (by decide))
  rw [← e2] at d1 d2
  have m2 := pgs_m (g := 2) (th := th) ll (G4.1, G5.2.1, none) hZ
  rw [← e2] at m2
  have m21 : G4.1 ≤ G2.1 := m2.1
  have m22 : G2.1 ≤ G4.1 + ll.length * 20480 := m2.2
  have F4 := FR_trans F3 (FR_mono d5 (I' := []) (J' := [79, 81]) (A' := []) (B' := [29, 57, 58, 60, 61, 62, 63]) (by decide) (by decide) (by decide) (by decide))
  have hsp : G2.1 ≤ sp ∧ sp < G2.1 + 8 := by
    rw [esp]
    split
    · have := upN_le (v := G2.1) (a := 8) (by decide); omega
    · omega
  obtain ⟨σ5, hσ5⟩ : ∃ z, z = sJ (sJ σ4 79 (lN sp)) 81 (-1 : Int64) := ⟨_, rfl⟩
  have f5 : FR [] [79, 81] [] [29, 57, 58, 60, 61, 62, 63] σ4 σ5 := by
    rw [hσ5]
    exact FR_trans (FR_mono (FR_J σ4 79 _) (by decide) (by decide) (by decide) (by decide)) (FR_mono (FR_J _ 81 _) (by decide) (by decide) (by decide) (by decide))
  have f5b : FR [] [79, 81] [] [] σ4 σ5 := by
    rw [hσ5]
    exact FR_trans (FR_mono (FR_J σ4 79 _) (by decide) (by decide) (by decide) (by decide)) (FR_mono (FR_J _ 81 _) (by decide) (by decide) (by decide) (by decide))
  have F5 := FR_trans F4 f5
  have hR5 := RWg_FR hR F5 (by decide) (by decide) (by decide)
  have g81 : gJ σ5 81 = (-1 : Int64) := by rw [hσ5, gJ_sJ, if_pos rfl]
  have g79 : gJ σ5 79 = lN sp := by rw [hσ5, gJ_sJ, if_neg (by decide), gJ_sJ, if_pos rfl]
  obtain ⟨σ6, k1, k2, k3, k4, k5⟩ := q_placeGroup (F := F) (h := h) (g := 3) (th := th) (D := fun x => ((D x ∨ cnd tb 4 x = true) ∨ cnd tb 5 x = true) ∨ cnd tb 2 x = true) (s := (sp + 8 * ns, G2.2.1, none)) hm hF hT hl hnd hZ (by decide) (fun x hx => hx.elim (fun q => q.elim (fun q => q.elim (fun q => (hD x q).2.2.2) (fun q => cnd_x q (by decide))) (fun q => cnd_x q (by decide))) (fun q => cnd_x q (by decide))) (fun t ht => OB_FR (hB t ht) F5 (by decide)) hR5.1 (show sp + 8 * ns < _ by omega) (fun v hv => nomatch hv) (RAd_FR d2 f5b (by decide)) (fun _ => g81)
  rw [← e3] at k1 k2 k3
  have m3 := pgs_m (g := 3) (th := th) ll (sp + 8 * ns, G2.2.1, none) hZ
  rw [← e3] at m3
  have m31 : sp + 8 * ns ≤ G3.1 := m3.1
  have m32 : G3.1 ≤ sp + 8 * ns + ll.length * 20480 := m3.2
  have hb3 := pgs_b (g := 3) (th := th) ll (sp + 8 * ns, G2.2.1, none) hZ (fun v hv => nomatch hv)
  rw [← e3] at hb3
  have F6 := FR_trans F5 (FR_mono k5 (I' := []) (J' := [79, 81]) (A' := []) (B' := [29, 57, 58, 60, 61, 62, 63]) (by decide) (by decide) (by decide) (by decide))
  have hR6 := RWg_FR hR F6 (by decide) (by decide) (by decide)
  have hNa6 : RNa σ6 xs.length na := fun n hn => by
    rw [k5.2.2.2 29 (by decide), f5b.2.2.2 29 (by decide), d5.2.2.2 29 (by decide), c5.2.2.2 29 (by decide), b5.2.2.2 29 (by decide), a5.2.2.2 29 (by decide)]
    exact hNa n hn
  obtain ⟨σ7, p1, p2, p3, p4, p5⟩ := q_placeCommons (F := F) (h := h) (th := th) (on := on) (rn := rn) (s := (G3.1, na, G3.2.2)) hm hF hok hod hcm hR6.2.1 hR6.2.2.1 hR6.2.2.2.1 (show G3.1 < _ by omega) (fun v hv => by have := hb3 v hv; omega) hNa6 (k3 rfl)
  rw [← ec] at p1 p2 p3 p4
  have mc := pcs_m (on := on) (rn := rn) (th := th) hcm od (G3.1, na, G3.2.2) hod
  rw [← ec] at mc
  have mc1 : G3.1 ≤ CM.1 := mc.1
  have F7 := FR_trans F6 (FR_mono p5 (I' := []) (J' := [79, 81]) (A' := []) (B' := [29, 57, 58, 60, 61, 62, 63]) (by decide) (by decide) (by decide) (by decide))
  have q79 : gJ σ7 79 = lN sp := by rw [p5.2.1 79 (by decide), k5.2.1 79 (by decide)]; exact g79
  -- the last steps
  have f8 := FR_J σ7 81 (lN (CM.2.2.getD CM.1))
  obtain ⟨σ9, r1, r2, r3, r4, r5⟩ := q_pSeg_246 (F := F) (h := h) (σ := sJ σ7 81 (lN (CM.2.2.getD CM.1))) (s := 2) (bg := bg) (at1 := CM.1) (top := sp + 8 * ns) hm (by decide) (by omega) (by omega)
  have e169 : ∀ w, f_M_placeSegment_169 F m (nI 2) (lN bg) m (lN sp) (mh m h σ4) = w → w = some ((), mh m h σ9) := by
    intro w hw
    rw [← hw]
    unfold f_M_placeSegment_169 f_M_placeSegment_243
    have q74 : gI (sJ σ4 79 (lN sp)) 74 = nI ns := by rw [gI_sJ, F4.1 74 (by decide)]; exact hR.2.2.2.2
    have p59 : gA σ5 59 2 = bI th := by rw [F5.2.2.1 59 (by decide)]; exact h59
    have p592 : gA σ6 59 2 = bI th := by rw [F6.2.2.1 59 (by decide)]; exact h59
    have et : lN sp + (8 : Int64) * lN ns = lN (sp + 8 * ns) := by rw [show (8 : Int64) = lN 8 from rfl, lN_mul, lN_add]
    rw [Mp79 hm, bs, Mg79 hm, bs, gJ_sJ, if_pos rfl, Mg74 hm, bs, q74, nI_l (by omega), et, Mp81 hm, bs, ← hσ5, Mr59 hm, bs, Ma59 hm (by decide), bs, p59, e_o hm, bs, k1, xb_mk, Mr59 hm, bs, Ma59 hm (by decide), bs, p592, e_o hm, bs, p1, xb_mk, Mg81 hm, bs, p3]
    cases eb : CM.2.2 with
    | none =>
      rw [if_neg (show ¬ lN 0 ≤ bsV none by decide), Mp81 hm, bs]
      rw [eb] at r1
      exact r1
    | some v =>
      have hv := p4 v eb
      rw [eb] at r1
      rw [if_pos (show lN 0 ≤ bsV (some v) from (pk_lLE (by decide) (by omega)).mpr (Nat.zero_le _)), bs, show bsV (some v) = lN v from rfl, Mp81 hm, bs]
      exact r1
  refine ⟨σ9, ?_, ⟨?_, ?_, r2, r3⟩, ?_, ?_, ?_, ?_, ?_, ?_⟩
  · rw [a1]
    have p59 : gA σ1 59 2 = bI th := by rw [a5.2.2.1 59 (by decide)]; exact h59
    have p592 : gA σ2 59 2 = bI th := by rw [F2.2.2.1 59 (by decide)]; exact h59
    have p593 : gA σ3 59 2 = bI th := by rw [F3.2.2.1 59 (by decide)]; exact h59
    have q74 : gI σ4 74 = nI ns := by rw [F4.1 74 (by decide)]; exact hR.2.2.2.2
    unfold f_M_placeSegment_68 f_M_placeSegment_116 f_M_placeSegment_126 f_M_placeSegment_139
    rw [Mr59 hm, bs, Ma59 hm (by decide), bs, p59, e_o hm, bs, if_neg (show ¬ 2 < 2 by decide), b1, xb_mk, if_pos rfl, Mr59 hm, bs, Ma59 hm (by decide), bs, p592, e_o hm, bs, c1, xb_mk, Mr59 hm, bs, Ma59 hm (by decide), bs, p593, e_o hm, bs, d1, xb_mk, if_neg (show ¬ nI 2 = 0 by decide), if_neg (show ¬ nI 2 = nI 1 by decide), if_pos rfl, Mg74 hm, bs, q74]
    by_cases cn : 0 < ns
    · rw [if_pos cn] at esp
      rw [if_neg (show ¬ nI ns ≤ 0 from nI_ge (a := 0) cn (by omega)), show (8 : Int64) = lN 8 from rfl, q_up (by decide) (by omega), xb_mk, ← esp]
      exact e169 _ rfl
    · rw [if_neg cn] at esp
      rw [if_pos (show nI ns ≤ 0 by rw [show ns = 0 by omega]; decide), ← esp]
      exact e169 _ rfl
  · rw [r5.2.2.2 60 (by decide), f8.2.2.2 60 (by decide), p5.2.2.2 60 (by decide), k5.2.2.2 60 (by decide), f5b.2.2.2 60 (by decide), d5.2.2.2 60 (by decide), c5.2.2.2 60 (by decide), b5.2.2.2 60 (by decide)]; exact a2
  · rw [r5.2.2.2 61 (by decide), f8.2.2.2 61 (by decide), p5.2.2.2 61 (by decide), k5.2.2.2 61 (by decide), f5b.2.2.2 61 (by decide), d5.2.2.2 61 (by decide), c5.2.2.2 61 (by decide), b5.2.2.2 61 (by decide)]; exact a3
  · rw [r5.2.1 79 (by decide), f8.2.1 79 (by decide)]; exact q79
  · rw [r5.2.1 81 (by decide), gJ_sJ, if_pos rfl]
  · intro P x hx hd
    rw [r5.2.2.2 57 (by decide), r5.2.2.2 58 (by decide), f8.2.2.2 57 (by decide), f8.2.2.2 58 (by decide), p5.2.2.2 57 (by decide), p5.2.2.2 58 (by decide)]
    refine k2 P x hx ?_
    rcases hd with q | q | q | q | q
    · exact Or.inl (Or.inl (Or.inl (Or.inl q)))
    · exact Or.inl (Or.inl (Or.inl (Or.inr q)))
    · exact Or.inl (Or.inl (Or.inr q))
    · exact Or.inl (Or.inr q)
    · exact Or.inr q
  · intro n hn
    rw [r5.2.2.2 29 (by decide), f8.2.2.2 29 (by decide)]; exact p2 n hn
  · exact oth_tr a4 (oth_tr (oth_FR b5 (by decide)) (oth_tr (oth_FR c5 (by decide)) (oth_tr (oth_FR d5 (by decide)) (oth_tr (oth_FR f5b (by decide)) (oth_tr (oth_FR k5 (by decide)) (oth_tr (oth_FR p5 (by decide)) (oth_tr (oth_FR f8 (by decide)) r4)))))))
  · exact FR_trans F7 (FR_trans (FR_mono f8 (by decide) (by decide) (by decide) (by decide)) (FR_mono r5 (by decide) (by decide) (by decide) (by decide)))
end MSZ
