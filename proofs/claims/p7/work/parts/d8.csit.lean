/-! a site of the class, whole -/
theorem rov_c {H : Nat} {v : Int64} (h0 : H ≠ 0) (hH : wd H ≠ 16) : (decide (wd H = 8) || (if H = 10 then decide (((v.toUInt64 >>> ((nI 32).toInt64.toUInt64 &&& Int64.toUInt64 63)).toInt64) = lN 0) else decide (v = v.toInt32.toInt64))) = !(decide (H ≠ 0) && rov H v) := by
  rw [decide_eq_true h0, Bool.true_and]
  unfold rov
  by_cases c1 : H = 1 ∨ H = 18
  · have e8 : wd H = 8 := by unfold wd; rw [if_pos c1]
    rw [decide_eq_true e8, Bool.true_or, if_pos (by omega)]; rfl
  · have e8 : ¬ wd H = 8 := by unfold wd; rw [if_neg c1]; split <;> (try split) <;> omega
    rw [decide_eq_false e8, Bool.false_or, if_neg (show ¬ (H < 2 ∨ H = 18) by omega)]
    by_cases c2 : H = 10
    · rw [if_pos c2, if_pos c2, Bool.not_not]
    · rw [if_neg c2, if_neg c2, fit_rov]
/-- what is put at a site -/
def siW (p : Int32) (H Lv K : Nat) (v : Int64) (y : px_FW) : px_FW := if H = 0 then y else if K = 0 then wSet (p + nI Lv) (wd H) v y else shW (p + nI Lv) K v y
section CFU
variable {F : Nat} {c : px_CT} {sk : Nat → Nat × Nat × Nat} {L : Nat} {τ : px_TT} {own : Nat → Nat × Nat} {fs : px_FS} {s : px_TK} {xs : px_NL} {ST rn : Nat → Bool} {C B : Nat → Nat} {ll sl cpf : List Nat} {tO : Nat → Nat} {th : Nat → Bool} {NA : Nat → Int64} {pp : Nat} {ad : Nat → Nat} {fe3 tp sp fp0 fp1 fp2 bg0 bg1 bg2 : Nat} {on : Bool} {R rn0 : Nat → Bool} {t i j : Nat} {SV : Nat → Nat → Nat → Int64}
theorem skB_c {X Y H K : Nat} (hK : K = skB X Y H) (h0 : K ≠ 0) : (X = 139 → K = 1) ∧ (X ≠ 139 → Y = 21 → K = 2) ∧ (X ≠ 139 → Y ≠ 21 → K = 3) := by
  unfold skB at hK
  by_cases c1 : X = 139 ∧ (Y ^^^ 5) &&& 199 = 0
  · rw [if_pos c1] at hK
    exact ⟨fun _ => hK, fun q => absurd c1.1 q, fun q => absurd c1.1 q⟩
  · rw [if_neg c1] at hK
    by_cases c2 : H = 41 ∧ X = 255
    · rw [if_pos c2] at hK
      refine ⟨fun q => by omega, fun _ e => ?_, fun _ e => ?_⟩
      · rw [if_pos e] at hK; exact hK
      · rw [if_neg e] at hK
        by_cases c3 : Y = 37
        · rw [if_pos c3] at hK; exact hK
        · rw [if_neg c3] at hK; exact absurd hK h0
    · rw [if_neg c2] at hK; exact absurd hK h0
theorem k_fillSite (hF : 65536 < F) (hr : STr fs s on R ST) (hc : KT c) (hW : WP s.2.2.1.length (tB fs s.2.2.1) s.2.1.1 xs) (hro : RRo s.2.2.1.length (tB fs s.2.2.1) s.2.1.1 xs on R rn0) (hsl : sl = slL s.2.2.1.length (tB fs s.2.2.1) s.2.1.1 xs (sta (tB fs s.2.2.1) s.2.1.1 on R)) (hns : sl.length ≤ 2800) (hSV : SV = svF B tO (tB fs s.2.2.1) s.2.1.1 xs (sta (tB fs s.2.2.1) s.2.1.1 on R) ll sl NA ad sp tp pp) (hL : LAD sk L own τ fs s xs ST rn ll sl C B cpf tO th NA pp ad fe3 tp sp fp0 fp1 fp2 bg0 bg1 bg2) (h : rF sk L τ) (ht : t < s.2.2.1.length) (hi : i < oS (tB fs s.2.2.1 t)) (hs : isS (tB fs s.2.2.1 t) i = true) (hst : ST (24 * t + oI (tB fs s.2.2.1 t) i) = true) (hj : j < sN (tB fs s.2.2.1 t) i) : ∃ τ', f_Filler_fillSite F c 1710 (nI t) (nI (sP (tB fs s.2.2.1 t) i j)) (some (152 + (24 * t + oI (tB fs s.2.2.1 t) i))) (cH sk L τ) = some (bI (!ovJ SV (tB fs s.2.2.1) t i j), cH sk L τ') ∧ rF sk L τ' ∧ fF τ τ' ∧ ∀ y, fC τ y → fC τ' (siW (spV τ fs s (24 * t + oI (tB fs s.2.2.1 t) i)) (sH (tB fs s.2.2.1 t) i j) (sL (tB fs s.2.2.1 t) i j) (skY (tB fs s.2.2.1) s.2.1.1 xs t i j) (SV t i j) y) := by
  have hk := hL.1.1
  have hS := hk.1
  have hR := hk.2.1
  have hT := BK_T (s := s) hk.2.2.2.2.1.1
  obtain ⟨q, q1, q2, hD, hcb, he, hp, hRS, h89⟩ := TKe_ob hk ht
  have oq := hD.1.1.1.1.1
  obtain ⟨hyo, hS24, hM64⟩ := TKe_ys hk t ht
  obtain ⟨hpl, hy⟩ := s_place he hi hs hj
  obtain ⟨s1, s2, s3, s4⟩ := k_site (F := F) (c := c) hD (by omega) hcb hpl
  have hsit := eSit_0 he (isS_1 he hs) hi hs
  have hok := sOK_0w (hsit.2.2.2.2.2 j hj)
  have hH := wd_42 hok.1
  have hi1 := isS_1 he hs
  have hoI := hsit.1
  have hx24 : 24 * t + oI (tB fs s.2.2.1 t) i < 24 * s.2.2.1.length := by omega
  have hkp := hL.1.2.1.1 _ hx24 hst
  rw [show (24 * t + oI (tB fs s.2.2.1 t) i) / 24 = t by omega, show (24 * t + oI (tB fs s.2.2.1 t) i) % 24 = oI (tB fs s.2.2.1 t) i by omega] at hkp
  have hp7 := ((hp (oI (tB fs s.2.2.1 t) i) (by omega)).2.2.2.2.2.1 hkp.1).2.2
  have opp := G_part hS (show 24 * t + oI (tB fs s.2.2.1 t) i < 1536 by omega)
  have hxl := hL.1.2.1.2.2 _ hx24 hst
  have h11 := hL.2.2.2.2.2.1 _ hxl
  have h17 := hL.2.2.2.2.2.2.2.1
  have hsta : sta (tB fs s.2.2.1) s.2.1.1 on R t (oI (tB fs s.2.2.1 t) i) = true := by
    have e := STr_i hr ht (oI (tB fs s.2.2.1 t) i) (by omega)
    rw [hst] at e
    unfold sta
    unfold kpB at e
    rw [decide_eq_true hoI, Bool.true_and] at e
    exact e.symm
  have ksh := k_isShort (F := F) (c := c) hk hL.1.2.1.1 (by omega) hW ht hi hs hst hj
  have ksa := k_symbolAddress (F := F) (c := c) (NA := NA) hF hL.1 hr hL.2.2.2.2.1 ht hy
  have kso := fun b => k_slotOf (F := F) (c := c) (th := b) hk hL.2.2.1.1 ht hy
  have kob := k_object (F := F) (c := c) hk q1
  have hsp := k_spotOf (F := F) (c := c) hc hL hx24 hst
  have hZ16 := (eObj_a he hoI hsit.2.1).1
  have hb16 : bsO fs q + tNf fs s.2.2.1 t ≤ 65536 := hD.1.1.1.1.2.2.2.2.2.2.2.2.1
  have s1' : f_ObjectFile_num F c (10 + 2 * q) (nI (sP (tB fs s.2.2.1 t) i j)) (nI 8) (cH sk L τ) = some (lN (sL (tB fs s.2.2.1 t) i j), cH sk L τ) := by unfold sL; exact s1
  have s4' : f_ObjectFile_num F c (10 + 2 * q) (nI (sP (tB fs s.2.2.1 t) i j + 16)) (nI 8) (cH sk L τ) = some (lN (sD (tB fs s.2.2.1 t) i j), cH sk L τ) := by unfold sD; exact s4
  have hsD : sD (tB fs s.2.2.1 t) i j < 2 ^ 64 := by unfold sD; rw [← hcb]; exact le_lt (fun k => cb_lt _ _ _ k) _ 8
  have ksw := k_siteWidth (F := F) (c := c) (x := sH (tB fs s.2.2.1 t) i j) (h := cH sk L τ) (by omega)
  have eSV : SV t i j = siV B (pf0 B tO (tB fs s.2.2.1) ll) tO (tB fs s.2.2.1) s.2.1.1 xs (sta (tB fs s.2.2.1) s.2.1.1 on R) sl (syA (tB fs s.2.2.1) xs (ownV B (pf0 B tO (tB fs s.2.2.1) ll) tO (tB fs s.2.2.1) s.2.1.1 (sta (tB fs s.2.2.1) s.2.1.1 on R) pp ad) NA) (siA (tB fs s.2.2.1) ad t i j) sp tp pp t i j := by rw [hSV]; rfl
  have eOV : ovJ SV (tB fs s.2.2.1) t i j = (decide (sH (tB fs s.2.2.1 t) i j ≠ 0) && rov (sH (tB fs s.2.2.1 t) i j) (SV t i j)) := rfl
  have eSI : siA (tB fs s.2.2.1) ad t i j = lN (ad (24 * t + oI (tB fs s.2.2.1 t) i) + sL (tB fs s.2.2.1 t) i j) := rfl
  rw [eOV]
  unfold f_Filler_fillSite
  rw [C1r0 (G1710 hS) (GR_r (v := 147) hR (by decide)), bs, c_o (G147 hS), bs, kob, xb_mk, bs, c_o oq, bs, nI_add, s2, xb_mk, lN_i, nI_l (by omega), ksw, xb_mk, c_o oq, bs, s1', xb_mk]
  by_cases c0 : sH (tB fs s.2.2.1 t) i j = 0
  · refine ⟨τ, ?_, h, frRw_refl, fun y hy => by unfold siW; rw [if_pos c0]; exact hy⟩
    rw [if_neg (show ¬ 0 < wI (sH (tB fs s.2.2.1 t) i j) by rw [c0]; decide), decide_eq_false (fun q => q c0), Bool.false_and]
    rfl
  · have hw : wd (sH (tB fs s.2.2.1 t) i j) = 4 ∨ wd (sH (tB fs s.2.2.1 t) i j) = 8 := by
      rcases wd_cases (sH (tB fs s.2.2.1 t) i j) with e | e | e | e
      · exact Or.inr e
      · exact Or.inl e
      · exfalso
        unfold wd at e
        split at e
        · omega
        · split at e
          · omega
          · first | omega | (split at e <;> omega)
      · exact absurd e hok.1
    have ewI : wI (sH (tB fs s.2.2.1 t) i j) = nI (wd (sH (tB fs s.2.2.1 t) i j)) := by unfold wI; rw [if_neg hok.1]
    have hsL : sL (tB fs s.2.2.1 t) i j + wd (sH (tB fs s.2.2.1 t) i j) ≤ oZ (tB fs s.2.2.1 t) (oI (tB fs s.2.2.1 t) i) := by
      rcases hok.2.2 with e | e
      · omega
      · exact e.2
    have hT8 : oT (tB fs s.2.2.1 t) (oI (tB fs s.2.2.1 t) i) ≠ 8 := by
      rcases hok.2.2 with e | e
      · omega
      · exact e.1
    rw [ewI, if_pos (show 0 < nI (wd (sH (tB fs s.2.2.1 t) i j)) from nI_lt (a := 0) (by omega) (by omega)), C1r0 (G1710 hS) (GR_r (v := 147) hR (by decide)), bs, c_o (G147 hS), bs, ksh, xb_mk]
    by_cases ck : skY (tB fs s.2.2.1) s.2.1.1 xs t i j = 0
    · have eW : ∀ v y, siW (spV τ fs s (24 * t + oI (tB fs s.2.2.1 t) i)) (sH (tB fs s.2.2.1 t) i j) (sL (tB fs s.2.2.1 t) i j) (skY (tB fs s.2.2.1) s.2.1.1 xs t i j) v y = wSet (spV τ fs s (24 * t + oI (tB fs s.2.2.1 t) i) + nI (sL (tB fs s.2.2.1 t) i j)) (wd (sH (tB fs s.2.2.1 t) i j)) v y := fun v y => by unfold siW; rw [if_neg c0, if_pos ck]
      rw [decide_eq_false (fun q => q ck), if_pos (show bI false = 0 from rfl), c_o oq, bs, nI_add, s3, xb_mk, c_o oq, bs, nI_add, s4', xb_mk, lN_i, lN_i]
      have ksf := k_sumFor (F := F) (c := c) (NA := NA) (how := sH (tB fs s.2.2.1 t) i j) (A := sD (tB fs s.2.2.1 t) i j) hF hL.1 hr hW hL.2.2.2.2.1 ht hy (by omega) hsD (fun x hx => reach_st hro ht hi1 hi hs hj c0 hsta hx)
      have ehit : isSl (sH (tB fs s.2.2.1 t) i j) = true → ∃ ix, ixB (skE (tB fs s.2.2.1) xs (zOf t (sY (tB fs s.2.2.1 t) i j) (sH (tB fs s.2.2.1 t) i j))) 0 sl = some ix := fun e => by
        have := slL_hit (T := s.2.2.1.length) (tb := tB fs s.2.2.1) (dr := s.2.1.1) (xs := xs) (sy := sta (tB fs s.2.2.1) s.2.1.1 on R) ht hi1 hi hs hsta hj e ck
        rw [← hsl] at this
        exact Option.isSome_iff_exists.mp this
      have h13 := hL.2.2.2.2.2.2.1
      rw [eSV]
      unfold siV slX
      rw [if_neg (show ¬ 0 < skY (tB fs s.2.2.1) s.2.1.1 xs t i j by omega), eSI]
      generalize syA (tB fs s.2.2.1) xs (ownV B (pf0 B tO (tB fs s.2.2.1) ll) tO (tB fs s.2.2.1) s.2.1.1 (sta (tB fs s.2.2.1) s.2.1.1 on R) pp ad) NA t (sY (tB fs s.2.2.1 t) i j) = SA at *
      generalize ofS (tB fs s.2.2.1) s.2.1.1 (sta (tB fs s.2.2.1) s.2.1.1 on R) t (sY (tB fs s.2.2.1 t) i j) = oS1 at *
      generalize lN (pp + baN B (pf0 B tO (tB fs s.2.2.1) ll) (tO t + oP (tB fs s.2.2.1 t) (yW (tB fs s.2.2.1 t) (sY (tB fs s.2.2.1 t) i j))) (oZ (tB fs s.2.2.1 t) (yW (tB fs s.2.2.1 t) (sY (tB fs s.2.2.1 t) i j))) ((yV (tB fs s.2.2.1 t) (sY (tB fs s.2.2.1 t) i j) + sD (tB fs s.2.2.1 t) i j) % 2 ^ 64)) = BA at *
      generalize hIX : ixB (skE (tB fs s.2.2.1) xs (zOf t (sY (tB fs s.2.2.1 t) i j) (sH (tB fs s.2.2.1 t) i j))) 0 sl = IX at *
      have ksl : ∀ b, b = decide (sH (tB fs s.2.2.1 t) i j = 22) → isSl (sH (tB fs s.2.2.1 t) i j) = true → f_Filler_slotAddress F c 1710 (nI t) (nI (sY (tB fs s.2.2.1 t) i j)) (bI b) (cH sk L τ) = some (lN (sp + 8 * IX.getD sl.length), cH sk L τ) := fun b hb e => by
        obtain ⟨ix, hix⟩ := ehit e
        have hlt := (ixB_lt (hIX.trans hix)).2.1
        have k1 := kso b
        rw [hb, zz_zOf] at k1
        have eno : sNo (skE (tB fs s.2.2.1) xs (zOf t (sY (tB fs s.2.2.1 t) i j) (sH (tB fs s.2.2.1 t) i j))) sl = ix + 1 := by unfold sNo; rw [hIX, hix]; rfl
        rw [eno, ← hb] at k1
        unfold f_Filler_slotAddress
        rw [C1r1 (G1710 hS) (GR_r (v := 1700) hR (by decide)), bs, C2g13 (G1700 hS), bs, bs, c_o (G1700 hS), bs, k1, xb_mk, h13 (by omega), pk_sub (by omega), show ix + 1 - 1 = ix by omega, nI_l (by omega), show (8 : Int64) = lN 8 from rfl, lN_mul, lN_add, hix]
        rfl
      clear hIX kso ehit eOV eSV ksa hSV
      generalize sH (tB fs s.2.2.1 t) i j = H at *
      generalize sL (tB fs s.2.2.1 t) i j = Lv at *
      generalize sD (tB fs s.2.2.1 t) i j = Dv at *
      generalize sY (tB fs s.2.2.1 t) i j = Y at *
      have go : ∀ (b : Bool) (v0 v : Int64), b = isSl H → v = (if isSl H = true then v0 - lN (ad (24 * t + oI (tB fs s.2.2.1 t) i) + Lv) else if H = 2 ∨ H = 4 then v0 - lN (ad (24 * t + oI (tB fs s.2.2.1 t) i) + Lv) else if H = 18 ∨ H = 23 then v0 - lN tp else v0) → ∃ τ', f_Filler_fillSite_165 F c 1710 (some (152 + (24 * t + oI (tB fs s.2.2.1 t) i))) (nI H) (nI (wd H)) (nI Lv) (bI b) v0 (cH sk L τ) = some (bI (!(decide (H ≠ 0) && rov H v)), cH sk L τ') ∧ rF sk L τ' ∧ fF τ τ' ∧ ∀ y, fC τ y → fC τ' (siW (spV τ fs s (24 * t + oI (tB fs s.2.2.1 t) i)) H Lv (skY (tB fs s.2.2.1) s.2.1.1 xs t i j) v y) := fun b v0 v hb hv => by
        obtain ⟨τ', v', z0, z1, z2, z3⟩ := k_fs_165 (F := F) (c := c) (H := H) (Lv := Lv) (w := wd H) (v0 := v0) (tp := tp) (sl := b) hF hS hR h opp hw hH (by omega) h11 h17 hb hsp
        rw [rov_c c0 hok.1, z0, ← hv] at z1
        rw [z0, ← hv] at z3
        exact ⟨τ', z1, z2, z3.1, fun y hy => by rw [eW]; exact z3.2 y hy⟩
      have eN1 : ∀ v, v < 2 ^ 31 → ((nI H = nI v) ↔ H = v) := fun v hv => nI_eq (by omega) hv
      have hno : H ≠ 24 := fun e => by rw [e] at hok; exact hok.1 (by decide)
      by_cases cs : isSl H = true
      · have hcs := of_decide_eq_true cs
        have e122 : ∃ τ', f_Filler_fillSite_117 F c 1710 (nI t) (some (152 + (24 * t + oI (tB fs s.2.2.1 t) i))) (nI H) (nI (wd H)) (nI Lv) (nI Y) (lN Dv) (cH sk L τ) = some (bI (!(decide (H ≠ 0) && rov H (lN (sp + 8 * IX.getD sl.length) + lN Dv - lN (ad (24 * t + oI (tB fs s.2.2.1 t) i) + Lv)))), cH sk L τ') ∧ rF sk L τ' ∧ fF τ τ' ∧ ∀ y, fC τ y → fC τ' (siW (spV τ fs s (24 * t + oI (tB fs s.2.2.1 t) i)) H Lv (skY (tB fs s.2.2.1) s.2.1.1 xs t i j) (lN (sp + 8 * IX.getD sl.length) + lN Dv - lN (ad (24 * t + oI (tB fs s.2.2.1 t) i) + Lv)) y) := by
          obtain ⟨τ', z1, z2, z3⟩ := go true (lN (sp + 8 * IX.getD sl.length) + lN Dv) _ cs.symm (by rw [if_pos cs])
          refine ⟨τ', ?_, z2, z3⟩
          unfold f_Filler_fillSite_117 f_Filler_fillSite_122 f_Filler_fillSite_145
          rw [if_neg (by decide)]
          by_cases c22 : H = 22
          · have k2 := ksl true (decide_eq_true c22).symm cs
            rw [if_pos ((eN1 22 (by decide)).mpr c22), c_o (G1710 hS), bs, show (nI 1 : Int32) = bI true from rfl, k2, xb_mk]
            exact z1
          · have k2 := ksl false (decide_eq_false c22).symm cs
            rw [if_neg (fun e => c22 ((eN1 22 (by decide)).mp e)), c_o (G1710 hS), bs, show (nI 0 : Int32) = bI false from rfl, k2, xb_mk]
            exact z1
        have eR : (if (H = 1 ∨ H = 10 ∨ H = 11) ∧ oS1 = true then BA else if isSl H = true then lN (sp + 8 * IX.getD sl.length) + lN Dv - lN (ad (24 * t + oI (tB fs s.2.2.1 t) i) + Lv) else if H = 2 ∨ H = 4 then SA + lN Dv - lN (ad (24 * t + oI (tB fs s.2.2.1 t) i) + Lv) else if H = 18 ∨ H = 23 then SA + lN Dv - lN tp else SA + lN Dv) = lN (sp + 8 * IX.getD sl.length) + lN Dv - lN (ad (24 * t + oI (tB fs s.2.2.1 t) i) + Lv) := by rw [if_neg (fun q => by omega), if_pos cs]
        rw [eR]
        by_cases c9 : H = 9
        · rw [if_pos ((eN1 9 (by decide)).mpr c9)]; exact e122
        · rw [if_neg (fun e => c9 ((eN1 9 (by decide)).mp e))]
          by_cases c22 : H = 22
          · rw [if_pos ((eN1 22 (by decide)).mpr c22)]; exact e122
          · rw [if_neg (fun e => c22 ((eN1 22 (by decide)).mp e)), if_neg (nI_ge (by omega) (by omega))]; exact e122
      · have cs' : isSl H = false := by cases hh : isSl H with | false => rfl | true => exact absurd hh cs
        have hcs : ¬ (H = 9 ∨ H = 22 ∨ H = 41 ∨ H = 42) := of_decide_eq_false cs'
        have h23 : H ≤ 23 := by
          have hw16 := hok.1
          unfold wd at hw16
          split at hw16
          · omega
          · split at hw16
            · omega
            · exact absurd rfl hw16
        rw [if_neg (fun e => hcs (Or.inl ((eN1 9 (by decide)).mp e))), if_neg (fun e => hcs (Or.inr (Or.inl ((eN1 22 (by decide)).mp e)))), if_pos (nI_le h23 (by decide))]
        unfold f_Filler_fillSite_122
        rw [if_pos (show nI 0 = 0 from rfl), c_o (G1710 hS), bs, ksf, xb_mk]
        have eR : (if (H = 1 ∨ H = 10 ∨ H = 11) ∧ oS1 = true then BA else if isSl H = true then lN (sp + 8 * IX.getD sl.length) + lN Dv - lN (ad (24 * t + oI (tB fs s.2.2.1 t) i) + Lv) else if H = 2 ∨ H = 4 then SA + lN Dv - lN (ad (24 * t + oI (tB fs s.2.2.1 t) i) + Lv) else if H = 18 ∨ H = 23 then SA + lN Dv - lN tp else SA + lN Dv) = (if isSl H = true then (if (H = 1 ∨ H = 10 ∨ H = 11) ∧ oS1 = true then BA else SA + lN Dv) - lN (ad (24 * t + oI (tB fs s.2.2.1 t) i) + Lv) else if H = 2 ∨ H = 4 then (if (H = 1 ∨ H = 10 ∨ H = 11) ∧ oS1 = true then BA else SA + lN Dv) - lN (ad (24 * t + oI (tB fs s.2.2.1 t) i) + Lv) else if H = 18 ∨ H = 23 then (if (H = 1 ∨ H = 10 ∨ H = 11) ∧ oS1 = true then BA else SA + lN Dv) - lN tp else (if (H = 1 ∨ H = 10 ∨ H = 11) ∧ oS1 = true then BA else SA + lN Dv)) := by
          by_cases c1 : (H = 1 ∨ H = 10 ∨ H = 11) ∧ oS1 = true
          · rw [if_pos c1, if_neg cs, if_neg (show ¬ (H = 2 ∨ H = 4) by omega), if_neg (show ¬ (H = 18 ∨ H = 23) by omega), if_pos c1]
          · rw [if_neg c1, if_neg cs, if_neg cs, if_neg c1]
        rw [eR]
        exact go false _ _ cs'.symm rfl
    · rw [decide_eq_true ck, if_neg (show ¬ bI true = 0 by decide), c_o (G1710 hS), bs]
      have hskY := ck
      have hsk : (sH (tB fs s.2.2.1 t) i j = 41 ∨ sH (tB fs s.2.2.1 t) i j = 42) ∧ 2 ≤ sL (tB fs s.2.2.1 t) i j ∧ skY (tB fs s.2.2.1) s.2.1.1 xs t i j = skB (tB fs s.2.2.1 t (oP (tB fs s.2.2.1 t) (oI (tB fs s.2.2.1 t) i) + sL (tB fs s.2.2.1 t) i j - 2)) (tB fs s.2.2.1 t (oP (tB fs s.2.2.1 t) (oI (tB fs s.2.2.1 t) i) + sL (tB fs s.2.2.1 t) i j - 1)) (sH (tB fs s.2.2.1 t) i j) := by
        unfold skY at hskY ⊢
        by_cases cc : (sH (tB fs s.2.2.1 t) i j = 41 ∨ sH (tB fs s.2.2.1 t) i j = 42) ∧ sD (tB fs s.2.2.1 t) i j = 18446744073709551612 ∧ 2 ≤ sL (tB fs s.2.2.1 t) i j ∧ inY (tB fs s.2.2.1) s.2.1.1 xs t (sY (tB fs s.2.2.1 t) i j) = true
        · rw [if_pos cc]; exact ⟨cc.1, cc.2.2.1, rfl⟩
        · rw [if_neg cc] at hskY; exact absurd rfl hskY
      obtain ⟨k1, k2, k3⟩ := skB_c hsk.2.2 ck
      have hpn : oP (tB fs s.2.2.1 t) (oI (tB fs s.2.2.1 t) i) + oZ (tB fs s.2.2.1 t) (oI (tB fs s.2.2.1 t) i) ≤ tNf fs s.2.2.1 t := by
        have hk1 := of_decide_eq_true hsit.2.1
        exact (eObj_0 he).1.1.2.2.2.1 _ hoI (by omega) hT8
      have hbl : ∀ x, tB fs s.2.2.1 t x < 256 := fun x => by rw [← hcb]; exact cb_lt _ _ _ _
      have num1 : ∀ x, x + 1 ≤ tNf fs s.2.2.1 t → f_ObjectFile_num F c (10 + 2 * q) (nI x) (nI 1) (cH sk L τ) = some (lN (tB fs s.2.2.1 t x), cH sk L τ) := fun x hx => by
        rw [k_num hD.1.1.1.1 (by omega) (by decide) (by omega), nm_in hx, le_1, hcb]
      have kX := num1 (oP (tB fs s.2.2.1 t) (oI (tB fs s.2.2.1 t) i) + sL (tB fs s.2.2.1 t) i j - 2) (by omega)
      have kY := num1 (oP (tB fs s.2.2.1 t) (oI (tB fs s.2.2.1 t) i) + sL (tB fs s.2.2.1 t) i j - 2 + 1) (by omega)
      rw [show oP (tB fs s.2.2.1 t) (oI (tB fs s.2.2.1 t) i) + sL (tB fs s.2.2.1 t) i j - 1 = oP (tB fs s.2.2.1 t) (oI (tB fs s.2.2.1 t) i) + sL (tB fs s.2.2.1 t) i j - 2 + 1 by have := hsk.2.1; omega] at k2 k3
      obtain ⟨τ', z1, z2, z3⟩ := k_fSh (F := F) (c := c) (t := t) (x := sP (tB fs s.2.2.1 t) i j) (K := skY (tB fs s.2.2.1) s.2.1.1 xs t i j) hF hS hR h oq opp kob s1' s3 s4' hsp hp7 hD.1.1.1.1.2.2.2.2.2.2.1 h11 ksa kX kY hsk.2.1 (by omega) (hbl _) (hbl _) k1 k2 k3
      have eV : SV t i j = syA (tB fs s.2.2.1) xs (ownV B (pf0 B tO (tB fs s.2.2.1) ll) tO (tB fs s.2.2.1) s.2.1.1 (sta (tB fs s.2.2.1) s.2.1.1 on R) pp ad) NA t (sY (tB fs s.2.2.1 t) i j) + lN (sD (tB fs s.2.2.1 t) i j) - lN (ad (24 * t + oI (tB fs s.2.2.1 t) i) + sL (tB fs s.2.2.1 t) i j) + (if skY (tB fs s.2.2.1) s.2.1.1 xs t i j = 3 then lN 1 else lN 0) := by
        rw [eSV]
        unfold siV
        rw [if_pos (show 0 < skY (tB fs s.2.2.1) s.2.1.1 xs t i j by omega), eSI]
      refine ⟨τ', ?_, z2, z3.1, fun y hy => by unfold siW; rw [if_neg c0, if_neg ck, eV]; exact z3.2 y hy⟩
      rw [z1, xb_mk, xz_b]
      rw [← eV, ← rov_c c0 hok.1]
      have e4 : ¬ wd (sH (tB fs s.2.2.1 t) i j) = 8 := by rcases hsk.1 with e | e <;> (rw [e]; decide)
      rw [decide_eq_false e4, Bool.false_or, if_neg (by omega)]
end CFU
