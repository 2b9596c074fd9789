/-! what the class puts at a site -/
theorem fit32 {v : Int64} : (v = v.toInt32.toInt64) ↔ ((-2147483648 : Int64) ≤ v ∧ v ≤ (2147483647 : Int64)) := by
  rw [← Int64.toInt_inj, Int32.toInt_toInt64, Int64.toInt_toInt32, Int64.le_iff_toInt_le, Int64.le_iff_toInt_le, show (-2147483648 : Int64).toInt = -2147483648 from by decide, show (2147483647 : Int64).toInt = 2147483647 by decide]
  constructor
  · intro e
    have h1 := Int.le_bmod (x := v.toInt) (m := 2 ^ 32) (by decide)
    have h2 := Int.bmod_lt (x := v.toInt) (m := 2 ^ 32) (by decide)
    omega
  · intro h
    exact (Int.bmod_eq_of_le (by omega) (by omega)).symm
theorem fit_rov {v : Int64} : decide (v = v.toInt32.toInt64) = !(decide (v < (-2147483648 : Int64)) || !decide (v ≤ (2147483647 : Int64))) := by
  have e : (v < (-2147483648 : Int64)) ↔ ¬ ((-2147483648 : Int64) ≤ v) := by rw [Int64.lt_iff_toInt_lt, Int64.le_iff_toInt_le]; omega
  by_cases c : v = v.toInt32.toInt64
  · obtain ⟨h1, h2⟩ := fit32.mp c
    rw [decide_eq_true c, decide_eq_false (fun q => e.mp q h1), decide_eq_true h2]; rfl
  · rw [decide_eq_false c]
    by_cases c1 : (-2147483648 : Int64) ≤ v
    · have c2 : ¬ v ≤ (2147483647 : Int64) := fun q => c (fit32.mpr ⟨c1, q⟩)
      rw [decide_eq_false c2, Bool.not_false, Bool.or_true]; rfl
    · rw [decide_eq_true (e.mpr c1), Bool.true_or]; rfl
section CFS
variable {F : Nat} {c : px_CT} {sk : Nat → Nat × Nat × Nat} {L : Nat} {τ : px_TT} {own : Nat → Nat × Nat} {fs : px_FS} {s : px_TK} {xs : px_NL} {ST rn : Nat → Bool} {C B : Nat → Nat} {ll sl cpf : List Nat} {tO : Nat → Nat} {th : Nat → Bool} {NA : Nat → Int64} {pp : Nat} {ad : Nat → Nat} {fe3 tp sp fp0 fp1 fp2 bg0 bg1 bg2 : Nat} {on : Bool} {R rn0 : Nat → Bool} {t i j : Nat}
/-- how many bytes, and whether what comes there fits -/
theorem k_fs_226 {p w : Nat} {u a3 a7 : Int32} {v : Int64} {how : Nat} (hF : 65536 < F) (hS : GS sk L) (hR : GR τ) (h : rF sk L τ) (hw : w = 4 ∨ w = 8) (hh : how < 2 ^ 31) (ku : f_Filler_spotOf F c 1710 (some p) (cH sk L τ) = some (u, cH sk L τ)) : ∃ τ', f_Filler_fillSite_226 F c 1710 (some p) (nI how) (nI w) a7 v (cH sk L τ) = some (bI (decide (w = 8) || (if how = 10 then decide (((v.toUInt64 >>> ((nI 32).toInt64.toUInt64 &&& Int64.toUInt64 63)).toInt64) = lN 0) else decide (v = v.toInt32.toInt64))), cH sk L τ') ∧ rF sk L τ' ∧ fF τ τ' ∧ ∀ y, fC τ y → fC τ' (wSet (u + a7) w v y) := by
  obtain ⟨τ1, a1, r1, f1, u1⟩ := k_setC (F := F) (c := c) (v := v) (k := w) (p := u + a7) (by omega) (by omega) h
  refine ⟨τ1, ?_, r1, f1, u1⟩
  have e285 : ∀ b : Bool, f_Filler_fillSite_285 F c (nI w) (bI b) (cH sk L τ1) = some (bI (decide (w = 8) || b), cH sk L τ1) := fun b => by
    unfold f_Filler_fillSite_285 f_Filler_fillSite_299 f_Filler_fillSite_304
    cases b with
    | false =>
      rw [if_pos (show bI false = 0 from rfl), xz_1, xz_0, Bool.or_false]
      rcases hw with e | e
      · subst e; rfl
      · subst e; rfl
    | true => rw [if_neg (show ¬ bI true = 0 by decide), xz_1, Bool.or_true]
  unfold f_Filler_fillSite_226
  rw [C1r4 (G1710 hS) (GR_r (v := 1711) hR (by decide)), bs, c_o (G1710 hS), bs, ku, xb_mk, c_o h.1, bs, a1, xb_mk]
  by_cases c1 : how = 10
  · rw [if_pos (show nI how = nI 10 by rw [c1]), if_pos c1]
    by_cases c2 : ((v.toUInt64 >>> ((nI 32).toInt64.toUInt64 &&& Int64.toUInt64 63)).toInt64) = lN 0
    · rw [if_pos c2, decide_eq_true c2]; exact e285 true
    · rw [if_neg c2, decide_eq_false c2]; exact e285 false
  · rw [if_neg (fun q => c1 ((nI_eq hh (by decide)).mp q)), if_neg c1]
    by_cases c2 : v = v.toInt32.toInt64
    · rw [if_pos c2, decide_eq_true c2]; exact e285 true
    · rw [if_neg c2, decide_eq_false c2]; exact e285 false
theorem k_kindOf {q g base n : Nat} {S : Nat → Int32} (hs : cS sk L τ q g base n S) (hF : 8 < F) (hj : j < oM (cb S base n)) : f_ObjectFile_kindOf F c q (nI j) (cH sk L τ) = some (nI (cb S base n (yP (cb S base n) j + 4) % 16), cH sk L τ) := by
  obtain ⟨e1, e2, e3⟩ := cS_y hs hj
  have hb := cb_lt S base n (yP (cb S base n) j + 4)
  unfold f_ObjectFile_kindOf
  rw [C7g10 hs.1.1.1.1, bs, c_o hs.1.1.1.1, bs, e1, pk_mul, nI_add, nI_add, show oP (cb S base n) (oY (cb S base n)) + 24 * j = yP (cb S base n) j from rfl, k_num hs.1.1.1 hF (by decide) (by omega), nm_in (by omega), xb_mk, le_1, lN_i, pk_andN (by omega) 4 (by decide)]
/-- with what a site of a section that stays names, that stays -/
theorem reach_st {T : Nat} {tb : Nat → Nat → Nat} {dr : Nat → Bool} {x : Nat} (hro : RRo T tb dr xs on R rn0) (ht : t < T) (h1 : 1 ≤ i) (hi : i < oS (tb t)) (hs : isS (tb t) i = true) (hj : j < sN (tb t) i) (hH : sH (tb t) i j ≠ 0) (hst : sta tb dr on R t (oI (tb t) i) = true) (hx : secY tb dr xs t (sY (tb t) i j) = some x) : (!on || R x) = true := by
  cases eo : on with
  | false => rfl
  | true =>
    obtain ⟨h2, _⟩ := hro eo
    have hR1 : R (24 * t + oI (tb t) i) = true := by
      unfold sta at hst
      rw [eo] at hst
      simp only [Bool.and_eq_true, Bool.not_true, Bool.false_or] at hst
      exact hst.2.2
    have hr1 := (h2 _).mp hR1
    show R x = true
    exact (h2 x).mpr (fun P hP hcl => hcl t i j ht h1 hi hs hj hH (hr1 P hP hcl) x hx)
theorem k_sumFor {how A : Nat} (hF : 65536 < F) (hL : LAc sk L own τ fs s xs ST rn ll C B cpf tO pp ad) (hr : STr fs s on R ST) (hW : WP s.2.2.1.length (tB fs s.2.2.1) s.2.1.1 xs) (hNA : ∀ i, i < xs.length → fJ τ (pN τ 149 i) 14 = NA i) (ht : t < s.2.2.1.length) (hj : j < oM (tB fs s.2.2.1 t)) (hh : how < 2 ^ 31) (hA : A < 2 ^ 64) (hst : ∀ x, secY (tB fs s.2.2.1) s.2.1.1 xs t j = some x → (!on || R x) = true) : f_Filler_sumFor F c 1710 (nI how) (nI t) (nI j) (lN A) (cH sk L τ) = some (if (how = 1 ∨ how = 10 ∨ how = 11) ∧ ofS (tB fs s.2.2.1) s.2.1.1 (sta (tB fs s.2.2.1) s.2.1.1 on R) t j = true then lN (pp + baN B (pf0 B tO (tB fs s.2.2.1) ll) (tO t + oP (tB fs s.2.2.1 t) (yW (tB fs s.2.2.1 t) j)) (oZ (tB fs s.2.2.1 t) (yW (tB fs s.2.2.1 t) j)) ((yV (tB fs s.2.2.1 t) j + A) % 2 ^ 64)) else syA (tB fs s.2.2.1) xs (ownV B (pf0 B tO (tB fs s.2.2.1) ll) tO (tB fs s.2.2.1) s.2.1.1 (sta (tB fs s.2.2.1) s.2.1.1 on R) pp ad) NA t j + lN A, cH sk L τ) := by
  have hS := hL.1.1
  have hR := hL.1.2.1
  have hT := BK_T (s := s) hL.1.2.2.2.2.1.1
  obtain ⟨q, hq, hq64, hD, hcb, he, hpe, hsy, _⟩ := TKe_ob hL.1 ht
  obtain ⟨kn, kp, hj64⟩ := k_nameOf2 (F := F) (c := c) hL.1 ht hj
  have ko := k_object (F := F) (c := c) hL.1 hq
  have ksa := k_symbolAddress (F := F) (c := c) (NA := NA) hF hL hr hNA ht hj
  have kpo := k_partOf (F := F) (c := c) hL.1 (by omega) hW ht hj
  have hjm : j < oM (cb (eI τ 8) (bsO fs q) (tNf fs s.2.2.1 t)) := by rw [hcb]; exact hj
  have kk := k_kindOf (F := F) (c := c) hD.1 (by omega) hjm
  have kv := k_valueOf (F := F) (c := c) hD.1 (by omega) hjm
  rw [hcb] at kk kv
  have hq7 : ob sk L 7 (10 + 2 * q) := hD.1.1.1.1.1
  have hS24 := (eObj_0 he).1.1.2.1.2
  generalize eSA : syA (tB fs s.2.2.1) xs (ownV B (pf0 B tO (tB fs s.2.2.1) ll) tO (tB fs s.2.2.1) s.2.1.1 (sta (tB fs s.2.2.1) s.2.1.1 on R) pp ad) NA t j = SA at *
  have e108 : f_Filler_sumFor_108 F c 1710 (nI t) (nI j) (lN A) (cH sk L τ) = some (SA + lN A, cH sk L τ) := by
    unfold f_Filler_sumFor_108
    rw [C1r1 (G1710 hS) (GR_r (v := 1700) hR (by decide)), bs, c_o (G1700 hS), bs, ksa, xb_mk]
  unfold f_Filler_sumFor
  rw [C1r0 (G1710 hS) (GR_r (v := 147) hR (by decide)), bs, c_o (G147 hS), bs, ko, xb_mk]
  by_cases cp : how = 1 ∨ how = 10 ∨ how = 11
  · have e27 : f_Filler_sumFor_27 F c 1710 (nI t) (nI j) (lN A) (some (10 + 2 * q)) (cH sk L τ) = some (if ofS (tB fs s.2.2.1) s.2.1.1 (sta (tB fs s.2.2.1) s.2.1.1 on R) t j = true then lN (pp + baN B (pf0 B tO (tB fs s.2.2.1) ll) (tO t + oP (tB fs s.2.2.1 t) (yW (tB fs s.2.2.1 t) j)) (oZ (tB fs s.2.2.1 t) (yW (tB fs s.2.2.1 t) j)) ((yV (tB fs s.2.2.1 t) j + A) % 2 ^ 64)) else SA + lN A, cH sk L τ) := by
      unfold f_Filler_sumFor_27 f_Filler_sumFor_32
      rw [if_neg (by decide)]
      by_cases c0 : j = 0
      · have eo : ofS (tB fs s.2.2.1) s.2.1.1 (sta (tB fs s.2.2.1) s.2.1.1 on R) t j = false := by unfold ofS; rw [decide_eq_false (fun q => q.1 c0), Bool.false_and]
        rw [if_pos (show nI j ≤ 0 by rw [c0]; decide), eo, if_neg (show ¬ false = true by decide)]
        exact e108
      · rw [if_neg (show ¬ nI j ≤ 0 from nI_ge (a := 0) (by omega) (by omega)), C1r0 (G1710 hS) (GR_r (v := 147) hR (by decide)), bs, c_o (G147 hS), bs, kn, xb_mk]
        by_cases c1 : hsN (tB fs s.2.2.1 t) j = true
        · have es : syN τ (tB fs s.2.2.1 t) xs j = some (pN τ 149 (plc (yT (tB fs s.2.2.1 t) j) (xs.map Prod.fst))) := by unfold syN; rw [if_pos c1]
          have hc := of_decide_eq_true c1
          have eo : ofS (tB fs s.2.2.1) s.2.1.1 (sta (tB fs s.2.2.1) s.2.1.1 on R) t j = false := by unfold ofS; rw [decide_eq_false (fun q => hc.2.2 q.2.1), Bool.false_and]
          rw [es, eo, if_neg (by decide)]
          exact e108
        · have es : syN τ (tB fs s.2.2.1 t) xs j = none := by unfold syN; rw [if_neg c1]
          have hyB : yB (tB fs s.2.2.1 t) j = 0 := by
            rcases Nat.eq_zero_or_pos (yB (tB fs s.2.2.1 t) j) with e | e
            · exact e
            · exact absurd (decide_eq_true (⟨by omega, hj, by omega⟩ : 1 ≤ j ∧ j < oM (tB fs s.2.2.1 t) ∧ yB (tB fs s.2.2.1 t) j ≠ 0)) c1
          rw [es]
          show ((some (10 + 2 * q)).bind fun p5 => _) = _
          rw [bs, c_o hq7, bs, kk, xb_mk]
          have hk16 : tB fs s.2.2.1 t (yP (tB fs s.2.2.1 t) j + 4) % 16 < 16 := Nat.mod_lt _ (by decide)
          by_cases c3 : tB fs s.2.2.1 t (yP (tB fs s.2.2.1 t) j + 4) % 16 = 3
          · rw [if_pos (show nI _ = nI 3 by rw [c3]), C1r0 (G1710 hS) (GR_r (v := 147) hR (by decide)), bs, c_o (G147 hS), bs, kpo, xb_mk]
            have eY : secY (tB fs s.2.2.1) s.2.1.1 xs t j = secT (tB fs s.2.2.1) s.2.1.1 t (wNo s.2.1.1 t (tB fs s.2.2.1 t) j) := by unfold secY; rw [if_neg c0, if_pos hyB]
            have eoS : ofS (tB fs s.2.2.1) s.2.1.1 (sta (tB fs s.2.2.1) s.2.1.1 on R) t j = (isN (tB fs s.2.2.1) t (wNo s.2.1.1 t (tB fs s.2.2.1 t) j) && (sta (tB fs s.2.2.1) s.2.1.1 on R t (wNo s.2.1.1 t (tB fs s.2.2.1 t) j) && oStr (tB fs s.2.2.1 t) (wNo s.2.1.1 t (tB fs s.2.2.1 t) j))) := by unfold ofS; rw [decide_eq_true (⟨c0, hyB, c3⟩ : j ≠ 0 ∧ yB (tB fs s.2.2.1 t) j = 0 ∧ tB fs s.2.2.1 t (yP (tB fs s.2.2.1 t) j + 4) % 16 = 3), Bool.true_and]
            have eNT := isN_T (t := t) (tb := tB fs s.2.2.1) (dr := s.2.1.1) (k := j) hS24
            rw [eoS, eNT]
            cases eT : secT (tB fs s.2.2.1) s.2.1.1 t (wNo s.2.1.1 t (tB fs s.2.2.1 t) j) with
            | none =>
              rw [eY, eT]
              show f_Filler_sumFor_108 F c 1710 (nI t) (nI j) (lN A) (cH sk L τ) = _
              rw [e108, show (none : Option Nat).isSome = false from rfl, Bool.false_and, if_neg (show ¬ false = true by decide)]
            | some x =>
              have hxT := eT
              unfold secT at hxT
              by_cases cc : 0 < wNo s.2.1.1 t (tB fs s.2.2.1 t) j ∧ wNo s.2.1.1 t (tB fs s.2.2.1 t) j < oS (tB fs s.2.2.1 t) ∧ oK (tB fs s.2.2.1 t) (wNo s.2.1.1 t (tB fs s.2.2.1 t) j) = true ∧ s.2.1.1 (24 * t + wNo s.2.1.1 t (tB fs s.2.2.1 t) j) = false
              · rw [if_pos cc] at hxT
                have hx : x = 24 * t + wNo s.2.1.1 t (tB fs s.2.2.1 t) j := (Option.some.inj hxT).symm
                have ew : wNo s.2.1.1 t (tB fs s.2.2.1 t) j = yW (tB fs s.2.2.1 t) j := by
                  have h0 := cc.1
                  unfold wNo at h0 ⊢
                  split
                  · rename_i hh; rw [if_pos hh] at h0; omega
                  · rfl
                rw [ew] at cc hx ⊢
                have hx24 : x < 24 * s.2.2.1.length := by omega
                have hRx := hst x (by rw [eY]; exact eT)
                have hkp : kpB (tB fs s.2.2.1 t) (yW (tB fs s.2.2.1 t) j) = true := by unfold kpB; rw [decide_eq_true cc.2.1, cc.2.2.1]; rfl
                have hSTx : ST x = true := by
                  rw [hx, STr_i hr ht _ (by omega), hkp, cc.2.2.2, ← hx, hRx]; rfl
                have hsta : sta (tB fs s.2.2.1) s.2.1.1 on R t (yW (tB fs s.2.2.1 t) j) = true := by
                  unfold sta
                  rw [cc.2.2.1, cc.2.2.2, ← hx, hRx]; rfl
                have hp8 := (TKe_part hL.1 hx24).1
                have p10 := (TKe_pt hL.1 hL.2.1.1 hx24 hSTx).2.2.2.2.1
                have esx : sS (tB fs s.2.2.1) x = oStr (tB fs s.2.2.1 t) (yW (tB fs s.2.2.1 t) j) := by unfold sS; rw [hx, show (24 * t + yW (tB fs s.2.2.1 t) j) / 24 = t by omega, show (24 * t + yW (tB fs s.2.2.1 t) j) % 24 = yW (tB fs s.2.2.1 t) j by omega]
                have epx : pS tO (tB fs s.2.2.1) x = tO t + oP (tB fs s.2.2.1 t) (yW (tB fs s.2.2.1 t) j) := by unfold pS; rw [hx, show (24 * t + yW (tB fs s.2.2.1 t) j) / 24 = t by omega, show (24 * t + yW (tB fs s.2.2.1 t) j) % 24 = yW (tB fs s.2.2.1 t) j by omega]
                have ezx : zS (tB fs s.2.2.1) x = oZ (tB fs s.2.2.1 t) (yW (tB fs s.2.2.1 t) j) := by unfold zS; rw [hx, show (24 * t + yW (tB fs s.2.2.1 t) j) / 24 = t by omega, show (24 * t + yW (tB fs s.2.2.1 t) j) % 24 = yW (tB fs s.2.2.1 t) j by omega]
                rw [hsta, eY, eT]
                show ((xgI (cH sk L τ) 8 10 (152 + x)).bind fun t12 => _) = some (if (true && (true && oStr (tB fs s.2.2.1 t) (yW (tB fs s.2.2.1 t) j))) = true then _ else _, _)
                rw [C8g10 hp8, bs, p10, esx, Bool.true_and, Bool.true_and]
                cases eo : oStr (tB fs s.2.2.1 t) (yW (tB fs s.2.2.1 t) j) with
                | false =>
                  rw [if_pos (show bI false = 0 from rfl), if_neg (by decide)]
                  exact e108
                | true =>
                  have ka := k_addressIn (F := F) (c := c) (x := x) (V := (yV (tB fs s.2.2.1 t) j + A) % 2 ^ 64) hF hL hx24 (Nat.mod_lt _ (by decide))
                  have eA : adV ST B (pf0 B tO (tB fs s.2.2.1) ll) tO (tB fs s.2.2.1) pp ad x ((yV (tB fs s.2.2.1 t) j + A) % 2 ^ 64) = lN (pp + baN B (pf0 B tO (tB fs s.2.2.1) ll) (tO t + oP (tB fs s.2.2.1 t) (yW (tB fs s.2.2.1 t) j)) (oZ (tB fs s.2.2.1 t) (yW (tB fs s.2.2.1 t) j)) ((yV (tB fs s.2.2.1 t) j + A) % 2 ^ 64)) := by
                    unfold adV
                    rw [if_pos hSTx, if_pos (by rw [esx]; exact eo), epx, ezx]
                  rw [eA] at ka
                  rw [if_neg (show ¬ bI true = 0 by decide), if_pos rfl, C1r2 (G1710 hS) (GR_r (v := 1697) hR (by decide)), bs, c_o hq7, bs, kv, xb_mk, c_o (G1697 hS), bs, lN_add, lN_mod (yV (tB fs s.2.2.1 t) j + A), ka, xb_mk]
              · rw [if_neg cc] at hxT; cases hxT
          · have eo : ofS (tB fs s.2.2.1) s.2.1.1 (sta (tB fs s.2.2.1) s.2.1.1 on R) t j = false := by unfold ofS; rw [decide_eq_false (fun q => c3 q.2.2), Bool.false_and]
            rw [if_neg (fun q => c3 ((nI_eq (by omega) (by decide)).mp q)), eo, if_neg (by decide)]
            exact e108
    have eR : (if (how = 1 ∨ how = 10 ∨ how = 11) ∧ ofS (tB fs s.2.2.1) s.2.1.1 (sta (tB fs s.2.2.1) s.2.1.1 on R) t j = true then lN (pp + baN B (pf0 B tO (tB fs s.2.2.1) ll) (tO t + oP (tB fs s.2.2.1 t) (yW (tB fs s.2.2.1 t) j)) (oZ (tB fs s.2.2.1 t) (yW (tB fs s.2.2.1 t) j)) ((yV (tB fs s.2.2.1 t) j + A) % 2 ^ 64)) else SA + lN A) = (if ofS (tB fs s.2.2.1) s.2.1.1 (sta (tB fs s.2.2.1) s.2.1.1 on R) t j = true then lN (pp + baN B (pf0 B tO (tB fs s.2.2.1) ll) (tO t + oP (tB fs s.2.2.1 t) (yW (tB fs s.2.2.1 t) j)) (oZ (tB fs s.2.2.1 t) (yW (tB fs s.2.2.1 t) j)) ((yV (tB fs s.2.2.1 t) j + A) % 2 ^ 64)) else SA + lN A) := by
      by_cases c2 : ofS (tB fs s.2.2.1) s.2.1.1 (sta (tB fs s.2.2.1) s.2.1.1 on R) t j = true
      · rw [if_pos ⟨cp, c2⟩, if_pos c2]
      · rw [if_neg (fun q => c2 q.2), if_neg c2]
    rw [eR, e27]
    by_cases h1 : how = 1
    · rw [if_pos (show nI how = nI 1 by rw [h1])]
    · rw [if_neg (fun q => h1 ((nI_eq hh (by decide)).mp q))]
      by_cases h2 : how = 10
      · rw [if_pos (show nI how = nI 10 by rw [h2])]
      · rw [if_neg (fun q => h2 ((nI_eq hh (by decide)).mp q)), if_pos (show nI how = nI 11 by rw [show how = 11 by omega])]
  · rw [if_neg (fun q => cp (Or.inl ((nI_eq hh (by decide)).mp q))), if_neg (fun q => cp (Or.inr (Or.inl ((nI_eq hh (by decide)).mp q)))), if_neg (fun q => cp (Or.inr (Or.inr ((nI_eq hh (by decide)).mp q))))]
    unfold f_Filler_sumFor_32
    rw [if_pos (show nI 0 = 0 from rfl), e108]
    have eR : (if (how = 1 ∨ how = 10 ∨ how = 11) ∧ ofS (tB fs s.2.2.1) s.2.1.1 (sta (tB fs s.2.2.1) s.2.1.1 on R) t j = true then lN (pp + baN B (pf0 B tO (tB fs s.2.2.1) ll) (tO t + oP (tB fs s.2.2.1 t) (yW (tB fs s.2.2.1 t) j)) (oZ (tB fs s.2.2.1 t) (yW (tB fs s.2.2.1 t) j)) ((yV (tB fs s.2.2.1 t) j + A) % 2 ^ 64)) else SA + lN A) = SA + lN A := if_neg (fun q => cp q.1)
    rw [eR]
end CFS
