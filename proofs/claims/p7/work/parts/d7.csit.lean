/-! a site of the class is filled as the document says -/
/-- what is put at a short site -/
def shW (p : Int32) (K : Nat) (v : Int64) (y : px_FW) : px_FW := if K = 3 then wSet (p + nI 3) 1 (144 : Int64) (wSet (p - nI 1) 4 v (wSet (p - nI 2) 1 (233 : Int64) y)) else if K = 2 then wSet p 4 v (wSet (p - nI 2) 2 (59495 : Int64) y) else wSet p 4 v (wSet (p - nI 2) 1 (141 : Int64) y)
section CFT
variable {F : Nat} {c : px_CT} {sk : Nat → Nat × Nat × Nat} {L : Nat} {τ : px_TT}
theorem k_fSh {u : Int32} {t x q p Lv Dv Y K X Yb base P0 adr : Nat} {SA : Int64} (hF : 65536 < F) (hS : GS sk L) (hR : GR τ) (h : rF sk L τ) (oq : ob sk L 7 q) (hp : ob sk L 8 p) (ko : f_Link_object F c 147 (nI t) (cH sk L τ) = some (some q, cH sk L τ)) (s1 : f_ObjectFile_num F c q (nI x) (nI 8) (cH sk L τ) = some (lN Lv, cH sk L τ)) (s3 : f_ObjectFile_num F c q (nI (x + 12)) (nI 4) (cH sk L τ) = some (lN Y, cH sk L τ)) (s4 : f_ObjectFile_num F c q (nI (x + 16)) (nI 8) (cH sk L τ) = some (lN Dv, cH sk L τ)) (ku : f_Filler_spotOf F c 1710 (some p) (cH sk L τ) = some (u, cH sk L τ)) (h7 : fI τ p 7 = nI (base + P0)) (h5 : fI τ q 5 = nI base) (h11 : fJ τ p 11 = lN adr) (ksa : f_Layout_symbolAddress F c 1700 (nI t) (nI Y) (cH sk L τ) = some (SA, cH sk L τ)) (kX : f_ObjectFile_num F c q (nI (P0 + Lv - 2)) (nI 1) (cH sk L τ) = some (lN X, cH sk L τ)) (kY : f_ObjectFile_num F c q (nI (P0 + Lv - 2 + 1)) (nI 1) (cH sk L τ) = some (lN Yb, cH sk L τ)) (h2 : 2 ≤ Lv) (hLv : Lv < 2 ^ 30) (hX : X < 256) (hY : Yb < 256) (c1 : X = 139 → K = 1) (c2 : X ≠ 139 → Yb = 21 → K = 2) (c3 : X ≠ 139 → Yb ≠ 21 → K = 3) : ∃ τ', f_Filler_fillShort F c 1710 (nI t) (nI x) (some p) (cH sk L τ) = some (bI (decide ((SA + lN Dv - lN (adr + Lv) + (if K = 3 then lN 1 else lN 0)) = (SA + lN Dv - lN (adr + Lv) + (if K = 3 then lN 1 else lN 0)).toInt32.toInt64)), cH sk L τ') ∧ rF sk L τ' ∧ fF τ τ' ∧ ∀ y, fC τ y → fC τ' (shW (u + nI Lv) K (SA + lN Dv - lN (adr + Lv) + (if K = 3 then lN 1 else lN 0)) y) := by
  have e0 : ∀ v : Int64, v + lN 0 = v := fun v => Int64.add_zero v
  have e236 : ∀ (v : Int64) (τ1 : px_TT), f_Filler_fillShort_236 F c v (cH sk L τ1) = some (bI (decide (v = v.toInt32.toInt64)), cH sk L τ1) := fun v τ1 => by
    unfold f_Filler_fillShort_236 f_Filler_fillShort_251
    by_cases cc : v = v.toInt32.toInt64
    · rw [if_pos cc, xz_1, decide_eq_true cc]
    · rw [if_neg cc, xz_0, decide_eq_false cc]
  have pre : ∀ z, f_Filler_fillShort F c 1710 (nI t) (nI x) (some p) (cH sk L τ) = z ↔ (if lN X = ((139 : Int64)) then
    (xgR (cH sk L τ) 1 4 1710).bind fun t34 =>
    (xo (cH sk L τ) 10 t34).bind fun _ =>
    xb (f_Row_set F c t34 ((u + nI Lv) - (nI 2)) (nI 1) ((141 : Int64)) (cH sk L τ)) fun _ ph35 =>
    (xgR ph35 1 4 1710).bind fun t36 =>
    (xo ph35 10 t36).bind fun _ =>
    xb (f_Row_set F c t36 (u + nI Lv) (nI 4) (SA + lN Dv - lN (adr + Lv)) ph35) fun _ ph37 =>
    f_Filler_fillShort_236 F c (SA + lN Dv - lN (adr + Lv)) ph37
  else if lN Yb = ((21 : Int64)) then
      (xgR (cH sk L τ) 1 4 1710).bind fun t30 =>
      (xo (cH sk L τ) 10 t30).bind fun _ =>
      xb (f_Row_set F c t30 ((u + nI Lv) - (nI 2)) (nI 2) ((59495 : Int64)) (cH sk L τ)) fun _ ph31 =>
      (xgR ph31 1 4 1710).bind fun t32 =>
      (xo ph31 10 t32).bind fun _ =>
      xb (f_Row_set F c t32 (u + nI Lv) (nI 4) (SA + lN Dv - lN (adr + Lv)) ph31) fun _ ph33 =>
      f_Filler_fillShort_236 F c (SA + lN Dv - lN (adr + Lv)) ph33
    else
      (xgR (cH sk L τ) 1 4 1710).bind fun t24 =>
      (xo (cH sk L τ) 10 t24).bind fun _ =>
      xb (f_Row_set F c t24 ((u + nI Lv) - (nI 2)) (nI 1) ((233 : Int64)) (cH sk L τ)) fun _ ph25 =>
      (xgR ph25 1 4 1710).bind fun t26 =>
      (xo ph25 10 t26).bind fun _ =>
      xb (f_Row_set F c t26 ((u + nI Lv) - (nI 1)) (nI 4) ((SA + lN Dv - lN (adr + Lv)) + (lN 1)) ph25) fun _ ph27 =>
      (xgR ph27 1 4 1710).bind fun t28 =>
      (xo ph27 10 t28).bind fun _ =>
      xb (f_Row_set F c t28 ((u + nI Lv) + (nI 3)) (nI 1) ((144 : Int64)) ph27) fun _ ph29 =>
      f_Filler_fillShort_236 F c ((SA + lN Dv - lN (adr + Lv)) + (lN 1)) ph29) = z := fun z => by
    unfold f_Filler_fillShort
    rw [C1r0 (G1710 hS) (GR_r (v := 147) hR (by decide)), bs, c_o (G147 hS), bs, ko, xb_mk, bs, c_o oq, bs, s1, xb_mk, c_o (G1710 hS), bs, ku, xb_mk, bs, C8g7 hp, bs, C7g5 oq, bs, C8g11 hp, bs, C1r1 (G1710 hS) (GR_r (v := 1700) hR (by decide)), bs, c_o oq, bs, nI_add, s3, xb_mk, c_o (G1700 hS), bs, lN_i, ksa, xb_mk, c_o oq, bs, nI_add, s4, xb_mk, c_o oq, bs, h7, h5, h11, lN_i, nI_l (by omega), lN_add, pk_sub (by omega), show base + P0 - base = P0 by omega, nI_add, pk_sub (by omega), kX, xb_mk, c_o oq, bs, nI_add, kY, xb_mk]
  rw [← exists_congr (fun τ' => and_congr_left (fun _ => (pre _).symm))]
  by_cases d1 : X = 139
  · have hK1 := c1 d1
    have hK : ¬ K = 3 := by omega
    rw [if_neg hK, e0, if_pos (show lN X = (139 : Int64) by rw [d1]; rfl)]
    obtain ⟨τ1, a1, r1, f1, u1⟩ := k_setC (F := F) (c := c) (v := (141 : Int64)) (k := 1) (p := (u + nI Lv) - nI 2) (by omega) (by decide) h
    obtain ⟨τ2, a2, r2, f2, u2⟩ := k_setC (F := F) (c := c) (v := SA + lN Dv - lN (adr + Lv)) (k := 4) (p := u + nI Lv) (by omega) (by decide) r1
    refine ⟨τ2, ?_, r2, frRw_trans f1 f2, fun y hy => by unfold shW; rw [if_neg hK, if_neg (show ¬ K = 2 by omega)]; exact u2 _ (u1 y hy)⟩
    rw [C1r4 (G1710 hS) (GR_r (v := 1711) hR (by decide)), bs, c_o h.1, bs, a1, xb_mk, C1r4 (G1710 hS) (GR_r (v := 1711) (GR_Fw hR f1) (by decide)), bs, c_o h.1, bs, a2, xb_mk, e236]
  · rw [if_neg (show ¬ lN X = (139 : Int64) from fun e => d1 ((lEQ (b := 139) (by omega) (by decide)).mp e))]
    by_cases d2 : Yb = 21
    · have hK1 := c2 d1 d2
      have hK : ¬ K = 3 := by omega
      rw [if_neg hK, e0, if_pos (show lN Yb = (21 : Int64) by rw [d2]; rfl)]
      obtain ⟨τ1, a1, r1, f1, u1⟩ := k_setC (F := F) (c := c) (v := (59495 : Int64)) (k := 2) (p := (u + nI Lv) - nI 2) (by omega) (by decide) h
      obtain ⟨τ2, a2, r2, f2, u2⟩ := k_setC (F := F) (c := c) (v := SA + lN Dv - lN (adr + Lv)) (k := 4) (p := u + nI Lv) (by omega) (by decide) r1
      refine ⟨τ2, ?_, r2, frRw_trans f1 f2, fun y hy => by unfold shW; rw [if_neg hK, if_pos hK1]; exact u2 _ (u1 y hy)⟩
      rw [C1r4 (G1710 hS) (GR_r (v := 1711) hR (by decide)), bs, c_o h.1, bs, a1, xb_mk, C1r4 (G1710 hS) (GR_r (v := 1711) (GR_Fw hR f1) (by decide)), bs, c_o h.1, bs, a2, xb_mk, e236]
    · have hK := c3 d1 d2
      rw [if_pos hK, if_neg (show ¬ lN Yb = (21 : Int64) from fun e => d2 ((lEQ (b := 21) (by omega) (by decide)).mp e))]
      obtain ⟨τ1, a1, r1, f1, u1⟩ := k_setC (F := F) (c := c) (v := (233 : Int64)) (k := 1) (p := (u + nI Lv) - nI 2) (by omega) (by decide) h
      obtain ⟨τ2, a2, r2, f2, u2⟩ := k_setC (F := F) (c := c) (v := (SA + lN Dv - lN (adr + Lv)) + lN 1) (k := 4) (p := (u + nI Lv) - nI 1) (by omega) (by decide) r1
      obtain ⟨τ3, a3, r3, f3, u3⟩ := k_setC (F := F) (c := c) (v := (144 : Int64)) (k := 1) (p := (u + nI Lv) + nI 3) (by omega) (by decide) r2
      refine ⟨τ3, ?_, r3, frRw_trans f1 (frRw_trans f2 f3), fun y hy => by unfold shW; rw [if_pos hK]; exact u3 _ (u2 _ (u1 y hy))⟩
      rw [C1r4 (G1710 hS) (GR_r (v := 1711) hR (by decide)), bs, c_o h.1, bs, a1, xb_mk, C1r4 (G1710 hS) (GR_r (v := 1711) (GR_Fw hR f1) (by decide)), bs, c_o h.1, bs, a2, xb_mk, C1r4 (G1710 hS) (GR_r (v := 1711) (GR_Fw hR (frRw_trans f1 f2)) (by decide)), bs, c_o h.1, bs, a3, xb_mk, e236]
/-- a site that is not short -/
theorem k_fs_165 {u : Int32} {p w H Lv adr tp : Nat} {sl : Bool} {v0 : Int64} (hF : 65536 < F) (hS : GS sk L) (hR : GR τ) (h : rF sk L τ) (hp : ob sk L 8 p) (hw : w = 4 ∨ w = 8) (hH : H ≤ 42) (hLv : Lv < 2 ^ 30) (h11 : fJ τ p 11 = lN adr) (h17 : fJ τ 1700 17 = lN tp) (hsl : sl = isSl H) (ku : f_Filler_spotOf F c 1710 (some p) (cH sk L τ) = some (u, cH sk L τ)) : ∃ τ' v, v = (if isSl H = true then v0 - lN (adr + Lv) else if H = 2 ∨ H = 4 then v0 - lN (adr + Lv) else if H = 18 ∨ H = 23 then v0 - lN tp else v0) ∧ f_Filler_fillSite_165 F c 1710 (some p) (nI H) (nI w) (nI Lv) (bI sl) v0 (cH sk L τ) = some (bI (decide (w = 8) || (if H = 10 then decide (((v.toUInt64 >>> ((nI 32).toInt64.toUInt64 &&& Int64.toUInt64 63)).toInt64) = lN 0) else decide (v = v.toInt32.toInt64))), cH sk L τ') ∧ rF sk L τ' ∧ fF τ τ' ∧ ∀ y, fC τ y → fC τ' (wSet (u + nI Lv) w v y) := by
  have k226 : ∀ v, ∃ τ', f_Filler_fillSite_226 F c 1710 (some p) (nI H) (nI w) (nI Lv) v (cH sk L τ) = some (bI (decide (w = 8) || (if H = 10 then decide (((v.toUInt64 >>> ((nI 32).toInt64.toUInt64 &&& Int64.toUInt64 63)).toInt64) = lN 0) else decide (v = v.toInt32.toInt64))), cH sk L τ') ∧ rF sk L τ' ∧ fF τ τ' ∧ ∀ y, fC τ y → fC τ' (wSet (u + nI Lv) w v y) := fun v => k_fs_226 (a3 := nI 0) hF hS hR h hw (by omega) ku
  have k213 : ∃ τ', f_Filler_fillSite_213 F c 1710 (some p) (nI H) (nI w) (nI Lv) v0 (cH sk L τ) = some (bI (decide (w = 8) || (if H = 10 then decide ((((v0 - lN (adr + Lv)).toUInt64 >>> ((nI 32).toInt64.toUInt64 &&& Int64.toUInt64 63)).toInt64) = lN 0) else decide ((v0 - lN (adr + Lv)) = (v0 - lN (adr + Lv)).toInt32.toInt64))), cH sk L τ') ∧ rF sk L τ' ∧ fF τ τ' ∧ ∀ y, fC τ y → fC τ' (wSet (u + nI Lv) w (v0 - lN (adr + Lv)) y) := by
    obtain ⟨τ', z⟩ := k226 (v0 - lN (adr + Lv))
    refine ⟨τ', ?_, z.2⟩
    unfold f_Filler_fillSite_213
    rw [bs, C8g11 hp, bs, h11, nI_l (by omega), lN_add]
    exact z.1
  have k181 : ∃ τ', f_Filler_fillSite_181 F c 1710 (some p) (nI H) (nI w) (nI Lv) v0 (cH sk L τ) = some (bI (decide (w = 8) || (if H = 10 then decide ((((v0 - lN tp).toUInt64 >>> ((nI 32).toInt64.toUInt64 &&& Int64.toUInt64 63)).toInt64) = lN 0) else decide ((v0 - lN tp) = (v0 - lN tp).toInt32.toInt64))), cH sk L τ') ∧ rF sk L τ' ∧ fF τ τ' ∧ ∀ y, fC τ y → fC τ' (wSet (u + nI Lv) w (v0 - lN tp) y) := by
    obtain ⟨τ', z⟩ := k226 (v0 - lN tp)
    refine ⟨τ', ?_, z.2⟩
    unfold f_Filler_fillSite_181
    rw [C1r1 (G1710 hS) (GR_r (v := 1700) hR (by decide)), bs, C2g17 (G1700 hS), bs, h17]
    exact z.1
  have eN1 : ∀ v, v < 2 ^ 31 → ((nI H = nI v) ↔ H = v) := fun v hv => nI_eq (by omega) hv
  unfold f_Filler_fillSite_165
  by_cases d18 : H = 18 ∨ H = 23
  · have e1 : isSl H = false := decide_eq_false (by omega)
    obtain ⟨τ', z1, z2, z3⟩ := k181
    refine ⟨τ', v0 - lN tp, by rw [e1, if_neg (by decide), if_neg (by omega), if_pos d18], ?_, z2, z3⟩
    by_cases d : H = 18
    · rw [if_pos ((eN1 18 (by decide)).mpr d)]; exact z1
    · rw [if_neg (fun e => d ((eN1 18 (by decide)).mp e)), if_pos ((eN1 23 (by decide)).mpr (by omega))]; exact z1
  · rw [if_neg (fun e => d18 (Or.inl ((eN1 18 (by decide)).mp e))), if_neg (fun e => d18 (Or.inr ((eN1 23 (by decide)).mp e)))]
    by_cases d2 : H = 2 ∨ H = 4
    · have e1 : isSl H = false := decide_eq_false (by omega)
      obtain ⟨τ', z1, z2, z3⟩ := k213
      refine ⟨τ', v0 - lN (adr + Lv), by rw [e1, if_neg (by decide), if_pos d2], ?_, z2, z3⟩
      by_cases d : H = 2
      · rw [if_pos ((eN1 2 (by decide)).mpr d)]; exact z1
      · rw [if_neg (fun e => d ((eN1 2 (by decide)).mp e)), if_pos ((eN1 4 (by decide)).mpr (by omega))]; exact z1
    · rw [if_neg (fun e => d2 (Or.inl ((eN1 2 (by decide)).mp e))), if_neg (fun e => d2 (Or.inr ((eN1 4 (by decide)).mp e)))]
      cases es : isSl H with
      | false =>
        rw [es] at hsl
        obtain ⟨τ', z1, z2, z3⟩ := k226 v0
        refine ⟨τ', v0, by rw [if_neg (by decide), if_neg d2, if_neg d18], ?_, z2, z3⟩
        rw [hsl, if_pos (show bI false = 0 from rfl)]; exact z1
      | true =>
        rw [es] at hsl
        obtain ⟨τ', z1, z2, z3⟩ := k213
        refine ⟨τ', v0 - lN (adr + Lv), by rw [if_pos rfl], ?_, z2, z3⟩
        rw [hsl, if_neg (show ¬ bI true = 0 by decide)]; exact z1
end CFT
