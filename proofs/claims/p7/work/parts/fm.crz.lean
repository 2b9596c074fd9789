/-! the class's rows, with how much has been put into them (steps spelled out by sf/pp.py) -/
/-- cc bytes have been put: all of them stand there, or the row has run over -/
def rz (τ : px_TT) (r n cc : Nat) : Prop := (cc ≤ n → fI τ r 1 = nI cc ∧ fI τ r 2 = bI false) ∧ (n < cc → fI τ r 2 = bI true)
section CRZ
variable {F : Nat} {c : px_CT} {sk : Nat → Nat × Nat × Nat} {L : Nat} {r A n : Nat}
theorem rz_fr {τ τ' : px_TT} {cc : Nat} (h : rz τ r n cc) (f : ∀ k, fI τ' r k = fI τ r k) : rz τ' r n cc := by
  unfold rz at *
  rw [f 1, f 2]
  exact h
theorem rz_z {τ : px_TT} {z cc : Nat} (h : rz τ r n cc) (hn : n ≤ 65536) (hz : z ≤ n) (ez : fI τ r 1 = nI z) (hc : cc ≤ n) : z = cc := (nI_eq (by omega) (by omega)).mp (ez.symm.trans (h.1 hc).1)
theorem rz_s {τ : px_TT} {g : Nat → Int32} {z cc k : Nat} (h : rz τ r n cc) (hzc : cc ≤ n → z = cc) (hz : z + k ≤ n) : rz (tI (vI τ A g) r 1 (nI (z + k))) r n (cc + k) := by
  have e2 : fI (tI (vI τ A g) r 1 (nI (z + k))) r 2 = fI τ r 2 := tI_ne (Or.inr (by decide))
  refine ⟨fun q => ⟨?_, ?_⟩, fun q => ?_⟩
  · have e := hzc (by omega)
    rw [tI_at, e]
  · rw [e2]; exact (h.1 (by omega)).2
  · rw [e2]
    by_cases cq : cc ≤ n
    · have e := hzc cq
      omega
    · exact h.2 (by omega)
theorem k_clearZ {τ : px_TT} (h : rowOK sk L τ r A n) : ∃ τ', f_Row_clear F c r (cH sk L τ) = some ((), cH sk L τ') ∧ rowOK sk L τ' r A n ∧ frRw r A τ τ' ∧ rz τ' r n 0 := by
  refine ⟨tI (tI τ r 1 (nI 0)) r 2 (bI false), ?_, rowOK_2 (rowOK_1 h (Nat.zero_le _)), frRw_trans frRw_1 frRw_2, fun _ => ⟨(tI_ne (Or.inr (by decide))).trans tI_at, tI_at⟩, fun q => absurd q (Nat.not_lt_zero _)⟩
  unfold f_Row_clear
  rw [C10p1 h.1, bs, show (nI 0 : Int32) = bI false from rfl, C10z2 h.1, bs]
theorem k_put_3Z {v : Int64} {k : Nat} (hk : k < 2 ^ 31) : ∀ (d j f : Nat) (τ : px_TT) (cc : Nat), j + d = k → d < f → rowOK sk L τ r A n → rz τ r n cc → ∃ τ', f_Row_put_3 F c f r (nI k) v (nI j) (cH sk L τ) = some ((), cH sk L τ') ∧ rowOK sk L τ' r A n ∧ frRw r A τ τ' ∧ rz τ' r n (cc + d) := by
  intro d
  induction d with
  | zero =>
    intro j f τ cc hj hf h hz
    obtain ⟨f, rfl⟩ : ∃ x, f = x + 1 := ⟨f - 1, by omega⟩
    refine ⟨τ, ?_, h, frRw_refl, hz⟩
    unfold f_Row_put_3 f_Row_put_63
    rw [if_pos (nI_le (by omega) (by omega))]
  | succ d ih =>
    intro j f τ cc hj hf h hz0
    obtain ⟨f, rfl⟩ : ∃ x, f = x + 1 := ⟨f - 1, by omega⟩
    obtain ⟨z, hz, ez⟩ := h.2.2.2.2.1
    have hn := h.2.2.1
    have hzc : cc ≤ n → z = cc := fun q => rz_z hz0 hn hz ez q
    have ecc : cc + (d + 1) = cc + 1 + d := by omega
    unfold f_Row_put_3 f_Row_put_57
    rw [if_neg (nI_ge (by omega) (by omega)), C10g1 h.1, bs, C10r0 h.1 h.2.2.2.1, bs, c_l h.2.1 (by decide), bs, ez, nI_add, ecc]
    by_cases c1 : n ≤ z
    · have hz1 : rz (tI τ r 2 (bI true)) r n (cc + 1) := ⟨fun q => absurd (hzc (by omega)) (by omega), fun _ => tI_at⟩
      obtain ⟨τ', g1, g2, g3, g4⟩ := ih (j + 1) f (tI τ r 2 (bI true)) (cc + 1) (by omega) (by omega) (rowOK_2 h) hz1
      refine ⟨τ', ?_, g2, frRw_trans frRw_2 g3, g4⟩
      rw [if_pos (nI_le c1 (by omega)), show (nI 1 : Int32) = bI true from rfl, C10z2 h.1, bs]
      exact g1
    · have h1 := rowOK_v (g := upd (eI τ A) z (((((v.toUInt64 >>> (((nI 8) * (nI j)).toInt64.toUInt64 &&& Int64.toUInt64 63)).toInt64).toInt32).toInt8.toInt32).toInt8.toInt32)) h (upd_B h.2.2.2.2.2.2 (isB_8 _))
      have h2 := rowOK_1 (z := z + 1) h1 (by omega)
      obtain ⟨τ', g1, g2, g3, g4⟩ := ih (j + 1) f _ (cc + 1) (by omega) (by omega) h2 (rz_s hz0 hzc (by omega))
      refine ⟨τ', ?_, g2, frRw_trans (frRw_trans frRw_v frRw_1) g3, g4⟩
      rw [if_neg (nI_ge (by omega) (by omega)), bs, bs, c_sI h.2.1 (Or.inl rfl) (by omega) (by omega), bs, C10g1 h.1, bs]
      show ((xpI _ 10 1 r (fI τ r 1 + nI 1)).bind _) = _
      rw [ez, nI_add, C10p1 h.1, bs]
      exact g1
theorem k_putZ {τ : px_TT} {v : Int64} {k cc : Nat} (hF : k < F) (hk : k < 2 ^ 31) (h : rowOK sk L τ r A n) (hz : rz τ r n cc) : ∃ τ', f_Row_put F c r (nI k) v (cH sk L τ) = some ((), cH sk L τ') ∧ rowOK sk L τ' r A n ∧ frRw r A τ τ' ∧ rz τ' r n (cc + k) := k_put_3Z hk k 0 F τ cc (Nat.zero_add _) hF h hz
theorem k_fill3_10Z {w : Int32} {e : Nat} (he : e ≤ n) : ∀ (d j f : Nat) (τ : px_TT), j + d = e → d < f → rowOK sk L τ r A n → ∃ τ', f_Arrays_fill_3_10 F c f A (nI e) w (nI j) (cH sk L τ) = some ((), cH sk L τ') ∧ rowOK sk L τ' r A n ∧ frRw r A τ τ' ∧ ∀ a k, fI τ' a k = fI τ a k := by
  intro d
  induction d with
  | zero =>
    intro j f τ hj hf h
    have hn := h.2.2.1
    obtain ⟨f, rfl⟩ : ∃ x, f = x + 1 := ⟨f - 1, by omega⟩
    refine ⟨τ, ?_, h, frRw_refl, fun _ _ => rfl⟩
    unfold f_Arrays_fill_3_10 f_Arrays_fill_3_27
    rw [if_pos (nI_le (by omega) (by omega))]
  | succ d ih =>
    intro j f τ hj hf h
    have hn := h.2.2.1
    obtain ⟨f, rfl⟩ : ∃ x, f = x + 1 := ⟨f - 1, by omega⟩
    obtain ⟨τ', g1, g2, g3, g4⟩ := ih (j + 1) f _ (by omega) (by omega) (rowOK_v (g := upd (eI τ A) j w.toInt8.toInt32) h (upd_B h.2.2.2.2.2.2 (isB_8 _)))
    refine ⟨τ', ?_, g2, frRw_trans frRw_v g3, fun a k => g4 a k⟩
    unfold f_Arrays_fill_3_10
    rw [if_neg (nI_ge (by omega) (by omega)), c_sI h.2.1 (Or.inl rfl) (by omega) (by omega), bs, nI_add]
    exact g1
theorem k_fillTo_16Z {τ : px_TT} {e : Nat} {w : Int32} (hF : 65536 < F) (he : e < 2 ^ 62) (h : rowOK sk L τ r A n) : ∃ τ', f_Row_fillTo_16 F c r (lN e) w (cH sk L τ) = some ((), cH sk L τ') ∧ rowOK sk L τ' r A n ∧ frRw r A τ τ' ∧ fI τ' r 2 = fI τ r 2 ∧ ∀ z, z ≤ e → e ≤ n → fI τ r 1 = nI z → fI τ' r 1 = nI e := by
  obtain ⟨z, hz, ez⟩ := h.2.2.2.2.1
  have hn := h.2.2.1
  obtain ⟨m, hm⟩ : ∃ m, m = (if (nI n).toInt64 < lN e then (nI n).toInt64 else lN e).toInt32 := ⟨_, rfl⟩
  have hmq : ∃ q, q ≤ n ∧ m = nI q ∧ (e ≤ n → q = e) := by
    rw [nI_l (by omega)] at hm
    by_cases c2 : lN n < lN e
    · rw [if_pos c2, lN_i] at hm
      exact ⟨n, Nat.le_refl _, hm, fun w => absurd ((pk_lLT (by omega) (by omega)).mp c2) (by omega)⟩
    · rw [if_neg c2, lN_i] at hm
      exact ⟨e, Nat.le_of_not_lt (fun q => c2 ((pk_lLT (by omega) (by omega)).mpr q)), hm, fun _ => rfl⟩
  obtain ⟨q, q1, q3, q4⟩ := hmq
  unfold f_Row_fillTo_16 f_Row_fillTo_59
  rw [C10r0 h.1 h.2.2.2.1, bs, c_l h.2.1 (by decide), bs, C10g1 h.1, bs, ez, ← hm, q3]
  by_cases c1 : q ≤ z
  · refine ⟨τ, by rw [if_pos (nI_le c1 (by omega))], h, frRw_refl, rfl, fun z' h1 h2 h3 => ?_⟩
    have e1 := q4 h2
    have e2 : z = z' := (nI_eq (by omega) (by omega)).mp h3
    rw [ez, show z = e by omega]
  · obtain ⟨τ1, g1, g2, g3, g4⟩ := k_fill3_10Z (F := F) (c := c) (w := w.toInt8.toInt32) q1 (q - z) z F τ (by omega) (by omega) h
    refine ⟨tI τ1 r 1 (nI q), ?_, rowOK_1 g2 q1, frRw_trans g3 frRw_1, (tI_ne (Or.inr (by decide))).trans (g4 r 2), fun z' _ h2 _ => by rw [tI_at, q4 h2]⟩
    rw [if_neg (nI_ge (by omega) (by omega)), bs, bs]
    unfold f_Arrays_fill_3 f_Arrays_rangeCheck
    rw [c_l h.2.1 (by decide), bs, if_pos (nI_le (by omega) (by omega)), if_pos (nI_0le (by omega)), if_pos (nI_le q1 (by omega)), xb_mk, g1, xb_mk, C10p1 h.1, bs]
theorem k_fillToZ {τ : px_TT} {e cc k : Nat} {w : Int32} (hF : 65536 < F) (he : e < 2 ^ 62) (h : rowOK sk L τ r A n) (hz : rz τ r n cc) (hk : 1 ≤ k) (hx : cc ≤ n → e = cc + k) : ∃ τ', f_Row_fillTo F c r (lN e) w (cH sk L τ) = some ((), cH sk L τ') ∧ rowOK sk L τ' r A n ∧ frRw r A τ τ' ∧ rz τ' r n (cc + k) := by
  have hn := h.2.2.1
  unfold f_Row_fillTo
  rw [C10r0 h.1 h.2.2.2.1, bs, c_l h.2.1 (by decide), bs]
  by_cases c1 : lN e ≤ (nI n).toInt64
  · rw [if_pos c1]
    rw [nI_l (by omega)] at c1
    have c1' : e ≤ n := (pk_lLE (by omega) (by omega)).mp c1
    obtain ⟨τ', g1, g2, g3, g4, g5⟩ := k_fillTo_16Z (F := F) (c := c) (e := e) (w := w) hF he h
    refine ⟨τ', g1, g2, g3, fun q => ?_, fun q => ?_⟩
    · have hc : cc ≤ n := by omega
      have ee := hx hc
      exact ⟨by rw [g5 cc (by omega) c1' (hz.1 hc).1, ee], g4.trans (hz.1 hc).2⟩
    · by_cases hc : cc ≤ n
      · have ee := hx hc
        omega
      · exact g4.trans (hz.2 (by omega))
  · obtain ⟨τ', g1, g2, g3, g4, g5⟩ := k_fillTo_16Z (F := F) (c := c) (e := e) (w := w) hF he (rowOK_2 (b := true) h)
    refine ⟨τ', ?_, g2, frRw_trans frRw_2 g3, fun q => ?_, fun _ => g4.trans tI_at⟩
    · rw [if_neg c1, show (nI 1 : Int32) = bI true from rfl, C10z2 h.1, bs]
      exact g1
    · exfalso
      have ee := hx (by omega)
      refine c1 ?_
      rw [nI_l (by omega)]
      exact (pk_lLE (by omega) (by omega)).mpr (by omega)
theorem k_writeTo_2Z {p w : Nat} (hF : 1 < F) (hp : ob sk L 5 p) (hpr : p ≠ r) (hw : w ≤ 24) : ∀ (d j f : Nat) (τ : px_TT) (cc : Nat), j + d = w → d < f → fI τ p 3 = nI w → rowOK sk L τ r A n → rz τ r n cc → ∃ τ', f_Name_writeTo_2 F c f p r (nI j) (cH sk L τ) = some ((), cH sk L τ') ∧ rowOK sk L τ' r A n ∧ frRw r A τ τ' ∧ rz τ' r n (cc + d) := by
  intro d
  induction d with
  | zero =>
    intro j f τ cc hj hf ew h hz
    obtain ⟨f, rfl⟩ : ∃ x, f = x + 1 := ⟨f - 1, by omega⟩
    refine ⟨τ, ?_, h, frRw_refl, hz⟩
    unfold f_Name_writeTo_2 f_Name_writeTo_67
    rw [C5g3 hp, bs, ew, if_pos (nI_le (by omega) (by omega))]
  | succ d ih =>
    intro j f τ cc hj hf ew h hz
    obtain ⟨f, rfl⟩ : ∃ x, f = x + 1 := ⟨f - 1, by omega⟩
    have ecc : cc + (d + 1) = cc + 1 + d := by omega
    have step : ∀ w : Int64, ∃ τ', f_Name_writeTo_46 F c (f_Name_writeTo_2 F c f) p r (nI j) w (cH sk L τ) = some ((), cH sk L τ') ∧ rowOK sk L τ' r A n ∧ frRw r A τ τ' ∧ rz τ' r n (cc + 1 + d) := fun w => by
      obtain ⟨τ1, a1, a2, a3, a4⟩ := k_putZ (F := F) (c := c) (v := ((w.toUInt64 >>> (((nI 8) * ((nI j) &&& (nI 7))).toInt64.toUInt64 &&& Int64.toUInt64 63)).toInt64)) (k := 1) hF (by decide) h hz
      obtain ⟨τ2, b1, b2, b3, b4⟩ := ih (j + 1) f τ1 (cc + 1) (by omega) (by omega) ((a3.1 p 3 (Or.inl hpr)).trans ew) a2 a4
      refine ⟨τ2, ?_, b2, frRw_trans a3 b3, b4⟩
      unfold f_Name_writeTo_46
      rw [c_o h.1, bs, a1, xb_mk, nI_add]
      exact b1
    unfold f_Name_writeTo_2 f_Name_writeTo_67
    rw [C5g3 hp, bs, ew, if_neg (nI_ge (show j < w by omega) (by omega)), if_neg (nI_ge (show j < 24 by omega) (by decide)), C5g0 hp, C5g1 hp, C5g2 hp, bs, bs, bs, ecc]
    split
    · split
      · exact step _
      · exact step _
    · exact step _
theorem k_writeToZ {τ : px_TT} {p w cc : Nat} (hF : 24 < F) (hp : ob sk L 5 p) (hpr : p ≠ r) (hw : w ≤ 24) (ew : fI τ p 3 = nI w) (h : rowOK sk L τ r A n) (hz : rz τ r n cc) : ∃ τ', f_Name_writeTo F c p r (cH sk L τ) = some ((), cH sk L τ') ∧ rowOK sk L τ' r A n ∧ frRw r A τ τ' ∧ rz τ' r n (cc + w) := k_writeTo_2Z (by omega) hp hpr hw w 0 F τ cc (Nat.zero_add _) (by omega) ew h hz
theorem k_putHex_3Z {v : Int64} (hF : 1 < F) : ∀ (d f : Nat) (τ : px_TT) (cc : Nat), d ≤ 16 → d < f → rowOK sk L τ r A n → rz τ r n cc → ∃ τ', f_Row_putHex_3 F c f r v (nI (4 * d) - nI 4) (cH sk L τ) = some ((), cH sk L τ') ∧ rowOK sk L τ' r A n ∧ frRw r A τ τ' ∧ rz τ' r n (cc + d) := by
  intro d
  induction d with
  | zero =>
    intro f τ cc hd hf h hz
    obtain ⟨f, rfl⟩ : ∃ x, f = x + 1 := ⟨f - 1, by omega⟩
    refine ⟨τ, ?_, h, frRw_refl, hz⟩
    unfold f_Row_putHex_3 f_Row_putHex_52
    rw [if_pos (by decide)]
  | succ d ih =>
    intro f τ cc hd hf h hz
    obtain ⟨f, rfl⟩ : ∃ x, f = x + 1 := ⟨f - 1, by omega⟩
    have ecc : cc + (d + 1) = cc + 1 + d := by omega
    have e4 : nI (4 * (d + 1)) - nI 4 = nI (4 * d) := by rw [pk_sub (by omega), show 4 * (d + 1) - 4 = 4 * d by omega]
    have em : nI (4 * d) + Int32.ofInt (-4) = nI (4 * d) - nI 4 := by rw [Int32.sub_eq_add_neg]; rfl
    have step : ∀ w : Int64, ∃ τ', f_Row_putHex_43 F c (f_Row_putHex_3 F c f) r v (nI (4 * d)) r (nI 1) w (cH sk L τ) = some ((), cH sk L τ') ∧ rowOK sk L τ' r A n ∧ frRw r A τ τ' ∧ rz τ' r n (cc + 1 + d) := fun w => by
      obtain ⟨τ1, a1, a2, a3, a4⟩ := k_putZ (F := F) (c := c) (v := w) (k := 1) hF (by decide) h hz
      obtain ⟨τ2, b1, b2, b3, b4⟩ := ih f τ1 (cc + 1) (by omega) (by omega) a2 a4
      refine ⟨τ2, ?_, b2, frRw_trans a3 b3, b4⟩
      unfold f_Row_putHex_43
      rw [c_o h.1, bs, a1, xb_mk, em]
      exact b1
    rw [e4, ecc]
    unfold f_Row_putHex_3 f_Row_putHex_52
    rw [if_neg (show ¬ nI (4 * d) < 0 from nI_pos (by omega))]
    split
    · exact step _
    · exact step _
theorem k_putHexZ {τ : px_TT} {v : Int64} {cc : Nat} (hF : 16 < F) (h : rowOK sk L τ r A n) (hz : rz τ r n cc) : ∃ τ', f_Row_putHex F c r v (cH sk L τ) = some ((), cH sk L τ') ∧ rowOK sk L τ' r A n ∧ frRw r A τ τ' ∧ rz τ' r n (cc + 16) := k_putHex_3Z (by omega) 16 F τ cc (Nat.le_refl _) (by omega) h hz
end CRZ
/-- a run that only writes rows, and cc bytes have been put into the row r -/
def SZ (zb : Option Nat) (sk : Nat → Nat × Nat × Nat) (L : Nat) (τ0 : px_TT) (r n cc : Nat) (τ : px_TT) : Prop := SI zb sk L τ0 τ ∧ rz τ r n cc ∧ ∀ k, fN τ 0 k = fN τ0 0 k
section SZS
variable {F : Nat} {c : px_CT} {sk : Nat → Nat × Nat × Nat} {L : Nat} {zb : Option Nat} {τ0 τ τ' : px_TT} {r A n cc k : Nat} {α β : Type} {V : α → Prop} {W : β → Prop} {I J : px_TT → Prop}
theorem sz_x {m : Option (β × px_H)} {f : β → px_H → Option (α × px_H)} (h : Sf sk L J W m) (g : ∀ v τ, W v → J τ → Sf sk L I V (f v (cH sk L τ))) : Sf sk L I V (xb m f) := by
  obtain ⟨v, τ, e, hv, hJ⟩ := h
  rw [e, xb_mk]
  exact g v τ hv hJ
theorem sz_Rw {m : Option (β × px_H)} {v : β} (hI : SI zb sk L τ0 τ) (hN : ∀ k, fN τ 0 k = fN τ0 0 k) (hr : TRw r A n) (h : ∃ τ', m = some (v, cH sk L τ') ∧ rowOK sk L τ' r A n ∧ frRw r A τ τ' ∧ rz τ' r n cc) : Sf sk L (SZ zb sk L τ0 r n cc) Any m := by
  obtain ⟨τ', e, h1, h2, h3⟩ := h
  exact ⟨v, τ', e, any, SI_Rw hI hr h2 h1, h3, fun k => (h2.2.2.1 0 k).trans (hN k)⟩
theorem sz_clear (hI : SI zb sk L τ0 τ) (hN : ∀ k, fN τ 0 k = fN τ0 0 k) (hr : TRw r A n) : Sf sk L (SZ zb sk L τ0 r n 0) Any (f_Row_clear F c r (cH sk L τ)) := sz_Rw hI hN hr (k_clearZ (SI_row hI hr))
theorem sz_put {v : Int64} (hF : 65540 < F) (hr : TRw r A n) (hk : k ≤ 8) (hI : SZ zb sk L τ0 r n cc τ) : Sf sk L (SZ zb sk L τ0 r n (cc + k)) Any (f_Row_put F c r (nI k) v (cH sk L τ)) := sz_Rw hI.1 hI.2.2 hr (k_putZ (by omega) (by omega) (SI_row hI.1 hr) hI.2.1)
theorem sz_hex {v : Int64} (hF : 65540 < F) (hr : TRw r A n) (hI : SZ zb sk L τ0 r n cc τ) : Sf sk L (SZ zb sk L τ0 r n (cc + 16)) Any (f_Row_putHex F c r v (cH sk L τ)) := sz_Rw hI.1 hI.2.2 hr (k_putHexZ (by omega) (SI_row hI.1 hr) hI.2.1)
theorem sz_fill {w : Int32} (hF : 65540 < F) (hr : TRw r A n) (hk : 1 ≤ k) (hk2 : k ≤ 64) (hI : SZ zb sk L τ0 r n cc τ) : Sf sk L (SZ zb sk L τ0 r n (cc + k)) Any (f_Row_fillTo F c r ((fI τ r 1 + nI k).toInt64) w (cH sk L τ)) := by
  have hro := SI_row hI.1 hr
  obtain ⟨z, hz, ez⟩ := hro.2.2.2.2.1
  have hn := hro.2.2.1
  rw [ez, nI_add, nI_l (by omega)]
  exact sz_Rw hI.1 hI.2.2 hr (k_fillToZ (by omega) (by omega) hro hI.2.1 hk (fun q => by rw [rz_z hI.2.1 hn hz ez q]))
theorem sz_wto {p w : Nat} (hF : 65540 < F) (hr : TRw r A n) (hp : ob sk L 5 p) (hpr : p ≠ r) (hw : w ≤ 24) (ew : fI τ p 3 = nI w) (hI : SZ zb sk L τ0 r n cc τ) : Sf sk L (SZ zb sk L τ0 r n (cc + w)) Any (f_Name_writeTo F c p r (cH sk L τ)) := sz_Rw hI.1 hI.2.2 hr (k_writeToZ (by omega) hp hpr hw ew (SI_row hI.1 hr) hI.2.1)
end SZS
