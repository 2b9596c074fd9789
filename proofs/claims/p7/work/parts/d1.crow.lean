/-! the class's rows: copies, names, digits -/
theorem subI31 {z p : Nat} (hz : z < 2 ^ 30) (hp : p < 2 ^ 31) : (nI z - nI p).toInt = (z : Int) - (p : Int) := by
  rw [Int32.toInt_sub, nI_toInt (by omega), nI_toInt hp]
  exact Int.bmod_eq_of_le (by omega) (by omega)
theorem sub_le31 {z p m : Nat} (hz : z < 2 ^ 30) (hp : p < 2 ^ 31) (hm : m < 2 ^ 31) : (nI m ≤ nI z - nI p) ↔ p + m ≤ z := by
  rw [Int32.le_iff_toInt_le, subI31 hz hp, nI_toInt hm]
  omega
theorem sub_lt31 {z p m : Nat} (hz : z < 2 ^ 30) (hp : p < 2 ^ 31) (hm : m < 2 ^ 31) : (nI z - nI p < nI m) ↔ ¬ p + m ≤ z := by
  rw [Int32.lt_iff_toInt_lt, subI31 hz hp, nI_toInt hm]
  omega
theorem cpy_B {f g : Nat → Int32} {sp dp n : Nat} (hf : ∀ k, isB (f k)) (hg : ∀ k, isB (g k)) (k : Nat) : isB (va_cpy f g sp dp n k) := by
  unfold va_cpy
  split
  · exact hf _
  · exact hg _
section CRX
variable {F : Nat} {c : px_CT} {sk : Nat → Nat × Nat × Nat} {L : Nat} {r A n : Nat}
theorem c_cpy {τ : px_TT} {S N sp dp m : Nat} (hA : ar sk L 0 n A) (hS : ar sk L 0 N S) (hB : ∀ k, isB (eI τ S k)) (h1 : sp < 2 ^ 31) (h2 : dp < 2 ^ 31) (h3 : m < 2 ^ 31) (h4 : sp + m ≤ N) (h5 : dp + m ≤ n) : xcpy (cH sk L τ) S (nI sp) A (nI dp) (nI m) = some (cH sk L (vI τ A (va_cpy (eI τ S) (eI τ A) sp dp m))) := by
  unfold xcpy
  rw [c_A hS (Or.inl rfl), bs, c_A hA (Or.inl rfl), bs, nI_clamp h1, nI_clamp h2, nI_clamp h3, if_pos ⟨⟨nI_pos h1, nI_pos h2, nI_pos h3⟩, h4, h5, xfit_B hB sp m⟩]
  congr 1
  refine cH_set _ ?_ ?_
  · unfold cell
    rw [hA.1, vI_at]
    rfl
  · intro x hx
    exact cell_eq (fun _ => rfl) (fun _ => rfl) (fun _ => rfl) (u1_ne hx) rfl rfl
theorem k_coverS {τ : px_TT} {S N : Nat} {p q m : Int32} (hS : ar sk L 0 N S) (hN : N ≤ 65536) (hB : ∀ k, isB (eI τ S k)) (h : rowOK sk L τ r A n) : ∃ τ', f_Row_cover F c r p S q m (cH sk L τ) = some ((), cH sk L τ') ∧ rowOK sk L τ' r A n ∧ frRw r A τ τ' := by
  obtain ⟨z, hz, ez⟩ := h.2.2.2.2.1
  have hn := h.2.2.1
  unfold f_Row_cover f_Row_cover_33
  by_cases c1 : p < 0
  · exact ⟨τ, by rw [if_pos c1], h, frRw_refl⟩
  · rw [if_neg c1]
    by_cases c2 : q < 0
    · exact ⟨τ, by rw [if_pos c2], h, frRw_refl⟩
    · rw [if_neg c2]
      by_cases c3 : m < 0
      · exact ⟨τ, by rw [if_pos c3], h, frRw_refl⟩
      · obtain ⟨p', hp, ep⟩ := nI_of c1
        obtain ⟨q', hq, eq⟩ := nI_of c2
        obtain ⟨m', hm, em⟩ := nI_of c3
        rw [if_neg c3, C10g1 h.1, bs, ez, c_l hS (by decide), ep, eq, em]
        by_cases c4 : p' + m' ≤ z
        · rw [if_neg (fun w => (sub_lt31 (by omega) hp hm).mp w c4), bs]
          by_cases c5 : q' + m' ≤ N
          · refine ⟨vI τ A (va_cpy (eI τ S) (eI τ A) q' p' m'), ?_, rowOK_v h (cpy_B hB h.2.2.2.2.2.2), frRw_v⟩
            rw [if_pos ((sub_le31 (by omega) hq hm).mpr c5), C10r0 h.1 h.2.2.2.1, bs, c_cpy h.2.1 hS hB hq hp hm c5 (by omega), bs]
          · exact ⟨τ, by rw [if_neg (fun w => c5 ((sub_le31 (by omega) hq hm).mp w))], h, frRw_refl⟩
        · exact ⟨τ, by rw [if_pos ((sub_lt31 (by omega) hp hm).mpr c4)], h, frRw_refl⟩
theorem k_copyS {τ : px_TT} {S N : Nat} {q m : Int32} (hS : ar sk L 0 N S) (hN : N ≤ 65536) (hB : ∀ k, isB (eI τ S k)) (h : rowOK sk L τ r A n) : ∃ τ', f_Row_copy F c r S q m (cH sk L τ) = some ((), cH sk L τ') ∧ rowOK sk L τ' r A n ∧ frRw r A τ τ' := by
  obtain ⟨z, hz, ez⟩ := h.2.2.2.2.1
  have hn := h.2.2.1
  unfold f_Row_copy f_Row_copy_16
  by_cases c2 : q < 0
  · exact ⟨τ, by rw [if_pos c2], h, frRw_refl⟩
  · rw [if_neg c2]
    by_cases c3 : m < 0
    · exact ⟨τ, by rw [if_pos c3], h, frRw_refl⟩
    · obtain ⟨q', hq, eq⟩ := nI_of c2
      obtain ⟨m', hm, em⟩ := nI_of c3
      rw [if_neg c3, c_l hS (by decide), bs, eq, em]
      by_cases c5 : q' + m' ≤ N
      · rw [if_pos ((sub_le31 (by omega) hq hm).mpr c5), C10r0 h.1 h.2.2.2.1, bs, c_l h.2.1 (by decide), bs, C10g1 h.1, bs, ez]
        by_cases c6 : z + m' ≤ n
        · refine ⟨tI (vI τ A (va_cpy (eI τ S) (eI τ A) q' z m')) r 1 (nI (z + m')), ?_, rowOK_1 (rowOK_v h (cpy_B hB h.2.2.2.2.2.2)) c6, frRw_trans frRw_v frRw_1⟩
          rw [if_pos ((sub_le31 (by omega) (by omega) hm).mpr c6), bs, bs, c_cpy h.2.1 hS hB hq (by omega) hm c5 c6, bs, C10g1 h.1, bs]
          show ((xpI _ 10 1 r (fI τ r 1 + nI m')).bind _) = _
          rw [ez, nI_add, C10p1 h.1, bs]
        · refine ⟨tI τ r 2 (bI true), ?_, rowOK_2 h, frRw_2⟩
          rw [if_neg (fun w => c6 ((sub_le31 (by omega) (by omega) hm).mp w)), show (nI 1 : Int32) = bI true from rfl, C10z2 h.1, bs]
      · exact ⟨τ, by rw [if_neg (fun w => c5 ((sub_le31 (by omega) hq hm).mp w))], h, frRw_refl⟩
theorem k_writeTo_2S {p : Nat} (hF : 1 < F) (hp : ob sk L 5 p) : ∀ (d j f : Nat) (τ : px_TT), j + d = 24 → d < f → rowOK sk L τ r A n → ∃ τ', f_Name_writeTo_2 F c f p r (nI j) (cH sk L τ) = some ((), cH sk L τ') ∧ rowOK sk L τ' r A n ∧ frRw r A τ τ' := by
  intro d
  induction d with
  | zero =>
    intro j f τ hj hf h
    obtain ⟨f, rfl⟩ : ∃ x, f = x + 1 := ⟨f - 1, by omega⟩
    refine ⟨τ, ?_, h, frRw_refl⟩
    unfold f_Name_writeTo_2 f_Name_writeTo_67
    rw [C5g3 hp, bs]
    split
    · rfl
    · rw [if_pos (nI_le (by omega) (by omega))]
  | succ d ih =>
    intro j f τ hj hf h
    obtain ⟨f, rfl⟩ : ∃ x, f = x + 1 := ⟨f - 1, by omega⟩
    have step : ∀ w : Int64, ∃ τ', f_Name_writeTo_46 F c (f_Name_writeTo_2 F c f) p r (nI j) w (cH sk L τ) = some ((), cH sk L τ') ∧ rowOK sk L τ' r A n ∧ frRw r A τ τ' := fun w => by
      obtain ⟨τ1, a1, a2, a3⟩ := k_putS (F := F) (c := c) (v := ((w.toUInt64 >>> (((nI 8) * ((nI j) &&& (nI 7))).toInt64.toUInt64 &&& Int64.toUInt64 63)).toInt64)) (k := 1) hF (by decide) h
      obtain ⟨τ2, b1, b2, b3⟩ := ih (j + 1) f τ1 (by omega) (by omega) a2
      refine ⟨τ2, ?_, b2, frRw_trans a3 b3⟩
      unfold f_Name_writeTo_46
      rw [c_o h.1, bs, a1, xb_mk, nI_add]
      exact b1
    unfold f_Name_writeTo_2 f_Name_writeTo_67
    rw [C5g3 hp, bs, if_neg (nI_ge (show j < 24 by omega) (by decide)), C5g0 hp, C5g1 hp, C5g2 hp, bs, bs, bs]
    split
    · exact ⟨τ, rfl, h, frRw_refl⟩
    · split
      · split
        · exact step _
        · exact step _
      · exact step _
theorem k_writeToS {τ : px_TT} {p : Nat} (hF : 24 < F) (hp : ob sk L 5 p) (h : rowOK sk L τ r A n) : ∃ τ', f_Name_writeTo F c p r (cH sk L τ) = some ((), cH sk L τ') ∧ rowOK sk L τ' r A n ∧ frRw r A τ τ' := k_writeTo_2S (by omega) hp 24 0 F τ rfl (by omega) h
theorem k_putHex_3S {v : Int64} (hF : 1 < F) : ∀ (d f : Nat) (τ : px_TT), d ≤ 16 → d < f → rowOK sk L τ r A n → ∃ τ', f_Row_putHex_3 F c f r v (nI (4 * d) - nI 4) (cH sk L τ) = some ((), cH sk L τ') ∧ rowOK sk L τ' r A n ∧ frRw r A τ τ' := by
  intro d
  induction d with
  | zero =>
    intro f τ hd hf h
    obtain ⟨f, rfl⟩ : ∃ x, f = x + 1 := ⟨f - 1, by omega⟩
    refine ⟨τ, ?_, h, frRw_refl⟩
    unfold f_Row_putHex_3 f_Row_putHex_52
    rw [if_pos (by decide)]
  | succ d ih =>
    intro f τ hd hf h
    obtain ⟨f, rfl⟩ : ∃ x, f = x + 1 := ⟨f - 1, by omega⟩
    have e4 : nI (4 * (d + 1)) - nI 4 = nI (4 * d) := by rw [pk_sub (by omega), show 4 * (d + 1) - 4 = 4 * d by omega]
    have em : nI (4 * d) + Int32.ofInt (-4) = nI (4 * d) - nI 4 := by rw [Int32.sub_eq_add_neg]; rfl
    have step : ∀ w : Int64, ∃ τ', f_Row_putHex_43 F c (f_Row_putHex_3 F c f) r v (nI (4 * d)) r (nI 1) w (cH sk L τ) = some ((), cH sk L τ') ∧ rowOK sk L τ' r A n ∧ frRw r A τ τ' := fun w => by
      obtain ⟨τ1, a1, a2, a3⟩ := k_putS (F := F) (c := c) (v := w) (k := 1) hF (by decide) h
      obtain ⟨τ2, b1, b2, b3⟩ := ih f τ1 (by omega) (by omega) a2
      refine ⟨τ2, ?_, b2, frRw_trans a3 b3⟩
      unfold f_Row_putHex_43
      rw [c_o h.1, bs, a1, xb_mk, em]
      exact b1
    rw [e4]
    unfold f_Row_putHex_3 f_Row_putHex_52
    rw [if_neg (show ¬ nI (4 * d) < 0 from nI_pos (by omega))]
    split
    · exact step _
    · exact step _
theorem k_putHexS {τ : px_TT} {v : Int64} (hF : 16 < F) (h : rowOK sk L τ r A n) : ∃ τ', f_Row_putHex F c r v (cH sk L τ) = some ((), cH sk L τ') ∧ rowOK sk L τ' r A n ∧ frRw r A τ τ' := k_putHex_3S (by omega) 16 F τ (Nat.le_refl _) (by omega) h
theorem k_putDec_3S {v : Int32} (hF : 1 < F) : ∀ (d f : Nat) (τ : px_TT), d ≤ 9 → d + 1 < f → rowOK sk L τ r A n → ∃ τ', f_Row_putDecimal_3 F c f r v (nI (10 ^ d)) (cH sk L τ) = some ((), cH sk L τ') ∧ rowOK sk L τ' r A n ∧ frRw r A τ τ' := by
  intro d
  induction d with
  | zero =>
    intro f τ hd hf h
    obtain ⟨f, rfl⟩ : ∃ x, f = x + 2 := ⟨f - 2, by omega⟩
    have e0 : ∀ τ1, f_Row_putDecimal_32 F c (f_Row_putDecimal_3 F c (f + 1)) r v (nI (10 ^ 0)) (cH sk L τ1) = some ((), cH sk L τ1) := fun τ1 => by
      unfold f_Row_putDecimal_32 f_Row_putDecimal_3 f_Row_putDecimal_40
      rw [if_pos (by decide)]
    obtain ⟨τ1, a1, a2, a3⟩ := k_putS (F := F) (c := c) (v := (((nI 48) + ((v / (nI (10 ^ 0))) - (v / (nI (10 ^ 0))) / (nI 10) * (nI 10))).toInt64)) (k := 1) hF (by decide) h
    have e17 : f_Row_putDecimal_17 F c (f_Row_putDecimal_3 F c (f + 1)) r v (nI (10 ^ 0)) (cH sk L τ) = some ((), cH sk L τ1) := by
      unfold f_Row_putDecimal_17
      rw [show xnzI (nI (10 ^ 0)) = some () from rfl, bs, c_o h.1, bs, a1, xb_mk, e0]
    refine ⟨τ1, ?_, a2, a3⟩
    unfold f_Row_putDecimal_3
    rw [if_neg (by decide), e17, if_pos (show nI (10 ^ 0) = nI 1 from rfl)]
    split
    · rfl
    · rfl
  | succ d ih =>
    intro f τ hd hf h
    obtain ⟨f, rfl⟩ : ∃ x, f = x + 1 := ⟨f - 1, by omega⟩
    have hp : 10 ^ (d + 1) ≤ 10 ^ 9 := Nat.pow_le_pow_right (by decide) hd
    have hpos : 0 < 10 ^ (d + 1) := Nat.pow_pos (by decide)
    have ed : nI (10 ^ (d + 1)) / nI 10 = nI (10 ^ d) := by rw [pk_div (by omega) (by decide) (by decide), Nat.pow_succ, Nat.mul_div_cancel _ (by decide)]
    have e32 : ∀ τ1, rowOK sk L τ1 r A n → ∃ τ', f_Row_putDecimal_32 F c (f_Row_putDecimal_3 F c f) r v (nI (10 ^ (d + 1))) (cH sk L τ1) = some ((), cH sk L τ') ∧ rowOK sk L τ' r A n ∧ frRw r A τ1 τ' := fun τ1 h1 => by
      unfold f_Row_putDecimal_32
      rw [ed]
      exact ih f τ1 (by omega) (by omega) h1
    have e17 : ∃ τ', f_Row_putDecimal_17 F c (f_Row_putDecimal_3 F c f) r v (nI (10 ^ (d + 1))) (cH sk L τ) = some ((), cH sk L τ') ∧ rowOK sk L τ' r A n ∧ frRw r A τ τ' := by
      obtain ⟨τ1, a1, a2, a3⟩ := k_putS (F := F) (c := c) (v := (((nI 48) + ((v / (nI (10 ^ (d + 1)))) - (v / (nI (10 ^ (d + 1)))) / (nI 10) * (nI 10))).toInt64)) (k := 1) hF (by decide) h
      obtain ⟨τ2, b1, b2, b3⟩ := e32 τ1 a2
      refine ⟨τ2, ?_, b2, frRw_trans a3 b3⟩
      unfold f_Row_putDecimal_17
      have e0 : xnzI (nI (10 ^ (d + 1))) = some () := by
        unfold xnzI
        rw [if_neg (fun q => by have := (nI_eq (by omega) (by decide)).mp (show nI (10 ^ (d + 1)) = nI 0 from q); omega)]
      rw [e0, bs, c_o h.1, bs, a1, xb_mk]
      exact b1
    unfold f_Row_putDecimal_3
    rw [if_neg (show ¬ nI (10 ^ (d + 1)) ≤ 0 from nI_ge (a := 0) hpos (by omega))]
    split
    · exact e17
    · split
      · exact e17
      · exact e32 τ h
theorem k_putDecS {τ : px_TT} {v : Int32} (hF : 16 < F) (h : rowOK sk L τ r A n) : ∃ τ', f_Row_putDecimal F c r v (cH sk L τ) = some ((), cH sk L τ') ∧ rowOK sk L τ' r A n ∧ frRw r A τ τ' := k_putDec_3S (by omega) 9 F τ (Nat.le_refl _) (by omega) h
theorem k_putHigh_3S {v : Int32} (hF : 1 < F) : ∀ (d f : Nat) (τ : px_TT), d ≤ 4 → d < f → rowOK sk L τ r A n → ∃ τ', f_Row_putHighestFirst_3 F c f r v (nI (8 * d) - nI 8) (cH sk L τ) = some ((), cH sk L τ') ∧ rowOK sk L τ' r A n ∧ frRw r A τ τ' := by
  intro d
  induction d with
  | zero =>
    intro f τ hd hf h
    obtain ⟨f, rfl⟩ : ∃ x, f = x + 1 := ⟨f - 1, by omega⟩
    refine ⟨τ, ?_, h, frRw_refl⟩
    unfold f_Row_putHighestFirst_3 f_Row_putHighestFirst_22
    rw [if_pos (by decide)]
  | succ d ih =>
    intro f τ hd hf h
    obtain ⟨f, rfl⟩ : ∃ x, f = x + 1 := ⟨f - 1, by omega⟩
    have e4 : nI (8 * (d + 1)) - nI 8 = nI (8 * d) := by rw [pk_sub (by omega), show 8 * (d + 1) - 8 = 8 * d by omega]
    have em : nI (8 * d) + Int32.ofInt (-8) = nI (8 * d) - nI 8 := by rw [Int32.sub_eq_add_neg]; rfl
    rw [e4]
    obtain ⟨τ1, a1, a2, a3⟩ := k_putS (F := F) (c := c) (v := (((v.toUInt32 >>> ((nI (8 * d)).toUInt32 &&& Int32.toUInt32 31)).toInt32).toInt64)) (k := 1) hF (by decide) h
    obtain ⟨τ2, b1, b2, b3⟩ := ih f τ1 (by omega) (by omega) a2
    refine ⟨τ2, ?_, b2, frRw_trans a3 b3⟩
    unfold f_Row_putHighestFirst_3 f_Row_putHighestFirst_22
    rw [if_neg (show ¬ nI (8 * d) < 0 from nI_pos (by omega)), c_o h.1, bs, a1, xb_mk, em]
    exact b1
theorem k_putHighS {τ : px_TT} {v : Int32} (hF : 16 < F) (h : rowOK sk L τ r A n) : ∃ τ', f_Row_putHighestFirst F c r v (cH sk L τ) = some ((), cH sk L τ') ∧ rowOK sk L τ' r A n ∧ frRw r A τ τ' := k_putHigh_3S (by omega) 4 F τ (Nat.le_refl _) (by omega) h
end CRX
