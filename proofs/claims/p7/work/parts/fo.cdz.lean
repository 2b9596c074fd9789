/-! the class's rows with their sizes: digits, highest first, copies (steps spelled out by sf/pp.py) -/
/-- how many digits are put from the unit 10 ^ d on -/
def dzN (k : Nat) : Nat → Nat
  | 0 => 1
  | d + 1 => (if 10 ^ (d + 1) ≤ k then 1 else 0) + dzN k d
theorem dzN_w {k : Nat} (hk : k ≤ 99999) : dzN k 9 = wdN k := by
  have e : dzN k 9 = (if 1000000000 ≤ k then 1 else 0) + ((if 100000000 ≤ k then 1 else 0) + ((if 10000000 ≤ k then 1 else 0) + ((if 1000000 ≤ k then 1 else 0) + ((if 100000 ≤ k then 1 else 0) + ((if 10000 ≤ k then 1 else 0) + ((if 1000 ≤ k then 1 else 0) + ((if 100 ≤ k then 1 else 0) + ((if 10 ≤ k then 1 else 0) + 1)))))))) := rfl
  rw [e, if_neg (show ¬ 1000000000 ≤ k by omega), if_neg (show ¬ 100000000 ≤ k by omega), if_neg (show ¬ 10000000 ≤ k by omega), if_neg (show ¬ 1000000 ≤ k by omega), if_neg (show ¬ 100000 ≤ k by omega)]
  unfold wdN
  by_cases c1 : k < 10
  · rw [if_pos c1, if_neg (show ¬ 10000 ≤ k by omega), if_neg (show ¬ 1000 ≤ k by omega), if_neg (show ¬ 100 ≤ k by omega), if_neg (show ¬ 10 ≤ k by omega)]
  · rw [if_neg c1, if_pos (show 10 ≤ k by omega)]
    by_cases c2 : k < 100
    · rw [if_pos c2, if_neg (show ¬ 10000 ≤ k by omega), if_neg (show ¬ 1000 ≤ k by omega), if_neg (show ¬ 100 ≤ k by omega)]
    · rw [if_neg c2, if_pos (show 100 ≤ k by omega)]
      by_cases c3 : k < 1000
      · rw [if_pos c3, if_neg (show ¬ 10000 ≤ k by omega), if_neg (show ¬ 1000 ≤ k by omega)]
      · rw [if_neg c3, if_pos (show 1000 ≤ k by omega)]
        by_cases c4 : k < 10000
        · rw [if_pos c4, if_neg (show ¬ 10000 ≤ k by omega)]
        · rw [if_neg c4, if_pos (show 10000 ≤ k by omega)]
section CDZ
variable {F : Nat} {c : px_CT} {sk : Nat → Nat × Nat × Nat} {L : Nat} {r A n : Nat}
theorem k_putDec_3Z {k : Nat} (hF : 1 < F) (hk : k < 2 ^ 31) : ∀ (d f : Nat) (τ : px_TT) (cc : Nat), d ≤ 9 → d + 1 < f → rowOK sk L τ r A n → rz τ r n cc → ∃ τ', f_Row_putDecimal_3 F c f r (nI k) (nI (10 ^ d)) (cH sk L τ) = some ((), cH sk L τ') ∧ rowOK sk L τ' r A n ∧ frRw r A τ τ' ∧ rz τ' r n (cc + dzN k d) := by
  intro d
  induction d with
  | zero =>
    intro f τ cc hd hf h hz
    obtain ⟨f, rfl⟩ : ∃ x, f = x + 2 := ⟨f - 2, by omega⟩
    have e0 : ∀ τ1, f_Row_putDecimal_32 F c (f_Row_putDecimal_3 F c (f + 1)) r (nI k) (nI (10 ^ 0)) (cH sk L τ1) = some ((), cH sk L τ1) := fun τ1 => by
      unfold f_Row_putDecimal_32 f_Row_putDecimal_3 f_Row_putDecimal_40
      rw [if_pos (by decide)]
    obtain ⟨τ1, a1, a2, a3, a4⟩ := k_putZ (F := F) (c := c) (v := (((nI 48) + ((nI k / (nI (10 ^ 0))) - (nI k / (nI (10 ^ 0))) / (nI 10) * (nI 10))).toInt64)) (k := 1) hF (by decide) h hz
    have e17 : f_Row_putDecimal_17 F c (f_Row_putDecimal_3 F c (f + 1)) r (nI k) (nI (10 ^ 0)) (cH sk L τ) = some ((), cH sk L τ1) := by
      unfold f_Row_putDecimal_17
      rw [show xnzI (nI (10 ^ 0)) = some () from rfl, bs, c_o h.1, bs, a1, xb_mk, e0]
    refine ⟨τ1, ?_, a2, a3, a4⟩
    unfold f_Row_putDecimal_3
    rw [if_neg (by decide), e17, if_pos (show nI (10 ^ 0) = nI 1 from rfl)]
    split
    · rfl
    · rfl
  | succ d ih =>
    intro f τ cc hd hf h hz
    obtain ⟨f, rfl⟩ : ∃ x, f = x + 1 := ⟨f - 1, by omega⟩
    have hp : 10 ^ (d + 1) ≤ 10 ^ 9 := Nat.pow_le_pow_right (by decide) hd
    have hpos : 0 < 10 ^ (d + 1) := Nat.pow_pos (by decide)
    have hp10 : 10 ≤ 10 ^ (d + 1) := by
      rw [Nat.pow_succ]
      have := Nat.pow_pos (a := 10) (n := d) (by decide)
      omega
    have ed : nI (10 ^ (d + 1)) / nI 10 = nI (10 ^ d) := by rw [pk_div (by omega) (by decide) (by decide), Nat.pow_succ, Nat.mul_div_cancel _ (by decide)]
    have e32 : ∀ (τ1 : px_TT) (c1 : Nat), rowOK sk L τ1 r A n → rz τ1 r n c1 → ∃ τ', f_Row_putDecimal_32 F c (f_Row_putDecimal_3 F c f) r (nI k) (nI (10 ^ (d + 1))) (cH sk L τ1) = some ((), cH sk L τ') ∧ rowOK sk L τ' r A n ∧ frRw r A τ1 τ' ∧ rz τ' r n (c1 + dzN k d) := fun τ1 c1 h1 z1 => by
      unfold f_Row_putDecimal_32
      rw [ed]
      exact ih f τ1 c1 (by omega) (by omega) h1 z1
    unfold f_Row_putDecimal_3 dzN
    rw [if_neg (show ¬ nI (10 ^ (d + 1)) ≤ 0 from nI_ge (a := 0) hpos (by omega))]
    by_cases c1 : 10 ^ (d + 1) ≤ k
    · rw [if_pos (nI_le c1 hk), if_pos c1]
      obtain ⟨τ1, a1, a2, a3, a4⟩ := k_putZ (F := F) (c := c) (v := (((nI 48) + ((nI k / (nI (10 ^ (d + 1)))) - (nI k / (nI (10 ^ (d + 1)))) / (nI 10) * (nI 10))).toInt64)) (k := 1) hF (by decide) h hz
      obtain ⟨τ2, b1, b2, b3, b4⟩ := e32 τ1 (cc + 1) a2 a4
      refine ⟨τ2, ?_, b2, frRw_trans a3 b3, by rw [← Nat.add_assoc]; exact b4⟩
      unfold f_Row_putDecimal_17
      have e0 : xnzI (nI (10 ^ (d + 1))) = some () := by
        unfold xnzI
        rw [if_neg (fun q => by have := (nI_eq (by omega) (by decide)).mp (show nI (10 ^ (d + 1)) = nI 0 from q); omega)]
      rw [e0, bs, c_o h.1, bs, a1, xb_mk]
      exact b1
    · rw [if_neg (nI_ge (by omega) (by omega)), if_neg (fun q => by have := (nI_eq (by omega) (by decide)).mp q; omega), if_neg c1, Nat.zero_add]
      exact e32 τ cc h hz
theorem k_putDecZ {τ : px_TT} {k cc : Nat} (hF : 16 < F) (hk : k ≤ 99999) (h : rowOK sk L τ r A n) (hz : rz τ r n cc) : ∃ τ', f_Row_putDecimal F c r (nI k) (cH sk L τ) = some ((), cH sk L τ') ∧ rowOK sk L τ' r A n ∧ frRw r A τ τ' ∧ rz τ' r n (cc + wdN k) := by
  rw [← dzN_w hk]
  exact k_putDec_3Z (by omega) (by omega) 9 F τ cc (Nat.le_refl _) (by omega) h hz
theorem k_putHigh_3Z {v : Int32} (hF : 1 < F) : ∀ (d f : Nat) (τ : px_TT) (cc : Nat), d ≤ 4 → d < f → rowOK sk L τ r A n → rz τ r n cc → ∃ τ', f_Row_putHighestFirst_3 F c f r v (nI (8 * d) - nI 8) (cH sk L τ) = some ((), cH sk L τ') ∧ rowOK sk L τ' r A n ∧ frRw r A τ τ' ∧ rz τ' r n (cc + d) := by
  intro d
  induction d with
  | zero =>
    intro f τ cc hd hf h hz
    obtain ⟨f, rfl⟩ : ∃ x, f = x + 1 := ⟨f - 1, by omega⟩
    refine ⟨τ, ?_, h, frRw_refl, hz⟩
    unfold f_Row_putHighestFirst_3 f_Row_putHighestFirst_22
    rw [if_pos (by decide)]
  | succ d ih =>
    intro f τ cc hd hf h hz
    obtain ⟨f, rfl⟩ : ∃ x, f = x + 1 := ⟨f - 1, by omega⟩
    have e4 : nI (8 * (d + 1)) - nI 8 = nI (8 * d) := by rw [pk_sub (by omega), show 8 * (d + 1) - 8 = 8 * d by omega]
    have em : nI (8 * d) + Int32.ofInt (-8) = nI (8 * d) - nI 8 := by rw [Int32.sub_eq_add_neg]; rfl
    rw [e4, show cc + (d + 1) = cc + 1 + d by omega]
    obtain ⟨τ1, a1, a2, a3, a4⟩ := k_putZ (F := F) (c := c) (v := (((v.toUInt32 >>> ((nI (8 * d)).toUInt32 &&& Int32.toUInt32 31)).toInt32).toInt64)) (k := 1) hF (by decide) h hz
    obtain ⟨τ2, b1, b2, b3, b4⟩ := ih f τ1 (cc + 1) (by omega) (by omega) a2 a4
    refine ⟨τ2, ?_, b2, frRw_trans a3 b3, b4⟩
    unfold f_Row_putHighestFirst_3 f_Row_putHighestFirst_22
    rw [if_neg (show ¬ nI (8 * d) < 0 from nI_pos (by omega)), c_o h.1, bs, a1, xb_mk, em]
    exact b1
theorem k_putHighZ {τ : px_TT} {v : Int32} {cc : Nat} (hF : 16 < F) (h : rowOK sk L τ r A n) (hz : rz τ r n cc) : ∃ τ', f_Row_putHighestFirst F c r v (cH sk L τ) = some ((), cH sk L τ') ∧ rowOK sk L τ' r A n ∧ frRw r A τ τ' ∧ rz τ' r n (cc + 4) := k_putHigh_3Z (by omega) 4 F τ cc (Nat.le_refl _) (by omega) h hz
theorem k_copyZ {τ : px_TT} {S N q m cc : Nat} (hS : ar sk L 0 N S) (hN : N ≤ 65536) (hB : ∀ k, isB (eI τ S k)) (hqm : q + m ≤ N) (h : rowOK sk L τ r A n) (hz : rz τ r n cc) : ∃ τ', f_Row_copy F c r S (nI q) (nI m) (cH sk L τ) = some ((), cH sk L τ') ∧ rowOK sk L τ' r A n ∧ frRw r A τ τ' ∧ rz τ' r n (cc + m) := by
  obtain ⟨z, hzn, ez⟩ := h.2.2.2.2.1
  have hn := h.2.2.1
  have hzc : cc ≤ n → z = cc := fun w => rz_z hz hn hzn ez w
  unfold f_Row_copy f_Row_copy_16
  rw [if_neg (nI_pos (by omega)), if_neg (nI_pos (by omega)), c_l hS (by decide), bs, if_pos ((sub_le31 (by omega) (by omega) (by omega)).mpr hqm), C10r0 h.1 h.2.2.2.1, bs, c_l h.2.1 (by decide), bs, C10g1 h.1, bs, ez]
  by_cases c6 : z + m ≤ n
  · refine ⟨tI (vI τ A (va_cpy (eI τ S) (eI τ A) q z m)) r 1 (nI (z + m)), ?_, rowOK_1 (rowOK_v h (cpy_B hB h.2.2.2.2.2.2)) c6, frRw_trans frRw_v frRw_1, rz_s hz hzc c6⟩
    rw [if_pos ((sub_le31 (by omega) (by omega) (by omega)).mpr c6), bs, bs, c_cpy h.2.1 hS hB (by omega) (by omega) (by omega) hqm c6, bs, C10g1 h.1, bs]
    show ((xpI _ 10 1 r (fI τ r 1 + nI m)).bind _) = _
    rw [ez, nI_add, C10p1 h.1, bs]
  · refine ⟨tI τ r 2 (bI true), ?_, rowOK_2 h, frRw_2, fun w => ?_, fun _ => tI_at⟩
    · rw [if_neg (fun w => c6 ((sub_le31 (by omega) (by omega) (by omega)).mp w)), show (nI 1 : Int32) = bI true from rfl, C10z2 h.1, bs]
    · have e := hzc (by omega)
      omega
end CDZ
section SZD
variable {F : Nat} {c : px_CT} {sk : Nat → Nat × Nat × Nat} {L : Nat} {zb : Option Nat} {τ0 τ τ' : px_TT} {r A n cc k : Nat}
theorem sz_dec (hF : 65540 < F) (hr : TRw r A n) (hk : k ≤ 99999) (hI : SZ zb sk L τ0 r n cc τ) : Sf sk L (SZ zb sk L τ0 r n (cc + wdN k)) Any (f_Row_putDecimal F c r (nI k) (cH sk L τ)) := sz_Rw hI.1 hI.2.2 hr (k_putDecZ (by omega) hk (SI_row hI.1 hr) hI.2.1)
theorem sz_high {v : Int32} (hF : 65540 < F) (hr : TRw r A n) (hI : SZ zb sk L τ0 r n cc τ) : Sf sk L (SZ zb sk L τ0 r n (cc + 4)) Any (f_Row_putHighestFirst F c r v (cH sk L τ)) := sz_Rw hI.1 hI.2.2 hr (k_putHighZ (by omega) (SI_row hI.1 hr) hI.2.1)
end SZD
