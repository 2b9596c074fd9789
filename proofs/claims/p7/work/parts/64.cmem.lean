/-! the class's memberSize -/
section CME
variable {F : Nat} {c : px_CT} {sk : Nat → Nat × Nat × Nat} {L : Nat} {τ : px_TT} {n p : Nat} {b : Nat → Nat}
theorem ct_lt {τ : px_TT} {n : Nat} {b : Nat → Nat} (ht : CTp τ n b) (k : Nat) : b k < 256 := by
  rw [← ht.2.2.2]
  exact cb_lt _ _ _ _
theorem k_mS_43b {v dg : Nat} (hS : GS sk L) (hR : GR τ) (ht : CTp τ n b) (hp : p < 2 ^ 20) : ∀ (d k f : Nat), k + d = 10 → dg < k → d < f → f_H_memberSize_43 F c f 0 (nI p) (lN v) (nI dg) (nI k) (cH sk L τ) = if al (fun x => decide (b x = 32)) (p + 48 + k) d = true then f_H_memberSize_122 F c 0 (nI p) (lN v) (nI dg) (cH sk L τ) else some (Int32.ofInt (-1), cH sk L τ) := by
  intro d
  induction d with
  | zero =>
    intro k f hk hd hf
    obtain ⟨f, rfl⟩ : ∃ g, f = g + 1 := ⟨f - 1, by omega⟩
    unfold f_H_memberSize_43
    rw [if_pos (nI_le (by omega) (by omega))]
    rfl
  | succ d ih =>
    intro k f hk hd hf
    obtain ⟨f, rfl⟩ : ∃ g, f = g + 1 := ⟨f - 1, by omega⟩
    have hb := ct_lt ht (p + 48 + k)
    have e : ¬ (nI dg = nI k) := by rw [nI_eq (by omega) (by omega)]; omega
    unfold f_H_memberSize_43
    rw [if_neg (nI_ge (by omega) (by omega)), C0r0 (G0 hS) (R0_0 hR), bs, c_o (G1 hS), bs, nI_add, nI_add, k_tapeAt hS hR ht (by omega), xb_mk, if_neg e, ite_self, ite_self, f_H_memberSize_107, f_H_memberSize_116, nI_add, al_s]
    simp only [nI_eq (show b (p + 48 + k) < 2 ^ 31 by omega) (show 32 < 2 ^ 31 by decide)]
    by_cases c1 : b (p + 48 + k) = 32
    · rw [if_pos c1, decide_eq_true c1, Bool.true_and]
      exact ih (k + 1) f (by omega) (by omega) (by omega)
    · rw [if_neg c1, decide_eq_false c1, Bool.false_and]
      rfl
theorem k_mS_43a (hS : GS sk L) (hR : GR τ) (ht : CTp τ n b) (hp : p < 2 ^ 20) : ∀ (d k f v : Nat), k + d = 10 → d < f → (v + 1) * 10 ^ d ≤ 10 ^ 10 → f_H_memberSize_43 F c f 0 (nI p) (lN v) (nI k) (nI k) (cH sk L τ) = if al (fun x => decide (b x = 32)) (p + 48 + k + dr b (p + 48 + k) d) (d - dr b (p + 48 + k) d) = true then f_H_memberSize_122 F c 0 (nI p) (lN (dv b (p + 48 + k) (dr b (p + 48 + k) d) v)) (nI (k + dr b (p + 48 + k) d)) (cH sk L τ) else some (Int32.ofInt (-1), cH sk L τ) := by
  intro d
  induction d with
  | zero =>
    intro k f v hk hf hv
    obtain ⟨f, rfl⟩ : ∃ g, f = g + 1 := ⟨f - 1, by omega⟩
    unfold f_H_memberSize_43
    rw [if_pos (nI_le (by omega) (by omega))]
    rfl
  | succ d ih =>
    intro k f v hk hf hv
    obtain ⟨f, rfl⟩ : ∃ g, f = g + 1 := ⟨f - 1, by omega⟩
    have hb := ct_lt ht (p + 48 + k)
    have e3 : (v + 1) * 10 ^ (d + 1) = (v + 1) * 10 * 10 ^ d := by rw [Nat.pow_succ, Nat.mul_comm (10 ^ d), Nat.mul_assoc]
    have e4 : 1 ≤ 10 ^ d := Nat.one_le_pow _ _ (by decide)
    have e5 : (v + 1) * 10 ≤ 10 ^ 10 := by
      have : (v + 1) * 10 * 1 ≤ (v + 1) * 10 * 10 ^ d := Nat.mul_le_mul_left _ e4
      omega
    unfold f_H_memberSize_43
    rw [if_neg (nI_ge (by omega) (by omega)), C0r0 (G0 hS) (R0_0 hR), bs, c_o (G1 hS), bs, nI_add, nI_add, k_tapeAt hS hR ht (by omega), xb_mk, if_pos rfl, dr_s]
    simp only [nI_ltI (show b (p + 48 + k) < 2 ^ 31 by omega) (show 48 < 2 ^ 31 by decide), nI_ltI (show 57 < 2 ^ 31 by decide) (show b (p + 48 + k) < 2 ^ 31 by omega), f_H_memberSize_107, f_H_memberSize_116, f_H_memberSize_114, nI_add, nI_eq (show b (p + 48 + k) < 2 ^ 31 by omega) (show 32 < 2 ^ 31 by decide)]
    by_cases c1 : isDg (b (p + 48 + k)) = true
    · have c2 := of_decide_eq_true c1
      rw [if_pos c1, if_neg (by omega), if_neg (by omega), dv_s, show (10 : Int64) = lN 10 from rfl, show (48 : Int64) = lN 48 from rfl, lN_mul, nI_l (by omega), lN_add, lN_sub (by omega), ih (k + 1) f _ (by omega) (by omega) (by
        refine Nat.le_trans (Nat.mul_le_mul_right _ (?_ : _ ≤ (v + 1) * 10)) (by rw [← e3]; exact hv)
        omega)]
      rw [show p + 48 + (k + 1) = p + 48 + k + 1 by omega, show 10 * v + b (p + 48 + k) - 48 = 10 * v + (b (p + 48 + k) - 48) by omega]
      generalize dr b (p + 48 + k + 1) d = r
      rw [show p + 48 + k + 1 + r = p + 48 + k + (r + 1) by omega, show d - r = d + 1 - (r + 1) by omega, show k + 1 + r = k + (r + 1) by omega]
    · have c2 : ¬ (48 ≤ b (p + 48 + k) ∧ b (p + 48 + k) ≤ 57) := fun e => c1 (decide_eq_true e)
      have e6 : ∀ (X Y : Option (Int32 × px_H)), (if b (p + 48 + k) < 48 then X else if 57 < b (p + 48 + k) then X else Y) = X := by
        intro X Y
        by_cases d1 : b (p + 48 + k) < 48
        · rw [if_pos d1]
        · rw [if_neg d1, if_pos (by omega)]
      rw [if_neg c1, e6, Nat.add_zero (p + 48 + k), Nat.sub_zero, Nat.add_zero k, al_s, k_mS_43b hS hR ht hp d (k + 1) f (by omega) (by omega) (by omega)]
      by_cases c3 : b (p + 48 + k) = 32
      · rw [if_pos c3, decide_eq_true c3, Bool.true_and]
        rfl
      · rw [if_neg c3, decide_eq_false c3, Bool.false_and]
        rfl
theorem le_2 (b : Nat → Nat) (p : Nat) : le b p 2 = b (p + 1) * 256 + b p := by
  simp only [le, Nat.pow_one, Nat.pow_zero, Nat.mul_one, Nat.add_zero]
theorem k_memberSize (hS : GS sk L) (hR : GR τ) (ht : CTp τ n b) (hF : 10 < F) (hp : p ≤ n) : f_H_memberSize F c 0 (nI p) (cH sk L τ) = some (if aOK b n p = true then nI (aV b p) else Int32.ofInt (-1), cH sk L τ) := by
  have hn := ht.2.1
  have h11 := ht.1
  unfold f_H_memberSize
  rw [C0r0 (G0 hS) (R0_0 hR), bs, C10g1 (G1 hS), bs, h11, pk_sub hp]
  have bad : aOK b n p = false → (some (Int32.ofInt (-1), cH sk L τ) : Option (Int32 × px_H)) = some (if aOK b n p = true then nI (aV b p) else Int32.ofInt (-1), cH sk L τ) := by
    intro h
    rw [h]
    rfl
  by_cases c1 : n - p < 60
  · rw [if_pos (nI_lt c1 (by decide))]
    exact bad (aOK_not (fun e => by have := e.1; omega))
  · have hb8 := ct_lt ht (p + 58)
    have hb9 := ct_lt ht (p + 59)
    rw [if_neg (nI_nlt (by omega) (by omega)), bs, c_o (G1 hS), bs, nI_add, k_tapeNum hS hR ht (by omega) (by decide) (by omega), xb_mk, le_2, show p + 58 + 1 = p + 59 by omega, show (2656 : Int64) = lN 2656 from rfl]
    simp only [lEQ (show b (p + 59) * 256 + b (p + 58) < 2 ^ 64 by omega) (show 2656 < 2 ^ 64 by decide)]
    by_cases c2 : b (p + 59) * 256 + b (p + 58) = 2656
    · have c3 : b (p + 58) = 96 ∧ b (p + 59) = 10 := by omega
      have hK : aK b p ≤ 10 := dr_le _ _ _
      have hV : aV b p < 10 ^ 10 := aV_lt (ct_lt ht) p
      have hVe : dv b (p + 48) (aK b p) 0 = aV b p := rfl
      rw [if_pos c2, k_mS_43a (c := c) hS hR ht (by omega) 10 0 F 0 rfl (by omega) (by decide), Nat.add_zero, Nat.zero_add, show dr b (p + 48) 10 = aK b p from rfl, hVe]
      by_cases c4 : al (fun x => decide (b x = 32)) (p + 48 + aK b p) (10 - aK b p) = true
      · rw [if_pos c4]
        unfold f_H_memberSize_122
        rw [C0r0 (G0 hS) (R0_0 hR), bs, C10g1 (G1 hS), bs, h11, pk_sub hp, pk_sub (by omega), nI_l (by omega), bs, c_o (G1 hS), bs, lN_i, nI_add, nI_add, show (0 : Int32) = nI 0 from rfl]
        simp only [nI_eq (show aK b p < 2 ^ 31 by omega) (show 0 < 2 ^ 31 by decide), pk_lLE (show aV b p < 2 ^ 63 by omega) (show n - p - 60 < 2 ^ 63 by omega), f_H_memberSize_149, f_H_memberSize_185, f_H_memberSize_187, lN_i]
        by_cases c5 : aK b p = 0
        · rw [if_pos c5]
          exact bad (aOK_not (fun e => by have := e.2.2.2.1; omega))
        · rw [if_neg c5]
          by_cases c6 : aV b p ≤ n - p - 60
          · have e1 : lN (aV b p) &&& lN 1 = lN (aV b p % 2) := g_and1 (by omega)
            have hb60 := ct_lt ht (p + 60 + aV b p)
            rw [if_pos c6, e1, k_tapeAt hS hR ht (by omega), xb_mk]
            simp only [lEQ (show aV b p % 2 < 2 ^ 64 by omega) (show 1 < 2 ^ 64 by decide), lEQ (show aV b p < 2 ^ 64 by omega) (show n - p - 60 < 2 ^ 64 by omega), nI_eq (show b (p + 60 + aV b p) < 2 ^ 31 by omega) (show 10 < 2 ^ 31 by decide)]
            have good : (aV b p % 2 = 0 ∨ p + 60 + aV b p < n ∧ b (p + 60 + aV b p) = 10) → (some (nI (aV b p), cH sk L τ) : Option (Int32 × px_H)) = some (if aOK b n p = true then nI (aV b p) else Int32.ofInt (-1), cH sk L τ) := by
              intro h
              rw [if_pos (aOK_yes ⟨by omega, c3.1, c3.2, by omega, c4, by omega, h⟩)]
            by_cases c7 : aV b p % 2 = 1
            · rw [if_pos c7]
              by_cases c8 : aV b p = n - p - 60
              · rw [if_pos c8]
                exact bad (aOK_not (fun e => by rcases e.2.2.2.2.2.2 with d | d <;> omega))
              · rw [if_neg c8]
                by_cases c9 : b (p + 60 + aV b p) = 10
                · rw [if_pos c9]
                  exact good (Or.inr ⟨by omega, c9⟩)
                · rw [if_neg c9]
                  exact bad (aOK_not (fun e => by
                    rcases e.2.2.2.2.2.2 with d | d
                    · omega
                    · exact c9 d.2))
            · rw [if_neg c7]
              exact good (Or.inl (by omega))
          · rw [if_neg c6]
            exact bad (aOK_not (fun e => by have := e.2.2.2.2.2.1; omega))
      · rw [if_neg c4]
        exact bad (aOK_not (fun e => c4 e.2.2.2.2.1))
    · rw [if_neg c2]
      exact bad (aOK_not (fun e => c2 (by have h1 := e.2.1; have h2 := e.2.2.1; omega)))
end CME
