/-! readers that leave the state as it was, and what their answers are -/
section CMB
variable {F : Nat} {c : px_CT} {sk : Nat → Nat × Nat × Nat} {L : Nat} {zb : Option Nat} {τ0 τ : px_TT} {r A n : Nat} {I : px_TT → Prop} {α : Type} {V : α → Prop}
theorem nI_div24 {m : Nat} (h : m < 2 ^ 30) : nI m / nI 24 = nI (m / 24) := by
  apply Int32.toInt_inj.mp
  rw [Int32.toInt_div]
  have e1 : (nI m).toInt = (m : Int) := nI_toInt (by omega)
  have e2 : (nI 24).toInt = (24 : Int) := rfl
  have e3 : (nI (m / 24)).toInt = ((m / 24 : Nat) : Int) := nI_toInt (by omega)
  rw [e1, e2, e3]
  rw [Int.tdiv_eq_ediv_of_nonneg (by omega)]
  rw [Int.bmod_eq_of_le (by omega) (by omega)]
  rfl
theorem k_atB {x : Int32} (h : rowS sk L τ r A n) : ∃ y, f_Row_at F c r x (cH sk L τ) = some (y &&& nI 255, cH sk L τ) := by
  obtain ⟨h1, h2, h3, h4, z, hz, ez⟩ := h
  unfold f_Row_at f_Row_at_25 f_Row_at_26
  by_cases c1 : x < 0
  · exact ⟨nI 0, by rw [if_pos c1]; rfl⟩
  · obtain ⟨i, hi, ei⟩ := nI_of c1
    rw [if_neg c1, C10g1 h1, bs, ez, ei]
    by_cases c2 : z ≤ i
    · exact ⟨nI 0, by rw [if_pos (nI_le c2 hi)]; rfl⟩
    · exact ⟨eI τ A i, by rw [if_neg (nI_ge (by omega) (by omega)), C10r0 h1 h4, bs, c_aI h2 (Or.inl rfl) (by omega) (by omega), bs]⟩
theorem k_num7B {x : Int32} (h : rowS sk L τ r A n) : ∀ (d f m : Nat), d < f → d < 2 ^ 30 → (m + 1) * 256 ^ d ≤ 2 ^ 64 → ∃ w, w < (m + 1) * 256 ^ d ∧ f_Row_num_7 F c f r x (lN m) (nI d - nI 1) (cH sk L τ) = some (lN w, cH sk L τ) := by
  intro d
  induction d with
  | zero =>
    intro f m hf _ _
    obtain ⟨f, rfl⟩ : ∃ x, f = x + 1 := ⟨f - 1, by omega⟩
    unfold f_Row_num_7 f_Row_num_33
    exact ⟨m, by omega, by rw [if_pos (by decide)]⟩
  | succ d ih =>
    intro f m hf hd hm
    obtain ⟨f, rfl⟩ : ∃ x, f = x + 1 := ⟨f - 1, by omega⟩
    rw [Nat.pow_succ, Nat.mul_comm (256 ^ d) 256, ← Nat.mul_assoc] at hm
    have h1 : 1 ≤ 256 ^ d := Nat.pos_of_ne_zero (by simp)
    have h2 : (m + 1) * 256 ≤ (m + 1) * 256 * 256 ^ d := Nat.le_mul_of_pos_right _ h1
    rw [pk_sub (by omega), Nat.add_sub_cancel]
    obtain ⟨y, ky⟩ := k_atB (F := F) (c := c) (x := x + nI d) h
    have hb := b8_lt y
    have h3 : (m * 256 + b8 y + 1) * 256 ^ d ≤ (m + 1) * 256 * 256 ^ d := Nat.mul_le_mul_right _ (by omega)
    unfold f_Row_num_7
    rw [if_neg (nI_pos (by omega)), c_o h.1, bs, ky, xb_mk, nI_back, sh_byte m y (by omega)]
    obtain ⟨w, hw, e⟩ := ih f (m * 256 + b8 y) (by omega) (by omega) (by omega)
    refine ⟨w, ?_, e⟩
    rw [Nat.pow_succ, Nat.mul_comm (256 ^ d) 256, ← Nat.mul_assoc]
    omega
theorem k_numB {x : Int32} {k : Nat} (hF : 8 < F) (hk : k ≤ 8) (h : rowS sk L τ r A n) : ∃ w, w < 256 ^ k ∧ f_Row_num F c r x (nI k) (cH sk L τ) = some (lN w, cH sk L τ) := by
  have hp : 256 ^ k ≤ 256 ^ 8 := Nat.pow_le_pow_right (by decide) hk
  obtain ⟨w, hw, e⟩ := k_num7B (F := F) (c := c) (x := x) h k F 0 (by omega) (by omega) (by omega)
  exact ⟨w, by omega, e⟩
theorem k_holdsB {a b : Int64} (h : rowS sk L τ r A n) : ∃ z, f_Row_holds F c r a b (cH sk L τ) = some (bI z, cH sk L τ) ∧ (z = true → ∃ m, m ≤ 65536 ∧ b = lN m) := by
  obtain ⟨h1, h2, h3, h4, z, hz, ez⟩ := h
  obtain ⟨x, hx, ex⟩ := wb_of a
  obtain ⟨y, hy, ey⟩ := wb_of b
  unfold f_Row_holds f_Row_holds_30 f_Row_holds_31
  rw [C10g1 h1, bs, ez, ex, nI_l (by omega), k_above hx (by omega), xb_mk]
  by_cases c1 : z < x
  · exact ⟨false, by rw [decide_eq_true c1, if_neg (show ¬ bI true = 0 by decide), xz_0], fun e => by cases e⟩
  · rw [decide_eq_false c1, if_pos (show bI false = 0 from rfl), C10g1 h1, bs, ez, nI_l (by omega), lN_sub (by omega), ey, k_above hy (by omega), xb_mk]
    by_cases c2 : z - x < y
    · exact ⟨false, by rw [decide_eq_true c2, if_neg (show ¬ bI true = 0 by decide), xz_0], fun e => by cases e⟩
    · exact ⟨true, by rw [decide_eq_false c2, if_pos (show bI false = 0 from rfl), xz_1], fun _ => ⟨y, by omega, rfl⟩⟩
theorem sx_num {k : Nat} {x : Int32} {f : Int64 → px_H → Option (α × px_H)} (h0 : S0 sk L τ0) (hF : 65540 < F) (hI : SI zb sk L τ0 τ) (hr : RRd r) (hk : k ≤ 8) (g : ∀ w, w < 256 ^ k → Sf sk L I V (f (lN w) (cH sk L τ))) : Sf sk L I V (xb (f_Row_num F c r x (nI k) (cH sk L τ)) f) := by
  obtain ⟨A, n, h⟩ := SI_S h0 hI hr
  obtain ⟨w, hw, e⟩ := k_numB (F := F) (c := c) (x := x) (by omega) hk h
  rw [e, xb_mk]; exact g w hw
theorem sx_at {x : Int32} {f : Int32 → px_H → Option (α × px_H)} (h0 : S0 sk L τ0) (hI : SI zb sk L τ0 τ) (hr : RRd r) (g : ∀ v, Sf sk L I V (f v (cH sk L τ))) : Sf sk L I V (xb (f_Row_at F c r x (cH sk L τ)) f) := by
  obtain ⟨A, n, h⟩ := SI_S h0 hI hr
  obtain ⟨w, e⟩ := k_atS (F := F) (c := c) (x := x) h
  rw [e, xb_mk]; exact g w
theorem sx_above {a b : Int64} {f : Int32 → px_H → Option (α × px_H)} (g : ∀ v, isZ v → Sf sk L I V (f v (cH sk L τ))) : Sf sk L I V (xb (f_H_above F c a b (cH sk L τ)) f) := by
  obtain ⟨z, e⟩ := k_aboveS (F := F) (c := c) (a := a) (b := b) (ph := cH sk L τ)
  rw [e, xb_mk]; exact g _ ⟨z, rfl⟩
theorem sx_holds {a b : Int64} {f : Int32 → px_H → Option (α × px_H)} (h0 : S0 sk L τ0) (hI : SI zb sk L τ0 τ) (hr : RRd r) (g : ∀ v, isZ v → (¬ v = 0 → ∃ m, m ≤ 65536 ∧ b = lN m) → Sf sk L I V (f v (cH sk L τ))) : Sf sk L I V (xb (f_Row_holds F c r a b (cH sk L τ)) f) := by
  obtain ⟨A, n, h⟩ := SI_S h0 hI hr
  obtain ⟨z, e, hz⟩ := k_holdsB (F := F) (c := c) (a := a) (b := b) h
  rw [e, xb_mk]
  refine g _ ⟨z, rfl⟩ (fun hn => hz ?_)
  cases z with
  | true => rfl
  | false => exact absurd rfl hn
theorem sx_nlen {x y : Int32} {f : Int32 → px_H → Option (α × px_H)} (h0 : S0 sk L τ0) (hF : 65540 < F) (hI : SI zb sk L τ0 τ) (hr : RRd r) (g : ∀ w, w ≤ 20 → Sf sk L I V (f (nI w) (cH sk L τ))) : Sf sk L I V (xb (f_Row_nameLength F c r x y (cH sk L τ)) f) := by
  obtain ⟨A, n, h⟩ := SI_S h0 hI hr
  obtain ⟨w, hw, e⟩ := k_nameLenS (F := F) (c := c) (x := x) (y := y) (by omega) h
  rw [e, xb_mk]; exact g w hw
theorem sx_begins {f : Int32 → px_H → Option (α × px_H)} (h0 : S0 sk L τ0) (hc : KT c) (hF : 65540 < F) (hI : SI zb sk L τ0 τ) (hr : RRd r) (g : ∀ v, isZ v → Sf sk L I V (f v (cH sk L τ))) : Sf sk L I V (xb (f_Row_begins F c r 3 (cH sk L τ)) f) := by
  obtain ⟨A, n, h⟩ := SI_S h0 hI hr
  obtain ⟨z, e⟩ := k_begins_2S (F := F) (c := c) (j := 3) (by decide) hc.2.2.1.1 hc.2.2.1.2 rfl (by decide) h 7 0 F rfl (by omega)
  unfold f_Row_begins
  rw [e, xb_mk]; exact g _ ⟨z, rfl⟩
end CMB
