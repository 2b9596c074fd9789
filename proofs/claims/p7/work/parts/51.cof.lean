/-! the class's objects: readers -/
/-- the object file at q: n bytes at base of the store's bytes S -/
def cO (sk : Nat → Nat × Nat × Nat) (L : Nat) (τ : px_TT) (q base n : Nat) (S : Nat → Int32) : Prop := ob sk L 7 q ∧ fN τ q 0 = some 7 ∧ ob sk L 10 7 ∧ fN τ 7 0 = some 8 ∧ ar sk L 0 65536 8 ∧ eI τ 8 = S ∧ fI τ q 5 = nI base ∧ fI τ q 6 = nI n ∧ base + n ≤ 65536 ∧ ∀ k, isB (S k)
def nm (b : Nat → Nat) (n x k : Nat) : Nat := if x + k ≤ n then le b x k else 0
theorem nm_in {b : Nat → Nat} {n x k : Nat} (h : x + k ≤ n) : nm b n x k = le b x k := if_pos h
theorem nm_lt {b : Nat → Nat} (hb : ∀ k, b k < 256) (n x k : Nat) : nm b n x k < 256 ^ k := by
  unfold nm
  split
  · exact le_lt hb _ _
  · exact Nat.pow_pos (by decide)
section COF
variable {F : Nat} {c : px_CT} {sk : Nat → Nat × Nat × Nat} {L q base n : Nat} {τ : px_TT} {S : Nat → Int32}
theorem k_num_49 {p : Nat} (ho : cO sk L τ q base n S) : ∀ (k x f : Nat), k < f → (x + 1) * 256 ^ k ≤ 2 ^ 64 → p + k ≤ 65536 → f_ObjectFile_num_49 F c f q (nI p) (lN x) (nI k - nI 1) (cH sk L τ) = some (lN (x * 256 ^ k + le (ub S) p k), cH sk L τ) := by
  obtain ⟨o1, o2, o3, o4, o5, o6, o7, o8, o9, o10⟩ := ho
  intro k
  induction k with
  | zero =>
    intro x f hf hx hp
    obtain ⟨f, rfl⟩ : ∃ g, f = g + 1 := ⟨f - 1, by omega⟩
    unfold f_ObjectFile_num_49
    rw [if_pos (by decide)]
    show some (lN x, cH sk L τ) = _
    rw [Nat.pow_zero, Nat.mul_one]
    rfl
  | succ k ih =>
    intro x f hf hx hp
    obtain ⟨f, rfl⟩ : ∃ g, f = g + 1 := ⟨f - 1, by omega⟩
    have e1 : nI (k + 1) - nI 1 = nI k := nI_pred k
    have e2 : (x + 1) * 256 ^ (k + 1) = (x + 1) * 256 * 256 ^ k := by rw [Nat.pow_succ, Nat.mul_comm (256 ^ k), Nat.mul_assoc]
    have e3 : 1 ≤ 256 ^ k := Nat.one_le_pow _ _ (by decide)
    have e4 : (x + 1) * 256 ≤ 2 ^ 64 := by
      have : (x + 1) * 256 * 1 ≤ (x + 1) * 256 * 256 ^ k := Nat.mul_le_mul_left _ e3
      omega
    have e5 := b8_lt (S (p + k))
    unfold f_ObjectFile_num_49
    rw [e1, if_neg (nI_pos (by omega)), C7r0 o1 o2, bs, C10r0 o3 o4, bs, nI_add, c_aI o5 (Or.inl rfl) (by decide) (by omega), bs, o6, sh_byte x _ (by omega), nI_back]
    have e6 : (x * 256 + b8 (S (p + k)) + 1) * 256 ^ k ≤ 2 ^ 64 := by
      have : (x * 256 + b8 (S (p + k)) + 1) * 256 ^ k ≤ (x + 1) * 256 * 256 ^ k := Nat.mul_le_mul_right _ (by omega)
      omega
    rw [ih _ f (by omega) e6 (by omega)]
    have e7 : (x * 256 + b8 (S (p + k))) * 256 ^ k + le (ub S) p k = x * 256 ^ (k + 1) + le (ub S) p (k + 1) := by
      show _ = x * 256 ^ (k + 1) + (ub S (p + k) * 256 ^ k + le (ub S) p k)
      rw [Nat.add_mul, Nat.mul_assoc, Nat.mul_comm 256, ← Nat.pow_succ, Nat.add_assoc]
      rfl
    rw [e7]
theorem nI_subI {a b : Nat} (ha : a < 2 ^ 30) (hb : b < 2 ^ 30) : (nI a - nI b).toInt = (a : Int) - (b : Int) := pk_sub_toInt ha hb
theorem k_num {x k : Nat} (ho : cO sk L τ q base n S) (hF : 8 < F) (hk : k ≤ 8) (hx : x < 2 ^ 30) : f_ObjectFile_num F c q (nI x) (nI k) (cH sk L τ) = some (lN (nm (cb S base n) n x k), cH sk L τ) := by
  have ho' := ho
  obtain ⟨o1, o2, o3, o4, o5, o6, o7, o8, o9, o10⟩ := ho
  unfold f_ObjectFile_num nm
  rw [C7g5 o1, bs, if_neg (nI_pos (by omega)), C7g6 o1, bs, o8, o7]
  by_cases c1 : x + k ≤ n
  · rw [if_neg (by rw [Int32.lt_iff_toInt_lt, nI_subI (by omega) (by omega), nI_toInt (by omega)]; omega), nI_add, if_neg (nI_pos (by omega)), C7r0 o1 o2, bs, C10r0 o3 o4, bs, c_l o5 (by decide), bs, if_pos (by rw [Int32.le_iff_toInt_le, nI_subI (by omega) (by omega), nI_toInt (by omega)]; omega), if_pos c1]
    have e : (0 + 1) * 256 ^ k ≤ 2 ^ 64 := by
      rw [Nat.zero_add, Nat.one_mul]
      exact Nat.pow_le_pow_right (n := 256) (by decide) hk
    rw [k_num_49 ho' k 0 F (by omega) e (by omega), Nat.zero_mul, Nat.zero_add, le_cb S base n x k c1]
  · rw [if_pos (by rw [Int32.lt_iff_toInt_lt, nI_subI (by omega) (by omega), nI_toInt (by omega)]; omega), if_neg c1]
    rfl
theorem k_above {a b : Nat} {h : px_H} (ha : a < 2 ^ 64) (hb : b < 2 ^ 64) : f_H_above F c (lN a) (lN b) h = some (bI (decide (b < a)), h) := by
  unfold f_H_above f_H_above_19
  by_cases e : a ≤ b
  · rw [if_pos ((ultL hb ha).mpr e), xz_0, decide_eq_false (by omega)]
  · rw [if_neg (fun q => e ((ultL hb ha).mp q)), xz_1, decide_eq_true (by omega)]
theorem lN_subm {a b : Nat} (hb : b < 2 ^ 64) (ha : a < b) : lN a - lN b = lN (a + 2 ^ 64 - b) := by
  have h1 : lN a = lN (a + 2 ^ 64) := by
    rw [wb_mod (a + 2 ^ 64), Nat.add_mod_right, ← wb_mod]
  rw [h1, lN_sub (by omega)]
theorem k_holds {a z : Nat} (ho : cO sk L τ q base n S) (ha : a < 2 ^ 64) (hz : z < 2 ^ 64) : f_ObjectFile_holds F c q (lN a) (lN z) (cH sk L τ) = some (bI (decide (a + z ≤ n)), cH sk L τ) := by
  obtain ⟨o1, o2, o3, o4, o5, o6, o7, o8, o9, o10⟩ := ho
  have k0 : (0 : Int32) = nI 0 := rfl
  unfold f_ObjectFile_holds
  rw [C7g6 o1, bs, o8, nI_l (by omega), k_above ha (by omega), xb_mk, C7g6 o1, bs, o8, nI_l (by omega), k0]
  simp only [bI_0, decide_eq_false_iff_not, f_ObjectFile_holds_30, f_ObjectFile_holds_31, xz_0, xz_1]
  by_cases c1 : n < a
  · rw [if_neg (fun e => e c1), decide_eq_false (by omega)]
  · rw [if_pos c1, lN_sub (by omega), k_above hz (by omega), xb_mk]
    simp only [bI_0, decide_eq_false_iff_not]
    by_cases c2 : n - a < z
    · rw [if_neg (fun e => e c2), decide_eq_false (by omega)]
    · rw [if_pos c2, decide_eq_true (by omega)]
theorem k_isPower {v : Nat} {h : px_H} (hv : v < 2 ^ 64) : f_H_isPower F c (lN v) h = some (bI (isP v), h) := by
  have := q_isPower (F := F) (h := h) hv
  exact this
/-- a reader of a section's row -/
theorem k_typeOf {r i : Nat} (ho : cO sk L τ q base n S) (hF : 8 < F) (hr : fI τ q 7 = nI r) (hx : r + 64 * i < 2 ^ 29) : f_ObjectFile_typeOf F c q (nI i) (cH sk L τ) = some (lN (nm (cb S base n) n (r + 64 * i + 4) 4), cH sk L τ) := by
  have o1 := ho.1
  unfold f_ObjectFile_typeOf
  rw [C7g7 o1, bs, c_o o1, bs, hr, pk_mul, nI_add, nI_add, k_num ho hF (by decide) (by omega), xb_mk]
theorem k_flagsOf {r i : Nat} (ho : cO sk L τ q base n S) (hF : 8 < F) (hr : fI τ q 7 = nI r) (hx : r + 64 * i < 2 ^ 29) : f_ObjectFile_flagsOf F c q (nI i) (cH sk L τ) = some (lN (nm (cb S base n) n (r + 64 * i + 8) 8), cH sk L τ) := by
  have o1 := ho.1
  unfold f_ObjectFile_flagsOf
  rw [C7g7 o1, bs, c_o o1, bs, hr, pk_mul, nI_add, nI_add, k_num ho hF (by decide) (by omega), xb_mk]
theorem k_placeOf {r i : Nat} (ho : cO sk L τ q base n S) (hF : 8 < F) (hr : fI τ q 7 = nI r) (hx : r + 64 * i < 2 ^ 29) : f_ObjectFile_placeOf F c q (nI i) (cH sk L τ) = some (lN (nm (cb S base n) n (r + 64 * i + 24) 8), cH sk L τ) := by
  have o1 := ho.1
  unfold f_ObjectFile_placeOf
  rw [C7g7 o1, bs, c_o o1, bs, hr, pk_mul, nI_add, nI_add, k_num ho hF (by decide) (by omega), xb_mk]
theorem k_lengthOf {r i : Nat} (ho : cO sk L τ q base n S) (hF : 8 < F) (hr : fI τ q 7 = nI r) (hx : r + 64 * i < 2 ^ 29) : f_ObjectFile_lengthOf F c q (nI i) (cH sk L τ) = some (lN (nm (cb S base n) n (r + 64 * i + 32) 8), cH sk L τ) := by
  have o1 := ho.1
  unfold f_ObjectFile_lengthOf
  rw [C7g7 o1, bs, c_o o1, bs, hr, pk_mul, nI_add, nI_add, k_num ho hF (by decide) (by omega), xb_mk]
theorem k_linkOf {r i : Nat} (ho : cO sk L τ q base n S) (hF : 8 < F) (hr : fI τ q 7 = nI r) (hx : r + 64 * i < 2 ^ 29) : f_ObjectFile_linkOf F c q (nI i) (cH sk L τ) = some (lN (nm (cb S base n) n (r + 64 * i + 40) 4), cH sk L τ) := by
  have o1 := ho.1
  unfold f_ObjectFile_linkOf
  rw [C7g7 o1, bs, c_o o1, bs, hr, pk_mul, nI_add, nI_add, k_num ho hF (by decide) (by omega), xb_mk]
theorem k_infoOf {r i : Nat} (ho : cO sk L τ q base n S) (hF : 8 < F) (hr : fI τ q 7 = nI r) (hx : r + 64 * i < 2 ^ 29) : f_ObjectFile_infoOf F c q (nI i) (cH sk L τ) = some (lN (nm (cb S base n) n (r + 64 * i + 44) 4), cH sk L τ) := by
  have o1 := ho.1
  unfold f_ObjectFile_infoOf
  rw [C7g7 o1, bs, c_o o1, bs, hr, pk_mul, nI_add, nI_add, k_num ho hF (by decide) (by omega), xb_mk]
theorem k_alignOf {r i : Nat} (ho : cO sk L τ q base n S) (hF : 8 < F) (hr : fI τ q 7 = nI r) (hx : r + 64 * i < 2 ^ 29) : f_ObjectFile_alignOf F c q (nI i) (cH sk L τ) = some (lN (nm (cb S base n) n (r + 64 * i + 48) 8), cH sk L τ) := by
  have o1 := ho.1
  unfold f_ObjectFile_alignOf
  rw [C7g7 o1, bs, c_o o1, bs, hr, pk_mul, nI_add, nI_add, k_num ho hF (by decide) (by omega), xb_mk]
end COF
