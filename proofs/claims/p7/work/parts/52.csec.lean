/-! the class's head and sections of an object -/
/-- the constant tables -/
def kv (c : px_CT) (j : Nat) (l : List Nat) : Prop := (c j).2.1 = l.length ∧ ∀ i, i < l.length → (c j).2.2 i = nI (l.getD i 0)
def KT (c : px_CT) : Prop := (ki_B (c 1).1 = true ∧ kv c 1 [33, 60, 97, 114, 99, 104, 62, 10]) ∧ (ki_I (c 2).1 = true ∧ kv c 2 [5, 4, 6]) ∧ (ki_B (c 3).1 = true ∧ kv c 3 [127, 69, 76, 70, 2, 1, 1]) ∧ (ki_I (c 4).1 = true ∧ kv c 4 [0, 1, 4, 5, 2, 3]) ∧ (ki_I (c 5).1 = true ∧ kv c 5 [0, 1, 2, 2, 2, 2]) ∧ (ki_I (c 6).1 = true ∧ kv c 6 [6, 2, 3])
theorem xkl_at {c : px_CT} {j : Nat} {l : List Nat} (h : kv c j l) (hj : j < pg_nc) : xkl c j = some (nI l.length) := by
  unfold xkl
  rw [if_pos hj, h.1]
theorem xkB_at {c : px_CT} {j i : Nat} {l : List Nat} (h : kv c j l) (hj : j < pg_nc) (hb : ki_B (c j).1 = true) (hl : l.length < 2 ^ 31) (hi : i < l.length) : xkB c j (nI i) = some (nI (l.getD i 0)) := by
  unfold xkB
  rw [h.1, if_pos ⟨⟨hj, hb⟩, nI_in hi hl⟩, nI_clamp (by omega), h.2 i hi]
theorem xkI_at {c : px_CT} {j i : Nat} {l : List Nat} (h : kv c j l) (hj : j < pg_nc) (hb : ki_I (c j).1 = true) (hl : l.length < 2 ^ 31) (hi : i < l.length) : xkI c j (nI i) = some (nI (l.getD i 0)) := by
  unfold xkI
  rw [h.1, if_pos ⟨⟨hj, hb⟩, nI_in hi hl⟩, nI_clamp (by omega), h.2 i hi]
def kE : List Nat := [127, 69, 76, 70, 2, 1, 1]
theorem le_7 {b : Nat → Nat} (hb : ∀ k, b k < 256) : le b 0 7 = 282584257676671 ↔ ∀ i, i < 7 → b i = kE.getD i 0 := by
  have e : le b 0 7 = b 6 * 256 ^ 6 + (b 5 * 256 ^ 5 + (b 4 * 256 ^ 4 + (b 3 * 256 ^ 3 + (b 2 * 256 ^ 2 + (b 1 * 256 ^ 1 + (b 0 * 256 ^ 0 + 0)))))) := by
    simp only [le, Nat.zero_add]
  have h0 := hb 0
  have h1 := hb 1
  have h2 := hb 2
  have h3 := hb 3
  have h4 := hb 4
  have h5 := hb 5
  have h6 := hb 6
  rw [e]
  constructor
  · intro h i hi
    have : b 0 = 127 ∧ b 1 = 69 ∧ b 2 = 76 ∧ b 3 = 70 ∧ b 4 = 2 ∧ b 5 = 1 ∧ b 6 = 1 := by
      generalize b 0 = x0 at *
      generalize b 1 = x1 at *
      generalize b 2 = x2 at *
      generalize b 3 = x3 at *
      generalize b 4 = x4 at *
      generalize b 5 = x5 at *
      generalize b 6 = x6 at *
      omega
    rcases (by omega : i = 0 ∨ i = 1 ∨ i = 2 ∨ i = 3 ∨ i = 4 ∨ i = 5 ∨ i = 6) with rfl | rfl | rfl | rfl | rfl | rfl | rfl
    · exact this.1
    · exact this.2.1
    · exact this.2.2.1
    · exact this.2.2.2.1
    · exact this.2.2.2.2.1
    · exact this.2.2.2.2.2.1
    · exact this.2.2.2.2.2.2
  · intro h
    rw [h 0 (by decide), h 1 (by decide), h 2 (by decide), h 3 (by decide), h 4 (by decide), h 5 (by decide), h 6 (by decide)]
    rfl
section CSEC
variable {F : Nat} {c : px_CT} {sk : Nat → Nat × Nat × Nat} {L q base n : Nat} {τ : px_TT} {S : Nat → Int32}
theorem k_isHeadGood_2 (hc : KT c) (ho : cO sk L τ q base n S) (hF : 8 < F) : ∀ (k i f : Nat), i + k = 7 → k < f → f_ObjectFile_isHeadGood_2 F c f q (nI i) (cH sk L τ) = if al (fun i => decide (nm (cb S base n) n i 1 = kE.getD i 0)) i k = true then f_ObjectFile_isHeadGood_34 F c q (cH sk L τ) else some (nI 0, cH sk L τ) := by
  intro k
  have hE := hc.2.2.1
  induction k with
  | zero =>
    intro i f hi hf
    obtain ⟨f, rfl⟩ : ∃ g, f = g + 1 := ⟨f - 1, by omega⟩
    unfold f_ObjectFile_isHeadGood_2
    rw [xkl_at hE.2 (by decide), bs, if_pos (nI_le (by show 7 ≤ i; omega) (by omega))]
    rfl
  | succ k ih =>
    intro i f hi hf
    obtain ⟨f, rfl⟩ : ∃ g, f = g + 1 := ⟨f - 1, by omega⟩
    have h1 := nm_lt (cb_lt S base n) n i 1
    have h2 : kE.getD i 0 < 256 := by
      have : ∀ j, j < 7 → kE.getD j 0 < 256 := by decide
      exact this i (by omega)
    unfold f_ObjectFile_isHeadGood_2
    rw [xkl_at hE.2 (by decide), bs, if_neg (nI_ge (by show i < 7; omega) (by show 7 < 2 ^ 31; decide)), c_o ho.1, bs, k_num ho hF (by decide) (by omega), xb_mk, xkB_at hE.2 (by decide) hE.1 (by decide) (by show i < 7; omega), bs, show List.getD [127, 69, 76, 70, 2, 1, 1] i 0 = kE.getD i 0 from rfl, nI_l (by omega), nI_add, al_s]
    simp only [lEQ (show nm (cb S base n) n i 1 < 2 ^ 64 from Nat.lt_of_lt_of_le h1 (by decide)) (show kE.getD i 0 < 2 ^ 64 from Nat.lt_of_lt_of_le h2 (by decide))]
    by_cases e : nm (cb S base n) n i 1 = kE.getD i 0
    · rw [if_pos e, decide_eq_true e, Bool.true_and]
      exact ih (i + 1) f (by omega) (by omega)
    · rw [if_neg e, decide_eq_false e, Bool.false_and]
      rfl
theorem k_isHeadGood (hc : KT c) (ho : cO sk L τ q base n S) (hF : 8 < F) : f_ObjectFile_isHeadGood F c q (cH sk L τ) = some (bI (decide (64 ≤ n) && oH (cb S base n)), cH sk L τ) := by
  have hn := ho.2.2.2.2.2.2.2.2.1
  have h8 := ho.2.2.2.2.2.2.2.1
  unfold f_ObjectFile_isHeadGood
  rw [k_isHeadGood_2 hc ho hF 7 0 F rfl (by omega)]
  unfold f_ObjectFile_isHeadGood_34
  rw [C7g6 ho.1, bs, h8]
  by_cases c1 : n < 64
  · rw [if_pos (nI_lt c1 (by decide)), decide_eq_false (by omega), Bool.false_and]
    simp only [f_ObjectFile_isHeadGood_113, f_ObjectFile_isHeadGood_114, xz_0]
    split
    · rfl
    · rfl
  · rw [if_neg (nI_nlt (by omega) (by omega)), decide_eq_true (by omega), Bool.true_and, c_o ho.1]
    have L2 : ∀ x, le (cb S base n) x 2 < 2 ^ 64 := fun x => Nat.lt_of_lt_of_le (le_lt (cb_lt S base n) x 2) (by decide)
    have L4 : ∀ x, le (cb S base n) x 4 < 2 ^ 64 := fun x => Nat.lt_of_lt_of_le (le_lt (cb_lt S base n) x 4) (by decide)
    have Q2 : ∀ x, x + 2 ≤ n → x < 2 ^ 30 → f_ObjectFile_num F c q (nI x) (nI 2) (cH sk L τ) = some (lN (le (cb S base n) x 2), cH sk L τ) := fun x hx h3 => by rw [k_num ho hF (by decide) h3, nm_in hx]
    have Q4 : f_ObjectFile_num F c q (nI 20) (nI 4) (cH sk L τ) = some (lN (le (cb S base n) 20 4), cH sk L τ) := by rw [k_num ho hF (by decide) (by decide), nm_in (by omega)]
    simp only [bs, Q2 16 (by omega) (by decide), Q2 18 (by omega) (by decide), Q4, Q2 52 (by omega) (by decide), Q2 58 (by omega) (by decide), xb_mk, c_o ho.1, lk, lEQ (L2 16) (show 1 < 2 ^ 64 by decide), lEQ (L2 18) (show 62 < 2 ^ 64 by decide), lEQ (L4 20) (show 1 < 2 ^ 64 by decide), lEQ (L2 52) (show 64 < 2 ^ 64 by decide), lEQ (L2 58) (show 64 < 2 ^ 64 by decide), f_ObjectFile_isHeadGood_113, f_ObjectFile_isHeadGood_114, xz_0, xz_1]
    have e7 : al (fun i => decide (nm (cb S base n) n i 1 = kE.getD i 0)) 0 7 = true ↔ le (cb S base n) 0 7 = 282584257676671 := by
      rw [le_7 (cb_lt S base n), al_iff]
      have e1 : ∀ i, i < 7 → nm (cb S base n) n i 1 = cb S base n i := by
        intro i hi
        rw [nm_in (by omega)]
        simp [le]
      constructor
      · intro h i hi
        have := of_decide_eq_true (h i (Nat.zero_le _) (by omega))
        rw [e1 i hi] at this
        exact this
      · intro h i _ hi
        apply decide_eq_true
        rw [e1 i (by omega)]
        exact h i (by omega)
    unfold oH
    generalize al (fun i => decide (nm (cb S base n) n i 1 = kE.getD i 0)) 0 7 = A at *
    generalize le (cb S base n) 0 7 = x0 at *
    generalize le (cb S base n) 16 2 = x1
    generalize le (cb S base n) 18 2 = x2
    generalize le (cb S base n) 20 4 = x3
    generalize le (cb S base n) 52 2 = x4
    generalize le (cb S base n) 58 2 = x5
    by_cases d0 : x0 = 282584257676671
    · rw [if_pos (e7.mpr d0)]
      by_cases d1 : x1 = 1
      · by_cases d2 : x2 = 62
        · by_cases d3 : x3 = 1
          · by_cases d4 : x4 = 64 <;> by_cases d5 : x5 = 64 <;> simp [d0, d1, d2, d3, d4, d5]
          · simp [d0, d1, d2, d3]
        · simp [d0, d1, d2]
      · simp [d0, d1]
    · rw [if_neg (fun e => d0 (e7.mp e)), decide_eq_false (fun e => d0 e.1)]
      rfl
/-- its rows have been read -/
def cR (sk : Nat → Nat × Nat × Nat) (L : Nat) (τ : px_TT) (q base n : Nat) (S : Nat → Int32) : Prop := cO sk L τ q base n S ∧ rk S base n ∧ 1 ≤ oS (cb S base n) ∧ fI τ q 7 = nI (oR (cb S base n)) ∧ fI τ q 8 = nI (oS (cb S base n))
theorem ar_R {R s i n : Nat} (h : R + 64 * s ≤ n) (hi : i < s) : R + 64 * i + 64 ≤ n := by omega
section GETR
variable {i : Nat} (hr : cR sk L τ q base n S) (hF : 8 < F) (hi : i < oS (cb S base n))
theorem cR_x (hr : cR sk L τ q base n S) (hi : i < oS (cb S base n)) : oR (cb S base n) + 64 * i < 2 ^ 29 ∧ oR (cb S base n) + 64 * i + 64 ≤ n := by
  have h1 := ar_R hr.2.1.2.1 hi
  have h2 := hr.2.1.1.2
  refine ⟨?_, h1⟩
  generalize oR (cb S base n) = r at *
  omega
theorem k_T (hr : cR sk L τ q base n S) (hF : 8 < F) (hi : i < oS (cb S base n)) : f_ObjectFile_typeOf F c q (nI i) (cH sk L τ) = some (lN (oT (cb S base n) i), cH sk L τ) := by
  obtain ⟨h1, h2⟩ := cR_x hr hi
  rw [k_typeOf hr.1 hF hr.2.2.2.1 h1, nm_in (Nat.le_trans (by rw [Nat.add_assoc]; exact Nat.add_le_add_left (by decide) _) h2)]
  simp only [oT]
theorem k_Fl (hr : cR sk L τ q base n S) (hF : 8 < F) (hi : i < oS (cb S base n)) : f_ObjectFile_flagsOf F c q (nI i) (cH sk L τ) = some (lN (oF (cb S base n) i), cH sk L τ) := by
  obtain ⟨h1, h2⟩ := cR_x hr hi
  rw [k_flagsOf hr.1 hF hr.2.2.2.1 h1, nm_in (Nat.le_trans (by rw [Nat.add_assoc]; exact Nat.add_le_add_left (by decide) _) h2)]
  simp only [oF]
theorem k_P (hr : cR sk L τ q base n S) (hF : 8 < F) (hi : i < oS (cb S base n)) : f_ObjectFile_placeOf F c q (nI i) (cH sk L τ) = some (lN (oP (cb S base n) i), cH sk L τ) := by
  obtain ⟨h1, h2⟩ := cR_x hr hi
  rw [k_placeOf hr.1 hF hr.2.2.2.1 h1, nm_in (Nat.le_trans (by rw [Nat.add_assoc]; exact Nat.add_le_add_left (by decide) _) h2)]
  simp only [oP]
theorem k_Z (hr : cR sk L τ q base n S) (hF : 8 < F) (hi : i < oS (cb S base n)) : f_ObjectFile_lengthOf F c q (nI i) (cH sk L τ) = some (lN (oZ (cb S base n) i), cH sk L τ) := by
  obtain ⟨h1, h2⟩ := cR_x hr hi
  rw [k_lengthOf hr.1 hF hr.2.2.2.1 h1, nm_in (Nat.le_trans (by rw [Nat.add_assoc]; exact Nat.add_le_add_left (by decide) _) h2)]
  simp only [oZ]
theorem k_L (hr : cR sk L τ q base n S) (hF : 8 < F) (hi : i < oS (cb S base n)) : f_ObjectFile_linkOf F c q (nI i) (cH sk L τ) = some (lN (oL (cb S base n) i), cH sk L τ) := by
  obtain ⟨h1, h2⟩ := cR_x hr hi
  rw [k_linkOf hr.1 hF hr.2.2.2.1 h1, nm_in (Nat.le_trans (by rw [Nat.add_assoc]; exact Nat.add_le_add_left (by decide) _) h2)]
  simp only [oL]
theorem k_I (hr : cR sk L τ q base n S) (hF : 8 < F) (hi : i < oS (cb S base n)) : f_ObjectFile_infoOf F c q (nI i) (cH sk L τ) = some (lN (oI (cb S base n) i), cH sk L τ) := by
  obtain ⟨h1, h2⟩ := cR_x hr hi
  rw [k_infoOf hr.1 hF hr.2.2.2.1 h1, nm_in (Nat.le_trans (by rw [Nat.add_assoc]; exact Nat.add_le_add_left (by decide) _) h2)]
  simp only [oI]
theorem k_A (hr : cR sk L τ q base n S) (hF : 8 < F) (hi : i < oS (cb S base n)) : f_ObjectFile_alignOf F c q (nI i) (cH sk L τ) = some (lN (oA (cb S base n) i), cH sk L τ) := by
  obtain ⟨h1, h2⟩ := cR_x hr hi
  rw [k_alignOf hr.1 hF hr.2.2.2.1 h1, nm_in (Nat.le_trans (by rw [Nat.add_assoc]; exact Nat.add_le_add_left (by decide) _) h2)]
  simp only [oA]
end GETR
end CSEC
