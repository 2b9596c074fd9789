section
/-! the class's head and sections of an object -/
/-- the constant tables -/
def kv (c : px_CT) (j : Nat) (l : List Nat) : Prop := (c j).2.1 = l.length ∧ ∀ i, i < l.length → (c j).2.2 i = nI (l.getD i 0)
def KT (c : px_CT) : Prop := (ki_B (c 1).1 = true ∧ kv c 1 [33, 60, 97, 114, 99, 104, 62, 10]) ∧ (ki_I (c 2).1 = true ∧ kv c 2 [5, 4, 6]) ∧ (ki_B (c 3).1 = true ∧ kv c 3 [127, 69, 76, 70, 2, 1, 1]) ∧ (ki_I (c 4).1 = true ∧ kv c 4 [0, 1, 4, 5, 2, 3]) ∧ (ki_I (c 5).1 = true ∧ kv c 5 [0, 1, 2, 2, 2, 2]) ∧ (ki_I (c 6).1 = true ∧ kv c 6 [6, 2, 3])
theorem xkl_at {c : px_CT} {j : Nat} {l : List Nat} (h : kv c j l) (hj : j < pg_nc) : xkl c j = some (nI l.length) := by
  unfold xkl
  rw [if_pos hj, h.1]
theorem xkB_at {c : px_CT} {j i : Nat} {l : List Nat} (h : kv c j l) (hj : j < pg_nc) (hb : ki_B (c j).1 = true) (hl : l.length < 2 ^ 31) (hi : i < l.length) : xkB c j (nI i) = some (nI (l.getD i 0)) := by
  unfold xkB
  rw [h.1, if_pos ⟨⟨hj, hb⟩, nI_in hi hl⟩, nI_clamp (by omega), h.2 i hi]
theorem xkI_at {c : px_CT} {j i : Nat} {l : List Nat} (h : kv c j l) (hj : j < pg_nc) (hb : ki_I (c j).1 = true) (hl : l.length < 2 ^ 31) (hi : i < l.length) : xkI c j (nI i) = some (nI (l.getD i 0)) := by
  unfold xkI
  rw [h.1, if_pos ⟨⟨hj, hb⟩, nI_in hi hl⟩, nI_clamp (by omega), h.2 i hi]
def kE : List Nat := [127, 69, 76, 70, 2, 1, 1]
theorem le_7 {b : Nat → Nat} (hb : ∀ k, b k < 256) : le b 0 7 = 282584257676671 ↔ ∀ i, i < 7 → b i = kE.getD i 0 := by
  have e : le b 0 7 = b 6 * 256 ^ 6 + (b 5 * 256 ^ 5 + (b 4 * 256 ^ 4 + (b 3 * 256 ^ 3 + (b 2 * 256 ^ 2 + (b 1 * 256 ^ 1 + (b 0 * 256 ^ 0 + 0)))))) := by
    simp only [le, Nat.zero_add]
  have h0 := hb 0
  have h1 := hb 1
  have h2 := hb 2
  have h3 := hb 3
  have h4 := hb 4
  have h5 := hb 5
  have h6 := hb 6
  rw [e]
  constructor
  · intro h i hi
    have : b 0 = 127 ∧ b 1 = 69 ∧ b 2 = 76 ∧ b 3 = 70 ∧ b 4 = 2 ∧ b 5 = 1 ∧ b 6 = 1 := by
      generalize b 0 = x0 at *
      generalize b 1 = x1 at *
      generalize b 2 = x2 at *
      generalize b 3 = x3 at *
      generalize b 4 = x4 at *
      generalize b 5 = x5 at *
      generalize b 6 = x6 at *
      omega
    rcases (by omega : i = 0 ∨ i = 1 ∨ i = 2 ∨ i = 3 ∨ i = 4 ∨ i = 5 ∨ i = 6) with rfl | rfl | rfl | rfl | rfl | rfl | rfl
    · exact this.1
    · exact this.2.1
    · exact this.2.2.1
    · exact this.2.2.2.1
    · exact this.2.2.2.2.1
    · exact this.2.2.2.2.2.1
    · exact this.2.2.2.2.2.2
  · intro h
    rw [h 0 (by decide), h 1 (by decide), h 2 (by decide), h 3 (by decide), h 4 (by decide), h 5 (by decide), h 6 (by decide)]
    rfl
section CSEC
variable {F : Nat} {c : px_CT} {sk : Nat → Nat × Nat × Nat} {L q base n : Nat} {τ : px_TT} {S : Nat → Int32}
theorem k_isHeadGood_2 (hc : KT c) (ho : cO sk L τ q base n S) (hF : 8 < F) : ∀ (k i f : Nat), i + k = 7 → k < f → f_ObjectFile_isHeadGood_2 F c f q (nI i) (cH sk L τ) = if al (fun i => decide (nm (cb S base n) n i 1 = kE.getD i 0)) i k = true then f_ObjectFile_isHeadGood_34 F c q (cH sk L τ) else some (nI 0, cH sk L τ) := by
  intro k
  have hE := hc.2.2.1
  induction k with
  | zero =>
    intro i f hi hf
    obtain ⟨f, rfl⟩ : ∃ g, f = g + 1 := ⟨f - 1, by omega⟩
    unfold f_ObjectFile_isHeadGood_2
    rw [xkl_at hE.2 (by decide), bs, if_pos (nI_le (by show 7 ≤ i; omega) (by omega))]
    rfl
  | succ k ih =>
    intro i f hi hf
    obtain ⟨f, rfl⟩ : ∃ g, f = g + 1 := ⟨f - 1, by omega⟩
    have h1 := nm_lt (cb_lt S base n) n i 1
    have h2 : kE.getD i 0 < 256 := by
      have : ∀ j, j < 7 → kE.getD j 0 < 256 := by decide
      exact this i (by omega)
    unfold f_ObjectFile_isHeadGood_2
    rw [xkl_at hE.2 (by decide), bs, if_neg (nI_ge (by show i < 7; omega) (by show 7 < 2 ^ 31; decide)), c_o ho.1, bs, k_num ho hF (by decide) (by omega), xb_mk, xkB_at hE.2 (by decide) hE.1 (by decide) (by show i < 7; omega), bs, show List.getD [127, 69, 76, 70, 2, 1, 1] i 0 = kE.getD i 0 from rfl, nI_l (by omega), nI_add, al_s]
    simp only [lEQ (show nm (cb S base n) n i 1 < 2 ^ 64 from Nat.lt_of_lt_of_le h1 (by decide)) (show kE.getD i 0 < 2 ^ 64 from Nat.lt_of_lt_of_le h2 (by decide))]
    by_cases e : nm (cb S base n) n i 1 = kE.getD i 0
    · rw [if_pos e, decide_eq_true e, Bool.true_and]
      exact ih (i + 1) f (by omega) (by omega)
    · rw [if_neg e, decide_eq_false e, Bool.false_and]
      rfl
theorem k_isHeadGood (hc : KT c) (ho : cO sk L τ q base n S) (hF : 8 < F) : f_ObjectFile_isHeadGood F c q (cH sk L τ) = some (bI (decide (64 ≤ n) && oH (cb S base n)), cH sk L τ) := by
  have hn := ho.2.2.2.2.2.2.2.2.1
  have h8 := ho.2.2.2.2.2.2.2.1
  unfold f_ObjectFile_isHeadGood
  rw [k_isHeadGood_2 hc ho hF 7 0 F rfl (by omega)]
  unfold f_ObjectFile_isHeadGood_34
  rw [C7g6 ho.1, bs, h8]
  by_cases c1 : n < 64
  · rw [if_pos (nI_lt c1 (by decide)), decide_eq_false (by omega), Bool.false_and]
    simp only [f_ObjectFile_isHeadGood_113, f_ObjectFile_isHeadGood_114, xz_0]
    split
    · rfl
    · rfl
  · rw [if_neg (nI_nlt (by omega) (by omega)), decide_eq_true (by omega), Bool.true_and, c_o ho.1]
    have L2 : ∀ x, le (cb S base n) x 2 < 2 ^ 64 := fun x => Nat.lt_of_lt_of_le (le_lt (cb_lt S base n) x 2) (by decide)
    have L4 : ∀ x, le (cb S base n) x 4 < 2 ^ 64 := fun x => Nat.lt_of_lt_of_le (le_lt (cb_lt S base n) x 4) (by decide)
    have Q2 : ∀ x, x + 2 ≤ n → x < 2 ^ 30 → f_ObjectFile_num F c q (nI x) (nI 2) (cH sk L τ) = some (lN (le (cb S base n) x 2), cH sk L τ) := fun x hx h3 => by rw [k_num ho hF (by decide) h3, nm_in hx]
    have Q4 : f_ObjectFile_num F c q (nI 20) (nI 4) (cH sk L τ) = some (lN (le (cb S base n) 20 4), cH sk L τ) := by rw [k_num ho hF (by decide) (by decide), nm_in (by omega)]
    simp only [bs, Q2 16 (by omega) (by decide), Q2 18 (by omega) (by decide), Q4, Q2 52 (by omega) (by decide), Q2 58 (by omega) (by decide), xb_mk, c_o ho.1, lk, lEQ (L2 16) (show 1 < 2 ^ 64 by decide), lEQ (L2 18) (show 62 < 2 ^ 64 by decide), lEQ (L4 20) (show 1 < 2 ^ 64 by decide), lEQ (L2 52) (show 64 < 2 ^ 64 by decide), lEQ (L2 58) (show 64 < 2 ^ 64 by decide), f_ObjectFile_isHeadGood_113, f_ObjectFile_isHeadGood_114, xz_0, xz_1]
    have e7 : al (fun i => decide (nm (cb S base n) n i 1 = kE.getD i 0)) 0 7 = true ↔ le (cb S base n) 0 7 = 282584257676671 := by
      rw [le_7 (cb_lt S base n), al_iff]
      have e1 : ∀ i, i < 7 → nm (cb S base n) n i 1 = cb S base n i := by
        intro i hi
        rw [nm_in (by omega)]
        simp [le]
      constructor
      · intro h i hi
        have := of_decide_eq_true (h i (Nat.zero_le _) (by omega))
        rw [e1 i hi] at this
        exact this
      · intro h i _ hi
        apply decide_eq_true
        rw [e1 i (by omega)]
        exact h i (by omega)
    unfold oH
    generalize al (fun i => decide (nm (cb S base n) n i 1 = kE.getD i 0)) 0 7 = A at *
    generalize le (cb S base n) 0 7 = x0 at *
    generalize le (cb S base n) 16 2 = x1
    generalize le (cb S base n) 18 2 = x2
    generalize le (cb S base n) 20 4 = x3
    generalize le (cb S base n) 52 2 = x4
    generalize le (cb S base n) 58 2 = x5
    by_cases d0 : x0 = 282584257676671
    · rw [if_pos (e7.mpr d0)]
      by_cases d1 : x1 = 1
      · by_cases d2 : x2 = 62
        · by_cases d3 : x3 = 1
          · by_cases d4 : x4 = 64 <;> by_cases d5 : x5 = 64 <;> simp [d0, d1, d2, d3, d4, d5]
          · simp [d0, d1, d2, d3]
        · simp [d0, d1, d2]
      · simp [d0, d1]
    · rw [if_neg (fun e => d0 (e7.mp e)), decide_eq_false (fun e => d0 e.1)]
      rfl
/-- its rows have been read -/
def cR (sk : Nat → Nat × Nat × Nat) (L : Nat) (τ : px_TT) (q base n : Nat) (S : Nat → Int32) : Prop := cO sk L τ q base n S ∧ rk S base n ∧ 1 ≤ oS (cb S base n) ∧ fI τ q 7 = nI (oR (cb S base n)) ∧ fI τ q 8 = nI (oS (cb S base n))
theorem ar_R {R s i n : Nat} (h : R + 64 * s ≤ n) (hi : i < s) : R + 64 * i + 64 ≤ n := by omega
section GETR
variable {i : Nat} (hr : cR sk L τ q base n S) (hF : 8 < F) (hi : i < oS (cb S base n))
theorem cR_x (hr : cR sk L τ q base n S) (hi : i < oS (cb S base n)) : oR (cb S base n) + 64 * i < 2 ^ 29 ∧ oR (cb S base n) + 64 * i + 64 ≤ n := by
  have h1 := ar_R hr.2.1.2.1 hi
  have h2 := hr.2.1.1.2
  refine ⟨?_, h1⟩
  generalize oR (cb S base n) = r at *
  omega
theorem k_T (hr : cR sk L τ q base n S) (hF : 8 < F) (hi : i < oS (cb S base n)) : f_ObjectFile_typeOf F c q (nI i) (cH sk L τ) = some (lN (oT (cb S base n) i), cH sk L τ) := by
  obtain ⟨h1, h2⟩ := cR_x hr hi
  rw [k_typeOf hr.1 hF hr.2.2.2.1 h1, nm_in (Nat.le_trans (by rw [Nat.add_assoc]; exact Nat.add_le_add_left (by decide) _) h2)]
  simp only [oT]
theorem k_Fl (hr : cR sk L τ q base n S) (hF : 8 < F) (hi : i < oS (cb S base n)) : f_ObjectFile_flagsOf F c q (nI i) (cH sk L τ) = some (lN (oF (cb S base n) i), cH sk L τ) := by
  obtain ⟨h1, h2⟩ := cR_x hr hi
  rw [k_flagsOf hr.1 hF hr.2.2.2.1 h1, nm_in (Nat.le_trans (by rw [Nat.add_assoc]; exact Nat.add_le_add_left (by decide) _) h2)]
  simp only [oF]
theorem k_P (hr : cR sk L τ q base n S) (hF : 8 < F) (hi : i < oS (cb S base n)) : f_ObjectFile_placeOf F c q (nI i) (cH sk L τ) = some (lN (oP (cb S base n) i), cH sk L τ) := by
  obtain ⟨h1, h2⟩ := cR_x hr hi
  rw [k_placeOf hr.1 hF hr.2.2.2.1 h1, nm_in (Nat.le_trans (by rw [Nat.add_assoc]; exact Nat.add_le_add_left (by decide) _) h2)]
  simp only [oP]
theorem k_Z (hr : cR sk L τ q base n S) (hF : 8 < F) (hi : i < oS (cb S base n)) : f_ObjectFile_lengthOf F c q (nI i) (cH sk L τ) = some (lN (oZ (cb S base n) i), cH sk L τ) := by
  obtain ⟨h1, h2⟩ := cR_x hr hi
  rw [k_lengthOf hr.1 hF hr.2.2.2.1 h1, nm_in (Nat.le_trans (by rw [Nat.add_assoc]; exact Nat.add_le_add_left (by decide) _) h2)]
  simp only [oZ]
theorem k_L (hr : cR sk L τ q base n S) (hF : 8 < F) (hi : i < oS (cb S base n)) : f_ObjectFile_linkOf F c q (nI i) (cH sk L τ) = some (lN (oL (cb S base n) i), cH sk L τ) := by
  obtain ⟨h1, h2⟩ := cR_x hr hi
  rw [k_linkOf hr.1 hF hr.2.2.2.1 h1, nm_in (Nat.le_trans (by rw [Nat.add_assoc]; exact Nat.add_le_add_left (by decide) _) h2)]
  simp only [oL]
theorem k_I (hr : cR sk L τ q base n S) (hF : 8 < F) (hi : i < oS (cb S base n)) : f_ObjectFile_infoOf F c q (nI i) (cH sk L τ) = some (lN (oI (cb S base n) i), cH sk L τ) := by
  obtain ⟨h1, h2⟩ := cR_x hr hi
  rw [k_infoOf hr.1 hF hr.2.2.2.1 h1, nm_in (Nat.le_trans (by rw [Nat.add_assoc]; exact Nat.add_le_add_left (by decide) _) h2)]
  simp only [oI]
theorem k_A (hr : cR sk L τ q base n S) (hF : 8 < F) (hi : i < oS (cb S base n)) : f_ObjectFile_alignOf F c q (nI i) (cH sk L τ) = some (lN (oA (cb S base n) i), cH sk L τ) := by
  obtain ⟨h1, h2⟩ := cR_x hr hi
  rw [k_alignOf hr.1 hF hr.2.2.2.1 h1, nm_in (Nat.le_trans (by rw [Nat.add_assoc]; exact Nat.add_le_add_left (by decide) _) h2)]
  simp only [oA]
end GETR
end CSEC
end
section
/-! the class's sections of an object -/
/-- nothing has changed but what a reading of the object at q writes: its fields 7 .. 14, its groups at g, the marks -/
def frO (q g : Nat) (τ τ' : px_TT) : Prop := (∀ a k, (a ≠ q ∨ k < 7 ∨ 14 < k) → fI τ' a k = fI τ a k) ∧ (∀ a k, fJ τ' a k = fJ τ a k) ∧ (∀ a k, fN τ' a k = fN τ a k) ∧ (∀ a, a ≠ g → a ≠ 139 → eI τ' a = eI τ a) ∧ (∀ a, eJ τ' a = eJ τ a) ∧ (∀ a, eN τ' a = eN τ a)
theorem frO_refl (q g : Nat) (τ : px_TT) : frO q g τ τ := ⟨fun _ _ _ => rfl, fun _ _ => rfl, fun _ _ => rfl, fun _ _ _ => rfl, fun _ => rfl, fun _ => rfl⟩
theorem frO_trans {q g : Nat} {τ τ' τ'' : px_TT} (h1 : frO q g τ τ') (h2 : frO q g τ' τ'') : frO q g τ τ'' := ⟨fun a k h => (h2.1 a k h).trans (h1.1 a k h), fun a k => (h2.2.1 a k).trans (h1.2.1 a k), fun a k => (h2.2.2.1 a k).trans (h1.2.2.1 a k), fun a h h' => (h2.2.2.2.1 a h h').trans (h1.2.2.2.1 a h h'), fun a => (h2.2.2.2.2.1 a).trans (h1.2.2.2.2.1 a), fun a => (h2.2.2.2.2.2 a).trans (h1.2.2.2.2.2 a)⟩
theorem frO_I (q g : Nat) (τ : px_TT) (k : Nat) (v : Int32) (h1 : 7 ≤ k) (h2 : k ≤ 14) : frO q g τ (tI τ q k v) := ⟨fun a j h => u2_ne (by omega), fun _ _ => rfl, fun _ _ => rfl, fun _ _ _ => rfl, fun _ => rfl, fun _ => rfl⟩
theorem frO_g (q g : Nat) (τ : px_TT) (f : Nat → Int32) : frO q g τ (vI τ g f) := ⟨fun a j h => rfl, fun _ _ => rfl, fun _ _ => rfl, fun a h _ => u1_ne h, fun _ => rfl, fun _ => rfl⟩
theorem frO_m (q g : Nat) (τ : px_TT) (f : Nat → Int32) : frO q g τ (vI τ 139 f) := ⟨fun a j h => rfl, fun _ _ => rfl, fun _ _ => rfl, fun a _ h => u1_ne h, fun _ => rfl, fun _ => rfl⟩
theorem cO_fr {sk : Nat → Nat × Nat × Nat} {L q g base n : Nat} {τ τ' : px_TT} {S : Nat → Int32} (ho : cO sk L τ q base n S) (hf : frO q g τ τ') (hg : g ≠ 8) : cO sk L τ' q base n S := by
  obtain ⟨o1, o2, o3, o4, o5, o6, o7, o8, o9, o10⟩ := ho
  exact ⟨o1, (hf.2.2.1 q 0).trans o2, o3, (hf.2.2.1 7 0).trans o4, o5, (hf.2.2.2.1 8 (fun e => hg e.symm) (by decide)).trans o6, (hf.1 q 5 (by omega)).trans o7, (hf.1 q 6 (by omega)).trans o8, o9, o10⟩
/-- a section's group as the class has it: -1 for one that is not kept -/
def gv (b : Nat → Nat) (i : Nat) : Int32 := if oK b i = true then nI (oG b i) else Int32.ofInt (-1)
theorem gv_n (b : Nat → Nat) (i : Nat) : (gv b i < 0) ↔ oK b i = false := by
  unfold gv
  cases hq : oK b i with
  | true =>
    rw [if_pos rfl]
    have : oG b i ≤ 5 := by unfold oG; (repeat' split) <;> decide
    have h2 := nI_pos (n := oG b i) (by omega)
    exact ⟨fun e => absurd e h2, fun e => nomatch e⟩
  | false => rw [if_neg (by decide)]; decide
theorem oG_le (b : Nat → Nat) (i : Nat) : oG b i ≤ 5 := by unfold oG; (repeat' split) <;> decide
theorem gv_b (b : Nat → Nat) (i : Nat) : (gv b i).toInt8.toInt32.toInt8.toInt32 = gv b i := by
  unfold gv
  split
  · have := oG_le b i
    have h : ∀ x, x ≤ 5 → (nI x).toInt8.toInt32.toInt8.toInt32 = nI x := by decide
    exact h _ this
  · decide
section CSE
variable {F : Nat} {c : px_CT} {sk : Nat → Nat × Nat × Nat} {L q g base n : Nat} {τ : px_TT} {S : Nat → Int32}
theorem k_areRowsGood (ho : cO sk L τ q base n S) (hF : 8 < F) (hn : 64 ≤ n) (hg : g ≠ 8) : ∃ τ', frO q g τ τ' ∧ f_ObjectFile_areRowsGood F c q (cH sk L τ) = some (bI (decide (1 ≤ oS (cb S base n) ∧ oS (cb S base n) ≤ 24 ∧ oR (cb S base n) + 64 * oS (cb S base n) ≤ n ∧ oT (cb S base n) 0 = 0)), cH sk L τ') ∧ ((1 ≤ oS (cb S base n) ∧ oS (cb S base n) ≤ 24 ∧ oR (cb S base n) + 64 * oS (cb S base n) ≤ n ∧ oT (cb S base n) 0 = 0) → cR sk L τ' q base n S) ∧ fI τ' q 9 = fI τ q 9 ∧ fI τ' q 11 = fI τ q 11 := by
  have hS := oS_lt (cb_lt S base n)
  have hR := oR_lt (cb_lt S base n)
  have hon := ho.2.2.2.2.2.2.2.2.1
  unfold f_ObjectFile_areRowsGood
  rw [c_o ho.1, bs, k_num ho hF (by decide) (by decide), nm_in (by omega), xb_mk, c_o ho.1, bs, k_num ho hF (by decide) (by decide), nm_in (by omega), xb_mk, show le (cb S base n) 60 2 = oS (cb S base n) from rfl, show le (cb S base n) 40 8 = oR (cb S base n) from rfl, lN_i, lN_i, nI_l (by omega), show (64 : Int64) = lN 64 from rfl, lN_mul, c_o ho.1, bs, k_holds ho hR (by omega), xb_mk]
  simp only [nI_ltI (show oS (cb S base n) < 2 ^ 31 by omega) (show 1 < 2 ^ 31 by decide), nI_ltI (show 24 < 2 ^ 31 by decide) (show oS (cb S base n) < 2 ^ 31 by omega), show (0 : Int32) = nI 0 from rfl, bI_0, decide_eq_false_iff_not, f_ObjectFile_areRowsGood_43, f_ObjectFile_areRowsGood_71, xz_0, xz_1]
  by_cases d1 : oS (cb S base n) < 1
  · refine ⟨τ, frO_refl _ _ _, ?_, fun e => by have := e.1; omega, rfl, rfl⟩
    rw [if_pos d1, decide_eq_false (fun e => by have := e.1; omega)]
    rfl
  · by_cases d2 : 24 < oS (cb S base n)
    · refine ⟨τ, frO_refl _ _ _, ?_, fun e => by have := e.2.1; omega, rfl, rfl⟩
      rw [if_neg d1, if_pos d2, decide_eq_false (fun e => by have := e.2.1; omega)]
      rfl
    · by_cases d3 : oR (cb S base n) + 64 * oS (cb S base n) ≤ n
      · have fr : frO q g τ (tI (tI τ q 7 (nI (oR (cb S base n)))) q 8 (nI (oS (cb S base n)))) := frO_trans (frO_I q g τ 7 _ (by decide) (by decide)) (frO_I q g _ 8 _ (by decide) (by decide))
        have hr : cR sk L (tI (tI τ q 7 (nI (oR (cb S base n)))) q 8 (nI (oS (cb S base n)))) q base n S := ⟨cO_fr ho fr hg, ⟨⟨hn, hon⟩, d3, by omega⟩, by omega, (u2_ne (Or.inr (by decide))).trans u2_eq, u2_eq⟩
        have hT := oT_lt (cb_lt S base n) 0
        refine ⟨_, fr, ?_, fun _ => hr, (u2_ne (Or.inr (by decide))).trans (u2_ne (Or.inr (by decide))), (u2_ne (Or.inr (by decide))).trans (u2_ne (Or.inr (by decide)))⟩
        rw [if_neg d1, if_neg d2, if_neg (fun e => e d3), C7p7 ho.1, bs, C7p8 ho.1, bs, c_o ho.1, bs, k_T hr hF (by omega), xb_mk]
        simp only [lEQ (show oT (cb S base n) 0 < 2 ^ 64 by omega) (show 0 < 2 ^ 64 by decide)]
        by_cases d4 : oT (cb S base n) 0 = 0
        · rw [if_pos d4, decide_eq_true ⟨by omega, by omega, d3, d4⟩]
        · rw [if_neg d4, decide_eq_false (fun e => d4 e.2.2.2)]
      · refine ⟨τ, frO_refl _ _ _, ?_, fun e => absurd e.2.2.1 d3, rfl, rfl⟩
        rw [if_neg d1, if_neg d2, if_pos d3, decide_eq_false (fun e => d3 e.2.2.1)]
        rfl
theorem k_findGroup {i : Nat} {h : px_H} : f_ObjectFile_findGroup F c (lN (oT (cb S base n) i)) (lN (oF (cb S base n) i)) h = some (gv (cb S base n) i, h) := by
  have e1 := oT_lt (cb_lt S base n) i
  have e2 := oF_lt (cb_lt S base n) i
  have E : ∀ y, y < 4294967296 → (lN (oT (cb S base n) i) = lN y ↔ oT (cb S base n) i = y) := fun y hy => lEQ (by omega) (by omega)
  have A : ∀ y, y < 4294967296 → lN (oF (cb S base n) i) &&& lN y = lN (oF (cb S base n) i &&& y) := fun y hy => wb_and e2 (by omega)
  have Z : ∀ y, y < 4294967296 → (lN (oF (cb S base n) i &&& y) = lN 0 ↔ oF (cb S base n) i &&& y = 0) := fun y hy => lEQ (Nat.lt_of_le_of_lt Nat.and_le_right (by omega)) (by decide)
  simp only [f_ObjectFile_findGroup, f_ObjectFile_findGroup_14, f_ObjectFile_findGroup_24, f_ObjectFile_findGroup_47, f_ObjectFile_findGroup_83, lk, E 1 (by decide), E 8 (by decide), A 2 (by decide), A 1024 (by decide), A 4 (by decide), A 1 (by decide), Z 2 (by decide), Z 1024 (by decide), Z 4 (by decide), Z 1 (by decide)]
  unfold gv oK oG
  generalize oT (cb S base n) i = t
  generalize (oF (cb S base n) i &&& 2) = f2
  generalize (oF (cb S base n) i &&& 1024) = f10
  generalize (oF (cb S base n) i &&& 4) = f4
  generalize (oF (cb S base n) i &&& 1) = f1
  by_cases c1 : t = 1
  · subst c1
    by_cases d2 : f2 = 0 <;> by_cases d10 : f10 = 0 <;> by_cases d4 : f4 = 0 <;> by_cases d1 : f1 = 0 <;> simp [d2, d10, d4, d1]
  · by_cases c8 : t = 8
    · subst c8
      by_cases d2 : f2 = 0 <;> by_cases d10 : f10 = 0 <;> by_cases d4 : f4 = 0 <;> by_cases d1 : f1 = 0 <;> simp [d2, d10, d4, d1]
    · simp [c1, c8]
theorem cR_fr {τ' : px_TT} (hr : cR sk L τ q base n S) (hf : frO q g τ τ') (hg : g ≠ 8) (h7 : fI τ' q 7 = fI τ q 7) (h8 : fI τ' q 8 = fI τ q 8) : cR sk L τ' q base n S := ⟨cO_fr hr.1 hf hg, hr.2.1, hr.2.2.1, h7.trans hr.2.2.2.1, h8.trans hr.2.2.2.2⟩
theorem k_sE_58 {i : Nat} {k2 : Nat → Int32 → px_H → Option (Int32 × px_H)} (hr : cR sk L τ q base n S) (hF : 8 < F) (hi : i < oS (cb S base n)) (hg3 : fN τ q 3 = some g) (hga : ar sk L 0 24 g) (hg : g ≠ 8) : f_ObjectFile_sectionsError_58 F c k2 q (nI i) (lN (oT (cb S base n) i)) (cH sk L τ) = if oK (cb S base n) i = true ∧ (16384 < oZ (cb S base n) i ∨ oA (cb S base n) i ≠ 0 ∧ isP (oA (cb S base n) i) = false) then some (nI 4, cH sk L (vI τ g (upd (eI τ g) i (gv (cb S base n) i)))) else k2 q (nI (i + 1)) (cH sk L (vI τ g (upd (eI τ g) i (gv (cb S base n) i)))) := by
  have h24 := hr.2.1.2.2
  have fr := frO_g q g τ (upd (eI τ g) i (gv (cb S base n) i))
  have hr' := cR_fr hr fr hg rfl rfl
  have eA := oA_lt (cb_lt S base n) i
  have eZ := oZ_lt (cb_lt S base n) i
  unfold f_ObjectFile_sectionsError_58
  rw [C7r3 hr.1.1 hg3, bs, c_o hr.1.1, bs, k_Fl hr hF hi, xb_mk, k_findGroup, xb_mk, gv_b, c_sI hga (Or.inl rfl) (by decide) (by omega), bs, c_o hr.1.1, bs, k_A hr' hF hi, xb_mk]
  simp only [lEQ eA (show 0 < 2 ^ 64 by decide), k_isPower eA, xb_mk, f_ObjectFile_sectionsError_96, f_ObjectFile_sectionsError_110, c_o hr.1.1, bs, k_Z hr' hF hi, lk, k_above eZ (show 16384 < 2 ^ 64 by decide), f_ObjectFile_sectionsError_115, C7r3 hr.1.1 (show fN (vI τ g (upd (eI τ g) i (gv (cb S base n) i))) q 3 = some g from hg3), c_aI hga (Or.inl rfl) (show 24 < 2 ^ 31 by decide) (show i < 24 by omega), f_ObjectFile_sectionsError_131, f_ObjectFile_sectionsError_133, nI_add, show (0 : Int32) = nI 0 from rfl, bI_0, decide_eq_false_iff_not]
  rw [show eI (vI τ g (upd (eI τ g) i (gv (cb S base n) i))) g i = gv (cb S base n) i by
    show u1 τ.2.2.2.1 g (upd (eI τ g) i (gv (cb S base n) i)) g i = _
    rw [u1_eq]
    exact upd_eq]
  have eg : (gv (cb S base n) i < nI 0) ↔ oK (cb S base n) i = false := gv_n _ _
  simp only [eg]
  generalize cH sk L (vI τ g (upd (eI τ g) i (gv (cb S base n) i))) = H
  generalize oK (cb S base n) i = K
  generalize isP (oA (cb S base n) i) = P
  generalize oA (cb S base n) i = a
  generalize oZ (cb S base n) i = z
  have k1 : ¬ (nI 1 = nI 0) := by decide
  cases K with
  | false => simp
  | true =>
    by_cases c1 : a = 0
    · by_cases c2 : 16384 < z
      · simp [c1, c2, k1]
      · simp [c1, c2]
    · cases P with
      | false => simp [c1, k1]
      | true =>
        by_cases c2 : 16384 < z
        · simp [c1, c2, k1]
        · simp [c1, c2]
theorem k_sectionsError_2 (hF : 8 < F) (hga : ar sk L 0 24 g) (hg : g ≠ 8) : ∀ (k i f : Nat) (τ : px_TT), cR sk L τ q base n S → fN τ q 3 = some g → (∀ j, j < i → eI τ g j = gv (cb S base n) j) → i + k = oS (cb S base n) → k < f → ∃ τ', frO q g τ τ' ∧ f_ObjectFile_sectionsError_2 F c f q (nI i) (cH sk L τ) = some (nI (fst0 (eSec (cb S base n) n) i k), cH sk L τ') ∧ (fst0 (eSec (cb S base n) n) i k = 0 → ∀ j, j < oS (cb S base n) → eI τ' g j = gv (cb S base n) j) ∧ ∀ k, fI τ' q k = fI τ q k := by
  intro k
  induction k with
  | zero =>
    intro i f τ hr h3 hj hi hf
    obtain ⟨f, rfl⟩ : ∃ g, f = g + 1 := ⟨f - 1, by omega⟩
    have h24 := hr.2.1.2.2
    refine ⟨τ, frO_refl _ _ _, ?_, fun _ j hjs => hj j (by omega), fun _ => rfl⟩
    unfold f_ObjectFile_sectionsError_2
    rw [C7g8 hr.1.1, bs, hr.2.2.2.2, if_pos (nI_le (by omega) (by omega))]
    rfl
  | succ k ih =>
    intro i f τ hr h3 hj hi hf
    obtain ⟨f, rfl⟩ : ∃ g, f = g + 1 := ⟨f - 1, by omega⟩
    have h24 := hr.2.1.2.2
    have hiS : i < oS (cb S base n) := by omega
    have eT := oT_lt (cb_lt S base n) i
    have eP := oP_lt (cb_lt S base n) i
    have eZ := oZ_lt (cb_lt S base n) i
    have fr := frO_g q g τ (upd (eI τ g) i (gv (cb S base n) i))
    have hr' := cR_fr hr fr hg rfl rfl
    unfold f_ObjectFile_sectionsError_2
    rw [C7g8 hr.1.1, bs, hr.2.2.2.2, if_neg (nI_ge (by omega) (by omega)), C7r3 hr.1.1 h3, bs, c_l hga (by decide), bs, if_neg (nI_ge (by omega) (by decide)), c_o hr.1.1, bs, k_T hr hF hiS, xb_mk, c_o hr.1.1, bs, k_P hr hF hiS, xb_mk, c_o hr.1.1, bs, k_Z hr hF hiS, xb_mk, c_o hr.1.1, bs, k_holds hr.1 eP eZ, xb_mk, k_sE_58 hr hF hiS h3 hga hg]
    simp only [lEQ (show oT (cb S base n) i < 2 ^ 64 by omega) (show 0 < 2 ^ 64 by decide), lk, lEQ (show oT (cb S base n) i < 2 ^ 64 by omega) (show 8 < 2 ^ 64 by decide), show (0 : Int32) = nI 0 from rfl, bI_0, decide_eq_false_iff_not, f_ObjectFile_sectionsError_56]
    rw [fst0_s]
    by_cases c1 : oT (cb S base n) i ≠ 0 ∧ oT (cb S base n) i ≠ 8 ∧ ¬ oP (cb S base n) i + oZ (cb S base n) i ≤ n
    · have e3 : eSec (cb S base n) n i = 3 := if_pos c1
      refine ⟨τ, frO_refl _ _ _, ?_, fun e => ?_, fun _ => rfl⟩
      · rw [if_neg c1.1, if_neg c1.2.1, if_pos c1.2.2, e3, if_neg (by decide)]
      · rw [e3, if_neg (by decide)] at e
        exact absurd e (by decide)
    · have e1 : ∀ (X Y : Option (Int32 × px_H)), (if oT (cb S base n) i = 0 then X else if oT (cb S base n) i = 8 then X else if ¬ oP (cb S base n) i + oZ (cb S base n) i ≤ n then Y else X) = X := by
        intro X Y
        by_cases d1 : oT (cb S base n) i = 0
        · rw [if_pos d1]
        · rw [if_neg d1]
          by_cases d2 : oT (cb S base n) i = 8
          · rw [if_pos d2]
          · rw [if_neg d2, if_neg (fun e => c1 ⟨d1, d2, e⟩)]
      rw [e1]
      have e4 : eSec (cb S base n) n i = if oK (cb S base n) i = true ∧ (16384 < oZ (cb S base n) i ∨ oA (cb S base n) i ≠ 0 ∧ isP (oA (cb S base n) i) = false) then 4 else 0 := if_neg c1
      by_cases c2 : oK (cb S base n) i = true ∧ (16384 < oZ (cb S base n) i ∨ oA (cb S base n) i ≠ 0 ∧ isP (oA (cb S base n) i) = false)
      · rw [if_pos c2] at e4
        refine ⟨_, fr, ?_, fun e => ?_, fun _ => rfl⟩
        · rw [if_pos c2, e4, if_neg (by decide)]
        · rw [e4, if_neg (by decide)] at e
          exact absurd e (by decide)
      · rw [if_neg c2] at e4
        rw [if_neg c2, e4, if_pos rfl]
        obtain ⟨τ', f1, f2, f3, f4⟩ := ih (i + 1) f (vI τ g (upd (eI τ g) i (gv (cb S base n) i))) hr' h3 (by
          intro j hji
          show u1 τ.2.2.2.1 g (upd (eI τ g) i (gv (cb S base n) i)) g j = _
          rw [u1_eq]
          by_cases e : j = i
          · rw [e]; exact upd_eq
          · rw [upd_ne e]; exact hj j (by omega)) (by omega) (by omega)
        exact ⟨τ', frO_trans fr f1, f2, f3, f4⟩
theorem k_sectionsError (hr : cR sk L τ q base n S) (hF : 24 < F) (h3 : fN τ q 3 = some g) (hga : ar sk L 0 24 g) (hg : g ≠ 8) : ∃ τ', frO q g τ τ' ∧ f_ObjectFile_sectionsError F c q (cH sk L τ) = some (nI (fst0 (eSec (cb S base n) n) 0 (oS (cb S base n))), cH sk L τ') ∧ (fst0 (eSec (cb S base n) n) 0 (oS (cb S base n)) = 0 → ∀ j, j < oS (cb S base n) → eI τ' g j = gv (cb S base n) j) ∧ ∀ k, fI τ' q k = fI τ q k := by
  unfold f_ObjectFile_sectionsError
  have := hr.2.1.2.2
  exact k_sectionsError_2 (by omega) hga hg _ 0 F τ hr h3 (fun j h => absurd h (Nat.not_lt_zero j)) (by omega) (by omega)
end CSE
end
section
/-! the class's symbols of an object -/
/-- its groups have been found -/
def cG (sk : Nat → Nat × Nat × Nat) (L : Nat) (τ : px_TT) (q g base n : Nat) (S : Nat → Int32) : Prop := cR sk L τ q base n S ∧ fN τ q 3 = some g ∧ ar sk L 0 24 g ∧ g ≠ 8 ∧ (∀ j, j < oS (cb S base n) → eI τ g j = gv (cb S base n) j)
/-- the symbols' section, as the class has it -/
def yS (b : Nat → Nat) : Int32 := if oY b = 0 then Int32.ofInt (-1) else nI (oY b)
/-- its symbols have been found -/
def cY (τ : px_TT) (q base n : Nat) (S : Nat → Int32) : Prop := fI τ q 9 = yS (cb S base n) ∧ fI τ q 11 = nI (oM (cb S base n)) ∧ (oY (cb S base n) ≠ 0 → fI τ q 10 = nI (oP (cb S base n) (oY (cb S base n))) ∧ fI τ q 12 = nI (oP (cb S base n) (oX (cb S base n))) ∧ fI τ q 13 = nI (oZ (cb S base n) (oX (cb S base n))))
section CSY
variable {F : Nat} {c : px_CT} {sk : Nat → Nat × Nat × Nat} {L q g base n : Nat} {τ : px_TT} {S : Nat → Int32}
theorem k_groupOf {x : Nat} (hg : cG sk L τ q g base n S) (hx : x < 2 ^ 63) : f_ObjectFile_groupOf F c q (lN x) (cH sk L τ) = some (if x < oS (cb S base n) then gv (cb S base n) x else Int32.ofInt (-1), cH sk L τ) := by
  obtain ⟨hr, h3, h4, h5, h6⟩ := hg
  have h24 := hr.2.1.2.2
  unfold f_ObjectFile_groupOf
  rw [if_neg (by rw [pk_lLT hx (by decide)]; omega), C7g8 hr.1.1, bs, hr.2.2.2.2, nI_l (by omega), C7r3 hr.1.1 h3, bs, c_l h4 (by decide), bs, nI_l (by decide)]
  simp only [pk_lLE (show oS (cb S base n) < 2 ^ 63 by omega) hx, pk_lLE (show 24 < 2 ^ 63 by decide) hx, f_ObjectFile_groupOf_37, f_ObjectFile_groupOf_38]
  by_cases c1 : x < oS (cb S base n)
  · rw [if_neg (by omega), if_neg (by omega), bs, lN_i, c_aI h4 (Or.inl rfl) (by decide) (by omega), bs, h6 x c1, if_pos c1]
  · rw [if_pos (by omega), if_neg c1]
theorem k_fS_2B {y : Nat} (hr : cR sk L τ q base n S) (hF : 8 < F) (hy : fI τ q 9 = nI y) (hy2 : y < 2 ^ 31) : ∀ (k i f : Nat), i + k = oS (cb S base n) → k < f → f_ObjectFile_findSymbols_2 F c f q (nI i) (cH sk L τ) = if cnt (fun i => decide (oT (cb S base n) i = 2)) i k = 0 then f_ObjectFile_findSymbols_42 F c q (cH sk L τ) else some (nI 0, cH sk L τ) := by
  have h24 := hr.2.1.2.2
  intro k
  induction k with
  | zero =>
    intro i f hi hf
    obtain ⟨f, rfl⟩ : ∃ g, f = g + 1 := ⟨f - 1, by omega⟩
    unfold f_ObjectFile_findSymbols_2
    rw [C7g8 hr.1.1, bs, hr.2.2.2.2, if_pos (nI_le (by omega) (by omega))]
    rfl
  | succ k ih =>
    intro i f hi hf
    obtain ⟨f, rfl⟩ : ∃ g, f = g + 1 := ⟨f - 1, by omega⟩
    have eT := oT_lt (cb_lt S base n) i
    unfold f_ObjectFile_findSymbols_2
    rw [C7g8 hr.1.1, bs, hr.2.2.2.2, if_neg (nI_ge (by omega) (by omega)), c_o hr.1.1, bs, k_T hr hF (by omega), xb_mk, C7g9 hr.1.1, bs, hy, if_neg (nI_pos hy2), cnt_s]
    simp only [lk, lEQ (show oT (cb S base n) i < 2 ^ 64 by omega) (show 2 < 2 ^ 64 by decide), f_ObjectFile_findSymbols_36, f_ObjectFile_findSymbols_29, nI_add]
    by_cases e : oT (cb S base n) i = 2
    · rw [if_pos e, if_pos (decide_eq_true e), if_neg (by omega)]
    · rw [if_neg e, if_neg (show ¬ decide (oT (cb S base n) i = 2) = true by simp [e]), Nat.zero_add]
      exact ih (i + 1) f (by omega) (by omega)
theorem k_fS_2A (hF : 8 < F) (hg : g ≠ 8) : ∀ (k i f : Nat) (τ : px_TT), cR sk L τ q base n S → fI τ q 9 = Int32.ofInt (-1) → i + k = oS (cb S base n) → k < f → ∃ τ', (τ' = τ ∨ ∃ v, τ' = tI τ q 9 v) ∧ (if 1 < cnt (fun i => decide (oT (cb S base n) i = 2)) i k then f_ObjectFile_findSymbols_2 F c f q (nI i) (cH sk L τ) = some (nI 0, cH sk L τ') else f_ObjectFile_findSymbols_2 F c f q (nI i) (cH sk L τ) = f_ObjectFile_findSymbols_42 F c q (cH sk L τ') ∧ fI τ' q 9 = if cnt (fun i => decide (oT (cb S base n) i = 2)) i k = 0 then Int32.ofInt (-1) else nI (fnd (fun i => decide (oT (cb S base n) i = 2)) 0 i k)) := by
  intro k
  induction k with
  | zero =>
    intro i f τ hr h9 hi hf
    obtain ⟨f, rfl⟩ : ∃ g, f = g + 1 := ⟨f - 1, by omega⟩
    have h24 := hr.2.1.2.2
    refine ⟨τ, Or.inl rfl, ?_⟩
    rw [if_neg (show ¬ 1 < cnt (fun i => decide (oT (cb S base n) i = 2)) i 0 from (by decide : ¬ 1 < 0))]
    refine ⟨?_, h9⟩
    unfold f_ObjectFile_findSymbols_2
    rw [C7g8 hr.1.1, bs, hr.2.2.2.2, if_pos (nI_le (by omega) (by omega))]
  | succ k ih =>
    intro i f τ hr h9 hi hf
    obtain ⟨f, rfl⟩ : ∃ g, f = g + 1 := ⟨f - 1, by omega⟩
    have h24 := hr.2.1.2.2
    have eT := oT_lt (cb_lt S base n) i
    unfold f_ObjectFile_findSymbols_2
    rw [C7g8 hr.1.1, bs, hr.2.2.2.2, if_neg (nI_ge (by omega) (by omega)), c_o hr.1.1, bs, k_T hr hF (by omega), xb_mk, C7g9 hr.1.1, bs, h9, if_pos (show Int32.ofInt (-1) < 0 by decide), C7p9 hr.1.1, bs, cnt_s, fnd_s]
    simp only [lk, lEQ (show oT (cb S base n) i < 2 ^ 64 by omega) (show 2 < 2 ^ 64 by decide), f_ObjectFile_findSymbols_36, f_ObjectFile_findSymbols_29, nI_add, decide_eq_true_eq]
    by_cases e : oT (cb S base n) i = 2
    · have hr' : cR sk L (tI τ q 9 (nI i)) q base n S := cR_fr hr (frO_I q g τ 9 _ (by decide) (by decide)) hg (u2_ne (Or.inr (by decide))) (u2_ne (Or.inr (by decide)))
      have e2 := k_fS_2B (c := c) hr' hF (u2_eq : fI (tI τ q 9 (nI i)) q 9 = nI i) (by omega) k (i + 1) f (by omega) (by omega)
      refine ⟨tI τ q 9 (nI i), Or.inr ⟨_, rfl⟩, ?_⟩
      simp only [e, if_true]
      rw [e2]
      by_cases c0 : cnt (fun i => decide (oT (cb S base n) i = 2)) (i + 1) k = 0
      · rw [if_pos c0, c0, if_neg (by decide)]
        exact ⟨rfl, u2_eq⟩
      · rw [if_neg c0, if_pos (by omega)]
    · simp only [e, if_false, Nat.zero_add]
      exact ih (i + 1) f τ hr h9 (by omega) (by omega)
/-- the symbols' section is as told -/
def eS1 (b : Nat → Nat) : Bool := decide (¬ 1 < cnt (fun i => decide (oT b i = 2)) 1 (oS b - 1) ∧ (oY b = 0 ∨ oZ b (oY b) % 24 = 0 ∧ oZ b (oY b) ≤ 1536 ∧ oX b < oS b ∧ oT b (oX b) = 3))
theorem k_fS_42 (hw : w1 (cb S base n) n) (hr : cR sk L τ q base n S) (hF : 8 < F) (hg : g ≠ 8) (h9 : fI τ q 9 = yS (cb S base n)) (h11 : fI τ q 11 = nI 0) : ∃ τ', frO q g τ τ' ∧ f_ObjectFile_findSymbols_42 F c q (cH sk L τ) = some (bI (decide (oY (cb S base n) = 0 ∨ oZ (cb S base n) (oY (cb S base n)) % 24 = 0 ∧ oZ (cb S base n) (oY (cb S base n)) ≤ 1536 ∧ oX (cb S base n) < oS (cb S base n) ∧ oT (cb S base n) (oX (cb S base n)) = 3)), cH sk L τ') ∧ (∀ k, k < 9 → fI τ' q k = fI τ q k) ∧ eI τ' g = eI τ g ∧ ((oY (cb S base n) = 0 ∨ oZ (cb S base n) (oY (cb S base n)) % 24 = 0 ∧ oZ (cb S base n) (oY (cb S base n)) ≤ 1536 ∧ oX (cb S base n) < oS (cb S base n) ∧ oT (cb S base n) (oX (cb S base n)) = 3) → cY τ' q base n S) := by
  have h24 := hr.2.1.2.2
  have hs := hr.2.2.1
  have hy := oY_lt hs
  unfold f_ObjectFile_findSymbols_42
  rw [C7g9 hr.1.1, bs, h9]
  by_cases c0 : oY (cb S base n) = 0
  · have e : yS (cb S base n) = Int32.ofInt (-1) := if_pos c0
    refine ⟨τ, frO_refl _ _ _, ?_, fun _ _ => rfl, rfl, fun _ => ⟨h9, ?_, fun d => absurd c0 d⟩⟩
    · rw [e, if_neg (show ¬ (0 : Int32) ≤ Int32.ofInt (-1) by decide), decide_eq_true (Or.inl c0)]
      rfl
    · rw [h11, show oM (cb S base n) = 0 from if_pos c0]
  · have e : yS (cb S base n) = nI (oY (cb S base n)) := if_neg c0
    have ht := oY_T c0
    have hz := hw.2.2.2.1 _ hy (by rw [ht]; decide) (by rw [ht]; decide)
    have hon := hr.2.1.1.2
    have hz2 : oZ (cb S base n) (oY (cb S base n)) ≤ 65536 := by
      generalize oZ (cb S base n) (oY (cb S base n)) = z at *
      generalize oP (cb S base n) (oY (cb S base n)) = p at *
      omega
    have hL := oL_lt (cb_lt S base n) (oY (cb S base n))
    rw [e, if_pos (show (0 : Int32) ≤ nI (oY (cb S base n)) from nI_pos' (by omega)), bs, c_o hr.1.1, bs, k_Z hr hF hy, xb_mk, C7g9 hr.1.1, bs, h9, e, c_o hr.1.1, bs, k_L hr hF hy, xb_mk, C7g8 hr.1.1, bs, hr.2.2.2.2, nI_l (by omega), show oL (cb S base n) (oY (cb S base n)) = oX (cb S base n) from rfl, c_o hr.1.1, bs, lN_i]
    have hX : oX (cb S base n) < 4294967296 := hL
    simp only [lk, pk_lRem (show oZ (cb S base n) (oY (cb S base n)) < 2 ^ 63 by omega) (show 0 < 24 by decide) (show 24 < 2 ^ 63 by decide), lEQ (show oZ (cb S base n) (oY (cb S base n)) % 24 < 2 ^ 64 from Nat.lt_of_lt_of_le (Nat.mod_lt _ (by decide)) (by decide)) (show 0 < 2 ^ 64 by decide), pk_lLT (show 1536 < 2 ^ 63 by decide) (show oZ (cb S base n) (oY (cb S base n)) < 2 ^ 63 by omega), pk_lLE (show oS (cb S base n) < 2 ^ 63 by omega) (show oX (cb S base n) < 2 ^ 63 by omega), f_ObjectFile_findSymbols_110]
    have bad : ¬ (oZ (cb S base n) (oY (cb S base n)) % 24 = 0 ∧ oZ (cb S base n) (oY (cb S base n)) ≤ 1536 ∧ oX (cb S base n) < oS (cb S base n) ∧ oT (cb S base n) (oX (cb S base n)) = 3) → ∃ τ', frO q g τ τ' ∧ (some (nI 0, cH sk L τ) : Option (Int32 × px_H)) = some (bI (decide (oY (cb S base n) = 0 ∨ oZ (cb S base n) (oY (cb S base n)) % 24 = 0 ∧ oZ (cb S base n) (oY (cb S base n)) ≤ 1536 ∧ oX (cb S base n) < oS (cb S base n) ∧ oT (cb S base n) (oX (cb S base n)) = 3)), cH sk L τ') ∧ (∀ k, k < 9 → fI τ' q k = fI τ q k) ∧ eI τ' g = eI τ g ∧ ((oY (cb S base n) = 0 ∨ oZ (cb S base n) (oY (cb S base n)) % 24 = 0 ∧ oZ (cb S base n) (oY (cb S base n)) ≤ 1536 ∧ oX (cb S base n) < oS (cb S base n) ∧ oT (cb S base n) (oX (cb S base n)) = 3) → cY τ' q base n S) := by
      intro hbad
      refine ⟨τ, frO_refl _ _ _, ?_, fun _ _ => rfl, rfl, fun d => absurd d (fun d => d.elim c0 hbad)⟩
      rw [decide_eq_false (fun d => d.elim c0 hbad)]
      rfl
    by_cases d1 : oZ (cb S base n) (oY (cb S base n)) % 24 = 0
    · rw [if_pos d1]
      by_cases d2 : 1536 < oZ (cb S base n) (oY (cb S base n))
      · rw [if_pos d2]
        exact bad (fun d => by have := d.2.1; omega)
      · rw [if_neg d2]
        by_cases d3 : oS (cb S base n) ≤ oX (cb S base n)
        · rw [if_pos d3]
          exact bad (fun d => by have := d.2.2.1; omega)
        · have hX2 : oX (cb S base n) < oS (cb S base n) := by omega
          have eT := oT_lt (cb_lt S base n) (oX (cb S base n))
          rw [if_neg d3, k_T hr hF hX2, xb_mk]
          simp only [lEQ (show oT (cb S base n) (oX (cb S base n)) < 2 ^ 64 by omega) (show 3 < 2 ^ 64 by decide)]
          by_cases d4 : oT (cb S base n) (oX (cb S base n)) = 3
          · have fr1 := frO_I q g τ 10 (nI (oP (cb S base n) (oY (cb S base n)))) (by decide) (by decide)
            have fr2 := frO_trans fr1 (frO_I q g (tI τ q 10 (nI (oP (cb S base n) (oY (cb S base n))))) 11 (nI (oZ (cb S base n) (oY (cb S base n)) / 24)) (by decide) (by decide))
            have hr2 := cR_fr hr fr2 hg ((u2_ne (Or.inr (by decide))).trans (u2_ne (Or.inr (by decide)))) ((u2_ne (Or.inr (by decide))).trans (u2_ne (Or.inr (by decide))))
            have fr3 := frO_trans fr2 (frO_I q g _ 12 (nI (oP (cb S base n) (oX (cb S base n)))) (by decide) (by decide))
            have hr3 := cR_fr hr fr3 hg ((u2_ne (Or.inr (by decide))).trans ((u2_ne (Or.inr (by decide))).trans (u2_ne (Or.inr (by decide))))) ((u2_ne (Or.inr (by decide))).trans ((u2_ne (Or.inr (by decide))).trans (u2_ne (Or.inr (by decide)))))
            have fr4 := frO_trans fr3 (frO_I q g _ 13 (nI (oZ (cb S base n) (oX (cb S base n)))) (by decide) (by decide))
            refine ⟨_, fr4, ?_, ?_, rfl, fun _ => ⟨?_, ?_, fun _ => ⟨?_, ?_, u2_eq⟩⟩⟩
            · rw [if_pos d4, C7g9 hr.1.1, bs, h9, e, c_o hr.1.1, bs, k_P hr hF hy, xb_mk, lN_i, C7p10 hr.1.1, bs, lN_i, pk_div (by omega) (by decide) (by decide), C7p11 hr.1.1, bs, c_o hr.1.1, bs, k_P hr2 hF hX2, xb_mk, lN_i, C7p12 hr.1.1, bs, c_o hr.1.1, bs, k_Z hr3 hF hX2, xb_mk, lN_i, C7p13 hr.1.1, bs, decide_eq_true (Or.inr ⟨d1, by omega, hX2, d4⟩)]
              rfl
            · intro k hk
              exact (u2_ne (Or.inr (by omega))).trans ((u2_ne (Or.inr (by omega))).trans ((u2_ne (Or.inr (by omega))).trans (u2_ne (Or.inr (by omega)))))
            · exact ((u2_ne (Or.inr (by decide))).trans ((u2_ne (Or.inr (by decide))).trans ((u2_ne (Or.inr (by decide))).trans (u2_ne (Or.inr (by decide)))))).trans h9
            · rw [show oM (cb S base n) = oZ (cb S base n) (oY (cb S base n)) / 24 from if_neg c0]
              exact (u2_ne (Or.inr (by decide))).trans ((u2_ne (Or.inr (by decide))).trans u2_eq)
            · exact (u2_ne (Or.inr (by decide))).trans ((u2_ne (Or.inr (by decide))).trans ((u2_ne (Or.inr (by decide))).trans u2_eq))
            · exact (u2_ne (Or.inr (by decide))).trans u2_eq
          · rw [if_neg d4]
            exact bad (fun d => d4 d.2.2.2)
    · rw [if_neg d1]
      exact bad (fun d => d1 d.1)
theorem k_findSymbols (hw : w1 (cb S base n) n) (hT0 : oT (cb S base n) 0 = 0) (hr : cR sk L τ q base n S) (hF : 24 < F) (hg : g ≠ 8) (h9 : fI τ q 9 = Int32.ofInt (-1)) (h11 : fI τ q 11 = nI 0) : ∃ τ', frO q g τ τ' ∧ f_ObjectFile_findSymbols F c q (cH sk L τ) = some (bI (eS1 (cb S base n)), cH sk L τ') ∧ fI τ' q 7 = fI τ q 7 ∧ fI τ' q 8 = fI τ q 8 ∧ eI τ' g = eI τ g ∧ (eS1 (cb S base n) = true → cY τ' q base n S) := by
  have h24 := hr.2.1.2.2
  have hs := hr.2.2.1
  have hF8 : 8 < F := by omega
  unfold f_ObjectFile_findSymbols
  obtain ⟨τ1, hτ, h⟩ := k_fS_2A (c := c) (sk := sk) (L := L) (q := q) (base := base) (n := n) (S := S) hF8 hg (oS (cb S base n)) 0 F τ hr h9 (by omega) (by omega)
  have ec : cnt (fun i => decide (oT (cb S base n) i = 2)) 0 (oS (cb S base n)) = cnt (fun i => decide (oT (cb S base n) i = 2)) 1 (oS (cb S base n) - 1) := by
    obtain ⟨s, hs'⟩ : ∃ s, oS (cb S base n) = s + 1 := ⟨oS (cb S base n) - 1, by omega⟩
    rw [hs', cnt_s, if_neg (by rw [hT0]; decide), Nat.zero_add, Nat.add_sub_cancel]
  have ef : fnd (fun i => decide (oT (cb S base n) i = 2)) 0 0 (oS (cb S base n)) = oY (cb S base n) := by
    unfold oY
    obtain ⟨s, hs'⟩ : ∃ s, oS (cb S base n) = s + 1 := ⟨oS (cb S base n) - 1, by omega⟩
    rw [hs', fnd_s, if_neg (by rw [hT0]; decide), Nat.add_sub_cancel]
  rw [ec, ef] at h
  have fr1 : frO q g τ τ1 := by
    rcases hτ with e | ⟨v, e⟩
    · rw [e]; exact frO_refl _ _ _
    · rw [e]; exact frO_I q g τ 9 v (by decide) (by decide)
  have hk : ∀ k, k ≠ 9 → fI τ1 q k = fI τ q k := by
    intro k hk
    rcases hτ with e | ⟨v, e⟩
    · rw [e]
    · rw [e]; exact u2_ne (Or.inr hk)
  have heg : eI τ1 g = eI τ g := by
    rcases hτ with e | ⟨v, e⟩ <;> rw [e]
    rfl
  unfold eS1
  by_cases c1 : 1 < cnt (fun i => decide (oT (cb S base n) i = 2)) 1 (oS (cb S base n) - 1)
  · rw [if_pos c1] at h
    refine ⟨τ1, fr1, ?_, hk 7 (by decide), hk 8 (by decide), heg, fun e => absurd c1 (of_decide_eq_true e).1⟩
    rw [h, decide_eq_false (fun d => d.1 c1)]
    rfl
  · rw [if_neg c1] at h
    have hr1 := cR_fr hr fr1 hg (hk 7 (by decide)) (hk 8 (by decide))
    have hc0 := @cnt_0 (fun i => decide (oT (cb S base n) i = 2)) (oS (cb S base n) - 1) 1 (by omega)
    rw [show fnd (fun i => decide (oT (cb S base n) i = 2)) 0 1 (oS (cb S base n) - 1) = oY (cb S base n) from rfl] at hc0
    have h9' : fI τ1 q 9 = yS (cb S base n) := by
      rw [h.2]
      unfold yS
      by_cases e : oY (cb S base n) = 0
      · rw [if_pos (hc0.mpr e), if_pos e]
      · rw [if_neg (fun d => e (hc0.mp d)), if_neg e]
    obtain ⟨τ2, f1, f2, f3, f5, f6⟩ := k_fS_42 (c := c) hw hr1 hF8 hg h9' ((hk 11 (by decide)).trans h11)
    refine ⟨τ2, frO_trans fr1 f1, ?_, (f3 7 (by decide)).trans (hk 7 (by decide)), (f3 8 (by decide)).trans (hk 8 (by decide)), f5.trans heg, fun e => f6 (of_decide_eq_true e).2⟩
    rw [h.1, f2]
    congr 3
    exact decide_eq_decide.mpr ⟨fun d => ⟨c1, d⟩, fun d => d.2⟩
end CSY
end
section
/-! the class's symbols: readers, names -/
def cS (sk : Nat → Nat × Nat × Nat) (L : Nat) (τ : px_TT) (q g base n : Nat) (S : Nat → Int32) : Prop := cG sk L τ q g base n S ∧ cY τ q base n S ∧ w2 (cb S base n) n
section CSZ
variable {F : Nat} {c : px_CT} {sk : Nat → Nat × Nat × Nat} {L q g base n : Nat} {τ : px_TT} {S : Nat → Int32}
theorem k_rowAt {r a i ss N : Nat} {S : Nat → Int32} (h1 : ob sk L 10 r) (h2 : fN τ r 0 = some a) (h3 : ar sk L 0 N a) (h4 : eI τ a = S) (h5 : fI τ r 1 = nI ss) (hss : ss ≤ N) (hN : N < 2 ^ 31) (hi : i < 2 ^ 31) : f_Row_at F c r (nI i) (cH sk L τ) = some (nI (if i < ss then b8 (S i) else 0), cH sk L τ) := by
  unfold f_Row_at f_Row_at_25 f_Row_at_26
  rw [if_neg (nI_pos hi), C10g1 h1, bs, h5]
  by_cases c1 : i < ss
  · rw [if_neg (nI_ge c1 (by omega)), C10r0 h1 h2, bs, c_aI h3 (Or.inl rfl) hN (by omega), bs, h4, pk_and _ 8 (by decide), if_pos c1]
    rfl
  · rw [if_pos (nI_le (by omega) hi), if_neg c1]
theorem k_nameLength_2 {r a ss N p e : Nat} {S : Nat → Int32} (h1 : ob sk L 10 r) (h2 : fN τ r 0 = some a) (h3 : ar sk L 0 N a) (h4 : eI τ a = S) (h5 : fI τ r 1 = nI ss) (hss : ss ≤ N) (hN : N < 2 ^ 30) (he : e ≤ ss) (hp : p < 2 ^ 30) : ∀ (k i f : Nat), i + k = 21 → k < f → f_Row_nameLength_2 F c f r (nI p) (nI e) (nI i) (cH sk L τ) = some (nI (if i + run (fun x => b8 (S x)) (p + i) k ≤ 20 ∧ p + (i + run (fun x => b8 (S x)) (p + i) k) < e then i + run (fun x => b8 (S x)) (p + i) k else 0), cH sk L τ) := by
  intro k
  induction k with
  | zero =>
    intro i f hi hf
    obtain ⟨f, rfl⟩ : ∃ g, f = g + 1 := ⟨f - 1, by omega⟩
    unfold f_Row_nameLength_2
    rw [if_pos (nI_lt (by omega) (by omega)), show run (fun x => b8 (S x)) (p + i) 0 = 0 from rfl, if_neg (by omega)]
    rfl
  | succ k ih =>
    intro i f hi hf
    obtain ⟨f, rfl⟩ : ∃ g, f = g + 1 := ⟨f - 1, by omega⟩
    unfold f_Row_nameLength_2
    rw [if_neg (nI_nlt (by omega) (by omega)), nI_add]
    by_cases c1 : e ≤ p + i
    · rw [if_pos (nI_le c1 (by omega)), if_neg (by omega)]
      rfl
    · rw [if_neg (nI_ge (by omega) (by omega)), c_o h1, bs, k_rowAt h1 h2 h3 h4 h5 hss (by omega) (by omega), xb_mk, if_pos (show p + i < ss by omega), show (0 : Int32) = nI 0 from rfl, nI_add]
      have hb := b8_lt (S (p + i))
      simp only [nI_eq (show b8 (S (p + i)) < 2 ^ 31 by omega) (show 0 < 2 ^ 31 by decide)]
      rw [show run (fun x => b8 (S x)) (p + i) (k + 1) = if b8 (S (p + i)) = 0 then 0 else run (fun x => b8 (S x)) (p + i + 1) k + 1 from rfl]
      by_cases c2 : b8 (S (p + i)) = 0
      · rw [if_pos c2, if_pos c2, Nat.add_zero, if_pos (by omega)]
        rfl
      · rw [if_neg c2, if_neg c2, ih (i + 1) f (by omega) (by omega), show p + (i + 1) = p + i + 1 by omega]
        generalize run (fun x => b8 (S x)) (p + i + 1) k = r
        rw [show i + 1 + r = i + (r + 1) by omega]
/-- of a name that ends ahead of e it is all the same what is behind -/
theorem run_lt {b b' : Nat → Nat} {p p' e : Nat} : ∀ (k : Nat), (∀ i, i < e → b (p + i) = b' (p' + i)) → ∀ (i : Nat), i + k = 21 → (run b (p + i) k < e - i ∨ run b' (p' + i) k < e - i) → i ≤ e → run b (p + i) k = run b' (p' + i) k
  | 0, _, _, _, _, _ => rfl
  | k + 1, h, i, hi, hl, he => by
    have e1 : run b (p + i) (k + 1) = if b (p + i) = 0 then 0 else run b (p + i + 1) k + 1 := rfl
    have e2 : run b' (p' + i) (k + 1) = if b' (p' + i) = 0 then 0 else run b' (p' + i + 1) k + 1 := rfl
    by_cases c : i < e
    · rw [e1, e2] at hl ⊢
      rw [h i c] at hl ⊢
      by_cases c2 : b' (p' + i) = 0
      · rw [if_pos c2, if_pos c2]
      · rw [if_neg c2, if_neg c2] at hl ⊢
        have := run_lt k h (i + 1) (by omega) (by rw [show p + (i + 1) = p + i + 1 by omega, show p' + (i + 1) = p' + i + 1 by omega]; omega) (by omega)
        rw [show p + (i + 1) = p + i + 1 by omega, show p' + (i + 1) = p' + i + 1 by omega] at this
        rw [this]
    · omega
theorem run_eq {b b' : Nat → Nat} {p p' e : Nat} (h : ∀ i, i < e → b (p + i) = b' (p' + i)) (hl : run b p 21 < e ∨ run b' p' 21 < e) : run b p 21 = run b' p' 21 := run_lt 21 h 0 rfl hl (Nat.zero_le _)
theorem le_1 (b : Nat → Nat) (p : Nat) : le b p 1 = b p := by
  show b (p + 0) * 256 ^ 0 + 0 = b p
  rw [Nat.pow_zero, Nat.mul_one, Nat.add_zero, Nat.add_zero]
section GETS
variable {j : Nat}
theorem cS_rk (hs : cS sk L τ q g base n S) : rk S base n := hs.1.1.2.1
theorem cS_y (hs : cS sk L τ q g base n S) (hj : j < oM (cb S base n)) : fI τ q 10 = nI (oP (cb S base n) (oY (cb S base n))) ∧ yP (cb S base n) j + 24 ≤ n ∧ yP (cb S base n) j < 2 ^ 29 := by
  have h1 := w2_y hs.2.2 hj
  have h2 := (cS_rk hs).1.2
  refine ⟨(hs.2.1.2.2 (w2_M0 hj)).1, h1, ?_⟩
  generalize yP (cb S base n) j = y at *
  omega
theorem k_bindOf (hs : cS sk L τ q g base n S) (hF : 8 < F) (h1 : 1 ≤ j) (hj : j < oM (cb S base n)) : f_ObjectFile_bindOf F c q (nI j) (cH sk L τ) = some (nI (yB (cb S base n) j), cH sk L τ) := by
  obtain ⟨e1, e2, e3⟩ := cS_y hs hj
  have hM := w2_M hs.2.2
  have hb := cb_lt S base n (yP (cb S base n) j + 4)
  unfold f_ObjectFile_bindOf f_ObjectFile_bindOf_35
  rw [show (0 : Int32) = nI 0 from rfl, if_neg (nI_ge (by omega) (by omega)), C7g11 hs.1.1.1.1, bs, hs.2.1.2.1, if_pos (nI_lt hj (by omega)), C7g10 hs.1.1.1.1, bs, c_o hs.1.1.1.1, bs, e1, pk_mul, nI_add, nI_add, show oP (cb S base n) (oY (cb S base n)) + 24 * j = yP (cb S base n) j from rfl, k_num hs.1.1.1 hF (by decide) (by omega), nm_in (by omega), xb_mk, le_1, lN_i, pk_shrN (by omega) _ 4 (by decide), show (2 : Nat) ^ 4 = 16 from rfl]
  simp only [yB]
theorem k_bindOf0 (hs : cS sk L τ q g base n S) (hj : j = 0 ∨ oM (cb S base n) ≤ j) (hj2 : j < 2 ^ 31) : f_ObjectFile_bindOf F c q (nI j) (cH sk L τ) = some (nI 0, cH sk L τ) := by
  have hM := w2_M hs.2.2
  unfold f_ObjectFile_bindOf f_ObjectFile_bindOf_12 f_ObjectFile_bindOf_35
  rw [show (0 : Int32) = nI 0 from rfl]
  by_cases c1 : j ≤ 0
  · rw [if_pos (nI_le c1 (by decide))]
  · rw [if_neg (nI_ge (by omega) hj2), C7g11 hs.1.1.1.1, bs, hs.2.1.2.1, if_neg (nI_nlt (by omega) hj2)]
theorem k_whereOf (hs : cS sk L τ q g base n S) (hF : 8 < F) (hj : j < oM (cb S base n)) : f_ObjectFile_whereOf F c q (nI j) (cH sk L τ) = some (nI (yW (cb S base n) j), cH sk L τ) := by
  obtain ⟨e1, e2, e3⟩ := cS_y hs hj
  unfold f_ObjectFile_whereOf
  rw [C7g10 hs.1.1.1.1, bs, c_o hs.1.1.1.1, bs, e1, pk_mul, nI_add, nI_add, show oP (cb S base n) (oY (cb S base n)) + 24 * j = yP (cb S base n) j from rfl, k_num hs.1.1.1 hF (by decide) (by omega), nm_in (by omega), xb_mk, lN_i]
  simp only [yW]
theorem k_valueOf (hs : cS sk L τ q g base n S) (hF : 8 < F) (hj : j < oM (cb S base n)) : f_ObjectFile_valueOf F c q (nI j) (cH sk L τ) = some (lN (yV (cb S base n) j), cH sk L τ) := by
  obtain ⟨e1, e2, e3⟩ := cS_y hs hj
  unfold f_ObjectFile_valueOf
  rw [C7g10 hs.1.1.1.1, bs, c_o hs.1.1.1.1, bs, e1, pk_mul, nI_add, nI_add, show oP (cb S base n) (oY (cb S base n)) + 24 * j = yP (cb S base n) j from rfl, k_num hs.1.1.1 hF (by decide) (by omega), nm_in (by omega), xb_mk]
  simp only [yV]
theorem ar_16' {y n : Nat} (h : y + 24 ≤ n) : y + 16 + 8 ≤ n := by omega
theorem k_ysize (hs : cS sk L τ q g base n S) (hF : 8 < F) (hj : j < oM (cb S base n)) : f_ObjectFile_num F c q (nI (yP (cb S base n) j + 16)) (nI 8) (cH sk L τ) = some (lN (yZ (cb S base n) j), cH sk L τ) := by
  obtain ⟨e1, e2, e3⟩ := cS_y hs hj
  rw [k_num hs.1.1.1 hF (by decide) (by omega), nm_in (ar_16' e2)]
  simp only [yZ]
theorem k_yname (hs : cS sk L τ q g base n S) (hF : 8 < F) (hj : j < oM (cb S base n)) : f_ObjectFile_num F c q (nI (yP (cb S base n) j)) (nI 4) (cH sk L τ) = some (lN (yN (cb S base n) j), cH sk L τ) := by
  obtain ⟨e1, e2, e3⟩ := cS_y hs hj
  rw [k_num hs.1.1.1 hF (by decide) (by omega), nm_in (by omega)]
  simp only [yN]
theorem k_nameStart (hs : cS sk L τ q g base n S) (hF : 8 < F) (hj : j < oM (cb S base n)) : f_ObjectFile_nameStart F c q (nI j) (cH sk L τ) = some (nI (base + oP (cb S base n) (oX (cb S base n)) + yN (cb S base n) j), cH sk L τ) := by
  obtain ⟨e1, e2, e3⟩ := cS_y hs hj
  have h12 := (hs.2.1.2.2 (w2_M0 hj)).2.1
  unfold f_ObjectFile_nameStart
  rw [C7g5 hs.1.1.1.1, bs, hs.1.1.1.2.2.2.2.2.2.1, C7g12 hs.1.1.1.1, bs, h12, C7g10 hs.1.1.1.1, bs, e1, c_o hs.1.1.1.1, bs, pk_mul, nI_add, nI_add, show oP (cb S base n) (oY (cb S base n)) + 24 * j = yP (cb S base n) j from rfl, k_yname hs hF hj, xb_mk, lN_i, nI_add]
end GETS
theorem k_isNameGood {j ss : Nat} (hs : cS sk L τ q g base n S) (hF : 24 < F) (hj : j < oM (cb S base n)) (h71 : fI τ 7 1 = nI ss) (hss : base + n ≤ ss) (hss2 : ss ≤ 65536) : f_ObjectFile_isNameGood F c q (nI j) (cH sk L τ) = some (bI (yG (cb S base n) j), cH sk L τ) := by
  obtain ⟨e1, e2, e3⟩ := cS_y hs hj
  obtain ⟨f1, f2, f3⟩ := hs.2.1.2.2 (w2_M0 hj)
  obtain ⟨o1, o2, o3, o4, o5, o6, o7, o8, o9, o10⟩ := hs.1.1.1
  have hx := w2_x hs.2.2 (w2_M0 hj)
  have hN := yN_lt (cb_lt S base n) j
  have hZ : oZ (cb S base n) (oX (cb S base n)) ≤ 65536 := by
    generalize oZ (cb S base n) (oX (cb S base n)) = z at *
    generalize oP (cb S base n) (oX (cb S base n)) = y at *
    omega
  unfold f_ObjectFile_isNameGood
  rw [C7g10 o1, bs, c_o o1, bs, e1, pk_mul, nI_add, show oP (cb S base n) (oY (cb S base n)) + 24 * j = yP (cb S base n) j from rfl, k_yname hs (by omega) hj, xb_mk, C7g5 o1, bs, o7, C7g12 o1, bs, f2, C7g13 o1, bs, f3, nI_l (by omega)]
  simp only [pk_lLE (show oZ (cb S base n) (oX (cb S base n)) < 2 ^ 63 by omega) (show yN (cb S base n) j < 2 ^ 63 by omega), f_ObjectFile_isNameGood_62, f_ObjectFile_isNameGood_63, xz_0, xz_1]
  unfold yG
  by_cases c1 : oZ (cb S base n) (oX (cb S base n)) ≤ yN (cb S base n) j
  · rw [if_pos c1, decide_eq_false (fun e => by have := e.1; omega)]
  · rw [if_neg c1, C7r0 o1 o2, bs, bs, c_o o3, bs, lN_i, nI_add, nI_add, nI_add]
    have hpb : oP (cb S base n) (oX (cb S base n)) + yN (cb S base n) j < n := by
      generalize oZ (cb S base n) (oX (cb S base n)) = z at *
      generalize oP (cb S base n) (oX (cb S base n)) = y at *
      generalize yN (cb S base n) j = w at *
      omega
    have e4 := k_nameLength_2 (F := F) (c := c) (p := base + oP (cb S base n) (oX (cb S base n)) + yN (cb S base n) j) (e := base + oP (cb S base n) (oX (cb S base n)) + oZ (cb S base n) (oX (cb S base n))) o3 o4 o5 o6 h71 hss2 (by decide) (by
      generalize oZ (cb S base n) (oX (cb S base n)) = z at *
      generalize oP (cb S base n) (oX (cb S base n)) = y at *
      omega) (by
      generalize oP (cb S base n) (oX (cb S base n)) = y at *
      generalize yN (cb S base n) j = w at *
      omega) 21 0 F rfl (by omega)
    unfold f_Row_nameLength
    rw [show nI 0 = nI 0 from rfl, e4, xb_mk, Nat.add_zero, Nat.zero_add]
    have hrun : ∀ r, r = run (cb S base n) (oP (cb S base n) (oX (cb S base n)) + yN (cb S base n) j) 21 → ∀ r', r' = run (fun x => b8 (S x)) (base + oP (cb S base n) (oX (cb S base n)) + yN (cb S base n) j) 21 → (r < oZ (cb S base n) (oX (cb S base n)) - yN (cb S base n) j ∨ r' < oZ (cb S base n) (oX (cb S base n)) - yN (cb S base n) j) → r = r' := by
      intro r hr r' hr' hl
      rw [hr, hr'] at hl ⊢
      refine run_eq (e := oZ (cb S base n) (oX (cb S base n)) - yN (cb S base n) j) ?_ hl
      intro i hi
      rw [cb_at (by
        generalize oZ (cb S base n) (oX (cb S base n)) = z at *
        generalize oP (cb S base n) (oX (cb S base n)) = y at *
        generalize yN (cb S base n) j = w at *
        omega)]
      congr 2
      generalize oP (cb S base n) (oX (cb S base n)) = y
      generalize yN (cb S base n) j = w
      omega
    have hrun2 := hrun _ rfl _ rfl
    rw [show yL (cb S base n) j = run (cb S base n) (oP (cb S base n) (oX (cb S base n)) + yN (cb S base n) j) 21 from rfl]
    generalize run (cb S base n) (oP (cb S base n) (oX (cb S base n)) + yN (cb S base n) j) 21 = r at hrun2 ⊢
    generalize run (fun x => b8 (S x)) (base + oP (cb S base n) (oX (cb S base n)) + yN (cb S base n) j) 21 = r' at hrun2 ⊢
    clear e4 hrun
    generalize oZ (cb S base n) (oX (cb S base n)) = z at *
    generalize oP (cb S base n) (oX (cb S base n)) = y at *
    generalize yN (cb S base n) j = w at *
    rw [show (0 : Int32) = nI 0 from rfl]
    by_cases d1 : r' ≤ 20 ∧ base + y + w + r' < base + y + z
    · have hrr : r = r' := hrun2 (Or.inr (by omega))
      rw [if_pos d1]
      by_cases d2 : r' ≤ 0
      · rw [if_pos (nI_le d2 (by decide)), decide_eq_false (by omega)]
      · rw [if_neg (nI_ge (by omega) (by omega)), decide_eq_true (by omega)]
    · rw [if_neg d1, if_pos (show nI 0 ≤ nI 0 by decide), decide_eq_false (fun e => by
        have hrr : r = r' := hrun2 (Or.inl (by omega))
        omega)]
end CSZ
end
section
/-! the class's isSymbolGood -/
section CSG
variable {F : Nat} {c : px_CT} {sk : Nat → Nat × Nat × Nat} {L q g base n : Nat} {τ : px_TT} {S : Nat → Int32}
theorem k_isSymbolGood {j ss : Nat} (hs : cS sk L τ q g base n S) (hF : 24 < F) (h1j : 1 ≤ j) (hj : j < oM (cb S base n)) (h71 : fI τ 7 1 = nI ss) (hss : base + n ≤ ss) (hss2 : ss ≤ 65536) : f_ObjectFile_isSymbolGood F c q (nI j) (cH sk L τ) = some (bI (yOK (cb S base n) j), cH sk L τ) := by
  have o1 := hs.1.1.1.1
  obtain ⟨e1, e2, e3⟩ := cS_y hs hj
  have h24 := hs.1.1.2.1.2.2
  have eW := yW_lt (cb_lt S base n) j
  have eB := yB_lt (cb_lt S base n) j
  have eV := yV_lt (cb_lt S base n) j
  have eZ := yZ_lt (cb_lt S base n) j
  have hF8 : 8 < F := by omega
  have k10 : ¬ (nI 1 = nI 0) := by decide
  unfold f_ObjectFile_isSymbolGood
  rw [c_o o1, bs, k_bindOf hs hF8 h1j hj, xb_mk, c_o o1, bs, k_whereOf hs hF8 hj, xb_mk]
  simp only [f_ObjectFile_isSymbolGood_28, f_ObjectFile_isSymbolGood_33, f_ObjectFile_isSymbolGood_53, f_ObjectFile_isSymbolGood_55, f_ObjectFile_isSymbolGood_70, f_ObjectFile_isSymbolGood_85, f_ObjectFile_isSymbolGood_93, f_ObjectFile_isSymbolGood_139, f_ObjectFile_isSymbolGood_143, f_ObjectFile_isSymbolGood_144, show (0 : Int32) = nI 0 from rfl, show (65521 : Int32) = nI 65521 from rfl, show (65522 : Int32) = nI 65522 from rfl, k10, if_false, if_true, C7g8 o1, hs.1.1.2.2.2.2, C7g10 o1, e1, bs, c_o o1, xb_mk, nI_l (show yW (cb S base n) j < 2 ^ 31 by omega), k_groupOf hs.1 (show yW (cb S base n) j < 2 ^ 63 by omega), k_isNameGood hs hF hj h71 hss hss2, k_valueOf hs hF8 hj, k_isPower eV, pk_mul, nI_add, show oP (cb S base n) (oY (cb S base n)) + 24 * j = yP (cb S base n) j from rfl, k_ysize hs hF8 hj, lk, k_above eZ (show 16384 < 2 ^ 64 by decide), bI_0, xz_0, xz_1, decide_eq_false_iff_not, nI_eq (show yW (cb S base n) j < 2 ^ 31 by omega) (show 0 < 2 ^ 31 by decide), nI_eq (show yW (cb S base n) j < 2 ^ 31 by omega) (show 65521 < 2 ^ 31 by decide), nI_eq (show yW (cb S base n) j < 2 ^ 31 by omega) (show 65522 < 2 ^ 31 by decide), nI_eq (show yB (cb S base n) j < 2 ^ 31 by omega) (show 0 < 2 ^ 31 by decide), nI_ltI (show 2 < 2 ^ 31 by decide) (show yB (cb S base n) j < 2 ^ 31 by omega), nI_ltI (show yW (cb S base n) j < 2 ^ 31 by omega) (show oS (cb S base n) < 2 ^ 31 by omega)]
  unfold yOK
  have hg : (if yW (cb S base n) j < oS (cb S base n) then gv (cb S base n) (yW (cb S base n) j) else Int32.ofInt (-1)) < nI 0 ↔ ¬ (yW (cb S base n) j < oS (cb S base n) ∧ oK (cb S base n) (yW (cb S base n) j) = true) := by
    by_cases e : yW (cb S base n) j < oS (cb S base n)
    · rw [if_pos e, show (gv (cb S base n) (yW (cb S base n) j) < nI 0) ↔ _ from gv_n _ _]
      constructor
      · intro h h2; rw [h2.2] at h; exact absurd h (by decide)
      · intro h; exact Bool.eq_false_iff.mpr (fun h2 => h ⟨e, h2⟩)
    · rw [if_neg e]
      exact ⟨fun _ h => e h.1, fun _ => by decide⟩
  simp only [hg]
  generalize cH sk L τ = H
  generalize oK (cb S base n) (yW (cb S base n) j) = K
  generalize yG (cb S base n) j = G
  generalize isP (yV (cb S base n) j) = P
  generalize yB (cb S base n) j = b at *
  generalize yW (cb S base n) j = w at *
  generalize yZ (cb S base n) j = z at *
  generalize oS (cb S base n) = s at *
  clear hg hs e1 e2 e3
  have f4 : (nI 0, H) = (bI false, H) := rfl
  simp only [f4]
  by_cases c1 : 2 < b
  · simp [c1, show ¬ b ≤ 2 by omega]
  · have g2 : b ≤ 2 := by omega
    by_cases c0 : w = 0
    · cases G <;> by_cases cb' : b = 0 <;> simp [c1, c0, cb', g2]
    · by_cases c3 : w = 65521
      · have g5 : ¬ 65521 < s := by omega
        cases G <;> by_cases cb' : b = 0 <;> simp [c1, c3, cb', g2, g5]
      · by_cases c4 : w = 65522
        · have g5 : ¬ 65522 < s := by omega
          cases G <;> cases P <;> by_cases cb' : b = 0 <;> by_cases cz : 16384 < z <;> simp only [ne_eq, c1, c4, cb', g2, g5, cz, show (z ≤ 16384) = ¬ (16384 < z) from by rw [Nat.not_lt]] <;> simp
        · by_cases c5 : w < s
          · have g6 : 0 < w := by omega
            cases K <;> cases G <;> by_cases cb' : b = 0 <;> simp [c1, c0, c3, c4, c5, cb', g2, g6]
          · simp [c1, c0, c3, c4, c5]
/-- the symbols' loop -/
theorem k_rE_85 {k : px_H → Option (Int32 × px_H)} : True := trivial
end CSG
end
section
/-! ===== Int32 by its bits: bt x i ===== -/
def bt (x : Int32) (i : Nat) : Bool := x.toBitVec.getLsbD i
theorem b_ext {x y : Int32} (h : ∀ i, i < 32 → bt x i = bt y i) : x = y := Int32.toBitVec_inj.mp (BitVec.eq_of_getLsbD_eq (fun i hi => h i hi))
theorem b_or (x y : Int32) (i : Nat) : bt (x ||| y) i = (bt x i || bt y i) := by unfold bt; rw [Int32.toBitVec_or, BitVec.getLsbD_or]
theorem b_and (x y : Int32) (i : Nat) : bt (x &&& y) i = (bt x i && bt y i) := by unfold bt; rw [Int32.toBitVec_and, BitVec.getLsbD_and]
theorem b_xor (x y : Int32) (i : Nat) : bt (x ^^^ y) i = (bt x i ^^ bt y i) := by unfold bt; rw [Int32.toBitVec_xor, BitVec.getLsbD_xor]
theorem b_big {x : Int32} {i : Nat} (h : 32 ≤ i) : bt x i = false := BitVec.getLsbD_of_ge _ _ h
theorem b_255 (i : Nat) : bt 255 i = decide (i < 8) := by
  rcases Nat.lt_or_ge i 32 with h | h
  · exact (by decide +kernel : ∀ i, i < 32 → bt 255 i = decide (i < 8)) i h
  · rw [b_big h, decide_eq_false (by omega)]
theorem b_65535 (i : Nat) : bt 65535 i = decide (i < 16) := by
  rcases Nat.lt_or_ge i 32 with h | h
  · exact (by decide +kernel : ∀ i, i < 32 → bt 65535 i = decide (i < 16)) i h
  · rw [b_big h, decide_eq_false (by omega)]
theorem b_m1 : ∀ i, i < 32 → bt (-1) i = true := by decide +kernel
theorem b_0 (i : Nat) : bt 0 i = false := BitVec.getLsbD_zero
theorem s_l : ∀ n, n < 32 → ((nI n &&& 31).toBitVec.smod 32).toNat = n := by decide +kernel
theorem s_u : ∀ n, n < 32 → (((nI n).toUInt32 &&& Int32.toUInt32 31).toBitVec % 32).toNat = n := by decide +kernel
theorem b_shl (n : Nat) (hn : n < 32) (x : Int32) {i : Nat} (hi : i < 32) : bt (x <<< (nI n &&& 31)) i = (decide (n ≤ i) && bt x (i - n)) := by
  unfold bt
  rw [Int32.toBitVec_shiftLeft]
  show (x.toBitVec <<< ((nI n &&& 31).toBitVec.smod 32).toNat).getLsbD i = _
  rw [s_l n hn, BitVec.getLsbD_shiftLeft]
  rcases Nat.lt_or_ge i n with h | h
  · simp [h, Nat.not_le.mpr h]
  · simp [hi, h, Nat.not_lt.mpr h]
theorem b_ushr (n : Nat) (hn : n < 32) (x : Int32) (i : Nat) : bt ((x.toUInt32 >>> ((nI n).toUInt32 &&& Int32.toUInt32 31)).toInt32) i = bt x (n + i) := by
  show (x.toUInt32 >>> ((nI n).toUInt32 &&& Int32.toUInt32 31)).toBitVec.getLsbD i = x.toUInt32.toBitVec.getLsbD (n + i)
  rw [UInt32.toBitVec_shiftRight]
  show (x.toUInt32.toBitVec >>> (((nI n).toUInt32 &&& Int32.toUInt32 31).toBitVec % 32).toNat).getLsbD i = _
  rw [s_u n hn, BitVec.getLsbD_ushiftRight]
theorem b_sshr (n : Nat) (hn : n < 32) (x : Int32) {i : Nat} (hi : i < 32) : bt (x >>> (nI n &&& 31)) i = if n + i < 32 then bt x (n + i) else bt x 31 := by
  unfold bt
  rw [Int32.toBitVec_shiftRight]
  show (x.toBitVec.sshiftRight ((nI n &&& 31).toBitVec.smod 32).toNat).getLsbD i = _
  rw [s_l n hn, BitVec.getLsbD_sshiftRight, BitVec.msb_eq_getLsbD_last]
  simp [hi]
theorem b_shl8 (x : Int32) {i : Nat} (hi : i < 32) : bt (x <<< ((8 : Int32) &&& 31)) i = (decide (8 ≤ i) && bt x (i - 8)) := b_shl 8 (by omega) x hi
theorem b_shl16 (x : Int32) {i : Nat} (hi : i < 32) : bt (x <<< ((16 : Int32) &&& 31)) i = (decide (16 ≤ i) && bt x (i - 16)) := b_shl 16 (by omega) x hi
theorem b_shl24 (x : Int32) {i : Nat} (hi : i < 32) : bt (x <<< ((24 : Int32) &&& 31)) i = (decide (24 ≤ i) && bt x (i - 24)) := b_shl 24 (by omega) x hi
theorem b_sshr8 (x : Int32) {i : Nat} (hi : i < 32) : bt (x >>> ((8 : Int32) &&& 31)) i = if 8 + i < 32 then bt x (8 + i) else bt x 31 := b_sshr 8 (by omega) x hi
end
section
/-! the class's sites: marks -/
theorem bt_0 {x : Int32} {t : Nat} (ht : t < 32) : ((x >>> (nI t &&& 31)) &&& nI 1 = 0) ↔ bt x t = false := by
  constructor
  · intro h
    have e := congrArg (fun y => bt y 0) h
    simp only [b_and, b_0] at e
    rw [b_sshr t ht x (by decide), if_pos (by omega), Nat.add_zero, show bt (nI 1) 0 = true by decide, Bool.and_true] at e
    exact e
  · intro h
    apply b_ext
    intro i hi
    rw [b_and, b_0]
    by_cases c : i = 0
    · rw [c, b_sshr t ht x (by decide), if_pos (by omega), Nat.add_zero, h, Bool.false_and]
    · have : ∀ i, i < 32 → i ≠ 0 → bt (nI 1) i = false := by decide
      rw [this i hi c, Bool.and_false]
theorem bt_set {x : Int32} {t i : Nat} (ht : t < 32) (hi : i < 32) : bt (x ||| (nI 1 <<< (nI t &&& 31))) i = (bt x i || decide (i = t)) := by
  rw [b_or, b_shl t ht _ hi]
  congr 1
  by_cases c : i = t
  · rw [c, Nat.sub_self, decide_eq_true (Nat.le_refl t), decide_eq_true rfl]; decide
  · rw [decide_eq_false c]
    by_cases c2 : t ≤ i
    · have : ∀ j, j < 32 → j ≠ 0 → bt (nI 1) j = false := by decide
      rw [this (i - t) (by omega) (by omega), Bool.and_false]
    · rw [decide_eq_false c2, Bool.false_and]
/-- the marks with bit t set from p on, ahead of e -/
def sb (f : Nat → Int32) (t p e x : Nat) : Int32 := if p ≤ x ∧ x < e then f x ||| (nI 1 <<< (nI t &&& 31)) else f x
theorem sb_0 (f : Nat → Int32) (t p : Nat) : sb f t p p = f := by
  funext x
  exact if_neg (by omega)
theorem sb_s (f : Nat → Int32) (t p e : Nat) (h : p ≤ e) : upd (sb f t p e) e (sb f t p e e ||| (nI 1 <<< (nI t &&& 31))) = sb f t p (e + 1) := by
  funext x
  unfold upd sb
  by_cases c : x = e
  · rw [if_pos c, if_neg (by omega), if_pos (by omega), c]
  · rw [if_neg c]
    by_cases c2 : p ≤ x ∧ x < e
    · rw [if_pos c2, if_pos (by omega)]
    · rw [if_neg c2, if_neg (by omega)]
theorem sb_bt {f : Nat → Int32} {t p e x u : Nat} (ht : t < 32) (hu : u < 32) : bt (sb f t p e x) u = (bt (f x) u || decide (u = t ∧ p ≤ x ∧ x < e)) := by
  unfold sb
  by_cases c : p ≤ x ∧ x < e
  · rw [if_pos c, bt_set ht hu]
    congr 1
    exact decide_eq_decide.mpr ⟨fun h => ⟨h, c⟩, fun h => h.1⟩
  · rw [if_neg c, decide_eq_false (fun h => c h.2), Bool.or_false]
section CSI
variable {F : Nat} {c : px_CT} {sk : Nat → Nat × Nat × Nat} {L q g base n : Nat} {S : Nat → Int32}
theorem k_siteWidth {x : Nat} {h : px_H} (hx : x < 4294967296) : f_H_siteWidth F c (lN x) h = some (wI x, h) := by
  have E : ∀ y, y < 4294967296 → (lN x = lN y ↔ x = y) := fun y hy => lEQ (by omega) (by omega)
  simp only [f_H_siteWidth, f_H_siteWidth_14, f_H_siteWidth_49, f_H_siteWidth_51, f_H_siteWidth_83, f_H_siteWidth_96, lk, E 1 (by decide), E 18 (by decide), E 2 (by decide), E 4 (by decide), pk_lLT (show x < 2 ^ 63 by omega) (show 9 < 2 ^ 63 by decide), pk_lLT (show 11 < 2 ^ 63 by decide) (show x < 2 ^ 63 by omega), E 22 (by decide), E 23 (by decide), E 41 (by decide), E 42 (by decide), E 0 (by decide)]
  unfold wI wd
  by_cases c1 : x = 1
  · simp [c1]
  · by_cases c2 : x = 18
    · simp [c2]
    · by_cases c3 : x = 2 ∨ x = 4 ∨ x = 22 ∨ x = 23 ∨ x = 41 ∨ x = 42
      · rcases c3 with e | e | e | e | e | e <;> simp [e]
      · by_cases c4 : x = 9 ∨ x = 10 ∨ x = 11
        · rcases c4 with e | e | e <;> simp [e]
        · have d1 : ¬ x = 2 := by omega
          have d2 : ¬ x = 4 := by omega
          have d3 : ¬ x = 9 := by omega
          have d4 : ¬ x = 10 := by omega
          have d5 : ¬ x = 11 := by omega
          have d6 : ¬ x = 22 := by omega
          have d7 : ¬ x = 23 := by omega
          have d8 : ¬ x = 41 := by omega
          have d9 : ¬ x = 42 := by omega
          simp only [c1, c2, d1, d2, d3, d4, d5, d6, d7, d8, d9, if_false, or_self, ite_self]
          by_cases c5 : x = 0
          · simp [c5]
          · by_cases c6 : x < 9
            · simp [c5, c6]
            · have c7 : 11 < x := by omega
              simp [c5, c6, c7]
theorem k_iSG_103 {t p w : Nat} (hm : ar sk L 1 8192 139) (ht : t < 24) (hp : p + w ≤ 8192) : ∀ (d k f : Nat) (τ : px_TT) (M : Nat → Int32), k + d = w → d < f → eI τ 139 = sb M t p (p + k) → ∃ e, e ≤ p + w ∧ f_ObjectFile_isSiteGood_103 F c f (nI t) 139 (nI w) (lN p) (nI k) (cH sk L τ) = some (bI (al (fun x => !bt (M x) t) (p + k) d), cH sk L (vI τ 139 (sb M t p e))) ∧ (al (fun x => !bt (M x) t) (p + k) d = true → e = p + w) := by
  intro d
  induction d with
  | zero =>
    intro k f τ M hk hf hM
    obtain ⟨f, rfl⟩ : ∃ g, f = g + 1 := ⟨f - 1, by omega⟩
    refine ⟨p + k, by omega, ?_, fun _ => by omega⟩
    unfold f_ObjectFile_isSiteGood_103
    rw [if_pos (nI_le (by omega) (by omega)), ← hM]
    rw [show vI τ 139 (eI τ 139) = τ from vI_self τ 139]
    rfl
  | succ d ih =>
    intro k f τ M hk hf hM
    obtain ⟨f, rfl⟩ : ∃ g, f = g + 1 := ⟨f - 1, by omega⟩
    have hMk : eI τ 139 (p + k) = M (p + k) := by
      rw [hM]
      exact if_neg (by omega)
    unfold f_ObjectFile_isSiteGood_103
    rw [if_neg (nI_ge (by omega) (by omega)), lN_i, nI_add, if_neg (nI_pos (by omega)), c_l hm (by decide), bs, if_neg (nI_ge (by omega) (by decide)), c_aI hm (Or.inr (Or.inl rfl)) (by decide) (by omega), bs, hMk, bs, al_s]
    simp only [bt_0 (show t < 32 by omega)]
    by_cases c1 : bt (M (p + k)) t = false
    · rw [if_pos c1, c1, Bool.not_false, Bool.true_and, c_sI hm (Or.inr (Or.inl rfl)) (by decide) (by omega), bs, nI_add]
      have hM' : eI (vI τ 139 (upd (eI τ 139) (p + k) (M (p + k) ||| (nI 1 <<< (nI t &&& 31))))) 139 = sb M t p (p + (k + 1)) := by
        show u1 τ.2.2.2.1 139 _ 139 = _
        rw [u1_eq, hM]
        have e := sb_s M t p (p + k) (by omega)
        have e2 : sb M t p (p + k) (p + k) = M (p + k) := if_neg (by omega)
        rw [e2] at e
        exact e
      obtain ⟨e, h1, h2, h3⟩ := ih (k + 1) f _ M (by omega) (by omega) hM'
      refine ⟨e, h1, ?_, h3⟩
      rw [h2, vI_vI]
      rfl
    · have c2 : bt (M (p + k)) t = true := by cases hq : bt (M (p + k)) t <;> simp_all
      refine ⟨p + k, by omega, ?_, fun e => ?_⟩
      · rw [if_neg c1, c2, Bool.not_true, Bool.false_and, ← hM, vI_self]
        rfl
      · rw [c2, Bool.not_true, Bool.false_and] at e
        exact absurd e (by decide)
end CSI
end
section
/-! the class's sites: isSiteGood -/
/-- the marks tell which bytes the sites ahead of site j of section i have -/
def MK (b : Nat → Nat) (n i j : Nat) (M : Nat → Int32) : Prop := ∀ x t, x < n → t < 24 → (bt (M x) t = true ↔ ∃ a k, ((a < i ∧ k < sN b a) ∨ (a = i ∧ k < j)) ∧ isS b a = true ∧ oI b a = t ∧ sL b a k ≤ x ∧ x < sL b a k + wd (sH b a k))
theorem MK_free {b : Nat → Nat} {n i j w : Nat} {M : Nat → Int32} (hM : MK b n i j M) (hT0 : oT b 0 = 0) (ht : oI b i < 24) (hw : wd (sH b i j) = w) (hw0 : 0 < w) (hn : sL b i j + w ≤ n) : al (fun x => !bt (M x) (oI b i)) (sL b i j) w = al (sFr b i j) 1 i := by
  have key : al (fun x => !bt (M x) (oI b i)) (sL b i j) w = true ↔ al (sFr b i j) 1 i = true := by
    rw [al_iff, al_iff]
    constructor
    · intro h a h1 h2
      unfold sFr
      by_cases c : isS b a = true ∧ oI b a = oI b i
      · rw [c.1, decide_eq_true c.2]
        show (false || al (sFree b i j a) 0 (if a < i then sN b a else j)) = true
        rw [Bool.false_or, al_iff]
        intro k _ hk
        rw [Nat.zero_add] at hk
        apply decide_eq_true
        rw [hw]
        by_cases e1 : wd (sH b a k) = 0
        · exact Or.inl e1
        · by_cases e2 : sL b a k + wd (sH b a k) ≤ sL b i j
          · exact Or.inr (Or.inl e2)
          · by_cases e3 : sL b i j + w ≤ sL b a k
            · exact Or.inr (Or.inr e3)
            · exfalso
              have hb : ∀ x, sL b i j ≤ x → x < sL b i j + w → sL b a k ≤ x → x < sL b a k + wd (sH b a k) → False := by
                intro x x1 x2 x3 x4
                have g1 := h x x1 x2
                have g2 : bt (M x) (oI b i) = true := (hM x (oI b i) (by omega) ht).mpr ⟨a, k, by
                  by_cases e : a < i
                  · rw [if_pos e] at hk; exact Or.inl ⟨e, hk⟩
                  · rw [if_neg e] at hk; exact Or.inr ⟨by omega, hk⟩, c.1, c.2, x3, x4⟩
                rw [g2] at g1
                exact absurd g1 (by decide)
              by_cases e4 : sL b i j ≤ sL b a k
              · exact hb (sL b a k) e4 (by omega) (Nat.le_refl _) (by omega)
              · exact hb (sL b i j) (Nat.le_refl _) (by omega) (by omega) (by omega)
      · have : (isS b a && decide (oI b a = oI b i)) = false := by
          cases hq : isS b a with
          | false => rfl
          | true => rw [decide_eq_false (fun e => c ⟨hq, e⟩)]; rfl
        rw [this]
        rfl
    · intro h x h1 h2
      show (!bt (M x) (oI b i)) = true
      cases hq : bt (M x) (oI b i) with
      | false => rfl
      | true =>
        exfalso
        obtain ⟨a, k, g1, g2, g3, g4, g5⟩ := (hM x (oI b i) (by omega) ht).mp hq
        have ha : 1 ≤ a := by
          rcases Nat.eq_zero_or_pos a with e | e
          · rw [e] at g2
            have := (isS_T g2).1
            rw [hT0] at this
            exact absurd this (by decide)
          · exact e
        have f1 := h a ha (by omega)
        unfold sFr at f1
        rw [g2, decide_eq_true g3] at f1
        have f2 : al (sFree b i j a) 0 (if a < i then sN b a else j) = true := f1
        have f3 := of_decide_eq_true (al_iff.mp f2 k (Nat.zero_le _) (by
          rw [Nat.zero_add]
          rcases g1 with e | e
          · rw [if_pos e.1]; exact e.2
          · rw [if_neg (by omega)]; exact e.2))
        rw [hw] at f3
        omega
  cases h1 : al (fun x => !bt (M x) (oI b i)) (sL b i j) w <;> cases h2 : al (sFr b i j) 1 i <;> simp_all
theorem MK_next {b : Nat → Nat} {n i j w : Nat} {M : Nat → Int32} (hM : MK b n i j M) (hi : isS b i = true) (ht : oI b i < 24) (hw : wd (sH b i j) = w) : MK b n i (j + 1) (sb M (oI b i) (sL b i j) (sL b i j + w)) := by
  intro x t hx ht2
  rw [sb_bt (by omega) (by omega), Bool.or_eq_true, hM x t hx ht2, decide_eq_true_iff]
  constructor
  · rintro (⟨a, k, g1, g2⟩ | ⟨g1, g2, g3⟩)
    · exact ⟨a, k, by omega, g2⟩
    · exact ⟨i, j, by omega, hi, g1.symm, g2, by rw [hw]; exact g3⟩
  · rintro ⟨a, k, g1, g2, g3, g4, g5⟩
    by_cases e : a = i ∧ k = j
    · right
      rw [e.1, e.2] at g4 g5
      rw [e.1] at g3
      rw [hw] at g5
      exact ⟨g3.symm, g4, g5⟩
    · left
      exact ⟨a, k, by omega, g2, g3, g4, g5⟩
theorem MK_row {b : Nat → Nat} {n i : Nat} {M : Nat → Int32} (hM : MK b n i (sN b i) M) : MK b n (i + 1) 0 M := by
  intro x t hx ht
  rw [hM x t hx ht]
  constructor
  · rintro ⟨a, k, g1, g2⟩
    refine ⟨a, k, Or.inl ?_, g2⟩
    rcases g1 with e | e
    · exact ⟨by omega, e.2⟩
    · exact ⟨by omega, by rw [e.1]; exact e.2⟩
  · rintro ⟨a, k, g1, g2⟩
    refine ⟨a, k, ?_, g2⟩
    rcases g1 with e | e
    · by_cases c : a = i
      · rw [c] at e; exact Or.inr ⟨c, e.2⟩
      · exact Or.inl ⟨by omega, e.2⟩
    · omega
theorem MK_skip {b : Nat → Nat} {n i : Nat} {M : Nat → Int32} (hM : MK b n i 0 M) (hi : isS b i = false) : MK b n (i + 1) 0 M := by
  intro x t hx ht
  rw [hM x t hx ht]
  constructor
  · rintro ⟨a, k, g1, g2⟩
    exact ⟨a, k, by omega, g2⟩
  · rintro ⟨a, k, g1, g2⟩
    refine ⟨a, k, ?_, g2⟩
    rcases g1 with e | e
    · by_cases c : a = i
      · rw [c, hi] at g2; exact absurd g2.1 (by decide)
      · exact Or.inl ⟨by omega, e.2⟩
    · omega
theorem MK_0 {b : Nat → Nat} {n : Nat} {M : Nat → Int32} (h : ∀ x, x < n → M x = nI 0) : MK b n 0 0 M := by
  intro x t hx ht
  rw [h x hx, show bt (nI 0) t = false from b_0 t]
  constructor
  · intro e; exact absurd e (by decide)
  · rintro ⟨a, k, g1, _⟩; omega
section CSJ
variable {F : Nat} {c : px_CT} {sk : Nat → Nat × Nat × Nat} {L q g base n : Nat} {τ : px_TT} {S : Nat → Int32}
theorem cS_fr {τ' : px_TT} (hs : cS sk L τ q g base n S) (hf : frO q g τ τ') (hk : ∀ k, k < 14 → fI τ' q k = fI τ q k) (hg : eI τ' g = eI τ g) : cS sk L τ' q g base n S := by
  obtain ⟨⟨hr, h3, h4, h5, h6⟩, ⟨y1, y2, y3⟩, hw⟩ := hs
  refine ⟨⟨cR_fr hr hf h5 (hk 7 (by decide)) (hk 8 (by decide)), (hf.2.2.1 q 3).trans h3, h4, h5, by rw [hg]; exact h6⟩, ⟨(hk 9 (by decide)).trans y1, (hk 11 (by decide)).trans y2, fun e => ⟨(hk 10 (by decide)).trans (y3 e).1, (hk 12 (by decide)).trans (y3 e).2.1, (hk 13 (by decide)).trans (y3 e).2.2⟩⟩, hw⟩
theorem k_targetOf {i : Nat} (hg : cG sk L τ q g base n S) (hF : 8 < F) (hi : i < oS (cb S base n)) : f_ObjectFile_targetOf F c q (nI i) (cH sk L τ) = some (if isS (cb S base n) i = true then nI (oI (cb S base n) i) else Int32.ofInt (-1), cH sk L τ) := by
  have o1 := hg.1.1.1
  have eT := oT_lt (cb_lt S base n) i
  have eI' := oI_lt (cb_lt S base n) i
  unfold f_ObjectFile_targetOf
  rw [c_o o1, bs, k_T hg.1 hF hi, xb_mk, c_o o1, bs, k_I hg.1 hF hi, xb_mk, c_o o1, bs, k_groupOf hg (by omega), xb_mk, lN_i]
  simp only [lk, lEQ (show oT (cb S base n) i < 2 ^ 64 by omega) (show 4 < 2 ^ 64 by decide), f_ObjectFile_targetOf_34]
  unfold isS
  by_cases c1 : oT (cb S base n) i = 4
  · rw [if_pos c1]
    by_cases c2 : oI (cb S base n) i < oS (cb S base n)
    · rw [if_pos c2]
      have e := gv_n (cb S base n) (oI (cb S base n) i)
      by_cases c3 : oK (cb S base n) (oI (cb S base n) i) = true
      · rw [if_pos (Int32.not_lt.mp (fun d => by rw [e.mp d] at c3; exact absurd c3 (by decide))), if_pos (decide_eq_true ⟨c1, c2, c3⟩)]
      · rw [if_neg (fun d => absurd (e.mpr (Bool.eq_false_iff.mpr c3)) (Int32.not_lt.mpr d)), if_neg (by rw [decide_eq_false (fun d => c3 d.2.2)]; decide)]
    · rw [if_neg c2, if_neg (by decide), if_neg (by rw [decide_eq_false (fun d => c2 d.2.1)]; decide)]
  · rw [if_neg c1, if_neg (by rw [decide_eq_false (fun d => c1 d.1)]; decide)]
theorem k_isSiteGood {i j : Nat} (hs : cS sk L τ q g base n S) (hF : 24 < F) (hT0 : oT (cb S base n) 0 = 0) (hm : ar sk L 1 8192 139) (hn : n ≤ 8192) (hg139 : g ≠ 139) (hi : i < oS (cb S base n)) (hiS : isS (cb S base n) i = true) (hj : j < sN (cb S base n) i) (hM : MK (cb S base n) n i j (eI τ 139)) : ∃ M', f_ObjectFile_isSiteGood F c q (nI (sP (cb S base n) i j)) (nI (oI (cb S base n) i)) 139 (cH sk L τ) = some (bI (sOK (cb S base n) i j), cH sk L (vI τ 139 M')) ∧ (sOK (cb S base n) i j = true → MK (cb S base n) n i (j + 1) M') := by
  have o1 := hs.1.1.1.1
  have hF8 : 8 < F := by omega
  have h24 := hs.1.1.2.1.2.2
  have hS := isS_T hiS
  have hp := w1_sp hs.2.2.1 hi hS.1 hj
  have hM' := w2_M hs.2.2
  have eY := sY_lt (cb_lt S base n) i j
  have eL := sL_lt (cb_lt S base n) i j
  have eT := oT_lt (cb_lt S base n) (oI (cb S base n) i)
  have hz := hs.2.2.1.2.2.2.2 _ hS.2.1 hS.2.2
  have hpx : sP (cb S base n) i j < 2 ^ 29 := by
    generalize sP (cb S base n) i j = y at *
    omega
  have q8 : f_ObjectFile_num F c q (nI (sP (cb S base n) i j + 8)) (nI 4) (cH sk L τ) = some (lN (sH (cb S base n) i j), cH sk L τ) := by
    rw [k_num hs.1.1.1 hF8 (by decide) (by omega), nm_in (ar_12 hp)]
    simp only [sH]
  have q12 : f_ObjectFile_num F c q (nI (sP (cb S base n) i j + 12)) (nI 4) (cH sk L τ) = some (lN (sY (cb S base n) i j), cH sk L τ) := by
    rw [k_num hs.1.1.1 hF8 (by decide) (by omega), nm_in (ar_16 hp)]
    simp only [sY]
  have q0 : f_ObjectFile_num F c q (nI (sP (cb S base n) i j)) (nI 8) (cH sk L τ) = some (lN (sL (cb S base n) i j), cH sk L τ) := by
    rw [k_num hs.1.1.1 hF8 (by decide) (by omega), nm_in (ar_8 hp)]
    simp only [sL]
  unfold f_ObjectFile_isSiteGood
  rw [c_o o1, bs, nI_add, q8, xb_mk, k_siteWidth (sH_lt (cb_lt S base n) i j), xb_mk, c_o o1, bs, nI_add, q12, xb_mk, C7g11 o1, bs, hs.2.1.2.1, nI_l (by omega), c_o o1, bs, q0, xb_mk, c_o o1, bs, k_Z hs.1.1 hF8 hS.2.1, xb_mk, c_o o1, bs, k_T hs.1.1 hF8 hS.2.1, xb_mk, k_above eL (by omega), xb_mk]
  simp only [show (0 : Int32) = nI 0 from rfl, wI_n0, wI_0, pk_lLT (show sY (cb S base n) i j < 2 ^ 63 by omega) (show oM (cb S base n) < 2 ^ 63 by omega), lk, lEQ (show oT (cb S base n) (oI (cb S base n) i) < 2 ^ 64 by omega) (show 8 < 2 ^ 64 by decide), bI_0, decide_eq_false_iff_not, f_ObjectFile_isSiteGood_37, f_ObjectFile_isSiteGood_98]
  have bad : sOK0 (cb S base n) i j = false → ∃ M', (some (nI 0, cH sk L τ) : Option (Int32 × px_H)) = some (bI (sOK (cb S base n) i j), cH sk L (vI τ 139 M')) ∧ (sOK (cb S base n) i j = true → MK (cb S base n) n i (j + 1) M') := by
    intro h0
    have e : sOK (cb S base n) i j = false := by unfold sOK; rw [h0, Bool.false_and]
    refine ⟨eI τ 139, ?_, fun d => by rw [e] at d; exact absurd d (by decide)⟩
    rw [e, vI_self]
    rfl
  by_cases c1 : wd (sH (cb S base n) i j) = 16
  · rw [if_pos c1]
    exact bad (decide_eq_false (fun d => d.1 c1))
  · rw [if_neg c1]
    by_cases c2 : sY (cb S base n) i j < oM (cb S base n)
    · rw [if_pos c2]
      by_cases c3 : wd (sH (cb S base n) i j) = 0
      · have e0 : sOK0 (cb S base n) i j = true := decide_eq_true ⟨c1, c2, Or.inl c3⟩
        have e : sOK (cb S base n) i j = true := by unfold sOK; rw [e0, decide_eq_true c3]; rfl
        refine ⟨eI τ 139, ?_, fun _ => ?_⟩
        · rw [if_pos c3, e, vI_self]
          rfl
        · have := MK_next hM hiS (Nat.lt_of_lt_of_le hS.2.1 h24) c3
          rw [Nat.add_zero (sL (cb S base n) i j), sb_0] at this
          exact this
      · rw [if_neg c3]
        by_cases c4 : oT (cb S base n) (oI (cb S base n) i) = 8
        · rw [if_pos c4]
          exact bad (decide_eq_false (fun d => d.2.2.elim c3 (fun d => d.1 c4)))
        · rw [if_neg c4]
          by_cases c5 : oZ (cb S base n) (oI (cb S base n) i) < sL (cb S base n) i j
          · rw [if_neg (fun d => d c5)]
            exact bad (decide_eq_false (fun d => d.2.2.elim c3 (fun d => by have := d.2; omega)))
          · have w8 := wd_le c1
            rw [if_pos c5, wI_l c1, lN_sub (by omega), k_above (by omega) (by omega), xb_mk]
            simp only [bI_0, decide_eq_false_iff_not]
            by_cases c6 : oZ (cb S base n) (oI (cb S base n) i) - sL (cb S base n) i j < wd (sH (cb S base n) i j)
            · rw [if_neg (fun d => d c6)]
              exact bad (decide_eq_false (fun d => d.2.2.elim c3 (fun d => by have := d.2; omega)))
            · have hfit : sL (cb S base n) i j + wd (sH (cb S base n) i j) ≤ oZ (cb S base n) (oI (cb S base n) i) := by omega
              have hk1 : oT (cb S base n) (oI (cb S base n) i) = 1 := by
                have := of_decide_eq_true hS.2.2
                rcases this.1 with e | e
                · exact e
                · exact absurd e c4
              have hlie := hs.2.2.1.2.2.2.1 _ hS.2.1 (by rw [hk1]; decide) c4
              have hzn : oZ (cb S base n) (oI (cb S base n) i) ≤ n := by
                generalize oZ (cb S base n) (oI (cb S base n) i) = z at *
                generalize oP (cb S base n) (oI (cb S base n) i) = y at *
                omega
              have e0 : sOK0 (cb S base n) i j = true := decide_eq_true ⟨c1, c2, Or.inr ⟨c4, hfit⟩⟩
              have hfree := MK_free hM hT0 (Nat.lt_of_lt_of_le hS.2.1 h24) rfl (by omega) (by omega)
              have e : sOK (cb S base n) i j = al (sFr (cb S base n) i j) 1 i := by
                unfold sOK
                rw [e0, decide_eq_false c3, Bool.true_and, Bool.false_or]
              obtain ⟨e', x1, x2, x3⟩ := k_iSG_103 (F := F) (c := c) (sk := sk) (L := L) (t := oI (cb S base n) i) (p := sL (cb S base n) i j) (w := wd (sH (cb S base n) i j)) hm (Nat.lt_of_lt_of_le hS.2.1 h24) (by omega) (wd (sH (cb S base n) i j)) 0 F τ (eI τ 139) (by omega) (by omega) (by rw [Nat.add_zero, sb_0])
              rw [Nat.add_zero, hfree, ← e] at x2 x3
              refine ⟨sb (eI τ 139) (oI (cb S base n) i) (sL (cb S base n) i j) e', ?_, fun d => ?_⟩
              · rw [if_pos c6, show wI (sH (cb S base n) i j) = nI (wd (sH (cb S base n) i j)) from if_neg c1]
                exact x2
              · rw [x3 d]
                exact MK_next hM hiS (Nat.lt_of_lt_of_le hS.2.1 h24) rfl
    · rw [if_neg c2]
      exact bad (decide_eq_false (fun d => c2 d.2.1))
theorem k_fill_10 {v : Int32} {e : Nat} (hm : ar sk L 1 8192 139) (he : e ≤ 8192) : ∀ (d k f : Nat) (τ : px_TT), k + d = e → d < f → (∀ x, x < k → eI τ 139 x = v) → ∃ M, (∀ x, x < e → M x = v) ∧ f_Arrays_fill_10 F c f 139 (nI e) v (nI k) (cH sk L τ) = some ((), cH sk L (vI τ 139 M)) := by
  intro d
  induction d with
  | zero =>
    intro k f τ hk hf hx
    obtain ⟨f, rfl⟩ : ∃ g, f = g + 1 := ⟨f - 1, by omega⟩
    refine ⟨eI τ 139, fun x h => hx x (by omega), ?_⟩
    unfold f_Arrays_fill_10
    rw [if_pos (nI_le (by omega) (by omega)), vI_self]
    rfl
  | succ d ih =>
    intro k f τ hk hf hx
    obtain ⟨f, rfl⟩ : ∃ g, f = g + 1 := ⟨f - 1, by omega⟩
    unfold f_Arrays_fill_10
    rw [if_neg (nI_ge (by omega) (by omega)), c_sI hm (Or.inr (Or.inl rfl)) (by decide) (by omega), bs, nI_add]
    obtain ⟨M, h1, h2⟩ := ih (k + 1) f (vI τ 139 (upd (eI τ 139) k v)) (by omega) (by omega) (by
      intro x hxk
      show u1 τ.2.2.2.1 139 (upd (eI τ 139) k v) 139 x = v
      rw [u1_eq]
      by_cases e : x = k
      · rw [e]; exact upd_eq
      · rw [upd_ne e]; exact hx x (by omega))
    exact ⟨M, h1, by rw [h2, vI_vI]⟩
theorem k_aSG_90 {i : Nat} {k21 : Nat → Nat → Int32 → px_H → Option (Int32 × px_H)} (hF : 24 < F) (hT0 : oT (cb S base n) 0 = 0) (hm : ar sk L 1 8192 139) (hn : n ≤ 8192) (hg139 : g ≠ 139) (hi : i < oS (cb S base n)) (hiS : isS (cb S base n) i = true) (hN : sN (cb S base n) i < 2 ^ 20) (hP : oP (cb S base n) i < 2 ^ 29) : ∀ (d j f : Nat) (τ : px_TT), cS sk L τ q g base n S → j + d = sN (cb S base n) i → d < f → MK (cb S base n) n i j (eI τ 139) → ∃ M', (if al (sOK (cb S base n) i) j d = true then f_ObjectFile_areSitesGood_90 F c k21 f q 139 (nI i) (nI (oI (cb S base n) i)) (nI (sN (cb S base n) i)) (nI (oP (cb S base n) i)) (nI j) (cH sk L τ) = k21 q 139 (nI (i + 1)) (cH sk L (vI τ 139 M')) ∧ MK (cb S base n) n (i + 1) 0 M' else f_ObjectFile_areSitesGood_90 F c k21 f q 139 (nI i) (nI (oI (cb S base n) i)) (nI (sN (cb S base n) i)) (nI (oP (cb S base n) i)) (nI j) (cH sk L τ) = some (nI 0, cH sk L (vI τ 139 M'))) := by
  intro d
  induction d with
  | zero =>
    intro j f τ hs hj hf hM
    obtain ⟨f, rfl⟩ : ∃ g, f = g + 1 := ⟨f - 1, by omega⟩
    refine ⟨eI τ 139, ?_⟩
    rw [if_pos (show al (sOK (cb S base n) i) j 0 = true from rfl)]
    unfold f_ObjectFile_areSitesGood_90
    rw [if_pos (nI_le (by omega) (by omega)), vI_self]
    refine ⟨?_, ?_⟩
    · rw [f_ObjectFile_areSitesGood_122, nI_add]
    · rw [show j = sN (cb S base n) i by omega] at hM
      exact MK_row hM
  | succ d ih =>
    intro j f τ hs hj hf hM
    obtain ⟨f, rfl⟩ : ∃ g, f = g + 1 := ⟨f - 1, by omega⟩
    obtain ⟨M1, h1, h2⟩ := k_isSiteGood (c := c) hs hF hT0 hm hn hg139 hi hiS (show j < sN (cb S base n) i by omega) hM
    unfold f_ObjectFile_areSitesGood_90
    rw [if_neg (nI_ge (by omega) (by omega)), c_o hs.1.1.1.1, bs, pk_mul, nI_add, show oP (cb S base n) i + 24 * j = sP (cb S base n) i j from rfl, h1, xb_mk, nI_add, al_s]
    by_cases c1 : sOK (cb S base n) i j = true
    · rw [c1, if_neg (show ¬ bI true = 0 by decide), Bool.true_and]
      have hs' : cS sk L (vI τ 139 M1) q g base n S := cS_fr hs (frO_m q g τ M1) (fun _ _ => rfl) (u1_ne hg139)
      obtain ⟨M', h3⟩ := ih (j + 1) f (vI τ 139 M1) hs' (by omega) (by omega) (by
        show MK (cb S base n) n i (j + 1) (u1 τ.2.2.2.1 139 M1 139)
        rw [u1_eq]
        exact h2 c1)
      refine ⟨M', ?_⟩
      rw [vI_vI] at h3
      exact h3
    · have c2 := Bool.eq_false_iff.mpr c1
      refine ⟨M1, ?_⟩
      rw [c2, if_pos (show bI false = 0 from rfl), Bool.false_and, if_neg (show ¬ false = true by decide)]
      rfl
theorem k_aSG_21 (hF : 65536 < F) (hT0 : oT (cb S base n) 0 = 0) (hm : ar sk L 1 8192 139) (hn : n ≤ 8192) (hg139 : g ≠ 139) : ∀ (d i f : Nat) (τ : px_TT), cS sk L τ q g base n S → i + d = oS (cb S base n) → d < f → MK (cb S base n) n i 0 (eI τ 139) → ∃ M', f_ObjectFile_areSitesGood_21 F c f q 139 (nI i) (cH sk L τ) = some (bI (al (fun i => !isS (cb S base n) i || sSec (cb S base n) i) i d), cH sk L (vI τ 139 M')) := by
  intro d
  induction d with
  | zero =>
    intro i f τ hs hi hf hM
    obtain ⟨f, rfl⟩ : ∃ g, f = g + 1 := ⟨f - 1, by omega⟩
    have h24 := hs.1.1.2.1.2.2
    refine ⟨eI τ 139, ?_⟩
    unfold f_ObjectFile_areSitesGood_21
    rw [C7g8 hs.1.1.1.1, bs, hs.1.1.2.2.2.2, if_pos (nI_le (by omega) (by omega)), vI_self]
    rfl
  | succ d ih =>
    intro i f τ hs hi hf hM
    obtain ⟨f, rfl⟩ : ∃ g, f = g + 1 := ⟨f - 1, by omega⟩
    have h24 := hs.1.1.2.1.2.2
    have o1 := hs.1.1.1.1
    have hF8 : 8 < F := by omega
    have hiS : i < oS (cb S base n) := by omega
    have hs1 := hs.1.1.2.2.1
    have hy := oY_lt hs1
    unfold f_ObjectFile_areSitesGood_21
    rw [C7g8 o1, bs, hs.1.1.2.2.2.2, if_neg (nI_ge (by omega) (by omega)), c_o o1, bs, k_targetOf hs.1 hF8 hiS, xb_mk, al_s]
    by_cases c1 : isS (cb S base n) i = true
    · have hS := isS_T c1
      have hZ := w1_s hs.2.2.1 hiS hS.1
      have hL := oL_lt (cb_lt S base n) i
      have hZ63 : oZ (cb S base n) i ≤ 8192 := by
        generalize oZ (cb S base n) i = z at *
        generalize oP (cb S base n) i = y at *
        omega
      have hP : oP (cb S base n) i ≤ 8192 := by
        generalize oZ (cb S base n) i = z at *
        generalize oP (cb S base n) i = y at *
        omega
      have hN : sN (cb S base n) i ≤ 8192 := by
        unfold sN
        generalize oZ (cb S base n) i = z at *
        omega
      have hI : oI (cb S base n) i < 24 := Nat.lt_of_lt_of_le hS.2.1 h24
      have esN : f_ObjectFile_sitesOf F c q (nI i) (cH sk L τ) = some (nI (sN (cb S base n) i), cH sk L τ) := by
        unfold f_ObjectFile_sitesOf
        rw [c_o o1, bs, k_Z hs.1.1 hF8 hiS, xb_mk, show (24 : Int64) = lN 24 from rfl, pk_lDiv (by omega) (by decide) (by decide), lN_i]
        simp only [sN]
      rw [c1, if_pos rfl, if_pos (show (0 : Int32) ≤ nI (oI (cb S base n) i) from nI_pos' (by omega)), c_o o1, bs, k_Z hs.1.1 hF8 hiS, xb_mk, c_o o1, bs, k_L hs.1.1 hF8 hiS, xb_mk, C7g9 o1, bs, hs.2.1.1, c_o o1, bs, esN, xb_mk, c_o o1, bs, k_P hs.1.1 hF8 hiS, xb_mk, lN_i, Bool.not_true, Bool.false_or]
      simp only [lk, pk_lRem (show oZ (cb S base n) i < 2 ^ 63 by omega) (show 0 < 24 by decide) (show 24 < 2 ^ 63 by decide), lEQ (show oZ (cb S base n) i % 24 < 2 ^ 64 by omega) (show 0 < 2 ^ 64 by decide), f_ObjectFile_areSitesGood_70]
      have ey : (lN (oL (cb S base n) i) = (yS (cb S base n)).toInt64) ↔ (oY (cb S base n) ≠ 0 ∧ oL (cb S base n) i = oY (cb S base n)) := by
        unfold yS
        by_cases e : oY (cb S base n) = 0
        · rw [if_pos e]
          constructor
          · intro h
            exfalso
            have h2 := congrArg Int64.toInt h
            rw [pk_lT (by omega), show (Int32.ofInt (-1)).toInt64.toInt = -1 from by decide] at h2
            omega
          · intro h; exact absurd e h.1
        · rw [if_neg e, nI_l (by omega), lEQ (by omega) (by omega)]
          exact ⟨fun h => ⟨e, h⟩, fun h => h.2⟩
      simp only [ey]
      unfold sSec
      by_cases d1 : oZ (cb S base n) i % 24 = 0
      · rw [if_pos d1]
        by_cases d2 : oY (cb S base n) ≠ 0 ∧ oL (cb S base n) i = oY (cb S base n)
        · rw [if_pos d2, decide_eq_true (show oZ (cb S base n) i % 24 = 0 ∧ oY (cb S base n) ≠ 0 ∧ oL (cb S base n) i = oY (cb S base n) from ⟨d1, d2⟩), Bool.true_and]
          obtain ⟨M', h1⟩ := k_aSG_90 (c := c) (sk := sk) (L := L) (q := q) (g := g) (base := base) (n := n) (S := S) (k21 := f_ObjectFile_areSitesGood_21 F c f) (show 24 < F by omega) hT0 hm hn hg139 hiS c1 (by omega) (by omega) (sN (cb S base n) i) 0 F τ hs (by omega) (by omega) hM
          by_cases d3 : al (sOK (cb S base n) i) 0 (sN (cb S base n) i) = true
          · rw [if_pos d3] at h1
            have hs' : cS sk L (vI τ 139 M') q g base n S := cS_fr hs (frO_m q g τ M') (fun _ _ => rfl) (u1_ne hg139)
            obtain ⟨M2, h2⟩ := ih (i + 1) f (vI τ 139 M') hs' (by omega) (by omega) (by
              show MK (cb S base n) n (i + 1) 0 (u1 τ.2.2.2.1 139 M' 139)
              rw [u1_eq]
              exact h1.2)
            refine ⟨M2, ?_⟩
            rw [h1.1, h2, vI_vI, d3, Bool.true_and]
            rfl
          · rw [if_neg d3] at h1
            refine ⟨M', ?_⟩
            rw [h1, Bool.eq_false_iff.mpr d3, Bool.false_and]
            rfl
        · rw [if_neg d2, decide_eq_false (fun e => d2 e.2), Bool.false_and, Bool.false_and]
          exact ⟨eI τ 139, by rw [vI_self]; rfl⟩
      · rw [if_neg d1, decide_eq_false (fun e => d1 e.1), Bool.false_and, Bool.false_and]
        exact ⟨eI τ 139, by rw [vI_self]; rfl⟩
    · have c2 := Bool.eq_false_iff.mpr c1
      rw [c2, if_neg (show ¬ false = true by decide), if_neg (show ¬ (0 : Int32) ≤ Int32.ofInt (-1) by decide), f_ObjectFile_areSitesGood_122, nI_add, Bool.not_false, Bool.true_or, Bool.true_and]
      exact ih (i + 1) f τ hs (by omega) (by omega) (MK_skip hM c2)
theorem k_areSitesGood (hs : cS sk L τ q g base n S) (hF : 65536 < F) (hT0 : oT (cb S base n) 0 = 0) (hm : ar sk L 1 8192 139) (hn : n ≤ 8192) (hg139 : g ≠ 139) : ∃ M', f_ObjectFile_areSitesGood F c q 139 (cH sk L τ) = some (bI (decide (eSit (cb S base n) = 0)), cH sk L (vI τ 139 M')) := by
  have h8 := hs.1.1.1.2.2.2.2.2.2.2.1
  have hs1 := hs.1.1.2.2.1
  have h24 := hs.1.1.2.1.2.2
  unfold f_ObjectFile_areSitesGood
  rw [C7g6 hs.1.1.1.1, bs, h8, c_l hm (by decide), bs, if_neg (nI_nlt (Nat.zero_le n) (by omega)), if_neg (nI_nlt hn (by decide))]
  unfold f_Arrays_fill f_Arrays_rangeCheck
  rw [c_l hm (by decide), bs, if_pos (nI_le (Nat.zero_le n) (by omega)), if_pos (by decide), if_pos (nI_le hn (by decide)), xb_mk]
  obtain ⟨M0, h1, h2⟩ := k_fill_10 (F := F) (c := c) (sk := sk) (L := L) (v := nI 0) hm hn n 0 F τ (by omega) (by omega) (fun x h => absurd h (Nat.not_lt_zero x))
  rw [h2, xb_mk]
  have hs' : cS sk L (vI τ 139 M0) q g base n S := cS_fr hs (frO_m q g τ M0) (fun _ _ => rfl) (u1_ne hg139)
  obtain ⟨M', h3⟩ := k_aSG_21 (c := c) hF hT0 hm hn hg139 (oS (cb S base n)) 0 F (vI τ 139 M0) hs' (by omega) (by omega) (by
    show MK (cb S base n) n 0 0 (u1 τ.2.2.2.1 139 M0 139)
    rw [u1_eq]
    exact MK_0 h1)
  refine ⟨M', ?_⟩
  rw [h3, vI_vI]
  have e : al (fun i => !isS (cb S base n) i || sSec (cb S base n) i) 0 (oS (cb S base n)) = al (fun i => !isS (cb S base n) i || sSec (cb S base n) i) 1 (oS (cb S base n) - 1) := by
    obtain ⟨s, hs'⟩ : ∃ s, oS (cb S base n) = s + 1 := ⟨oS (cb S base n) - 1, by omega⟩
    rw [hs', al_s, Nat.add_sub_cancel]
    have : isS (cb S base n) 0 = false := decide_eq_false (fun d => by have := d.1; rw [hT0] at this; exact absurd this (by decide))
    rw [this]
    rfl
  rw [e]
  unfold eSit
  by_cases c1 : al (fun i => !isS (cb S base n) i || sSec (cb S base n) i) 1 (oS (cb S base n) - 1) = true
  · rw [if_pos c1, c1, decide_eq_true rfl]
  · rw [if_neg c1, Bool.eq_false_iff.mpr c1, decide_eq_false (show ¬ (7 : Nat) = 0 by decide)]
end CSJ
end
section
/-! the class's groups, strings' sections, and the error of an object -/
theorem ar_g4 {n P Z j : Nat} (h1 : P + Z ≤ n) (hm : Z % 4 = 0) (hj : 4 * j < Z) : P + 4 * j + 4 ≤ n := by omega
theorem gN_0 (b : Nat → Nat) (i : Nat) : gN b i 0 = le b (oP b i) 4 := by
  unfold gN
  rw [Nat.mul_zero, Nat.add_zero]
section CGR
variable {F : Nat} {c : px_CT} {sk : Nat → Nat × Nat × Nat} {L q g base n : Nat} {τ : px_TT} {S : Nat → Int32}
theorem k_aGG_116 {i : Nat} {k4 : Nat → Int32 → Int32 → px_H → Option (Int32 × px_H)} (hs : cS sk L τ q g base n S) (hF : 8 < F) (hi : i < oS (cb S base n)) (hZ : oP (cb S base n) i + oZ (cb S base n) i ≤ n) (hm : oZ (cb S base n) i % 4 = 0) : ∀ (d j f : Nat) (x : Int32) (z : Nat → Bool), (∀ v, v < 24 → bt x v = z v) → d = oZ (cb S base n) i / 4 - j → d < f → j < 65536 → ∃ x', (∀ v, v < 24 → bt x' v = (gl (cb S base n) i j d z).2 v) ∧ f_ObjectFile_areGroupsGood_116 F c k4 f q x (nI i) (lN (oZ (cb S base n) i)) (nI (oP (cb S base n) i)) (nI (4 * j)) (cH sk L τ) = if (gl (cb S base n) i j d z).1 = true then k4 q x' (nI (i + 1)) (cH sk L τ) else some (nI 0, cH sk L τ) := by
  have o1 := hs.1.1.1.1
  have h24 := hs.1.1.2.1.2.2
  have hon := hs.1.1.2.1.1.2
  have hZ2 : oZ (cb S base n) i ≤ 65536 ∧ oP (cb S base n) i ≤ 65536 := by
    generalize oZ (cb S base n) i = z at *
    generalize oP (cb S base n) i = y at *
    omega
  intro d
  induction d with
  | zero =>
    intro j f x z hx hd hf hj
    obtain ⟨f, rfl⟩ : ∃ g, f = g + 1 := ⟨f - 1, by omega⟩
    refine ⟨x, hx, ?_⟩
    unfold f_ObjectFile_areGroupsGood_116
    rw [nI_l (by omega), if_pos ((pk_lLE (by omega) (by omega)).mpr (by omega)), if_pos (show (gl (cb S base n) i j 0 z).1 = true from rfl), f_ObjectFile_areGroupsGood_180, nI_add]
  | succ d ih =>
    intro j f x z hx hd hf hj
    obtain ⟨f, rfl⟩ : ∃ g, f = g + 1 := ⟨f - 1, by omega⟩
    have hv := gN_lt (cb_lt S base n) i j
    have hlt : 4 * j < oZ (cb S base n) i := by omega
    unfold f_ObjectFile_areGroupsGood_116
    rw [nI_l (by omega), if_neg (fun e => by have := (pk_lLE (by omega) (by omega)).mp e; omega), c_o o1, bs, nI_add, k_num hs.1.1.1 hF (by decide) (by omega), nm_in (ar_g4 hZ hm hlt), xb_mk, show le (cb S base n) (oP (cb S base n) i + 4 * j) 4 = gN (cb S base n) i j from rfl, C7g8 o1, bs, hs.1.1.2.2.2.2, nI_l (by omega), lN_i, gl_s, nI_add]
    simp only [pk_lLT (show gN (cb S base n) i j < 2 ^ 63 by omega) (show 1 < 2 ^ 63 by decide), pk_lLE (show oS (cb S base n) < 2 ^ 63 by omega) (show gN (cb S base n) i j < 2 ^ 63 by omega), f_ObjectFile_areGroupsGood_164]
    by_cases c1 : gN (cb S base n) i j < 1
    · rw [if_pos c1, if_pos (Or.inl c1)]
      exact ⟨x, hx, rfl⟩
    · by_cases c2 : oS (cb S base n) ≤ gN (cb S base n) i j
      · rw [if_neg c1, if_pos c2, if_pos (Or.inr (Or.inl c2))]
        exact ⟨x, hx, rfl⟩
      · have hv24 : gN (cb S base n) i j < 24 := by omega
        rw [if_neg c1, if_neg c2]
        simp only [bt_0 (show gN (cb S base n) i j < 32 by omega), hx _ hv24]
        by_cases c3 : z (gN (cb S base n) i j) = true
        · rw [if_neg (show ¬ z (gN (cb S base n) i j) = false by rw [c3]; decide), if_pos (Or.inr (Or.inr c3))]
          exact ⟨x, hx, rfl⟩
        · rw [if_pos (Bool.eq_false_iff.mpr c3), if_neg (fun e => e.elim c1 (fun e => e.elim c2 c3)), show 4 * j + 4 = 4 * (j + 1) by omega]
          refine ih (j + 1) f _ (fun y => if y = gN (cb S base n) i j then true else z y) ?_ (by omega) (by omega) (by omega)
          intro v hv2
          rw [bt_set (by omega) (by omega), hx v hv2]
          by_cases e : v = gN (cb S base n) i j
          · rw [if_pos e, decide_eq_true e, Bool.or_true]
          · rw [if_neg e, decide_eq_false e, Bool.or_false]
theorem k_gN0 {i : Nat} (hs : cS sk L τ q g base n S) (hF : 8 < F) (hP : oP (cb S base n) i ≤ 65536) (h4 : oP (cb S base n) i + 4 ≤ n) : f_ObjectFile_num F c q (nI (oP (cb S base n) i)) (nI 4) (cH sk L τ) = some (lN (gN (cb S base n) i 0), cH sk L τ) := by
  rw [k_num hs.1.1.1 hF (by decide) (by omega), nm_in h4, ← gN_0]
theorem ar_40 {n P Z : Nat} (h1 : P + Z ≤ n) (hm : Z % 4 = 0) (hj : Z ≠ 0) : P + 4 ≤ n := by omega
theorem k_aGG_4 (hs : cS sk L τ q g base n S) (hF : 65536 < F) : ∀ (d i f : Nat) (x : Int32) (z : Nat → Bool), (∀ v, v < 24 → bt x v = z v) → i + d = oS (cb S base n) → d < f → f_ObjectFile_areGroupsGood_4 F c f q x (nI i) (cH sk L τ) = some (bI (gs (cb S base n) i d z), cH sk L τ) := by
  have o1 := hs.1.1.1.1
  have h24 := hs.1.1.2.1.2.2
  have hs1 := hs.1.1.2.2.1
  have hon := hs.1.1.2.1.1.2
  have hF8 : 8 < F := by omega
  have hy := oY_lt hs1
  have hM := w2_M hs.2.2
  intro d
  induction d with
  | zero =>
    intro i f x z hx hi hf
    obtain ⟨f, rfl⟩ : ∃ g, f = g + 1 := ⟨f - 1, by omega⟩
    unfold f_ObjectFile_areGroupsGood_4
    rw [C7g8 o1, bs, hs.1.1.2.2.2.2, if_pos (nI_le (by omega) (by omega))]
    rfl
  | succ d ih =>
    intro i f x z hx hi hf
    obtain ⟨f, rfl⟩ : ∃ g, f = g + 1 := ⟨f - 1, by omega⟩
    have hiS : i < oS (cb S base n) := by omega
    have eT := oT_lt (cb_lt S base n) i
    have eI' := oI_lt (cb_lt S base n) i
    have eL := oL_lt (cb_lt S base n) i
    unfold f_ObjectFile_areGroupsGood_4
    rw [C7g8 o1, bs, hs.1.1.2.2.2.2, if_neg (nI_ge (by omega) (by omega)), c_o o1, bs, k_T hs.1.1 hF8 hiS, xb_mk, gs_s]
    simp only [lk, lEQ (show oT (cb S base n) i < 2 ^ 64 by omega) (show 17 < 2 ^ 64 by decide)]
    by_cases c1 : oT (cb S base n) i = 17
    · have hZ := hs.2.2.1.2.2.2.1 i hiS (by rw [c1]; decide) (by rw [c1]; decide)
      have hZ63 : oZ (cb S base n) i ≤ 65536 ∧ oP (cb S base n) i ≤ 65536 := by
        generalize oZ (cb S base n) i = z at *
        generalize oP (cb S base n) i = y at *
        omega
      have ey : (lN (oL (cb S base n) i) = (yS (cb S base n)).toInt64) ↔ (oY (cb S base n) ≠ 0 ∧ oL (cb S base n) i = oY (cb S base n)) := by
        unfold yS
        by_cases e : oY (cb S base n) = 0
        · rw [if_pos e]
          constructor
          · intro h
            exfalso
            have h2 := congrArg Int64.toInt h
            rw [pk_lT (by omega), show (Int32.ofInt (-1)).toInt64.toInt = -1 from by decide] at h2
            omega
          · intro h; exact absurd e h.1
        · rw [if_neg e, nI_l (by omega), lEQ (by omega) (by omega)]
          exact ⟨fun h => ⟨e, h⟩, fun h => h.2⟩
      rw [if_pos c1, if_pos c1, c_o o1, bs, k_Z hs.1.1 hF8 hiS, xb_mk, c_o o1, bs, k_I hs.1.1 hF8 hiS, xb_mk, c_o o1, bs, k_P hs.1.1 hF8 hiS, xb_mk, c_o o1, bs, k_L hs.1.1 hF8 hiS, xb_mk, C7g9 o1, bs, hs.2.1.1, C7g11 o1, bs, hs.2.1.2.1, nI_l (by omega), c_o o1, bs, lN_i, lN_i]
      simp only [lEQ (show oZ (cb S base n) i < 2 ^ 64 by omega) (show 0 < 2 ^ 64 by decide), pk_lRem (show oZ (cb S base n) i < 2 ^ 63 by omega) (show 0 < 4 by decide) (show 4 < 2 ^ 63 by decide), lEQ (show oZ (cb S base n) i % 4 < 2 ^ 64 by omega) (show 0 < 2 ^ 64 by decide), ey, pk_lLE (show oM (cb S base n) < 2 ^ 63 by omega) (show oI (cb S base n) i < 2 ^ 63 by omega), f_ObjectFile_areGroupsGood_111]
      have bad : ∀ (P : Prop) [Decidable P], (gH (cb S base n) i = true → False) → (some (nI 0, cH sk L τ) : Option (Int32 × px_H)) = some (bI (if gH (cb S base n) i = true then (if (gl (cb S base n) i 1 (oZ (cb S base n) i / 4 - 1) z).1 = true then gs (cb S base n) (i + 1) d (gl (cb S base n) i 1 (oZ (cb S base n) i / 4 - 1) z).2 else false) else false), cH sk L τ) := by
        intro P _ h
        rw [if_neg h]
        rfl
      by_cases d1 : oZ (cb S base n) i = 0
      · rw [if_pos d1]
        exact bad True (fun e => by have := (of_decide_eq_true e).1; omega)
      · rw [if_neg d1]
        by_cases d2 : oZ (cb S base n) i % 4 = 0
        · rw [if_pos d2]
          by_cases d3 : oY (cb S base n) ≠ 0 ∧ oL (cb S base n) i = oY (cb S base n)
          · rw [if_pos d3]
            by_cases d4 : oM (cb S base n) ≤ oI (cb S base n) i
            · rw [if_pos d4]
              exact bad True (fun e => by have := (of_decide_eq_true e).2.2.2.2.2.1; omega)
            · rw [if_neg d4]
              by_cases d5 : oI (cb S base n) i = 0
              · rw [d5, k_bindOf0 hs (Or.inl rfl) (by decide), xb_mk, if_pos (show nI 0 = 0 from rfl)]
                exact bad True (fun e => by have := (of_decide_eq_true e).2.2.2.2.1; omega)
              · have hB := yB_lt (cb_lt S base n) (oI (cb S base n) i)
                have hg0 := gN_lt (cb_lt S base n) i 0
                rw [k_bindOf hs hF8 (by omega) (by omega), xb_mk, c_o o1, bs, k_gN0 hs hF8 hZ63.2 (ar_40 hZ d2 d1), xb_mk, show (0 : Int32) = nI 0 from rfl]
                simp only [nI_eq (show yB (cb S base n) (oI (cb S base n) i) < 2 ^ 31 by omega) (show 0 < 2 ^ 31 by decide), pk_lLE (show gN (cb S base n) i 0 < 2 ^ 63 by omega) (show 1 < 2 ^ 63 by decide)]
                by_cases d6 : yB (cb S base n) (oI (cb S base n) i) = 0
                · rw [if_pos d6]
                  exact bad True (fun e => (of_decide_eq_true e).2.2.2.2.2.2.1 d6)
                · rw [if_neg d6]
                  by_cases d7 : gN (cb S base n) i 0 ≤ 1
                  · have hgh : gH (cb S base n) i = true := decide_eq_true ⟨by omega, d2, d3.1, d3.2, by omega, by omega, d6, d7⟩
                    obtain ⟨x', h1, h2⟩ := k_aGG_116 (c := c) (k4 := f_ObjectFile_areGroupsGood_4 F c f) hs hF8 hiS hZ d2 (oZ (cb S base n) i / 4 - 1) 1 F x z hx rfl (by omega) (by decide)
                    rw [if_pos d7, if_pos hgh, show nI 4 = nI (4 * 1) from rfl, h2]
                    by_cases d8 : (gl (cb S base n) i 1 (oZ (cb S base n) i / 4 - 1) z).1 = true
                    · rw [if_pos d8, if_pos d8]
                      exact ih (i + 1) f x' _ h1 (by omega) (by omega)
                    · rw [if_neg d8, if_neg d8]
                      rfl
                  · rw [if_neg d7]
                    exact bad True (fun e => d7 (of_decide_eq_true e).2.2.2.2.2.2.2)
          · rw [if_neg d3]
            exact bad True (fun e => d3 ⟨(of_decide_eq_true e).2.2.1, (of_decide_eq_true e).2.2.2.1⟩)
        · rw [if_neg d2]
          exact bad True (fun e => d2 (of_decide_eq_true e).2.1)
    · rw [if_neg c1, if_neg c1, f_ObjectFile_areGroupsGood_180, nI_add]
      exact ih (i + 1) f x z hx (by omega) (by omega)
theorem k_areGroupsGood (hs : cS sk L τ q g base n S) (hF : 65536 < F) (hT0 : oT (cb S base n) 0 = 0) : f_ObjectFile_areGroupsGood F c q (cH sk L τ) = some (bI (decide (eGrp (cb S base n) = 0)), cH sk L τ) := by
  have hs1 := hs.1.1.2.2.1
  have h24 := hs.1.1.2.1.2.2
  unfold f_ObjectFile_areGroupsGood
  rw [k_aGG_4 (c := c) hs hF (oS (cb S base n)) 0 F (nI 0) (fun _ => false) (fun v _ => b_0 v) (by omega) (by omega)]
  have e : gs (cb S base n) 0 (oS (cb S base n)) (fun _ => false) = gs (cb S base n) 1 (oS (cb S base n) - 1) (fun _ => false) := by
    obtain ⟨s, hs'⟩ : ∃ s, oS (cb S base n) = s + 1 := ⟨oS (cb S base n) - 1, by omega⟩
    rw [hs', gs_s, if_neg (by rw [hT0]; decide), Nat.add_sub_cancel]
  rw [e]
  unfold eGrp
  by_cases c1 : gs (cb S base n) 1 (oS (cb S base n) - 1) (fun _ => false) = true
  · rw [if_pos c1, c1, decide_eq_true rfl]
  · rw [if_neg c1, Bool.eq_false_iff.mpr c1, decide_eq_false (show ¬ (9 : Nat) = 0 by decide)]
end CGR
end
section
/-! the class's strings' sections -/
/-- a strings' section, whatever sites there are -/
def oStr0 (b : Nat → Nat) (i : Nat) : Bool := decide (oK b i = true ∧ oG b i = 1 ∧ (oF b i &&& 48) = 48 ∧ oA b i ≤ 1 ∧ 1 ≤ oZ b i ∧ b (oP b i + oZ b i - 1) = 0)
/-- a strings' section -/
def oStr (b : Nat → Nat) (i : Nat) : Bool := oStr0 b i && al (fun a => !(isS b a && decide (oI b a = i))) 0 (oS b)
theorem u2_self {α : Type} (f : Nat → Nat → α) (a k : Nat) : u2 f a k (f a k) = f := by
  funext x y
  unfold u2
  by_cases c : x = a ∧ y = k
  · rw [if_pos c, c.1, c.2]
  · rw [if_neg c]
theorem u2_u2 {α : Type} (f : Nat → Nat → α) (a k : Nat) (v w : α) : u2 (u2 f a k v) a k w = u2 f a k w := by
  funext x y
  unfold u2
  by_cases c : x = a ∧ y = k
  · rw [if_pos c, if_pos c]
  · rw [if_neg c, if_neg c, if_neg c]
theorem tI_self (τ : px_TT) (a k : Nat) : tI τ a k (fI τ a k) = τ := by
  unfold tI fI
  rw [u2_self]
theorem tI_tI (τ : px_TT) (a k : Nat) (v w : Int32) : tI (tI τ a k v) a k w = tI τ a k w := by
  unfold tI
  show (u2 (u2 τ.1 a k v) a k w, τ.2) = _
  rw [u2_u2]
theorem bt_clr {x : Int32} {t i : Nat} (ht : t < 32) (hi : i < 32) : bt (x &&& ((nI 1 <<< (nI t &&& 31)) ^^^ Int32.ofInt (-1))) i = (bt x i && !decide (i = t)) := by
  rw [b_and, b_xor, show bt (Int32.ofInt (-1)) i = true from b_m1 i hi]
  congr 1
  have e := bt_set (x := nI 0) ht hi
  rw [show bt (nI 0) i = false from b_0 i, Bool.false_or, b_or, show bt (nI 0) i = false from b_0 i, Bool.false_or] at e
  rw [e, Bool.xor_true]
section CST2
variable {F : Nat} {c : px_CT} {sk : Nat → Nat × Nat × Nat} {L q g base n : Nat} {τ : px_TT} {S : Nat → Int32}
theorem cS_14 (hs : cS sk L τ q g base n S) (x : Int32) : cS sk L (tI τ q 14 x) q g base n S := cS_fr hs (frO_I q g τ 14 x (by decide) (by decide)) (fun k hk => u2_ne (Or.inr (by omega))) rfl
theorem ar_str {P Z n : Nat} (h : P + Z ≤ n) (hz : 1 ≤ Z) : P + Z - 1 + 1 ≤ n ∧ P + Z - 1 < n := by omega
theorem k_isStringRow {i : Nat} (hs : cS sk L τ q g base n S) (hF : 8 < F) (hi : i < oS (cb S base n)) (hk : oK (cb S base n) i = true) (hg1 : oG (cb S base n) i = 1) (hA : oA (cb S base n) i ≤ 4096) : f_ObjectFile_isStringRow F c q (nI i) (cH sk L τ) = some (bI (oStr0 (cb S base n) i), cH sk L τ) := by
  have o1 := hs.1.1.1.1
  have hon := hs.1.1.2.1.1.2
  have hz := hs.2.2.1.2.2.2.2 i hi hk
  have e2 := oF_lt (cb_lt S base n) i
  have ht : oT (cb S base n) i = 1 := by
    have h1 := (of_decide_eq_true hk).1
    rcases h1 with e | e
    · exact e
    · exfalso
      unfold oG at hg1
      rw [e] at hg1
      by_cases d : ¬ (oF (cb S base n) i &&& 1024) = 0
      · rw [if_pos d, if_pos rfl] at hg1; exact absurd hg1 (by decide)
      · rw [if_neg d, if_pos rfl] at hg1; exact absurd hg1 (by decide)
  have hlie := hs.2.2.1.2.2.2.1 i hi (by rw [ht]; decide) (by rw [ht]; decide)
  have hP : oP (cb S base n) i ≤ 65536 := by
    generalize oZ (cb S base n) i = z at *
    generalize oP (cb S base n) i = y at *
    omega
  unfold f_ObjectFile_isStringRow
  rw [c_o o1, bs, k_Z hs.1.1 hF hi, xb_mk, c_o o1, bs, k_Fl hs.1.1 hF hi, xb_mk, c_o o1, bs, k_A hs.1.1 hF hi, xb_mk, c_o o1, bs, k_P hs.1.1 hF hi, xb_mk, c_o o1, bs, lN_add, lN_i, show (48 : Int64) = lN 48 from rfl, wb_and e2 (by decide)]
  simp only [lEQ (show (oF (cb S base n) i &&& 48) < 2 ^ 64 from Nat.lt_of_le_of_lt Nat.and_le_right (by decide)) (show 48 < 2 ^ 64 by decide), pk_lLT (show 1 < 2 ^ 63 by decide) (show oA (cb S base n) i < 2 ^ 63 by omega), pk_lLE (show oZ (cb S base n) i < 2 ^ 63 by omega) (show 0 < 2 ^ 63 by decide), f_ObjectFile_isStringRow_62, f_ObjectFile_isStringRow_63, xz_0, xz_1]
  unfold oStr0
  by_cases c1 : (oF (cb S base n) i &&& 48) = 48
  · by_cases c2 : 1 < oA (cb S base n) i
    · rw [if_pos c1, if_pos c2, decide_eq_false (fun e => by have := e.2.2.2.1; omega)]
    · by_cases c3 : oZ (cb S base n) i ≤ 0
      · rw [if_pos c1, if_neg c2, if_pos c3, decide_eq_false (fun e => by have := e.2.2.2.2.1; omega)]
      · have hx := ar_str hlie (show 1 ≤ oZ (cb S base n) i by omega)
        have hb := cb_lt S base n (oP (cb S base n) i + oZ (cb S base n) i - 1)
        rw [if_pos c1, if_neg c2, if_neg c3, pk_sub (by omega), k_num hs.1.1.1 hF (by decide) (by omega), nm_in hx.1, le_1, xb_mk]
        simp only [lEQ (show cb S base n (oP (cb S base n) i + oZ (cb S base n) i - 1) < 2 ^ 64 by omega) (show 0 < 2 ^ 64 by decide)]
        by_cases c4 : cb S base n (oP (cb S base n) i + oZ (cb S base n) i - 1) = 0
        · rw [if_pos c4, decide_eq_true ⟨hk, hg1, c1, by omega, by omega, c4⟩]
        · rw [if_neg c4, decide_eq_false (fun e => c4 e.2.2.2.2.2)]
  · rw [if_neg c1, decide_eq_false (fun e => c1 e.2.2.1)]
theorem gv_1 (b : Nat → Nat) (i : Nat) : (gv b i = nI 1) ↔ (oK b i = true ∧ oG b i = 1) := by
  unfold gv
  have := oG_le b i
  by_cases e : oK b i = true
  · rw [if_pos e, nI_eq (by omega) (by decide)]
    exact ⟨fun h => ⟨e, h⟩, fun h => h.2⟩
  · rw [if_neg e]
    exact ⟨fun h => absurd h (by decide), fun h => absurd h.1 e⟩
theorem k_fStr_7 (hF : 8 < F) (hA : ∀ i, i < oS (cb S base n) → oK (cb S base n) i = true → oA (cb S base n) i ≤ 4096) : ∀ (d i f : Nat) (τ : px_TT), cS sk L τ q g base n S → (∀ v, v < 32 → bt (fI τ q 14) v = (decide (v < i) && oStr0 (cb S base n) v)) → i + d = oS (cb S base n) → d < f → ∃ x', (∀ v, v < 32 → bt x' v = (decide (v < oS (cb S base n)) && oStr0 (cb S base n) v)) ∧ f_ObjectFile_findStrings_7 F c f q (nI i) (cH sk L τ) = f_ObjectFile_findStrings_51 F c q (cH sk L (tI τ q 14 x')) := by
  intro d
  induction d with
  | zero =>
    intro i f τ hs hx hi hf
    obtain ⟨f, rfl⟩ : ∃ g, f = g + 1 := ⟨f - 1, by omega⟩
    have h24 := hs.1.1.2.1.2.2
    refine ⟨fI τ q 14, by rw [show oS (cb S base n) = i by omega]; exact hx, ?_⟩
    unfold f_ObjectFile_findStrings_7
    rw [C7g8 hs.1.1.1.1, bs, hs.1.1.2.2.2.2, if_pos (nI_le (by omega) (by omega)), tI_self]
  | succ d ih =>
    intro i f τ hs hx hi hf
    obtain ⟨f, rfl⟩ : ∃ g, f = g + 1 := ⟨f - 1, by omega⟩
    have h24 := hs.1.1.2.1.2.2
    have o1 := hs.1.1.1.1
    have hiS : i < oS (cb S base n) := by omega
    unfold f_ObjectFile_findStrings_7
    rw [C7g8 o1, bs, hs.1.1.2.2.2.2, if_neg (nI_ge (by omega) (by omega)), c_o o1, bs, nI_l (by omega), k_groupOf hs.1 (by omega), xb_mk, if_pos hiS]
    simp only [gv_1, f_ObjectFile_findStrings_45, nI_add]
    have skip : oStr0 (cb S base n) i = false → ∃ x', (∀ v, v < 32 → bt x' v = (decide (v < oS (cb S base n)) && oStr0 (cb S base n) v)) ∧ f_ObjectFile_findStrings_7 F c f q (nI (i + 1)) (cH sk L τ) = f_ObjectFile_findStrings_51 F c q (cH sk L (tI τ q 14 x')) := by
      intro h0
      refine ih (i + 1) f τ hs ?_ (by omega) (by omega)
      intro v hv
      rw [hx v hv]
      by_cases e : v = i
      · rw [e, h0, Bool.and_false, Bool.and_false]
      · congr 1
        exact decide_eq_decide.mpr (by omega)
    by_cases c1 : oK (cb S base n) i = true ∧ oG (cb S base n) i = 1
    · rw [if_pos c1, c_o o1, bs, k_isStringRow hs hF hiS c1.1 c1.2 (hA i hiS c1.1), xb_mk, show (0 : Int32) = nI 0 from rfl]
      simp only [bI_0]
      by_cases c2 : oStr0 (cb S base n) i = false
      · rw [if_pos c2]
        exact skip c2
      · rw [if_neg c2, C7g14 o1, bs, C7p14 o1, bs]
        obtain ⟨x', h1, h2⟩ := ih (i + 1) f _ (cS_14 hs (fI τ q 14 ||| (nI 1 <<< (nI i &&& 31)))) (by
          intro v hv
          show bt (u2 τ.1 q 14 _ q 14) v = _
          rw [u2_eq, bt_set (by omega) hv, hx v hv]
          by_cases e : v = i
          · have c3 : oStr0 (cb S base n) i = true := by cases hq : oStr0 (cb S base n) i <;> simp_all
            rw [e, c3, decide_eq_true rfl, decide_eq_true (show i < i + 1 by omega), Bool.or_true]
            rfl
          · rw [decide_eq_false e, Bool.or_false]
            congr 1
            exact decide_eq_decide.mpr (by omega)) (by omega) (by omega)
        exact ⟨x', h1, by rw [h2, tI_tI]⟩
    · rw [if_neg c1]
      exact skip (decide_eq_false (fun e => c1 ⟨e.1, e.2.1⟩))
theorem al_e (p : Nat → Bool) : ∀ (c i : Nat), al p i (c + 1) = (al p i c && p (i + c))
  | 0, i => by show (p i && true) = (true && p (i + 0)); rw [Bool.and_true, Bool.true_and, Nat.add_zero]
  | c + 1, i => by
    rw [al_s, al_e p c (i + 1), al_s, Bool.and_assoc, show i + 1 + c = i + (c + 1) by omega]
theorem k_fStr_53 (hF : 8 < F) : ∀ (d i f : Nat) (τ : px_TT), cS sk L τ q g base n S → (∀ v, v < 32 → bt (fI τ q 14) v = (decide (v < oS (cb S base n)) && oStr0 (cb S base n) v && al (fun a => !(isS (cb S base n) a && decide (oI (cb S base n) a = v))) 0 i)) → i + d = oS (cb S base n) → d < f → ∃ x', (∀ v, v < 32 → bt x' v = (decide (v < oS (cb S base n)) && oStr0 (cb S base n) v && al (fun a => !(isS (cb S base n) a && decide (oI (cb S base n) a = v))) 0 (oS (cb S base n)))) ∧ f_ObjectFile_findStrings_53 F c f q (nI i) (cH sk L τ) = some ((), cH sk L (tI τ q 14 x')) := by
  intro d
  induction d with
  | zero =>
    intro i f τ hs hx hi hf
    obtain ⟨f, rfl⟩ : ∃ g, f = g + 1 := ⟨f - 1, by omega⟩
    have h24 := hs.1.1.2.1.2.2
    refine ⟨fI τ q 14, by rw [show oS (cb S base n) = i by omega] at hx ⊢; exact hx, ?_⟩
    unfold f_ObjectFile_findStrings_53
    rw [C7g8 hs.1.1.1.1, bs, hs.1.1.2.2.2.2, if_pos (nI_le (by omega) (by omega)), tI_self]
    rfl
  | succ d ih =>
    intro i f τ hs hx hi hf
    obtain ⟨f, rfl⟩ : ∃ g, f = g + 1 := ⟨f - 1, by omega⟩
    have h24 := hs.1.1.2.1.2.2
    have o1 := hs.1.1.1.1
    have hiS : i < oS (cb S base n) := by omega
    unfold f_ObjectFile_findStrings_53
    rw [C7g8 o1, bs, hs.1.1.2.2.2.2, if_neg (nI_ge (by omega) (by omega)), c_o o1, bs, k_targetOf hs.1 hF hiS, xb_mk]
    simp only [f_ObjectFile_findStrings_85, nI_add]
    by_cases c1 : isS (cb S base n) i = true
    · have hI : oI (cb S base n) i < 24 := Nat.lt_of_lt_of_le (isS_T c1).2.1 h24
      rw [if_pos c1, if_neg (nI_pos (by omega)), C7g14 o1, bs, C7p14 o1, bs]
      obtain ⟨x', h1, h2⟩ := ih (i + 1) f _ (cS_14 hs (fI τ q 14 &&& ((nI 1 <<< (nI (oI (cb S base n) i) &&& 31)) ^^^ Int32.ofInt (-1)))) (by
        intro v hv
        show bt (u2 τ.1 q 14 _ q 14) v = _
        rw [u2_eq, bt_clr (by omega) hv, hx v hv, al_e, Nat.zero_add, c1, Bool.true_and, ← Bool.and_assoc]
        congr 2
        exact decide_eq_decide.mpr ⟨fun e => e.symm, fun e => e.symm⟩) (by omega) (by omega)
      exact ⟨x', h1, by rw [h2, tI_tI]⟩
    · rw [if_neg c1, if_pos (show Int32.ofInt (-1) < 0 by decide)]
      refine ih (i + 1) f τ hs ?_ (by omega) (by omega)
      intro v hv
      rw [hx v hv, al_e, Nat.zero_add, Bool.eq_false_iff.mpr c1, Bool.false_and, Bool.not_false, Bool.and_true]
theorem k_findStrings (hs : cS sk L τ q g base n S) (hF : 24 < F) (hA : ∀ i, i < oS (cb S base n) → oK (cb S base n) i = true → oA (cb S base n) i ≤ 4096) : ∃ x', (∀ v, v < 32 → bt x' v = (decide (v < oS (cb S base n)) && oStr (cb S base n) v)) ∧ f_ObjectFile_findStrings F c q (cH sk L τ) = some ((), cH sk L (tI τ q 14 x')) := by
  have h24 := hs.1.1.2.1.2.2
  have o1 := hs.1.1.1.1
  unfold f_ObjectFile_findStrings
  rw [C7p14 o1, bs]
  obtain ⟨x1, h1, h2⟩ := k_fStr_7 (c := c) (show 8 < F by omega) hA (oS (cb S base n)) 0 F _ (cS_14 hs (nI 0)) (by
    intro v hv
    show bt (u2 τ.1 q 14 (nI 0) q 14) v = _
    rw [u2_eq, show bt (nI 0) v = false from b_0 v, decide_eq_false (Nat.not_lt_zero v), Bool.false_and]) (by omega) (by omega)
  rw [h2, tI_tI]
  unfold f_ObjectFile_findStrings_51
  obtain ⟨x2, h3, h4⟩ := k_fStr_53 (c := c) (show 8 < F by omega) (oS (cb S base n)) 0 F _ (cS_14 hs x1) (by
    intro v hv
    show bt (u2 τ.1 q 14 x1 q 14) v = _
    rw [u2_eq, h1 v hv]
    show _ = (_ && true)
    rw [Bool.and_true]) (by omega) (by omega)
  refine ⟨x2, ?_, by rw [h4, tI_tI]⟩
  intro v hv
  rw [h3 v hv, Bool.and_assoc]
  rfl
end CST2
end
section
/-! the class's error of an object -/
theorem eSym_eq (b : Nat → Nat) : eSym b = if eS1 b = true then (if al (yOK b) 1 (oM b - 1) = true then 0 else 6) else 5 := by
  unfold eSym eS1
  by_cases c1 : 1 < cnt (fun i => decide (oT b i = 2)) 1 (oS b - 1)
  · rw [if_pos c1, if_neg (by rw [decide_eq_false (fun e => e.1 c1)]; decide)]
  · rw [if_neg c1]
    by_cases c2 : oY b = 0
    · rw [if_pos c2, if_pos (decide_eq_true ⟨c1, Or.inl c2⟩), show oM b = 0 from if_pos c2]
      rfl
    · rw [if_neg c2]
      by_cases c3 : oZ b (oY b) % 24 = 0 ∧ oZ b (oY b) ≤ 1536 ∧ oX b < oS b ∧ oT b (oX b) = 3
      · rw [if_pos c3, if_pos (decide_eq_true ⟨c1, Or.inr c3⟩)]
      · rw [if_neg c3, if_neg (by rw [decide_eq_false (fun e => e.2.elim c2 c3)]; decide)]
section CRD
variable {F : Nat} {c : px_CT} {sk : Nat → Nat × Nat × Nat} {L q g base n : Nat} {τ : px_TT} {S : Nat → Int32}
theorem k_rE_40 {ss : Nat} (hs : cS sk L τ q g base n S) (hF : 65536 < F) (h71 : fI τ 7 1 = nI ss) (hss : base + n ≤ ss) (hss2 : ss ≤ 65536) : ∀ (d j f : Nat), d = oM (cb S base n) - j → 1 ≤ j → j < 2 ^ 30 → d < f → f_ObjectFile_readError_40 F c f q 139 (nI j) (cH sk L τ) = if al (yOK (cb S base n)) j d = true then f_ObjectFile_readError_65 F c q 139 (cH sk L τ) else some (nI 6, cH sk L τ) := by
  have o1 := hs.1.1.1.1
  have hM := w2_M hs.2.2
  intro d
  induction d with
  | zero =>
    intro j f hd h1 h2 hf
    obtain ⟨f, rfl⟩ : ∃ g, f = g + 1 := ⟨f - 1, by omega⟩
    unfold f_ObjectFile_readError_40
    rw [C7g11 o1, bs, hs.2.1.2.1, if_pos (nI_le (by omega) (by omega))]
    rfl
  | succ d ih =>
    intro j f hd h1 h2 hf
    obtain ⟨f, rfl⟩ : ∃ g, f = g + 1 := ⟨f - 1, by omega⟩
    unfold f_ObjectFile_readError_40
    rw [C7g11 o1, bs, hs.2.1.2.1, if_neg (nI_ge (by omega) (by omega)), c_o o1, bs, k_isSymbolGood hs (by omega) h1 (by omega) h71 hss hss2, xb_mk, nI_add, al_s]
    by_cases c1 : yOK (cb S base n) j = true
    · rw [c1, if_neg (show ¬ bI true = 0 by decide), Bool.true_and]
      exact ih (j + 1) f (by omega) (by omega) (by omega) (by omega)
    · rw [Bool.eq_false_iff.mpr c1, if_pos (show bI false = 0 from rfl), Bool.false_and]
      rfl
/-- what stands there when an object has been read without an error -/
def cD (sk : Nat → Nat × Nat × Nat) (L : Nat) (τ : px_TT) (q g base n : Nat) (S : Nat → Int32) : Prop := cS sk L τ q g base n S ∧ (∀ v, v < 32 → bt (fI τ q 14) v = (decide (v < oS (cb S base n)) && oStr (cb S base n) v)) ∧ eObj (cb S base n) n = 0
theorem k_readError {ss : Nat} (hc : KT c) (hF : 65536 < F) (ho : cO sk L τ q base n S) (h3 : fN τ q 3 = some g) (hga : ar sk L 0 24 g) (hg : g ≠ 8) (hg139 : g ≠ 139) (hm : ar sk L 1 8192 139) (hn : n ≤ 8192) (h9 : fI τ q 9 = Int32.ofInt (-1)) (h11 : fI τ q 11 = nI 0) (hq7 : q ≠ 7) (h71 : fI τ 7 1 = nI ss) (hss : base + n ≤ ss) (hss2 : ss ≤ 65536) : ∃ τ', frO q g τ τ' ∧ f_ObjectFile_readError F c q 139 (cH sk L τ) = some (nI (eObj (cb S base n) n), cH sk L τ') ∧ (eObj (cb S base n) n = 0 → cD sk L τ' q g base n S) := by
  have o1 := ho.1
  have hF8 : 8 < F := by omega
  unfold f_ObjectFile_readError
  rw [c_o o1, bs, k_isHeadGood hc ho hF8, xb_mk]
  have hE : ∀ x, eObj (cb S base n) n = x → x ≠ 0 → ∀ τ', frO q g τ τ' → ∃ τ'', frO q g τ τ'' ∧ (some (nI x, cH sk L τ') : Option (Int32 × px_H)) = some (nI (eObj (cb S base n) n), cH sk L τ'') ∧ (eObj (cb S base n) n = 0 → cD sk L τ'' q g base n S) := by
    intro x hx hx0 τ' hf
    refine ⟨τ', hf, by rw [hx], fun e => ?_⟩
    rw [hx] at e
    exact absurd e hx0
  by_cases c1 : (decide (64 ≤ n) && oH (cb S base n)) = true
  · have c1' := (Bool.and_eq_true _ _).mp c1
    have hn64 : 64 ≤ n := of_decide_eq_true c1'.1
    have n1 : ¬ (n < 64 ∨ oH (cb S base n) = false) := fun e => e.elim (fun e => by omega) (fun e => by rw [e] at c1'; exact absurd c1'.2 (by decide))
    rw [c1, if_neg (show ¬ bI true = 0 by decide), c_o o1, bs]
    obtain ⟨τ1, f1, f2, f3, f4, f5⟩ := k_areRowsGood (c := c) (g := g) ho hF8 hn64 hg
    rw [f2, xb_mk]
    by_cases c2 : 1 ≤ oS (cb S base n) ∧ oS (cb S base n) ≤ 24 ∧ oR (cb S base n) + 64 * oS (cb S base n) ≤ n ∧ oT (cb S base n) 0 = 0
    · have hr := f3 c2
      rw [decide_eq_true c2, if_neg (show ¬ bI true = 0 by decide), c_o o1, bs]
      obtain ⟨τ2, g1, g2, g3, g4⟩ := k_sectionsError (c := c) hr (show 24 < F by omega) ((f1.2.2.1 q 3).trans h3) hga hg
      rw [g2, xb_mk]
      have hle := fst0_le (M := 4) (fun i => eSec_3 (cb S base n) n i) (c := oS (cb S base n)) (i := 0)
      have fr2 := frO_trans f1 g1
      by_cases c3 : fst0 (eSec (cb S base n) n) 0 (oS (cb S base n)) = 0
      · have hw : w1 (cb S base n) n := ⟨hn64, ⟨c2.1, c2.2.1⟩, c2.2.2.1, fun i hi => (eSec_w (fst0_0 c3 i (Nat.zero_le _) (by omega))).1, fun i hi => (eSec_w (fst0_0 c3 i (Nat.zero_le _) (by omega))).2.1⟩
        have hA : ∀ i, i < oS (cb S base n) → oK (cb S base n) i = true → oA (cb S base n) i ≤ 4096 := by
          intro i hi hk
          rcases (eSec_w (fst0_0 c3 i (Nat.zero_le _) (by omega))).2.2 hk with e | e
          · rw [e]; decide
          · exact (of_decide_eq_true e).2.1
        have hr2 := cR_fr hr g1 hg (g4 7) (g4 8)
        rw [c3, if_pos (show nI 0 = 0 from rfl), c_o o1, bs]
        obtain ⟨τ3, i1, i2, i3, i4, i5, i6⟩ := k_findSymbols (c := c) hw c2.2.2.2 hr2 (show 24 < F by omega) hg ((g4 9).trans (f4.trans h9)) ((g4 11).trans (f5.trans h11))
        rw [i2, xb_mk]
        have fr3 := frO_trans fr2 i1
        have eO : eObj (cb S base n) n = if eSym (cb S base n) ≠ 0 then eSym (cb S base n) else if eSit (cb S base n) ≠ 0 then eSit (cb S base n) else eGrp (cb S base n) := by
          unfold eObj
          rw [if_neg n1, if_neg (fun e => e c2), if_neg (fun e => e c3)]
        by_cases c4 : eS1 (cb S base n) = true
        · have hcY := i6 c4
          have hw2 : w2 (cb S base n) n := ⟨hw, fun d => (of_decide_eq_true c4).2.resolve_left d⟩
          have hG3 : cG sk L τ3 q g base n S := ⟨cR_fr hr2 i1 hg i3 i4, (fr3.2.2.1 q 3).trans h3, hga, hg, by rw [i5]; exact g3 c3⟩
          have hs : cS sk L τ3 q g base n S := ⟨hG3, hcY, hw2⟩
          have h71' : fI τ3 7 1 = nI ss := (fr3.1 7 1 (Or.inl (fun e => hq7 e.symm))).trans h71
          have hM := w2_M hw2
          rw [c4, if_neg (show ¬ bI true = 0 by decide), k_rE_40 hs hF h71' hss hss2 (oM (cb S base n) - 1) 1 F rfl (by decide) (by decide) (by omega)]
          by_cases c5 : al (yOK (cb S base n)) 1 (oM (cb S base n) - 1) = true
          · have e0 : eSym (cb S base n) = 0 := by rw [eSym_eq, if_pos c4, if_pos c5]
            rw [if_pos c5]
            unfold f_ObjectFile_readError_65
            obtain ⟨M', j1⟩ := k_areSitesGood (c := c) hs hF c2.2.2.2 hm hn hg139
            rw [c_o o1, bs, j1, xb_mk]
            have fr4 := frO_trans fr3 (frO_m q g τ3 M')
            have hs4 : cS sk L (vI τ3 139 M') q g base n S := cS_fr hs (frO_m q g τ3 M') (fun _ _ => rfl) (u1_ne hg139)
            by_cases c6 : eSit (cb S base n) = 0
            · rw [decide_eq_true c6, if_neg (show ¬ bI true = 0 by decide), c_o o1, bs, k_areGroupsGood hs4 hF c2.2.2.2, xb_mk]
              by_cases c7 : eGrp (cb S base n) = 0
              · obtain ⟨x', l1, l2⟩ := k_findStrings (c := c) hs4 (show 24 < F by omega) hA
                have eO0 : eObj (cb S base n) n = 0 := by rw [eO, if_neg (fun e => e e0), if_neg (fun e => e c6), c7]
                rw [decide_eq_true c7, if_neg (show ¬ bI true = 0 by decide), c_o o1, bs, l2, xb_mk]
                refine ⟨_, frO_trans fr4 (frO_I q g _ 14 x' (by decide) (by decide)), by rw [eO0], fun _ => ⟨cS_14 hs4 x', ?_, eO0⟩⟩
                intro v hv
                show bt (u2 (vI τ3 139 M').1 q 14 x' q 14) v = _
                rw [u2_eq]
                exact l1 v hv
              · rw [decide_eq_false c7, if_pos (show bI false = 0 from rfl)]
                have e9 : eGrp (cb S base n) = 9 := by
                  unfold eGrp at c7 ⊢
                  by_cases d : gs (cb S base n) 1 (oS (cb S base n) - 1) (fun _ => false) = true
                  · rw [if_pos d] at c7; exact absurd rfl c7
                  · rw [if_neg d]
                exact hE 9 (by rw [eO, if_neg (fun e => e e0), if_neg (fun e => e c6), e9]) (by decide) _ fr4
            · rw [decide_eq_false c6, if_pos (show bI false = 0 from rfl)]
              have e7 : eSit (cb S base n) = 7 := by
                unfold eSit at c6 ⊢
                by_cases d : al (fun i => !isS (cb S base n) i || sSec (cb S base n) i) 1 (oS (cb S base n) - 1) = true
                · rw [if_pos d] at c6; exact absurd rfl c6
                · rw [if_neg d]
              exact hE 7 (by rw [eO, if_neg (fun e => e e0), if_pos c6, e7]) (by decide) _ fr4
          · rw [if_neg c5]
            have e6 : eSym (cb S base n) = 6 := by rw [eSym_eq, if_pos c4, if_neg c5]
            exact hE 6 (by rw [eO, e6, if_pos (by decide)]) (by decide) _ fr3
        · rw [Bool.eq_false_iff.mpr c4, if_pos (show bI false = 0 from rfl)]
          have e5 : eSym (cb S base n) = 5 := by rw [eSym_eq, if_neg c4]
          exact hE 5 (by rw [eO, e5, if_pos (by decide)]) (by decide) _ fr3
      · rw [if_neg (show ¬ nI (fst0 (eSec (cb S base n) n) 0 (oS (cb S base n))) = 0 from nI_ne0 (by omega) (by omega))]
        refine hE _ ?_ c3 _ fr2
        unfold eObj
        rw [if_neg n1, if_neg (fun e => e c2), if_pos c3]
    · rw [decide_eq_false c2, if_pos (show bI false = 0 from rfl)]
      refine hE 2 ?_ (by decide) _ f1
      unfold eObj
      rw [if_neg n1, if_pos c2]
  · rw [Bool.eq_false_iff.mpr c1, if_pos (show bI false = 0 from rfl)]
    refine hE 1 ?_ (by decide) _ (frO_refl _ _ _)
    unfold eObj
    refine if_pos ?_
    by_cases d : n < 64
    · exact Or.inl d
    · right
      apply Bool.eq_false_iff.mpr
      intro e
      exact c1 (by rw [e, decide_eq_true (by omega)]; rfl)
end CRD
end
section
/-! what stands where: the class's cells as its constructor makes them -/
def ksA : List (Nat × Nat × Nat) := [(0, 0, 0), (0, 10, 0), (1, 0, 8192), (0, 10, 0), (1, 0, 65536), (0, 10, 0), (1, 0, 65536), (0, 10, 0), (1, 0, 65536), (1, 4, 64)]
def ksB : List (Nat × Nat × Nat) := [(1, 1, 9), (1, 1, 8192), (0, 6, 0), (1, 5, 16), (0, 5, 0), (0, 6, 0), (1, 5, 16), (0, 5, 0), (0, 5, 0), (0, 3, 0), (0, 6, 0), (1, 5, 4128), (0, 5, 0), (1, 6, 1536)]
def ksC : List (Nat × Nat × Nat) := [(0, 8, 0), (1, 4, 64), (0, 7, 0), (1, 0, 24), (1, 5, 4096), (1, 5, 4128), (1, 6, 1536), (0, 5, 0), (0, 5, 0), (0, 9, 0), (1, 1, 32769), (1, 1, 32769), (0, 2, 0), (1, 6, 1536), (0, 8, 0), (1, 3, 4), (1, 2, 4), (1, 2, 4), (1, 2, 4), (1, 2, 4), (1, 1, 8192), (1, 1, 8192), (0, 1, 0), (0, 10, 0), (1, 0, 65536), (0, 11, 0), (0, 10, 0), (1, 0, 1536), (1, 1, 4096), (1, 5, 64), (0, 4, 0), (0, 10, 0), (1, 0, 65536), (1, 2, 8), (1, 2, 8), (1, 2, 8), (1, 1, 8), (1, 2, 8)]
def ks (a : Nat) : Nat × Nat × Nat := if a < 10 then ksA.getD a (9, 0, 0) else if a < 138 then (if a % 2 = 0 then (0, 7, 0) else (1, 0, 24)) else if a < 152 then ksB.getD (a - 138) (9, 0, 0) else if a < 1688 then (0, 8, 0) else ksC.getD (a - 1688) (9, 0, 0)
/-- the references that never change -/
def grl : List (Nat × Nat × Nat) := [(0, 0, 1), (0, 3, 7), (0, 4, 9), (0, 5, 138), (0, 7, 139), (0, 8, 140), (0, 9, 143), (0, 10, 146), (0, 11, 147), (0, 12, 1697), (0, 13, 1700), (0, 14, 1710), (0, 15, 1713), (0, 16, 1718), (1, 0, 2), (3, 0, 4), (5, 0, 6), (7, 0, 8), (1711, 0, 1712), (1714, 0, 1715), (1719, 0, 1720), (140, 0, 141), (140, 1, 142), (143, 0, 144), (143, 1, 145), (148, 0, 149), (148, 1, 150), (147, 0, 9), (147, 1, 140), (147, 2, 143), (147, 3, 148), (147, 4, 151), (147, 5, 1688), (147, 6, 1689), (147, 7, 1690), (147, 8, 1692), (147, 9, 1693), (147, 10, 1694), (147, 11, 1695), (147, 12, 1696), (1690, 0, 7), (1690, 3, 1691), (1697, 0, 7), (1697, 1, 1698), (1697, 2, 1699), (1700, 0, 147), (1700, 1, 1697), (1700, 2, 1701), (1700, 3, 1702), (1700, 4, 1703), (1700, 5, 1704), (1700, 6, 1705), (1700, 7, 1706), (1700, 8, 1707), (1700, 9, 1708), (1700, 10, 1709), (1710, 0, 147), (1710, 1, 1700), (1710, 2, 1697), (1710, 3, 7), (1710, 4, 1711), (1713, 0, 147), (1713, 1, 1700), (1713, 2, 7), (1713, 3, 1714), (1713, 4, 1716), (1713, 5, 1717), (1718, 0, 1719), (1718, 1, 1721), (1718, 2, 1722), (1718, 3, 1723), (1718, 4, 1724), (1718, 5, 1725)]
def GS (sk : Nat → Nat × Nat × Nat) (L : Nat) : Prop := 1815 ≤ L ∧ ∀ a, a < 1726 → sk a = ks a
def GR (τ : px_TT) : Prop := (∀ x, x ∈ grl → fN τ x.1 x.2.1 = some x.2.2) ∧ (∀ i, i < 64 → fN τ (10 + 2 * i) 0 = some 7 ∧ fN τ (10 + 2 * i) 3 = some (11 + 2 * i) ∧ eN τ 9 i = some (10 + 2 * i) ∧ fI τ (10 + 2 * i) 1 = nI (i / 8) ∧ fI τ (10 + 2 * i) 2 = nI (i % 8)) ∧ (∀ i, i < 1536 → eN τ 151 i = some (152 + i))
theorem GS_o {sk : Nat → Nat × Nat × Nat} {L a ci : Nat} (h : GS sk L) (ha : a < 1726) (hk : ks a = (0, ci, 0)) : ob sk L ci a := ⟨(h.2 a ha).trans hk, Nat.lt_of_lt_of_le ha (Nat.le_trans (by decide) h.1)⟩
theorem GS_a {sk : Nat → Nat × Nat × Nat} {L a t n : Nat} (h : GS sk L) (ha : a < 1726) (hk : ks a = (1, t, n)) : ar sk L t n a := ⟨(h.2 a ha).trans hk, Nat.lt_of_lt_of_le ha (Nat.le_trans (by decide) h.1)⟩
theorem GR_r {τ : px_TT} {a k v : Nat} (h : GR τ) (hm : (a, k, v) ∈ grl) : fN τ a k = some v := h.1 (a, k, v) hm
theorem ks_of (i : Nat) (hi : i < 64) : ks (10 + 2 * i) = (0, 7, 0) ∧ ks (11 + 2 * i) = (1, 0, 24) := by
  unfold ks
  rw [if_neg (by omega), if_pos (by omega), if_pos (by omega), if_neg (by omega), if_pos (by omega), if_neg (by omega)]
  exact ⟨rfl, rfl⟩
theorem ks_part (i : Nat) (hi : i < 1536) : ks (152 + i) = (0, 8, 0) := by
  unfold ks
  rw [if_neg (by omega), if_neg (by omega), if_neg (by omega), if_pos (by omega)]
section GSX
variable {sk : Nat → Nat × Nat × Nat} {L : Nat}
theorem G_of (h : GS sk L) {i : Nat} (hi : i < 64) : ob sk L 7 (10 + 2 * i) := GS_o h (by omega) (ks_of i hi).1
theorem G_og (h : GS sk L) {i : Nat} (hi : i < 64) : ar sk L 0 24 (11 + 2 * i) := GS_a h (by omega) (ks_of i hi).2
theorem G_part (h : GS sk L) {i : Nat} (hi : i < 1536) : ob sk L 8 (152 + i) := GS_o h (by omega) (ks_part i hi)
theorem G0 (h : GS sk L) : ob sk L 0 0 := GS_o h (by decide) (by decide)
theorem G1 (h : GS sk L) : ob sk L 10 1 := GS_o h (by decide) (by decide)
theorem G2 (h : GS sk L) : ar sk L 0 8192 2 := GS_a h (by decide) (by decide)
theorem G3 (h : GS sk L) : ob sk L 10 3 := GS_o h (by decide) (by decide)
theorem G4 (h : GS sk L) : ar sk L 0 65536 4 := GS_a h (by decide) (by decide)
theorem G5 (h : GS sk L) : ob sk L 10 5 := GS_o h (by decide) (by decide)
theorem G6 (h : GS sk L) : ar sk L 0 65536 6 := GS_a h (by decide) (by decide)
theorem G7 (h : GS sk L) : ob sk L 10 7 := GS_o h (by decide) (by decide)
theorem G8 (h : GS sk L) : ar sk L 0 65536 8 := GS_a h (by decide) (by decide)
theorem G9 (h : GS sk L) : ar sk L 4 64 9 := GS_a h (by decide) (by decide)
theorem G138 (h : GS sk L) : ar sk L 1 9 138 := GS_a h (by decide) (by decide)
theorem G139 (h : GS sk L) : ar sk L 1 8192 139 := GS_a h (by decide) (by decide)
theorem G140 (h : GS sk L) : ob sk L 6 140 := GS_o h (by decide) (by decide)
theorem G141 (h : GS sk L) : ar sk L 5 16 141 := GS_a h (by decide) (by decide)
theorem G142 (h : GS sk L) : ob sk L 5 142 := GS_o h (by decide) (by decide)
theorem G143 (h : GS sk L) : ob sk L 6 143 := GS_o h (by decide) (by decide)
theorem G144 (h : GS sk L) : ar sk L 5 16 144 := GS_a h (by decide) (by decide)
theorem G145 (h : GS sk L) : ob sk L 5 145 := GS_o h (by decide) (by decide)
theorem G146 (h : GS sk L) : ob sk L 5 146 := GS_o h (by decide) (by decide)
theorem G147 (h : GS sk L) : ob sk L 3 147 := GS_o h (by decide) (by decide)
theorem G148 (h : GS sk L) : ob sk L 6 148 := GS_o h (by decide) (by decide)
theorem G149 (h : GS sk L) : ar sk L 5 4128 149 := GS_a h (by decide) (by decide)
theorem G150 (h : GS sk L) : ob sk L 5 150 := GS_o h (by decide) (by decide)
theorem G151 (h : GS sk L) : ar sk L 6 1536 151 := GS_a h (by decide) (by decide)
theorem G1688 (h : GS sk L) : ob sk L 8 1688 := GS_o h (by decide) (by decide)
theorem G1689 (h : GS sk L) : ar sk L 4 64 1689 := GS_a h (by decide) (by decide)
theorem G1690 (h : GS sk L) : ob sk L 7 1690 := GS_o h (by decide) (by decide)
theorem G1691 (h : GS sk L) : ar sk L 0 24 1691 := GS_a h (by decide) (by decide)
theorem G1692 (h : GS sk L) : ar sk L 5 4096 1692 := GS_a h (by decide) (by decide)
theorem G1693 (h : GS sk L) : ar sk L 5 4128 1693 := GS_a h (by decide) (by decide)
theorem G1694 (h : GS sk L) : ar sk L 6 1536 1694 := GS_a h (by decide) (by decide)
theorem G1695 (h : GS sk L) : ob sk L 5 1695 := GS_o h (by decide) (by decide)
theorem G1696 (h : GS sk L) : ob sk L 5 1696 := GS_o h (by decide) (by decide)
theorem G1697 (h : GS sk L) : ob sk L 9 1697 := GS_o h (by decide) (by decide)
theorem G1698 (h : GS sk L) : ar sk L 1 32769 1698 := GS_a h (by decide) (by decide)
theorem G1699 (h : GS sk L) : ar sk L 1 32769 1699 := GS_a h (by decide) (by decide)
theorem G1700 (h : GS sk L) : ob sk L 2 1700 := GS_o h (by decide) (by decide)
theorem G1701 (h : GS sk L) : ar sk L 6 1536 1701 := GS_a h (by decide) (by decide)
theorem G1702 (h : GS sk L) : ob sk L 8 1702 := GS_o h (by decide) (by decide)
theorem G1703 (h : GS sk L) : ar sk L 3 4 1703 := GS_a h (by decide) (by decide)
theorem G1704 (h : GS sk L) : ar sk L 2 4 1704 := GS_a h (by decide) (by decide)
theorem G1705 (h : GS sk L) : ar sk L 2 4 1705 := GS_a h (by decide) (by decide)
theorem G1706 (h : GS sk L) : ar sk L 2 4 1706 := GS_a h (by decide) (by decide)
theorem G1707 (h : GS sk L) : ar sk L 2 4 1707 := GS_a h (by decide) (by decide)
theorem G1708 (h : GS sk L) : ar sk L 1 8192 1708 := GS_a h (by decide) (by decide)
theorem G1709 (h : GS sk L) : ar sk L 1 8192 1709 := GS_a h (by decide) (by decide)
theorem G1710 (h : GS sk L) : ob sk L 1 1710 := GS_o h (by decide) (by decide)
theorem G1711 (h : GS sk L) : ob sk L 10 1711 := GS_o h (by decide) (by decide)
theorem G1712 (h : GS sk L) : ar sk L 0 65536 1712 := GS_a h (by decide) (by decide)
theorem G1713 (h : GS sk L) : ob sk L 11 1713 := GS_o h (by decide) (by decide)
theorem G1714 (h : GS sk L) : ob sk L 10 1714 := GS_o h (by decide) (by decide)
theorem G1715 (h : GS sk L) : ar sk L 0 1536 1715 := GS_a h (by decide) (by decide)
theorem G1716 (h : GS sk L) : ar sk L 1 4096 1716 := GS_a h (by decide) (by decide)
theorem G1717 (h : GS sk L) : ar sk L 5 64 1717 := GS_a h (by decide) (by decide)
theorem G1718 (h : GS sk L) : ob sk L 4 1718 := GS_o h (by decide) (by decide)
theorem G1719 (h : GS sk L) : ob sk L 10 1719 := GS_o h (by decide) (by decide)
theorem G1720 (h : GS sk L) : ar sk L 0 65536 1720 := GS_a h (by decide) (by decide)
theorem G1721 (h : GS sk L) : ar sk L 2 8 1721 := GS_a h (by decide) (by decide)
theorem G1722 (h : GS sk L) : ar sk L 2 8 1722 := GS_a h (by decide) (by decide)
theorem G1723 (h : GS sk L) : ar sk L 2 8 1723 := GS_a h (by decide) (by decide)
theorem G1724 (h : GS sk L) : ar sk L 1 8 1724 := GS_a h (by decide) (by decide)
theorem G1725 (h : GS sk L) : ar sk L 2 8 1725 := GS_a h (by decide) (by decide)
theorem R0_0 {τ : px_TT} (h : GR τ) : fN τ 0 0 = some 1 := GR_r h (by decide)
theorem R0_3 {τ : px_TT} (h : GR τ) : fN τ 0 3 = some 7 := GR_r h (by decide)
theorem R0_4 {τ : px_TT} (h : GR τ) : fN τ 0 4 = some 9 := GR_r h (by decide)
theorem R0_5 {τ : px_TT} (h : GR τ) : fN τ 0 5 = some 138 := GR_r h (by decide)
theorem R0_7 {τ : px_TT} (h : GR τ) : fN τ 0 7 = some 139 := GR_r h (by decide)
theorem R0_8 {τ : px_TT} (h : GR τ) : fN τ 0 8 = some 140 := GR_r h (by decide)
theorem R0_9 {τ : px_TT} (h : GR τ) : fN τ 0 9 = some 143 := GR_r h (by decide)
theorem R0_10 {τ : px_TT} (h : GR τ) : fN τ 0 10 = some 146 := GR_r h (by decide)
theorem R0_11 {τ : px_TT} (h : GR τ) : fN τ 0 11 = some 147 := GR_r h (by decide)
theorem R0_12 {τ : px_TT} (h : GR τ) : fN τ 0 12 = some 1697 := GR_r h (by decide)
theorem R0_13 {τ : px_TT} (h : GR τ) : fN τ 0 13 = some 1700 := GR_r h (by decide)
theorem R0_14 {τ : px_TT} (h : GR τ) : fN τ 0 14 = some 1710 := GR_r h (by decide)
theorem R0_15 {τ : px_TT} (h : GR τ) : fN τ 0 15 = some 1713 := GR_r h (by decide)
theorem R0_16 {τ : px_TT} (h : GR τ) : fN τ 0 16 = some 1718 := GR_r h (by decide)
theorem R1_0 {τ : px_TT} (h : GR τ) : fN τ 1 0 = some 2 := GR_r h (by decide)
theorem R3_0 {τ : px_TT} (h : GR τ) : fN τ 3 0 = some 4 := GR_r h (by decide)
theorem R5_0 {τ : px_TT} (h : GR τ) : fN τ 5 0 = some 6 := GR_r h (by decide)
theorem R7_0 {τ : px_TT} (h : GR τ) : fN τ 7 0 = some 8 := GR_r h (by decide)
theorem R1711_0 {τ : px_TT} (h : GR τ) : fN τ 1711 0 = some 1712 := GR_r h (by decide)
theorem R1714_0 {τ : px_TT} (h : GR τ) : fN τ 1714 0 = some 1715 := GR_r h (by decide)
theorem R1719_0 {τ : px_TT} (h : GR τ) : fN τ 1719 0 = some 1720 := GR_r h (by decide)
theorem R140_0 {τ : px_TT} (h : GR τ) : fN τ 140 0 = some 141 := GR_r h (by decide)
theorem R140_1 {τ : px_TT} (h : GR τ) : fN τ 140 1 = some 142 := GR_r h (by decide)
theorem R143_0 {τ : px_TT} (h : GR τ) : fN τ 143 0 = some 144 := GR_r h (by decide)
theorem R143_1 {τ : px_TT} (h : GR τ) : fN τ 143 1 = some 145 := GR_r h (by decide)
theorem R148_0 {τ : px_TT} (h : GR τ) : fN τ 148 0 = some 149 := GR_r h (by decide)
theorem R148_1 {τ : px_TT} (h : GR τ) : fN τ 148 1 = some 150 := GR_r h (by decide)
theorem R147_0 {τ : px_TT} (h : GR τ) : fN τ 147 0 = some 9 := GR_r h (by decide)
theorem R147_1 {τ : px_TT} (h : GR τ) : fN τ 147 1 = some 140 := GR_r h (by decide)
theorem R147_2 {τ : px_TT} (h : GR τ) : fN τ 147 2 = some 143 := GR_r h (by decide)
theorem R147_3 {τ : px_TT} (h : GR τ) : fN τ 147 3 = some 148 := GR_r h (by decide)
theorem R147_4 {τ : px_TT} (h : GR τ) : fN τ 147 4 = some 151 := GR_r h (by decide)
theorem R147_5 {τ : px_TT} (h : GR τ) : fN τ 147 5 = some 1688 := GR_r h (by decide)
theorem R147_6 {τ : px_TT} (h : GR τ) : fN τ 147 6 = some 1689 := GR_r h (by decide)
theorem R147_7 {τ : px_TT} (h : GR τ) : fN τ 147 7 = some 1690 := GR_r h (by decide)
theorem R147_8 {τ : px_TT} (h : GR τ) : fN τ 147 8 = some 1692 := GR_r h (by decide)
theorem R147_9 {τ : px_TT} (h : GR τ) : fN τ 147 9 = some 1693 := GR_r h (by decide)
theorem R147_10 {τ : px_TT} (h : GR τ) : fN τ 147 10 = some 1694 := GR_r h (by decide)
theorem R147_11 {τ : px_TT} (h : GR τ) : fN τ 147 11 = some 1695 := GR_r h (by decide)
theorem R147_12 {τ : px_TT} (h : GR τ) : fN τ 147 12 = some 1696 := GR_r h (by decide)
theorem R1690_0 {τ : px_TT} (h : GR τ) : fN τ 1690 0 = some 7 := GR_r h (by decide)
theorem R1690_3 {τ : px_TT} (h : GR τ) : fN τ 1690 3 = some 1691 := GR_r h (by decide)
theorem R1697_0 {τ : px_TT} (h : GR τ) : fN τ 1697 0 = some 7 := GR_r h (by decide)
theorem R1697_1 {τ : px_TT} (h : GR τ) : fN τ 1697 1 = some 1698 := GR_r h (by decide)
theorem R1697_2 {τ : px_TT} (h : GR τ) : fN τ 1697 2 = some 1699 := GR_r h (by decide)
theorem R1700_0 {τ : px_TT} (h : GR τ) : fN τ 1700 0 = some 147 := GR_r h (by decide)
theorem R1700_1 {τ : px_TT} (h : GR τ) : fN τ 1700 1 = some 1697 := GR_r h (by decide)
theorem R1700_2 {τ : px_TT} (h : GR τ) : fN τ 1700 2 = some 1701 := GR_r h (by decide)
theorem R1700_3 {τ : px_TT} (h : GR τ) : fN τ 1700 3 = some 1702 := GR_r h (by decide)
theorem R1700_4 {τ : px_TT} (h : GR τ) : fN τ 1700 4 = some 1703 := GR_r h (by decide)
theorem R1700_5 {τ : px_TT} (h : GR τ) : fN τ 1700 5 = some 1704 := GR_r h (by decide)
theorem R1700_6 {τ : px_TT} (h : GR τ) : fN τ 1700 6 = some 1705 := GR_r h (by decide)
theorem R1700_7 {τ : px_TT} (h : GR τ) : fN τ 1700 7 = some 1706 := GR_r h (by decide)
theorem R1700_8 {τ : px_TT} (h : GR τ) : fN τ 1700 8 = some 1707 := GR_r h (by decide)
theorem R1700_9 {τ : px_TT} (h : GR τ) : fN τ 1700 9 = some 1708 := GR_r h (by decide)
theorem R1700_10 {τ : px_TT} (h : GR τ) : fN τ 1700 10 = some 1709 := GR_r h (by decide)
theorem R1710_0 {τ : px_TT} (h : GR τ) : fN τ 1710 0 = some 147 := GR_r h (by decide)
theorem R1710_1 {τ : px_TT} (h : GR τ) : fN τ 1710 1 = some 1700 := GR_r h (by decide)
theorem R1710_2 {τ : px_TT} (h : GR τ) : fN τ 1710 2 = some 1697 := GR_r h (by decide)
theorem R1710_3 {τ : px_TT} (h : GR τ) : fN τ 1710 3 = some 7 := GR_r h (by decide)
theorem R1710_4 {τ : px_TT} (h : GR τ) : fN τ 1710 4 = some 1711 := GR_r h (by decide)
theorem R1713_0 {τ : px_TT} (h : GR τ) : fN τ 1713 0 = some 147 := GR_r h (by decide)
theorem R1713_1 {τ : px_TT} (h : GR τ) : fN τ 1713 1 = some 1700 := GR_r h (by decide)
theorem R1713_2 {τ : px_TT} (h : GR τ) : fN τ 1713 2 = some 7 := GR_r h (by decide)
theorem R1713_3 {τ : px_TT} (h : GR τ) : fN τ 1713 3 = some 1714 := GR_r h (by decide)
theorem R1713_4 {τ : px_TT} (h : GR τ) : fN τ 1713 4 = some 1716 := GR_r h (by decide)
theorem R1713_5 {τ : px_TT} (h : GR τ) : fN τ 1713 5 = some 1717 := GR_r h (by decide)
theorem R1718_0 {τ : px_TT} (h : GR τ) : fN τ 1718 0 = some 1719 := GR_r h (by decide)
theorem R1718_1 {τ : px_TT} (h : GR τ) : fN τ 1718 1 = some 1721 := GR_r h (by decide)
theorem R1718_2 {τ : px_TT} (h : GR τ) : fN τ 1718 2 = some 1722 := GR_r h (by decide)
theorem R1718_3 {τ : px_TT} (h : GR τ) : fN τ 1718 3 = some 1723 := GR_r h (by decide)
theorem R1718_4 {τ : px_TT} (h : GR τ) : fN τ 1718 4 = some 1724 := GR_r h (by decide)
theorem R1718_5 {τ : px_TT} (h : GR τ) : fN τ 1718 5 = some 1725 := GR_r h (by decide)
end GSX
end
