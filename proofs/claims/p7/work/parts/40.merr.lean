/-! the reference's errors of sections and symbols -/
/-- the error of the symbols -/
def eSym (b : Nat → Nat) : Nat := if 1 < cnt (fun i => decide (oT b i = 2)) 1 (oS b - 1) then 5 else if oY b = 0 then 0 else if oZ b (oY b) % 24 = 0 ∧ oZ b (oY b) ≤ 1536 ∧ oX b < oS b ∧ oT b (oX b) = 3 then (if al (yOK b) 1 (oM b - 1) = true then 0 else 6) else 5
theorem cnt_0 {p : Nat → Bool} : ∀ {c i : Nat}, 1 ≤ i → (cnt p i c = 0 ↔ fnd p 0 i c = 0)
  | 0, i, _ => by simp [cnt, fnd]
  | c + 1, i, hi => by
    unfold cnt fnd
    by_cases h : p i = true
    · rw [if_pos h, if_pos h]; omega
    · rw [if_neg h, if_neg h, Nat.zero_add]
      exact cnt_0 (by omega)
theorem cnt_le {p : Nat → Bool} : ∀ {c i : Nat}, cnt p i c ≤ c
  | 0, _ => Nat.le_refl _
  | c + 1, i => by
    have := @cnt_le p c (i + 1)
    unfold cnt
    split <;> omega
section ERR
variable {F : Nat} {h : px_H} {m o n : Nat} {B : Nat → Int32}
theorem q_isHeader (hb : mb h m B) (hF : 8 < F) (ho : 64 ≤ n ∧ o + n ≤ 65536) : f_M_isHeader F m (nI o) h = some (bI (oH (cb B o n)), h) := by
  obtain ⟨fs, h1⟩ := mb_o hb
  have k0 : (0 : Int32) = nI 0 := rfl
  have k1 : (nI 1 = nI 0) ↔ False := by decide
  have L2 : ∀ x, le (cb B o n) x 2 < 2 ^ 64 := fun x => Nat.lt_of_lt_of_le (le_lt (cb_lt B o n) x 2) (by decide)
  have L4 : ∀ x, le (cb B o n) x 4 < 2 ^ 64 := fun x => Nat.lt_of_lt_of_le (le_lt (cb_lt B o n) x 4) (by decide)
  have L7 : ∀ x, le (cb B o n) x 7 < 2 ^ 64 := fun x => Nat.lt_of_lt_of_le (le_lt (cb_lt B o n) x 7) (by decide)
  have q0 : f_M_num F m (nI o) (nI 7) h = some (lN (le (cb B o n) 0 7), h) := q_numo (x := 0) hb hF (by decide) ho.2 (by omega)
  have q1 : f_M_num F m (nI (o + 16)) (nI 2) h = some (lN (le (cb B o n) 16 2), h) := q_numo hb hF (by decide) ho.2 (by omega)
  have q2 : f_M_num F m (nI (o + 18)) (nI 2) h = some (lN (le (cb B o n) 18 2), h) := q_numo hb hF (by decide) ho.2 (by omega)
  have q3 : f_M_num F m (nI (o + 20)) (nI 4) h = some (lN (le (cb B o n) 20 4), h) := q_numo hb hF (by decide) ho.2 (by omega)
  have q4 : f_M_num F m (nI (o + 52)) (nI 2) h = some (lN (le (cb B o n) 52 2), h) := q_numo hb hF (by decide) ho.2 (by omega)
  have q5 : f_M_num F m (nI (o + 58)) (nI 2) h = some (lN (le (cb B o n) 58 2), h) := q_numo hb hF (by decide) ho.2 (by omega)
  simp only [f_M_isHeader, f_M_isHeader_104, f_M_isHeader_105, f_M_isHeader_62, f_M_isHeader_63, h1, bs, xb_mk, nI_add, q0, q1, q2, q3, q4, q5, lk, lEQ (L7 0) (show 282584257676671 < 2 ^ 64 by decide), lEQ (L2 16) (show 1 < 2 ^ 64 by decide), lEQ (L2 18) (show 62 < 2 ^ 64 by decide), lEQ (L4 20) (show 1 < 2 ^ 64 by decide), lEQ (L2 52) (show 64 < 2 ^ 64 by decide), lEQ (L2 58) (show 64 < 2 ^ 64 by decide), k0, k1, if_true, if_false, xz_0, xz_1]
  unfold oH
  generalize le (cb B o n) 0 7 = x0
  generalize le (cb B o n) 16 2 = x1
  generalize le (cb B o n) 18 2 = x2
  generalize le (cb B o n) 20 4 = x3
  generalize le (cb B o n) 52 2 = x4
  generalize le (cb B o n) 58 2 = x5
  by_cases c0 : x0 = 282584257676671
  · by_cases c1 : x1 = 1
    · by_cases c2 : x2 = 62
      · by_cases c3 : x3 = 1
        · by_cases c4 : x4 = 64 <;> by_cases c5 : x5 = 64 <;> simp [c0, c1, c2, c3, c4, c5]
        · simp [c0, c1, c2, c3]
      · simp [c0, c1, c2]
    · simp [c0, c1]
  · simp [c0]
theorem q_sectionError {i : Nat} (hb : mb h m B) (hF : 8 < F) (ho : rk B o n) (hi : i < oS (cb B o n)) (hn : n ≤ 65536) : f_M_sectionError F m (nI o) (nI n) (nI i) h = some (nI (eSec (cb B o n) n i), h) := by
  obtain ⟨fs, h1⟩ := mb_o hb
  have e1 := oT_lt (cb_lt B o n) i
  have e2 := oP_lt (cb_lt B o n) i
  have e3 := oZ_lt (cb_lt B o n) i
  have e4 := oA_lt (cb_lt B o n) i
  have k0 : (0 : Int32) = nI 0 := rfl
  have k1 : (nI 1 = nI 0) ↔ False := by decide
  have a1 := lEQ (show oT (cb B o n) i < 2 ^ 64 by omega) (show 0 < 2 ^ 64 by decide)
  have a2 := lEQ (show oT (cb B o n) i < 2 ^ 64 by omega) (show 8 < 2 ^ 64 by decide)
  have a3 := lEQ e4 (show 0 < 2 ^ 64 by decide)
  have eF : (2 ^ 63 ≤ oZ (cb B o n) i ∨ ¬ lN (oZ (cb B o n) i) ≤ lN 16384) ↔ 16384 < oZ (cb B o n) i := by
    by_cases cz : 2 ^ 63 ≤ oZ (cb B o n) i
    · exact ⟨fun _ => Nat.lt_of_lt_of_le (by decide) cz, fun _ => Or.inl cz⟩
    · rw [pk_lLE (by omega) (by decide)]
      exact ⟨fun q => Nat.not_le.mp (q.resolve_left cz), fun q => Or.inr (Nat.not_le.mpr q)⟩
  simp only [f_M_sectionError, f_M_sectionError_116, f_M_sectionError_120, f_M_sectionError_121, f_M_sectionError_46, f_M_sectionError_81, f_M_sectionError_86, h1, bs, xb_mk, q_type hb hF ho hi, q_beginning hb hF ho hi, q_size hb hF ho hi, q_align hb hF ho hi, q_isKept hb hF ho hi, nI_l (show n < 2 ^ 31 by omega), q_lies e2 e3 (show n < 2 ^ 62 by omega), q_isPower e4, lk, k0, k1, a1, a2, a3, lN_neg e3, bI_0, if_true, if_false]
  unfold eSec
  generalize oK (cb B o n) i = K
  generalize isP (oA (cb B o n) i) = P
  generalize oT (cb B o n) i = t at *
  generalize oP (cb B o n) i = p at *
  generalize oZ (cb B o n) i = z at *
  generalize oA (cb B o n) i = a at *
  have R : ∀ (x : Option (Int32 × px_H)), (if K = false then some (nI 0, h) else if 2 ^ 63 ≤ z then some (nI 4, h) else if lN z ≤ lN 16384 then (if a = 0 then some (nI 0, h) else if P = false then some (nI 4, h) else some (nI 0, h)) else some (nI 4, h)) = some (nI (if K = true ∧ (16384 < z ∨ a ≠ 0 ∧ P = false) then 4 else 0), h) := by
    intro x
    cases K with
    | false => simp
    | true =>
      by_cases cz : 16384 < z
      · by_cases c5 : 2 ^ 63 ≤ z
        · simp only [c5, cz]; simp
        · have g := (eF.mpr cz).resolve_left c5
          simp only [c5, cz, g]; simp
      · have c5 : ¬ 2 ^ 63 ≤ z := fun q => cz (eF.mp (Or.inl q))
        have g : lN z ≤ lN 16384 := Decidable.byContradiction (fun q => cz (eF.mp (Or.inr q)))
        simp only [c5, cz, g]
        cases P <;> by_cases ca : a = 0 <;> simp [ca]
  by_cases c1 : t = 0
  · simp only [c1, if_true, R none]; simp
  · by_cases c2 : t = 8
    · simp only [c2]; simp only [R none]; simp
    · simp only [c1, c2, if_false, R none, decide_eq_false_iff_not]
      by_cases c3 : p + z ≤ n
      · simp [c3]
      · simp [c1, c2, c3]
theorem q_symbolsError_11 {y : Nat} (hb : mb h m B) (hF : 8 < F) (ho : rk B o n) : ∀ (c i a f : Nat), i + c = oS (cb B o n) → c < f → f_M_symbolsError_11 F f m (nI o) (nI y) (nI a) (nI i) h = f_M_symbolsError_49 F m (nI o) (nI y) (nI (a + cnt (fun i => decide (oT (cb B o n) i = 2)) i c)) h := by
  obtain ⟨fs, h1⟩ := mb_o hb
  have hs := ho.2.2
  intro c
  induction c with
  | zero =>
    intro i a f hi hf
    obtain ⟨f, rfl⟩ : ∃ g, f = g + 1 := ⟨f - 1, by omega⟩
    unfold f_M_symbolsError_11
    rw [h1, bs, q_sections hb hF ho.1, xb_mk, if_pos (nI_le (by omega) (by omega))]
    rfl
  | succ c ih =>
    intro i a f hi hf
    obtain ⟨f, rfl⟩ : ∃ g, f = g + 1 := ⟨f - 1, by omega⟩
    have e1 := oT_lt (cb_lt B o n) i
    have a1 := lEQ (show oT (cb B o n) i < 2 ^ 64 by omega) (show 2 < 2 ^ 64 by decide)
    unfold f_M_symbolsError_11
    rw [h1, bs, q_sections hb hF ho.1, xb_mk, if_neg (nI_ge (by omega) (by omega)), h1, bs, q_type hb hF ho (by omega), xb_mk]
    simp only [lk, a1, f_M_symbolsError_41, nI_add]
    unfold cnt
    by_cases c1 : oT (cb B o n) i = 2
    · rw [if_pos c1, if_pos (decide_eq_true c1), ih (i + 1) (a + 1) f (by omega) (by omega), Nat.add_assoc]
    · rw [if_neg c1, if_neg (by simp [c1]), ih (i + 1) (a + 0) f (by omega) (by omega), Nat.add_assoc]
theorem q_symbolsError_165 (hb : mb h m B) (hF : 24 < F) (hw : w2 (cb B o n) n) (hn : o + n ≤ 65536) : ∀ (c i f : Nat), c = oM (cb B o n) - i → c < f → i < 2 ^ 30 → f_M_symbolsError_165 F f m (nI o) (nI i) h = some (nI (if al (yOK (cb B o n)) i c = true then 0 else 6), h) := by
  obtain ⟨fs, h1⟩ := mb_o hb
  have ho := w1_rk hw.1 hn
  have hs := hw.1.2.1.1
  have hM := w2_M hw
  have k0 : (0 : Int32) = nI 0 := rfl
  intro c
  induction c with
  | zero =>
    intro i f hi hf hi2
    obtain ⟨f, rfl⟩ : ∃ g, f = g + 1 := ⟨f - 1, by omega⟩
    unfold f_M_symbolsError_165
    rw [h1, bs, q_symbolMany hb hF ho hs (w2_z hw), xb_mk, if_pos (nI_le (by omega) (by omega))]
    rfl
  | succ c ih =>
    intro i f hi hf hi2
    obtain ⟨f, rfl⟩ : ∃ g, f = g + 1 := ⟨f - 1, by omega⟩
    unfold f_M_symbolsError_165
    rw [h1, bs, q_symbolMany hb hF ho hs (w2_z hw), xb_mk, if_neg (nI_ge (by omega) (by omega)), h1, bs, q_isSymbol hb hF hw hn (by omega), xb_mk]
    simp only [k0, bI_0, nI_add, ih (i + 1) f (by omega) (by omega) (by omega), al_s]
    by_cases hq : yOK (cb B o n) i = true <;> simp [hq, f_M_symbolsError_185]
theorem q_symbolsError (hb : mb h m B) (hF : 65 < F) (hw : w1 (cb B o n) n) (hn : o + n ≤ 65536) : f_M_symbolsError F m (nI o) h = some (nI (eSym (cb B o n)), h) := by
  obtain ⟨fs, h1⟩ := mb_o hb
  have ho := w1_rk hw hn
  have hs := hw.2.1.1
  have hs2 := hw.2.1.2
  have hy := oY_lt hs
  have k0 : (0 : Int32) = nI 0 := rfl
  have k1 : (nI 1 = nI 0) ↔ False := by decide
  have hc := @cnt_le (fun i => decide (oT (cb B o n) i = 2)) (oS (cb B o n) - 1) 1
  have hc0 := @cnt_0 (fun i => decide (oT (cb B o n) i = 2)) (oS (cb B o n) - 1) 1 (by omega)
  rw [show fnd (fun i => decide (oT (cb B o n) i = 2)) 0 1 (oS (cb B o n) - 1) = oY (cb B o n) from rfl] at hc0
  have hF8 : 8 < F := by omega
  unfold f_M_symbolsError
  rw [h1, bs, q_symbols hb (by omega) ho hs, xb_mk, q_symbolsError_11 hb (by omega) ho (oS (cb B o n) - 1) 1 0 F (by omega) (by omega), Nat.zero_add]
  unfold eSym
  generalize cnt (fun i => decide (oT (cb B o n) i = 2)) 1 (oS (cb B o n) - 1) = q at *
  unfold f_M_symbolsError_49
  simp only [k0, nI_leI (show q < 2 ^ 31 by omega) (show 1 < 2 ^ 31 by decide), nI_eq (show q < 2 ^ 31 by omega) (show 0 < 2 ^ 31 by decide)]
  by_cases c1 : 1 < q
  · rw [if_neg (by omega), if_pos c1]
  · rw [if_pos (by omega), if_neg c1]
    by_cases c2 : q = 0
    · rw [if_pos c2, if_pos (hc0.mp c2)]
    · have c3 : oY (cb B o n) ≠ 0 := fun e => c2 (hc0.mpr e)
      have ht := oY_T c3
      have hz := hw.2.2.2.1 _ hy (by rw [ht]; decide) (by rw [ht]; decide)
      have hL := oL_lt (cb_lt B o n) (oY (cb B o n))
      have hz2 : oZ (cb B o n) (oY (cb B o n)) ≤ 65536 := by
        generalize oZ (cb B o n) (oY (cb B o n)) = z at *
        generalize oP (cb B o n) (oY (cb B o n)) = p at *
        omega
      rw [if_neg c2, if_neg c3, h1, bs, q_size hb (by omega) ho hy, xb_mk]
      simp only [lk, h1, bs, q_size hb hF8 ho hy, xb_mk, f_M_symbolsError_105, f_M_symbolsError_106, q_linkOf hb hF8 ho hy, q_sections hb hF8 ho.1, nI_l (show oS (cb B o n) < 2 ^ 31 by omega), lN_i, f_M_symbolsError_147, f_M_symbolsError_148, f_M_symbolsError_160, pk_lLE (show oS (cb B o n) < 2 ^ 63 by omega) (show oL (cb B o n) (oY (cb B o n)) < 2 ^ 63 by omega), k0, k1, if_true, if_false]
      simp only [pk_lRem (show oZ (cb B o n) (oY (cb B o n)) < 2 ^ 63 by omega) (show 0 < 24 by decide) (show 24 < 2 ^ 63 by decide), lEQ (show oZ (cb B o n) (oY (cb B o n)) % 24 < 2 ^ 64 from Nat.lt_of_lt_of_le (Nat.mod_lt _ (by decide)) (by decide)) (show 0 < 2 ^ 64 by decide), lN_neg (show oZ (cb B o n) (oY (cb B o n)) < 2 ^ 64 by omega), pk_lLT (show 1536 < 2 ^ 63 by decide) (show oZ (cb B o n) (oY (cb B o n)) < 2 ^ 63 by omega)]
      rw [show oX (cb B o n) = oL (cb B o n) (oY (cb B o n)) from rfl]
      have g : ¬ 2 ^ 63 ≤ oZ (cb B o n) (oY (cb B o n)) := by omega
      by_cases d1 : oL (cb B o n) (oY (cb B o n)) < oS (cb B o n)
      · have d2 : ¬ oS (cb B o n) ≤ oL (cb B o n) (oY (cb B o n)) := by omega
        have e1 := oT_lt (cb_lt B o n) (oL (cb B o n) (oY (cb B o n)))
        have a1 := lEQ (show oT (cb B o n) (oL (cb B o n) (oY (cb B o n))) < 2 ^ 64 by omega) (show 3 < 2 ^ 64 by decide)
        simp only [g, d1, d2, if_false, q_type hb hF8 ho d1, xb_mk, lk, a1, k0, k1, true_and]
        by_cases d3 : oT (cb B o n) (oL (cb B o n) (oY (cb B o n))) = 3
        · by_cases d4 : oZ (cb B o n) (oY (cb B o n)) % 24 = 0
          · by_cases d5 : oZ (cb B o n) (oY (cb B o n)) ≤ 1536
            · have hw2 : w2 (cb B o n) n := ⟨hw, fun _ => ⟨d4, d5, d1, d3⟩⟩
              have hM := w2_M hw2
              have d6 : ¬ 1536 < oZ (cb B o n) (oY (cb B o n)) := by omega
              rw [if_pos d4, if_neg d6, if_pos d3, if_pos ⟨d4, d5, d3⟩]
              exact q_symbolsError_165 hb (by omega) hw2 hn (oM (cb B o n) - 1) 1 F rfl (by omega) (by decide)
            · have d6 : 1536 < oZ (cb B o n) (oY (cb B o n)) := by omega
              simp only [d4, d5, d6, if_true, if_false, ite_self, false_and, and_false]
          · simp only [d4, if_false, ite_self, false_and, and_false]
        · simp only [d3, if_false, ite_self, and_false]
      · have d2 : oS (cb B o n) ≤ oL (cb B o n) (oY (cb B o n)) := by omega
        simp only [g, d1, d2, if_true, if_false, ite_self, false_and, and_false]
end ERR
