/-! the class's isSymbolGood -/
section CSG
variable {F : Nat} {c : px_CT} {sk : Nat → Nat × Nat × Nat} {L q g base n : Nat} {τ : px_TT} {S : Nat → Int32}
theorem k_isSymbolGood {j ss : Nat} (hs : cS sk L τ q g base n S) (hF : 24 < F) (h1j : 1 ≤ j) (hj : j < oM (cb S base n)) (h71 : fI τ 7 1 = nI ss) (hss : base + n ≤ ss) (hss2 : ss ≤ 65536) : f_ObjectFile_isSymbolGood F c q (nI j) (cH sk L τ) = some (bI (yOK (cb S base n) j), cH sk L τ) := by
  have o1 := hs.1.1.1.1
  obtain ⟨e1, e2, e3⟩ := cS_y hs hj
  have h24 := hs.1.1.2.1.2.2
  have eW := yW_lt (cb_lt S base n) j
  have eB := yB_lt (cb_lt S base n) j
  have eV := yV_lt (cb_lt S base n) j
  have eZ := yZ_lt (cb_lt S base n) j
  have hF8 : 8 < F := by omega
  have k10 : ¬ (nI 1 = nI 0) := by decide
  unfold f_ObjectFile_isSymbolGood
  rw [c_o o1, bs, k_bindOf hs hF8 h1j hj, xb_mk, c_o o1, bs, k_whereOf hs hF8 hj, xb_mk]
  simp only [f_ObjectFile_isSymbolGood_28, f_ObjectFile_isSymbolGood_33, f_ObjectFile_isSymbolGood_53, f_ObjectFile_isSymbolGood_55, f_ObjectFile_isSymbolGood_70, f_ObjectFile_isSymbolGood_85, f_ObjectFile_isSymbolGood_93, f_ObjectFile_isSymbolGood_139, f_ObjectFile_isSymbolGood_143, f_ObjectFile_isSymbolGood_144, show (0 : Int32) = nI 0 from rfl, show (65521 : Int32) = nI 65521 from rfl, show (65522 : Int32) = nI 65522 from rfl, k10, if_false, if_true, C7g8 o1, hs.1.1.2.2.2.2, C7g10 o1, e1, bs, c_o o1, xb_mk, nI_l (show yW (cb S base n) j < 2 ^ 31 by omega), k_groupOf hs.1 (show yW (cb S base n) j < 2 ^ 63 by omega), k_isNameGood hs hF hj h71 hss hss2, k_valueOf hs hF8 hj, k_isPower eV, pk_mul, nI_add, show oP (cb S base n) (oY (cb S base n)) + 24 * j = yP (cb S base n) j from rfl, k_ysize hs hF8 hj, lk, k_above eZ (show 16384 < 2 ^ 64 by decide), bI_0, xz_0, xz_1, decide_eq_false_iff_not, nI_eq (show yW (cb S base n) j < 2 ^ 31 by omega) (show 0 < 2 ^ 31 by decide), nI_eq (show yW (cb S base n) j < 2 ^ 31 by omega) (show 65521 < 2 ^ 31 by decide), nI_eq (show yW (cb S base n) j < 2 ^ 31 by omega) (show 65522 < 2 ^ 31 by decide), nI_eq (show yB (cb S base n) j < 2 ^ 31 by omega) (show 0 < 2 ^ 31 by decide), nI_ltI (show 2 < 2 ^ 31 by decide) (show yB (cb S base n) j < 2 ^ 31 by omega), nI_ltI (show yW (cb S base n) j < 2 ^ 31 by omega) (show oS (cb S base n) < 2 ^ 31 by omega)]
  unfold yOK
  have hg : (if yW (cb S base n) j < oS (cb S base n) then gv (cb S base n) (yW (cb S base n) j) else Int32.ofInt (-1)) < nI 0 ↔ ¬ (yW (cb S base n) j < oS (cb S base n) ∧ oK (cb S base n) (yW (cb S base n) j) = true) := by
    by_cases e : yW (cb S base n) j < oS (cb S base n)
    · rw [if_pos e, show (gv (cb S base n) (yW (cb S base n) j) < nI 0) ↔ _ from gv_n _ _]
      constructor
      · intro h h2; rw [h2.2] at h; exact absurd h (by decide)
      · intro h; exact Bool.eq_false_iff.mpr (fun h2 => h ⟨e, h2⟩)
    · rw [if_neg e]
      exact ⟨fun _ h => e h.1, fun _ => by decide⟩
  simp only [hg]
  generalize cH sk L τ = H
  generalize oK (cb S base n) (yW (cb S base n) j) = K
  generalize yG (cb S base n) j = G
  generalize isP (yV (cb S base n) j) = P
  generalize yB (cb S base n) j = b at *
  generalize yW (cb S base n) j = w at *
  generalize yZ (cb S base n) j = z at *
  generalize oS (cb S base n) = s at *
  clear hg hs e1 e2 e3
  have f4 : (nI 0, H) = (bI false, H) := rfl
  simp only [f4]
  by_cases c1 : 2 < b
  · simp [c1, show ¬ b ≤ 2 by omega]
  · have g2 : b ≤ 2 := by omega
    by_cases c0 : w = 0
    · cases G <;> by_cases cb' : b = 0 <;> simp [c1, c0, cb', g2]
    · by_cases c3 : w = 65521
      · have g5 : ¬ 65521 < s := by omega
        cases G <;> by_cases cb' : b = 0 <;> simp [c1, c3, cb', g2, g5]
      · by_cases c4 : w = 65522
        · have g5 : ¬ 65522 < s := by omega
          cases G <;> cases P <;> by_cases cb' : b = 0 <;> by_cases cz : 16384 < z <;> simp only [ne_eq, c1, c4, cb', g2, g5, cz, show (z ≤ 16384) = ¬ (16384 < z) from by rw [Nat.not_lt]] <;> simp
        · by_cases c5 : w < s
          · have g6 : 0 < w := by omega
            cases K <;> cases G <;> by_cases cb' : b = 0 <;> simp [c1, c0, c3, c4, c5, cb', g2, g6]
          · simp [c1, c0, c3, c4, c5]
/-- the symbols' loop -/
theorem k_rE_85 {k : px_H → Option (Int32 × px_H)} : True := trivial
end CSG
