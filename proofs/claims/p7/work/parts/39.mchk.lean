/-! what has been found of an object when its sections, its symbols are looked at -/
def w1 (b : Nat → Nat) (n : Nat) : Prop := 64 ≤ n ∧ (1 ≤ oS b ∧ oS b ≤ 24) ∧ oR b + 64 * oS b ≤ n ∧ (∀ i, i < oS b → oT b i ≠ 0 → oT b i ≠ 8 → oP b i + oZ b i ≤ n) ∧ (∀ i, i < oS b → oK b i = true → oZ b i ≤ 16384)
def w2 (b : Nat → Nat) (n : Nat) : Prop := w1 b n ∧ (oY b ≠ 0 → oZ b (oY b) % 24 = 0 ∧ oZ b (oY b) ≤ 1536 ∧ oX b < oS b ∧ oT b (oX b) = 3)
theorem w1_rk {B : Nat → Int32} {o n : Nat} (h : w1 (cb B o n) n) (hn : o + n ≤ 65536) : rk B o n := ⟨⟨h.1, hn⟩, h.2.2.1, h.2.1.2⟩
theorem ar_y {n P Z k : Nat} (h1 : P + Z ≤ n) (hk : k < Z / 24) : P + 24 * k + 24 ≤ n := by omega
theorem w2_y {b : Nat → Nat} {n k : Nat} (h : w2 b n) (hk : k < oM b) : yP b k + 24 ≤ n := by
  unfold oM at hk
  by_cases c : oY b = 0
  · rw [if_pos c] at hk; exact absurd hk (Nat.not_lt_zero _)
  · rw [if_neg c] at hk
    have ht := oY_T c
    exact ar_y (h.1.2.2.2.1 _ (oY_lt h.1.2.1.1) (by rw [ht]; decide) (by rw [ht]; decide)) hk
theorem w2_z {b : Nat → Nat} {n : Nat} (h : w2 b n) : oY b ≠ 0 → oZ b (oY b) < 2 ^ 31 := fun c => Nat.lt_of_le_of_lt (h.2 c).2.1 (by decide)
theorem w2_M {b : Nat → Nat} {n : Nat} (h : w2 b n) : oM b ≤ 64 := by
  unfold oM
  by_cases c : oY b = 0
  · rw [if_pos c]; exact Nat.zero_le _
  · rw [if_neg c]
    have := (h.2 c).2.1
    generalize oZ b (oY b) = z at this ⊢
    omega
theorem w2_M0 {b : Nat → Nat} {k : Nat} (hk : k < oM b) : oY b ≠ 0 := by
  intro c
  unfold oM at hk
  rw [if_pos c] at hk
  exact absurd hk (Nat.not_lt_zero _)
theorem w2_x {b : Nat → Nat} {n : Nat} (h : w2 b n) (c : oY b ≠ 0) : oP b (oX b) + oZ b (oX b) ≤ n := h.1.2.2.2.1 _ (h.2 c).2.2.1 (by rw [(h.2 c).2.2.2]; decide) (by rw [(h.2 c).2.2.2]; decide)
/-- whether a symbol is as told -/
def yOK (b : Nat → Nat) (k : Nat) : Bool := decide (yB b k ≤ 2 ∧ (yW b k = 0 ∨ yW b k = 65521 ∨ yW b k = 65522 ∨ yW b k < oS b) ∧ (yB b k = 0 → yW b k ≠ 65522) ∧ (yB b k ≠ 0 → (0 < yW b k → yW b k < oS b → oK b (yW b k) = true) ∧ yG b k = true ∧ (yW b k = 65522 → isP (yV b k) = true ∧ yZ b k ≤ 16384)))
section CHK
variable {F : Nat} {h : px_H} {m o n : Nat} {B : Nat → Int32}
theorem ar_n {o P f l Z n : Nat} (hn : o + n ≤ 65536) (hp : P + Z ≤ n) (hl : f + l < Z) : o + (P + f + l) < 65536 := by omega
theorem q_isName_85 {f Z l : Nat} (hf : f < 4294967296) (hZ : Z < 2 ^ 62) (hl : l ≤ 21) : f_M_isName_85 F (lN f) (lN Z) (nI l) h = some (bI (decide (1 ≤ l ∧ l ≤ 20 ∧ f + l < Z)), h) := by
  have k0 : (0 : Int32) = nI 0 := rfl
  simp only [f_M_isName_85, f_M_isName_113, f_M_isName_114, xz_0, xz_1, nI_l (show l < 2 ^ 31 by omega), lN_add, pk_lLE (show Z < 2 ^ 63 by omega) (show f + l < 2 ^ 63 by omega), k0, nI_leI (show l < 2 ^ 31 by omega) (show 0 < 2 ^ 31 by decide), nI_ltI (show 20 < 2 ^ 31 by decide) (show l < 2 ^ 31 by omega)]
  by_cases c1 : Z ≤ f + l
  · rw [if_pos c1, decide_eq_false (by omega)]
  · rw [if_neg c1]
    by_cases c2 : l ≤ 0
    · rw [if_pos c2, decide_eq_false (by omega)]
    · rw [if_neg c2]
      by_cases c3 : 20 < l
      · rw [if_pos c3, decide_eq_false (by omega)]
      · rw [if_neg c3, decide_eq_true (by omega)]
theorem q_isName_36 {X f P Z : Nat} (hb : mb h m B) (hF : 24 < F) (ho : rk B o n) (hn : o + n ≤ 65536) (hX : X < oS (cb B o n)) (hP : oP (cb B o n) X = P) (hPZ : P + Z ≤ n) (hf : f < 4294967296) : ∀ (c l g : Nat), l + c = 21 → c < g → f_M_isName_36 F g m (nI o) (nI X) (lN f) (lN Z) (nI l) h = some (bI (decide (1 ≤ l + run (cb B o n) (P + f + l) c ∧ l + run (cb B o n) (P + f + l) c ≤ 20 ∧ f + (l + run (cb B o n) (P + f + l) c) < Z)), h) := by
  obtain ⟨fs, q, h1, h2, h3, h4⟩ := id hb
  have k0 : (0 : Int32) = nI 0 := rfl
  intro c
  induction c with
  | zero =>
    intro l g hl hg
    obtain ⟨g, rfl⟩ : ∃ g', g = g' + 1 := ⟨g - 1, by omega⟩
    unfold f_M_isName_36
    rw [if_pos (show nI 20 < nI l from nI_lt (by omega) (by omega)), ite_self, q_isName_85 hf (by omega) (by omega)]
    rfl
  | succ c ih =>
    intro l g hl hg
    obtain ⟨g, rfl⟩ : ∃ g', g = g' + 1 := ⟨g - 1, by omega⟩
    unfold f_M_isName_36
    rw [nI_l (show l < 2 ^ 31 by omega), lN_add, if_neg (show ¬ nI 20 < nI l from nI_nlt (by omega) (by omega))]
    simp only [pk_lLE (show Z < 2 ^ 63 by omega) (show f + l < 2 ^ 63 by omega)]
    by_cases c1 : Z ≤ f + l
    · rw [if_pos c1, q_isName_85 hf (by omega) (by omega), decide_eq_false (by omega), decide_eq_false (by generalize run (cb B o n) (P + f + l) (c + 1) = r; omega)]
    · have e1 : o + (P + f + l) < 65536 := ar_n hn hPZ (by omega)
      rw [if_neg c1, h2, bs, h1, bs, q_beginning hb (by omega) ho hX, xb_mk, lN_i, lN_i, hP, nI_add, nI_add, nI_add, show o + P + f + l = o + (P + f + l) by omega, xaI_at h3 (by decide) e1, bs]
      simp only [k0, isB_eq (h4 (o + (P + f + l))) (show 0 < 128 by decide)]
      unfold run
      by_cases c2 : b8 (B (o + (P + f + l))) = 0
      · rw [if_pos c2, if_pos (show cb B o n (P + f + l) = 0 by rw [cb_at (by omega)]; exact c2), q_isName_85 hf (by omega) (by omega)]
        rfl
      · rw [if_neg c2, if_neg (show ¬ cb B o n (P + f + l) = 0 by rw [cb_at (by omega)]; exact c2), nI_add, ih (l + 1) g (by omega) (by omega), show P + f + l + 1 = P + f + (l + 1) by omega]
        generalize run (cb B o n) (P + f + (l + 1)) c = r
        rw [show l + (r + 1) = l + 1 + r by omega]
theorem q_isName {k : Nat} (hb : mb h m B) (hF : 24 < F) (hw : w2 (cb B o n) n) (hn : o + n ≤ 65536) (hk : k < oM (cb B o n)) : f_M_isName F m (nI o) (nI k) h = some (bI (yG (cb B o n) k), h) := by
  obtain ⟨fs, h1⟩ := mb_o hb
  have ho := w1_rk hw.1 hn
  have hs := hw.1.2.1.1
  have c := w2_M0 hk
  have hX := (hw.2 c).2.2.1
  have hy := w2_y hw hk
  have hPZ := w2_x hw c
  have e1 := yN_lt (cb_lt B o n) k
  unfold f_M_isName
  rw [h1, bs, q_symbols hb hF ho hs, xb_mk, h1, bs, q_linkOf hb (by omega) ho (oY_lt hs), xb_mk, h1, bs, q_symbol hb hF ho hs, xb_mk, h1, bs, q_numo (k := 4) hb (by omega) (by decide) hn (Nat.le_trans (Nat.add_le_add_left (show 4 ≤ 24 by decide) _) hy), xb_mk, h1, bs, lN_i]
  rw [show oL (cb B o n) (oY (cb B o n)) = oX (cb B o n) from rfl, q_size hb (by omega) ho hX, xb_mk, show le (cb B o n) (yP (cb B o n) k) 4 = yN (cb B o n) k from rfl]
  have e2 := q_isName_36 (h := h) (m := m) (P := oP (cb B o n) (oX (cb B o n))) (Z := oZ (cb B o n) (oX (cb B o n))) hb hF ho hn hX rfl hPZ e1 21 0 F rfl (by omega)
  rw [show (nI 0) = nI 0 from rfl, e2]
  unfold yG yL
  rw [Nat.add_zero, Nat.zero_add]
  generalize run (cb B o n) (oP (cb B o n) (oX (cb B o n)) + yN (cb B o n) k) 21 = r
  generalize oZ (cb B o n) (oX (cb B o n)) = z
  generalize yN (cb B o n) k = y
  rw [decide_eq_decide.mpr (show (1 ≤ r ∧ r ≤ 20 ∧ y + r < z) ↔ (y < z ∧ 1 ≤ r ∧ r ≤ 20 ∧ y + r < z) by omega)]
theorem lN_neg {a : Nat} (h : a < 2 ^ 64) : lN a < lN 0 ↔ 2 ^ 63 ≤ a := by
  rw [Int64.lt_iff_toInt_lt, lN_ti h]
  show (if a < 2 ^ 63 then (a : Int) else (a : Int) - 2 ^ 64) < 0 ↔ _
  split <;> omega
theorem q_isSymbol {k : Nat} (hb : mb h m B) (hF : 24 < F) (hw : w2 (cb B o n) n) (hn : o + n ≤ 65536) (hk : k < oM (cb B o n)) : f_M_isSymbol F m (nI o) (nI k) h = some (bI (yOK (cb B o n) k), h) := by
  obtain ⟨fs, h1⟩ := mb_o hb
  have ho := w1_rk hw.1 hn
  have hs := hw.1.2.1.1
  have hs2 := hw.1.2.1.2
  have hy := w2_y hw hk
  have eW := yW_lt (cb_lt B o n) k
  have eB := yB_lt (cb_lt B o n) k
  have eV := yV_lt (cb_lt B o n) k
  have eZ := yZ_lt (cb_lt B o n) k
  have k0 : (0 : Int32) = nI 0 := rfl
  have k1 : (65521 : Int32) = nI 65521 := rfl
  have k2 : (65522 : Int32) = nI 65522 := rfl
  have k10 : (nI 1 = nI 0) ↔ False := by decide
  have qK : ∀ {i}, i < oS (cb B o n) → f_M_isKept F m (nI o) (nI i) h = some (bI (oK (cb B o n) i), h) := fun hi => q_isKept hb (by omega) ho hi
  unfold f_M_isSymbol
  rw [h1, bs, q_where hb hF ho hs hy, xb_mk, h1, bs, q_bind hb hF ho hs hy, xb_mk, h1, bs, q_sections hb (by omega) ho.1, xb_mk]
  simp only [f_M_isSymbol_32, f_M_isSymbol_33, f_M_isSymbol_64, f_M_isSymbol_66, f_M_isSymbol_83, f_M_isSymbol_98, f_M_isSymbol_107, f_M_isSymbol_152, f_M_isSymbol_156, f_M_isSymbol_157, h1, bs, q_isName hb hF hw hn hk, xb_mk, q_value hb hF ho hs hy, q_symbolSize hb hF ho hs hy, q_isPower eV, lk, k0, k1, k2, lN_neg eZ, xz_0, xz_1, bI_0, nI_leI (show yW (cb B o n) k < 2 ^ 31 by omega) (show 0 < 2 ^ 31 by decide), nI_leI (show oS (cb B o n) < 2 ^ 31 by omega) (show yW (cb B o n) k < 2 ^ 31 by omega), nI_ltI (show 2 < 2 ^ 31 by decide) (show yB (cb B o n) k < 2 ^ 31 by omega), nI_eq (show yW (cb B o n) k < 2 ^ 31 by omega) (show 0 < 2 ^ 31 by decide), nI_eq (show yW (cb B o n) k < 2 ^ 31 by omega) (show 65521 < 2 ^ 31 by decide), nI_eq (show yW (cb B o n) k < 2 ^ 31 by omega) (show 65522 < 2 ^ 31 by decide), nI_eq (show yB (cb B o n) k < 2 ^ 31 by omega) (show 0 < 2 ^ 31 by decide), k10, if_true, if_false]
  have eF : (2 ^ 63 ≤ yZ (cb B o n) k ∨ lN 16384 < lN (yZ (cb B o n) k)) ↔ 16384 < yZ (cb B o n) k := by
    by_cases cz : 2 ^ 63 ≤ yZ (cb B o n) k
    · exact ⟨fun _ => Nat.lt_of_lt_of_le (by decide) cz, fun _ => Or.inl cz⟩
    · rw [pk_lLT (by decide) (by omega)]
      exact ⟨fun q => q.resolve_left cz, Or.inr⟩
  unfold yOK
  by_cases cW : yW (cb B o n) k < oS (cb B o n)
  · rw [qK cW]
    simp only [f_M_isSymbol_32, f_M_isSymbol_33, f_M_isSymbol_64, f_M_isSymbol_66, f_M_isSymbol_83, f_M_isSymbol_98, f_M_isSymbol_107, f_M_isSymbol_152, f_M_isSymbol_156, f_M_isSymbol_157, h1, bs, q_isName hb hF hw hn hk, xb_mk, q_value hb hF ho hs hy, q_symbolSize hb hF ho hs hy, q_isPower eV, lk, k0, k1, k2, lN_neg eZ, xz_0, xz_1, bI_0, nI_leI (show yW (cb B o n) k < 2 ^ 31 by omega) (show 0 < 2 ^ 31 by decide), nI_leI (show oS (cb B o n) < 2 ^ 31 by omega) (show yW (cb B o n) k < 2 ^ 31 by omega), nI_ltI (show 2 < 2 ^ 31 by decide) (show yB (cb B o n) k < 2 ^ 31 by omega), nI_eq (show yW (cb B o n) k < 2 ^ 31 by omega) (show 0 < 2 ^ 31 by decide), nI_eq (show yW (cb B o n) k < 2 ^ 31 by omega) (show 65521 < 2 ^ 31 by decide), nI_eq (show yW (cb B o n) k < 2 ^ 31 by omega) (show 65522 < 2 ^ 31 by decide), nI_eq (show yB (cb B o n) k < 2 ^ 31 by omega) (show 0 < 2 ^ 31 by decide), k10, if_true, if_false]
    generalize oK (cb B o n) (yW (cb B o n) k) = K
    generalize yG (cb B o n) k = G
    generalize isP (yV (cb B o n) k) = P
    generalize yB (cb B o n) k = b at *
    generalize yW (cb B o n) k = w at *
    generalize oS (cb B o n) = s at *
    generalize yZ (cb B o n) k = z at *
    have f1 : ¬ w = 65521 := by omega
    have f2 : ¬ w = 65522 := by omega
    have f3 : ¬ s ≤ w := by omega
    have f4 : (nI 0, h) = (bI false, h) := rfl
    simp only [f1, f2, f3, f4, if_false]
    by_cases c1 : 2 < b
    · simp [c1, show ¬ b ≤ 2 by omega]
    · by_cases c0 : w = 0
      · cases G <;> by_cases cb : b = 0 <;> simp [c1, c0, cb, show b ≤ 2 by omega, show 0 < s by omega]
      · have g1 : ¬ w ≤ 0 := by omega
        cases K <;> cases G <;> by_cases cb : b = 0 <;> simp [c1, c0, cb, g1, f1, f2, show b ≤ 2 by omega, cW, show 0 < w by omega]
  · generalize yG (cb B o n) k = G
    generalize isP (yV (cb B o n) k) = P
    generalize oK (cb B o n) (yW (cb B o n) k) = K
    generalize yB (cb B o n) k = b at *
    generalize hw : yW (cb B o n) k = w at *
    generalize oS (cb B o n) = s at *
    generalize yZ (cb B o n) k = z at *
    have f3 : s ≤ w := by omega
    have f4 : (nI 0, h) = (bI false, h) := rfl
    have g1 : ¬ w ≤ 0 := by omega
    have g2 : ¬ w = 0 := by omega
    simp only [f3, f4, g1, g2, if_true, if_false]
    by_cases c1 : 2 < b
    · simp [c1, show ¬ b ≤ 2 by omega]
    · by_cases c3 : w = 65521
      · cases G <;> by_cases cb : b = 0 <;> simp [c1, c3, cb, show b ≤ 2 by omega, show ¬ 65521 < s by omega]
      · by_cases c4 : w = 65522
        · by_cases cz : 16384 < z
          · have g3 := eF.mpr cz
            have g5 : ¬ 65522 < s := by omega
            have g6 : ¬ z ≤ 16384 := by omega
            have g4 : b ≤ 2 := by omega
            by_cases c5 : 2 ^ 63 ≤ z
            · cases G <;> cases P <;> by_cases cb : b = 0 <;> simp only [ne_eq, c1, c4, cb, c5, g4, g5, g6] <;> simp
            · have g7 := g3.resolve_left c5
              cases G <;> cases P <;> by_cases cb : b = 0 <;> simp only [ne_eq, c1, c4, cb, c5, g4, g5, g6, g7] <;> simp
          · have g5 : ¬ 65522 < s := by omega
            have g6 : z ≤ 16384 := by omega
            have g4 : b ≤ 2 := by omega
            have c5 : ¬ 2 ^ 63 ≤ z := fun q => cz (eF.mp (Or.inl q))
            have g7 : ¬ lN 16384 < lN z := fun q => cz (eF.mp (Or.inr q))
            cases G <;> cases P <;> by_cases cb : b = 0 <;> simp only [ne_eq, c1, c4, cb, c5, g4, g5, g6, g7] <;> simp
        · simp [c1, c3, c4, cW]
end CHK
