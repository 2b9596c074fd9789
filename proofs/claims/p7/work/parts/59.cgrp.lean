/-! the class's groups, strings' sections, and the error of an object -/
theorem ar_g4 {n P Z j : Nat} (h1 : P + Z ≤ n) (hm : Z % 4 = 0) (hj : 4 * j < Z) : P + 4 * j + 4 ≤ n := by omega
theorem gN_0 (b : Nat → Nat) (i : Nat) : gN b i 0 = le b (oP b i) 4 := by
  unfold gN
  rw [Nat.mul_zero, Nat.add_zero]
section CGR
variable {F : Nat} {c : px_CT} {sk : Nat → Nat × Nat × Nat} {L q g base n : Nat} {τ : px_TT} {S : Nat → Int32}
theorem k_aGG_116 {i : Nat} {k4 : Nat → Int32 → Int32 → px_H → Option (Int32 × px_H)} (hs : cS sk L τ q g base n S) (hF : 8 < F) (hi : i < oS (cb S base n)) (hZ : oP (cb S base n) i + oZ (cb S base n) i ≤ n) (hm : oZ (cb S base n) i % 4 = 0) : ∀ (d j f : Nat) (x : Int32) (z : Nat → Bool), (∀ v, v < 24 → bt x v = z v) → d = oZ (cb S base n) i / 4 - j → d < f → j < 65536 → ∃ x', (∀ v, v < 24 → bt x' v = (gl (cb S base n) i j d z).2 v) ∧ f_ObjectFile_areGroupsGood_116 F c k4 f q x (nI i) (lN (oZ (cb S base n) i)) (nI (oP (cb S base n) i)) (nI (4 * j)) (cH sk L τ) = if (gl (cb S base n) i j d z).1 = true then k4 q x' (nI (i + 1)) (cH sk L τ) else some (nI 0, cH sk L τ) := by
  have o1 := hs.1.1.1.1
  have h24 := hs.1.1.2.1.2.2
  have hon := hs.1.1.2.1.1.2
  have hZ2 : oZ (cb S base n) i ≤ 65536 ∧ oP (cb S base n) i ≤ 65536 := by
    generalize oZ (cb S base n) i = z at *
    generalize oP (cb S base n) i = y at *
    omega
  intro d
  induction d with
  | zero =>
    intro j f x z hx hd hf hj
    obtain ⟨f, rfl⟩ : ∃ g, f = g + 1 := ⟨f - 1, by omega⟩
    refine ⟨x, hx, ?_⟩
    unfold f_ObjectFile_areGroupsGood_116
    rw [nI_l (by omega), if_pos ((pk_lLE (by omega) (by omega)).mpr (by omega)), if_pos (show (gl (cb S base n) i j 0 z).1 = true from rfl), f_ObjectFile_areGroupsGood_180, nI_add]
  | succ d ih =>
    intro j f x z hx hd hf hj
    obtain ⟨f, rfl⟩ : ∃ g, f = g + 1 := ⟨f - 1, by omega⟩
    have hv := gN_lt (cb_lt S base n) i j
    have hlt : 4 * j < oZ (cb S base n) i := by omega
    unfold f_ObjectFile_areGroupsGood_116
    rw [nI_l (by omega), if_neg (fun e => by have := (pk_lLE (by omega) (by omega)).mp e; omega), c_o o1, bs, nI_add, k_num hs.1.1.1 hF (by decide) (by omega), nm_in (ar_g4 hZ hm hlt), xb_mk, show le (cb S base n) (oP (cb S base n) i + 4 * j) 4 = gN (cb S base n) i j from rfl, C7g8 o1, bs, hs.1.1.2.2.2.2, nI_l (by omega), lN_i, gl_s, nI_add]
    simp only [pk_lLT (show gN (cb S base n) i j < 2 ^ 63 by omega) (show 1 < 2 ^ 63 by decide), pk_lLE (show oS (cb S base n) < 2 ^ 63 by omega) (show gN (cb S base n) i j < 2 ^ 63 by omega), f_ObjectFile_areGroupsGood_164]
    by_cases c1 : gN (cb S base n) i j < 1
    · rw [if_pos c1, if_pos (Or.inl c1)]
      exact ⟨x, hx, rfl⟩
    · by_cases c2 : oS (cb S base n) ≤ gN (cb S base n) i j
      · rw [if_neg c1, if_pos c2, if_pos (Or.inr (Or.inl c2))]
        exact ⟨x, hx, rfl⟩
      · have hv24 : gN (cb S base n) i j < 24 := by omega
        rw [if_neg c1, if_neg c2]
        simp only [bt_0 (show gN (cb S base n) i j < 32 by omega), hx _ hv24]
        by_cases c3 : z (gN (cb S base n) i j) = true
        · rw [if_neg (show ¬ z (gN (cb S base n) i j) = false by rw [c3]; decide), if_pos (Or.inr (Or.inr c3))]
          exact ⟨x, hx, rfl⟩
        · rw [if_pos (Bool.eq_false_iff.mpr c3), if_neg (fun e => e.elim c1 (fun e => e.elim c2 c3)), show 4 * j + 4 = 4 * (j + 1) by omega]
          refine ih (j + 1) f _ (fun y => if y = gN (cb S base n) i j then true else z y) ?_ (by omega) (by omega) (by omega)
          intro v hv2
          rw [bt_set (by omega) (by omega), hx v hv2]
          by_cases e : v = gN (cb S base n) i j
          · rw [if_pos e, decide_eq_true e, Bool.or_true]
          · rw [if_neg e, decide_eq_false e, Bool.or_false]
theorem k_gN0 {i : Nat} (hs : cS sk L τ q g base n S) (hF : 8 < F) (hP : oP (cb S base n) i ≤ 65536) (h4 : oP (cb S base n) i + 4 ≤ n) : f_ObjectFile_num F c q (nI (oP (cb S base n) i)) (nI 4) (cH sk L τ) = some (lN (gN (cb S base n) i 0), cH sk L τ) := by
  rw [k_num hs.1.1.1 hF (by decide) (by omega), nm_in h4, ← gN_0]
theorem ar_40 {n P Z : Nat} (h1 : P + Z ≤ n) (hm : Z % 4 = 0) (hj : Z ≠ 0) : P + 4 ≤ n := by omega
theorem k_aGG_4 (hs : cS sk L τ q g base n S) (hF : 65536 < F) : ∀ (d i f : Nat) (x : Int32) (z : Nat → Bool), (∀ v, v < 24 → bt x v = z v) → i + d = oS (cb S base n) → d < f → f_ObjectFile_areGroupsGood_4 F c f q x (nI i) (cH sk L τ) = some (bI (gs (cb S base n) i d z), cH sk L τ) := by
  have o1 := hs.1.1.1.1
  have h24 := hs.1.1.2.1.2.2
  have hs1 := hs.1.1.2.2.1
  have hon := hs.1.1.2.1.1.2
  have hF8 : 8 < F := by omega
  have hy := oY_lt hs1
  have hM := w2_M hs.2.2
  intro d
  induction d with
  | zero =>
    intro i f x z hx hi hf
    obtain ⟨f, rfl⟩ : ∃ g, f = g + 1 := ⟨f - 1, by omega⟩
    unfold f_ObjectFile_areGroupsGood_4
    rw [C7g8 o1, bs, hs.1.1.2.2.2.2, if_pos (nI_le (by omega) (by omega))]
    rfl
  | succ d ih =>
    intro i f x z hx hi hf
    obtain ⟨f, rfl⟩ : ∃ g, f = g + 1 := ⟨f - 1, by omega⟩
    have hiS : i < oS (cb S base n) := by omega
    have eT := oT_lt (cb_lt S base n) i
    have eI' := oI_lt (cb_lt S base n) i
    have eL := oL_lt (cb_lt S base n) i
    unfold f_ObjectFile_areGroupsGood_4
    rw [C7g8 o1, bs, hs.1.1.2.2.2.2, if_neg (nI_ge (by omega) (by omega)), c_o o1, bs, k_T hs.1.1 hF8 hiS, xb_mk, gs_s]
    simp only [lk, lEQ (show oT (cb S base n) i < 2 ^ 64 by omega) (show 17 < 2 ^ 64 by decide)]
    by_cases c1 : oT (cb S base n) i = 17
    · have hZ := hs.2.2.1.2.2.2.1 i hiS (by rw [c1]; decide) (by rw [c1]; decide)
      have hZ63 : oZ (cb S base n) i ≤ 65536 ∧ oP (cb S base n) i ≤ 65536 := by
        generalize oZ (cb S base n) i = z at *
        generalize oP (cb S base n) i = y at *
        omega
      have ey : (lN (oL (cb S base n) i) = (yS (cb S base n)).toInt64) ↔ (oY (cb S base n) ≠ 0 ∧ oL (cb S base n) i = oY (cb S base n)) := by
        unfold yS
        by_cases e : oY (cb S base n) = 0
        · rw [if_pos e]
          constructor
          · intro h
            exfalso
            have h2 := congrArg Int64.toInt h
            rw [pk_lT (by omega), show (Int32.ofInt (-1)).toInt64.toInt = -1 from by decide] at h2
            omega
          · intro h; exact absurd e h.1
        · rw [if_neg e, nI_l (by omega), lEQ (by omega) (by omega)]
          exact ⟨fun h => ⟨e, h⟩, fun h => h.2⟩
      rw [if_pos c1, if_pos c1, c_o o1, bs, k_Z hs.1.1 hF8 hiS, xb_mk, c_o o1, bs, k_I hs.1.1 hF8 hiS, xb_mk, c_o o1, bs, k_P hs.1.1 hF8 hiS, xb_mk, c_o o1, bs, k_L hs.1.1 hF8 hiS, xb_mk, C7g9 o1, bs, hs.2.1.1, C7g11 o1, bs, hs.2.1.2.1, nI_l (by omega), c_o o1, bs, lN_i, lN_i]
      simp only [lEQ (show oZ (cb S base n) i < 2 ^ 64 by omega) (show 0 < 2 ^ 64 by decide), pk_lRem (show oZ (cb S base n) i < 2 ^ 63 by omega) (show 0 < 4 by decide) (show 4 < 2 ^ 63 by decide), lEQ (show oZ (cb S base n) i % 4 < 2 ^ 64 by omega) (show 0 < 2 ^ 64 by decide), ey, pk_lLE (show oM (cb S base n) < 2 ^ 63 by omega) (show oI (cb S base n) i < 2 ^ 63 by omega), f_ObjectFile_areGroupsGood_111]
      have bad : ∀ (P : Prop) [Decidable P], (gH (cb S base n) i = true → False) → (some (nI 0, cH sk L τ) : Option (Int32 × px_H)) = some (bI (if gH (cb S base n) i = true then (if (gl (cb S base n) i 1 (oZ (cb S base n) i / 4 - 1) z).1 = true then gs (cb S base n) (i + 1) d (gl (cb S base n) i 1 (oZ (cb S base n) i / 4 - 1) z).2 else false) else false), cH sk L τ) := by
        intro P _ h
        rw [if_neg h]
        rfl
      by_cases d1 : oZ (cb S base n) i = 0
      · rw [if_pos d1]
        exact bad True (fun e => by have := (of_decide_eq_true e).1; omega)
      · rw [if_neg d1]
        by_cases d2 : oZ (cb S base n) i % 4 = 0
        · rw [if_pos d2]
          by_cases d3 : oY (cb S base n) ≠ 0 ∧ oL (cb S base n) i = oY (cb S base n)
          · rw [if_pos d3]
            by_cases d4 : oM (cb S base n) ≤ oI (cb S base n) i
            · rw [if_pos d4]
              exact bad True (fun e => by have := (of_decide_eq_true e).2.2.2.2.2.1; omega)
            · rw [if_neg d4]
              by_cases d5 : oI (cb S base n) i = 0
              · rw [d5, k_bindOf0 hs (Or.inl rfl) (by decide), xb_mk, if_pos (show nI 0 = 0 from rfl)]
                exact bad True (fun e => by have := (of_decide_eq_true e).2.2.2.2.1; omega)
              · have hB := yB_lt (cb_lt S base n) (oI (cb S base n) i)
                have hg0 := gN_lt (cb_lt S base n) i 0
                rw [k_bindOf hs hF8 (by omega) (by omega), xb_mk, c_o o1, bs, k_gN0 hs hF8 hZ63.2 (ar_40 hZ d2 d1), xb_mk, show (0 : Int32) = nI 0 from rfl]
                simp only [nI_eq (show yB (cb S base n) (oI (cb S base n) i) < 2 ^ 31 by omega) (show 0 < 2 ^ 31 by decide), pk_lLE (show gN (cb S base n) i 0 < 2 ^ 63 by omega) (show 1 < 2 ^ 63 by decide)]
                by_cases d6 : yB (cb S base n) (oI (cb S base n) i) = 0
                · rw [if_pos d6]
                  exact bad True (fun e => (of_decide_eq_true e).2.2.2.2.2.2.1 d6)
                · rw [if_neg d6]
                  by_cases d7 : gN (cb S base n) i 0 ≤ 1
                  · have hgh : gH (cb S base n) i = true := decide_eq_true ⟨by omega, d2, d3.1, d3.2, by omega, by omega, d6, d7⟩
                    obtain ⟨x', h1, h2⟩ := k_aGG_116 (c := c) (k4 := f_ObjectFile_areGroupsGood_4 F c f) hs hF8 hiS hZ d2 (oZ (cb S base n) i / 4 - 1) 1 F x z hx rfl (by omega) (by decide)
                    rw [if_pos d7, if_pos hgh, show nI 4 = nI (4 * 1) from rfl, h2]
                    by_cases d8 : (gl (cb S base n) i 1 (oZ (cb S base n) i / 4 - 1) z).1 = true
                    · rw [if_pos d8, if_pos d8]
                      exact ih (i + 1) f x' _ h1 (by omega) (by omega)
                    · rw [if_neg d8, if_neg d8]
                      rfl
                  · rw [if_neg d7]
                    exact bad True (fun e => d7 (of_decide_eq_true e).2.2.2.2.2.2.2)
          · rw [if_neg d3]
            exact bad True (fun e => d3 ⟨(of_decide_eq_true e).2.2.1, (of_decide_eq_true e).2.2.2.1⟩)
        · rw [if_neg d2]
          exact bad True (fun e => d2 (of_decide_eq_true e).2.1)
    · rw [if_neg c1, if_neg c1, f_ObjectFile_areGroupsGood_180, nI_add]
      exact ih (i + 1) f x z hx (by omega) (by omega)
theorem k_areGroupsGood (hs : cS sk L τ q g base n S) (hF : 65536 < F) (hT0 : oT (cb S base n) 0 = 0) : f_ObjectFile_areGroupsGood F c q (cH sk L τ) = some (bI (decide (eGrp (cb S base n) = 0)), cH sk L τ) := by
  have hs1 := hs.1.1.2.2.1
  have h24 := hs.1.1.2.1.2.2
  unfold f_ObjectFile_areGroupsGood
  rw [k_aGG_4 (c := c) hs hF (oS (cb S base n)) 0 F (nI 0) (fun _ => false) (fun v _ => b_0 v) (by omega) (by omega)]
  have e : gs (cb S base n) 0 (oS (cb S base n)) (fun _ => false) = gs (cb S base n) 1 (oS (cb S base n) - 1) (fun _ => false) := by
    obtain ⟨s, hs'⟩ : ∃ s, oS (cb S base n) = s + 1 := ⟨oS (cb S base n) - 1, by omega⟩
    rw [hs', gs_s, if_neg (by rw [hT0]; decide), Nat.add_sub_cancel]
  rw [e]
  unfold eGrp
  by_cases c1 : gs (cb S base n) 1 (oS (cb S base n) - 1) (fun _ => false) = true
  · rw [if_pos c1, c1, decide_eq_true rfl]
  · rw [if_neg c1, Bool.eq_false_iff.mpr c1, decide_eq_false (show ¬ (9 : Nat) = 0 by decide)]
end CGR
