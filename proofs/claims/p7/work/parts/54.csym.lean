/-! the class's symbols of an object -/
/-- its groups have been found -/
def cG (sk : Nat → Nat × Nat × Nat) (L : Nat) (τ : px_TT) (q g base n : Nat) (S : Nat → Int32) : Prop := cR sk L τ q base n S ∧ fN τ q 3 = some g ∧ ar sk L 0 24 g ∧ g ≠ 8 ∧ (∀ j, j < oS (cb S base n) → eI τ g j = gv (cb S base n) j)
/-- the symbols' section, as the class has it -/
def yS (b : Nat → Nat) : Int32 := if oY b = 0 then Int32.ofInt (-1) else nI (oY b)
/-- its symbols have been found -/
def cY (τ : px_TT) (q base n : Nat) (S : Nat → Int32) : Prop := fI τ q 9 = yS (cb S base n) ∧ fI τ q 11 = nI (oM (cb S base n)) ∧ (oY (cb S base n) ≠ 0 → fI τ q 10 = nI (oP (cb S base n) (oY (cb S base n))) ∧ fI τ q 12 = nI (oP (cb S base n) (oX (cb S base n))) ∧ fI τ q 13 = nI (oZ (cb S base n) (oX (cb S base n))))
section CSY
variable {F : Nat} {c : px_CT} {sk : Nat → Nat × Nat × Nat} {L q g base n : Nat} {τ : px_TT} {S : Nat → Int32}
theorem k_groupOf {x : Nat} (hg : cG sk L τ q g base n S) (hx : x < 2 ^ 63) : f_ObjectFile_groupOf F c q (lN x) (cH sk L τ) = some (if x < oS (cb S base n) then gv (cb S base n) x else Int32.ofInt (-1), cH sk L τ) := by
  obtain ⟨hr, h3, h4, h5, h6⟩ := hg
  have h24 := hr.2.1.2.2
  unfold f_ObjectFile_groupOf
  rw [if_neg (by rw [pk_lLT hx (by decide)]; omega), C7g8 hr.1.1, bs, hr.2.2.2.2, nI_l (by omega), C7r3 hr.1.1 h3, bs, c_l h4 (by decide), bs, nI_l (by decide)]
  simp only [pk_lLE (show oS (cb S base n) < 2 ^ 63 by omega) hx, pk_lLE (show 24 < 2 ^ 63 by decide) hx, f_ObjectFile_groupOf_37, f_ObjectFile_groupOf_38]
  by_cases c1 : x < oS (cb S base n)
  · rw [if_neg (by omega), if_neg (by omega), bs, lN_i, c_aI h4 (Or.inl rfl) (by decide) (by omega), bs, h6 x c1, if_pos c1]
  · rw [if_pos (by omega), if_neg c1]
theorem k_fS_2B {y : Nat} (hr : cR sk L τ q base n S) (hF : 8 < F) (hy : fI τ q 9 = nI y) (hy2 : y < 2 ^ 31) : ∀ (k i f : Nat), i + k = oS (cb S base n) → k < f → f_ObjectFile_findSymbols_2 F c f q (nI i) (cH sk L τ) = if cnt (fun i => decide (oT (cb S base n) i = 2)) i k = 0 then f_ObjectFile_findSymbols_42 F c q (cH sk L τ) else some (nI 0, cH sk L τ) := by
  have h24 := hr.2.1.2.2
  intro k
  induction k with
  | zero =>
    intro i f hi hf
    obtain ⟨f, rfl⟩ : ∃ g, f = g + 1 := ⟨f - 1, by omega⟩
    unfold f_ObjectFile_findSymbols_2
    rw [C7g8 hr.1.1, bs, hr.2.2.2.2, if_pos (nI_le (by omega) (by omega))]
    rfl
  | succ k ih =>
    intro i f hi hf
    obtain ⟨f, rfl⟩ : ∃ g, f = g + 1 := ⟨f - 1, by omega⟩
    have eT := oT_lt (cb_lt S base n) i
    unfold f_ObjectFile_findSymbols_2
    rw [C7g8 hr.1.1, bs, hr.2.2.2.2, if_neg (nI_ge (by omega) (by omega)), c_o hr.1.1, bs, k_T hr hF (by omega), xb_mk, C7g9 hr.1.1, bs, hy, if_neg (nI_pos hy2), cnt_s]
    simp only [lk, lEQ (show oT (cb S base n) i < 2 ^ 64 by omega) (show 2 < 2 ^ 64 by decide), f_ObjectFile_findSymbols_36, f_ObjectFile_findSymbols_29, nI_add]
    by_cases e : oT (cb S base n) i = 2
    · rw [if_pos e, if_pos (decide_eq_true e), if_neg (by omega)]
    · rw [if_neg e, if_neg (show ¬ decide (oT (cb S base n) i = 2) = true by simp [e]), Nat.zero_add]
      exact ih (i + 1) f (by omega) (by omega)
theorem k_fS_2A (hF : 8 < F) (hg : g ≠ 8) : ∀ (k i f : Nat) (τ : px_TT), cR sk L τ q base n S → fI τ q 9 = Int32.ofInt (-1) → i + k = oS (cb S base n) → k < f → ∃ τ', (τ' = τ ∨ ∃ v, τ' = tI τ q 9 v) ∧ (if 1 < cnt (fun i => decide (oT (cb S base n) i = 2)) i k then f_ObjectFile_findSymbols_2 F c f q (nI i) (cH sk L τ) = some (nI 0, cH sk L τ') else f_ObjectFile_findSymbols_2 F c f q (nI i) (cH sk L τ) = f_ObjectFile_findSymbols_42 F c q (cH sk L τ') ∧ fI τ' q 9 = if cnt (fun i => decide (oT (cb S base n) i = 2)) i k = 0 then Int32.ofInt (-1) else nI (fnd (fun i => decide (oT (cb S base n) i = 2)) 0 i k)) := by
  intro k
  induction k with
  | zero =>
    intro i f τ hr h9 hi hf
    obtain ⟨f, rfl⟩ : ∃ g, f = g + 1 := ⟨f - 1, by omega⟩
    have h24 := hr.2.1.2.2
    refine ⟨τ, Or.inl rfl, ?_⟩
    rw [if_neg (show ¬ 1 < cnt (fun i => decide (oT (cb S base n) i = 2)) i 0 from (by decide : ¬ 1 < 0))]
    refine ⟨?_, h9⟩
    unfold f_ObjectFile_findSymbols_2
    rw [C7g8 hr.1.1, bs, hr.2.2.2.2, if_pos (nI_le (by omega) (by omega))]
  | succ k ih =>
    intro i f τ hr h9 hi hf
    obtain ⟨f, rfl⟩ : ∃ g, f = g + 1 := ⟨f - 1, by omega⟩
    have h24 := hr.2.1.2.2
    have eT := oT_lt (cb_lt S base n) i
    unfold f_ObjectFile_findSymbols_2
    rw [C7g8 hr.1.1, bs, hr.2.2.2.2, if_neg (nI_ge (by omega) (by omega)), c_o hr.1.1, bs, k_T hr hF (by omega), xb_mk, C7g9 hr.1.1, bs, h9, if_pos (show Int32.ofInt (-1) < 0 by decide), C7p9 hr.1.1, bs, cnt_s, fnd_s]
    simp only [lk, lEQ (show oT (cb S base n) i < 2 ^ 64 by omega) (show 2 < 2 ^ 64 by decide), f_ObjectFile_findSymbols_36, f_ObjectFile_findSymbols_29, nI_add, decide_eq_true_eq]
    by_cases e : oT (cb S base n) i = 2
    · have hr' : cR sk L (tI τ q 9 (nI i)) q base n S := cR_fr hr (frO_I q g τ 9 _ (by decide) (by decide)) hg (u2_ne (Or.inr (by decide))) (u2_ne (Or.inr (by decide)))
      have e2 := k_fS_2B (c := c) hr' hF (u2_eq : fI (tI τ q 9 (nI i)) q 9 = nI i) (by omega) k (i + 1) f (by omega) (by omega)
      refine ⟨tI τ q 9 (nI i), Or.inr ⟨_, rfl⟩, ?_⟩
      simp only [e, if_true]
      rw [e2]
      by_cases c0 : cnt (fun i => decide (oT (cb S base n) i = 2)) (i + 1) k = 0
      · rw [if_pos c0, c0, if_neg (by decide)]
        exact ⟨rfl, u2_eq⟩
      · rw [if_neg c0, if_pos (by omega)]
    · simp only [e, if_false, Nat.zero_add]
      exact ih (i + 1) f τ hr h9 (by omega) (by omega)
/-- the symbols' section is as told -/
def eS1 (b : Nat → Nat) : Bool := decide (¬ 1 < cnt (fun i => decide (oT b i = 2)) 1 (oS b - 1) ∧ (oY b = 0 ∨ oZ b (oY b) % 24 = 0 ∧ oZ b (oY b) ≤ 1536 ∧ oX b < oS b ∧ oT b (oX b) = 3))
theorem k_fS_42 (hw : w1 (cb S base n) n) (hr : cR sk L τ q base n S) (hF : 8 < F) (hg : g ≠ 8) (h9 : fI τ q 9 = yS (cb S base n)) (h11 : fI τ q 11 = nI 0) : ∃ τ', frO q g τ τ' ∧ f_ObjectFile_findSymbols_42 F c q (cH sk L τ) = some (bI (decide (oY (cb S base n) = 0 ∨ oZ (cb S base n) (oY (cb S base n)) % 24 = 0 ∧ oZ (cb S base n) (oY (cb S base n)) ≤ 1536 ∧ oX (cb S base n) < oS (cb S base n) ∧ oT (cb S base n) (oX (cb S base n)) = 3)), cH sk L τ') ∧ (∀ k, k < 9 → fI τ' q k = fI τ q k) ∧ eI τ' g = eI τ g ∧ ((oY (cb S base n) = 0 ∨ oZ (cb S base n) (oY (cb S base n)) % 24 = 0 ∧ oZ (cb S base n) (oY (cb S base n)) ≤ 1536 ∧ oX (cb S base n) < oS (cb S base n) ∧ oT (cb S base n) (oX (cb S base n)) = 3) → cY τ' q base n S) := by
  have h24 := hr.2.1.2.2
  have hs := hr.2.2.1
  have hy := oY_lt hs
  unfold f_ObjectFile_findSymbols_42
  rw [C7g9 hr.1.1, bs, h9]
  by_cases c0 : oY (cb S base n) = 0
  · have e : yS (cb S base n) = Int32.ofInt (-1) := if_pos c0
    refine ⟨τ, frO_refl _ _ _, ?_, fun _ _ => rfl, rfl, fun _ => ⟨h9, ?_, fun d => absurd c0 d⟩⟩
    · rw [e, if_neg (show ¬ (0 : Int32) ≤ Int32.ofInt (-1) by decide), decide_eq_true (Or.inl c0)]
      rfl
    · rw [h11, show oM (cb S base n) = 0 from if_pos c0]
  · have e : yS (cb S base n) = nI (oY (cb S base n)) := if_neg c0
    have ht := oY_T c0
    have hz := hw.2.2.2.1 _ hy (by rw [ht]; decide) (by rw [ht]; decide)
    have hon := hr.2.1.1.2
    have hz2 : oZ (cb S base n) (oY (cb S base n)) ≤ 65536 := by
      generalize oZ (cb S base n) (oY (cb S base n)) = z at *
      generalize oP (cb S base n) (oY (cb S base n)) = p at *
      omega
    have hL := oL_lt (cb_lt S base n) (oY (cb S base n))
    rw [e, if_pos (show (0 : Int32) ≤ nI (oY (cb S base n)) from nI_pos' (by omega)), bs, c_o hr.1.1, bs, k_Z hr hF hy, xb_mk, C7g9 hr.1.1, bs, h9, e, c_o hr.1.1, bs, k_L hr hF hy, xb_mk, C7g8 hr.1.1, bs, hr.2.2.2.2, nI_l (by omega), show oL (cb S base n) (oY (cb S base n)) = oX (cb S base n) from rfl, c_o hr.1.1, bs, lN_i]
    have hX : oX (cb S base n) < 4294967296 := hL
    simp only [lk, pk_lRem (show oZ (cb S base n) (oY (cb S base n)) < 2 ^ 63 by omega) (show 0 < 24 by decide) (show 24 < 2 ^ 63 by decide), lEQ (show oZ (cb S base n) (oY (cb S base n)) % 24 < 2 ^ 64 from Nat.lt_of_lt_of_le (Nat.mod_lt _ (by decide)) (by decide)) (show 0 < 2 ^ 64 by decide), pk_lLT (show 1536 < 2 ^ 63 by decide) (show oZ (cb S base n) (oY (cb S base n)) < 2 ^ 63 by omega), pk_lLE (show oS (cb S base n) < 2 ^ 63 by omega) (show oX (cb S base n) < 2 ^ 63 by omega), f_ObjectFile_findSymbols_110]
    have bad : ¬ (oZ (cb S base n) (oY (cb S base n)) % 24 = 0 ∧ oZ (cb S base n) (oY (cb S base n)) ≤ 1536 ∧ oX (cb S base n) < oS (cb S base n) ∧ oT (cb S base n) (oX (cb S base n)) = 3) → ∃ τ', frO q g τ τ' ∧ (some (nI 0, cH sk L τ) : Option (Int32 × px_H)) = some (bI (decide (oY (cb S base n) = 0 ∨ oZ (cb S base n) (oY (cb S base n)) % 24 = 0 ∧ oZ (cb S base n) (oY (cb S base n)) ≤ 1536 ∧ oX (cb S base n) < oS (cb S base n) ∧ oT (cb S base n) (oX (cb S base n)) = 3)), cH sk L τ') ∧ (∀ k, k < 9 → fI τ' q k = fI τ q k) ∧ eI τ' g = eI τ g ∧ ((oY (cb S base n) = 0 ∨ oZ (cb S base n) (oY (cb S base n)) % 24 = 0 ∧ oZ (cb S base n) (oY (cb S base n)) ≤ 1536 ∧ oX (cb S base n) < oS (cb S base n) ∧ oT (cb S base n) (oX (cb S base n)) = 3) → cY τ' q base n S) := by
      intro hbad
      refine ⟨τ, frO_refl _ _ _, ?_, fun _ _ => rfl, rfl, fun d => absurd d (fun d => d.elim c0 hbad)⟩
      rw [decide_eq_false (fun d => d.elim c0 hbad)]
      rfl
    by_cases d1 : oZ (cb S base n) (oY (cb S base n)) % 24 = 0
    · rw [if_pos d1]
      by_cases d2 : 1536 < oZ (cb S base n) (oY (cb S base n))
      · rw [if_pos d2]
        exact bad (fun d => by have := d.2.1; omega)
      · rw [if_neg d2]
        by_cases d3 : oS (cb S base n) ≤ oX (cb S base n)
        · rw [if_pos d3]
          exact bad (fun d => by have := d.2.2.1; omega)
        · have hX2 : oX (cb S base n) < oS (cb S base n) := by omega
          have eT := oT_lt (cb_lt S base n) (oX (cb S base n))
          rw [if_neg d3, k_T hr hF hX2, xb_mk]
          simp only [lEQ (show oT (cb S base n) (oX (cb S base n)) < 2 ^ 64 by omega) (show 3 < 2 ^ 64 by decide)]
          by_cases d4 : oT (cb S base n) (oX (cb S base n)) = 3
          · have fr1 := frO_I q g τ 10 (nI (oP (cb S base n) (oY (cb S base n)))) (by decide) (by decide)
            have fr2 := frO_trans fr1 (frO_I q g (tI τ q 10 (nI (oP (cb S base n) (oY (cb S base n))))) 11 (nI (oZ (cb S base n) (oY (cb S base n)) / 24)) (by decide) (by decide))
            have hr2 := cR_fr hr fr2 hg ((u2_ne (Or.inr (by decide))).trans (u2_ne (Or.inr (by decide)))) ((u2_ne (Or.inr (by decide))).trans (u2_ne (Or.inr (by decide))))
            have fr3 := frO_trans fr2 (frO_I q g _ 12 (nI (oP (cb S base n) (oX (cb S base n)))) (by decide) (by decide))
            have hr3 := cR_fr hr fr3 hg ((u2_ne (Or.inr (by decide))).trans ((u2_ne (Or.inr (by decide))).trans (u2_ne (Or.inr (by decide))))) ((u2_ne (Or.inr (by decide))).trans ((u2_ne (Or.inr (by decide))).trans (u2_ne (Or.inr (by decide)))))
            have fr4 := frO_trans fr3 (frO_I q g _ 13 (nI (oZ (cb S base n) (oX (cb S base n)))) (by decide) (by decide))
            refine ⟨_, fr4, ?_, ?_, rfl, fun _ => ⟨?_, ?_, fun _ => ⟨?_, ?_, u2_eq⟩⟩⟩
            · rw [if_pos d4, C7g9 hr.1.1, bs, h9, e, c_o hr.1.1, bs, k_P hr hF hy, xb_mk, lN_i, C7p10 hr.1.1, bs, lN_i, pk_div (by omega) (by decide) (by decide), C7p11 hr.1.1, bs, c_o hr.1.1, bs, k_P hr2 hF hX2, xb_mk, lN_i, C7p12 hr.1.1, bs, c_o hr.1.1, bs, k_Z hr3 hF hX2, xb_mk, lN_i, C7p13 hr.1.1, bs, decide_eq_true (Or.inr ⟨d1, by omega, hX2, d4⟩)]
              rfl
            · intro k hk
              exact (u2_ne (Or.inr (by omega))).trans ((u2_ne (Or.inr (by omega))).trans ((u2_ne (Or.inr (by omega))).trans (u2_ne (Or.inr (by omega)))))
            · exact ((u2_ne (Or.inr (by decide))).trans ((u2_ne (Or.inr (by decide))).trans ((u2_ne (Or.inr (by decide))).trans (u2_ne (Or.inr (by decide)))))).trans h9
            · rw [show oM (cb S base n) = oZ (cb S base n) (oY (cb S base n)) / 24 from if_neg c0]
              exact (u2_ne (Or.inr (by decide))).trans ((u2_ne (Or.inr (by decide))).trans u2_eq)
            · exact (u2_ne (Or.inr (by decide))).trans ((u2_ne (Or.inr (by decide))).trans ((u2_ne (Or.inr (by decide))).trans u2_eq))
            · exact (u2_ne (Or.inr (by decide))).trans u2_eq
          · rw [if_neg d4]
            exact bad (fun d => d4 d.2.2.2)
    · rw [if_neg d1]
      exact bad (fun d => d1 d.1)
theorem k_findSymbols (hw : w1 (cb S base n) n) (hT0 : oT (cb S base n) 0 = 0) (hr : cR sk L τ q base n S) (hF : 24 < F) (hg : g ≠ 8) (h9 : fI τ q 9 = Int32.ofInt (-1)) (h11 : fI τ q 11 = nI 0) : ∃ τ', frO q g τ τ' ∧ f_ObjectFile_findSymbols F c q (cH sk L τ) = some (bI (eS1 (cb S base n)), cH sk L τ') ∧ fI τ' q 7 = fI τ q 7 ∧ fI τ' q 8 = fI τ q 8 ∧ eI τ' g = eI τ g ∧ (eS1 (cb S base n) = true → cY τ' q base n S) := by
  have h24 := hr.2.1.2.2
  have hs := hr.2.2.1
  have hF8 : 8 < F := by omega
  unfold f_ObjectFile_findSymbols
  obtain ⟨τ1, hτ, h⟩ := k_fS_2A (c := c) (sk := sk) (L := L) (q := q) (base := base) (n := n) (S := S) hF8 hg (oS (cb S base n)) 0 F τ hr h9 (by omega) (by omega)
  have ec : cnt (fun i => decide (oT (cb S base n) i = 2)) 0 (oS (cb S base n)) = cnt (fun i => decide (oT (cb S base n) i = 2)) 1 (oS (cb S base n) - 1) := by
    obtain ⟨s, hs'⟩ : ∃ s, oS (cb S base n) = s + 1 := ⟨oS (cb S base n) - 1, by omega⟩
    rw [hs', cnt_s, if_neg (by rw [hT0]; decide), Nat.zero_add, Nat.add_sub_cancel]
  have ef : fnd (fun i => decide (oT (cb S base n) i = 2)) 0 0 (oS (cb S base n)) = oY (cb S base n) := by
    unfold oY
    obtain ⟨s, hs'⟩ : ∃ s, oS (cb S base n) = s + 1 := ⟨oS (cb S base n) - 1, by omega⟩
    rw [hs', fnd_s, if_neg (by rw [hT0]; decide), Nat.add_sub_cancel]
  rw [ec, ef] at h
  have fr1 : frO q g τ τ1 := by
    rcases hτ with e | ⟨v, e⟩
    · rw [e]; exact frO_refl _ _ _
    · rw [e]; exact frO_I q g τ 9 v (by decide) (by decide)
  have hk : ∀ k, k ≠ 9 → fI τ1 q k = fI τ q k := by
    intro k hk
    rcases hτ with e | ⟨v, e⟩
    · rw [e]
    · rw [e]; exact u2_ne (Or.inr hk)
  have heg : eI τ1 g = eI τ g := by
    rcases hτ with e | ⟨v, e⟩ <;> rw [e]
    rfl
  unfold eS1
  by_cases c1 : 1 < cnt (fun i => decide (oT (cb S base n) i = 2)) 1 (oS (cb S base n) - 1)
  · rw [if_pos c1] at h
    refine ⟨τ1, fr1, ?_, hk 7 (by decide), hk 8 (by decide), heg, fun e => absurd c1 (of_decide_eq_true e).1⟩
    rw [h, decide_eq_false (fun d => d.1 c1)]
    rfl
  · rw [if_neg c1] at h
    have hr1 := cR_fr hr fr1 hg (hk 7 (by decide)) (hk 8 (by decide))
    have hc0 := @cnt_0 (fun i => decide (oT (cb S base n) i = 2)) (oS (cb S base n) - 1) 1 (by omega)
    rw [show fnd (fun i => decide (oT (cb S base n) i = 2)) 0 1 (oS (cb S base n) - 1) = oY (cb S base n) from rfl] at hc0
    have h9' : fI τ1 q 9 = yS (cb S base n) := by
      rw [h.2]
      unfold yS
      by_cases e : oY (cb S base n) = 0
      · rw [if_pos (hc0.mpr e), if_pos e]
      · rw [if_neg (fun d => e (hc0.mp d)), if_neg e]
    obtain ⟨τ2, f1, f2, f3, f5, f6⟩ := k_fS_42 (c := c) hw hr1 hF8 hg h9' ((hk 11 (by decide)).trans h11)
    refine ⟨τ2, frO_trans fr1 f1, ?_, (f3 7 (by decide)).trans (hk 7 (by decide)), (f3 8 (by decide)).trans (hk 8 (by decide)), f5.trans heg, fun e => f6 (of_decide_eq_true e).2⟩
    rw [h.1, f2]
    congr 3
    exact decide_eq_decide.mpr ⟨fun d => ⟨c1, d⟩, fun d => d.2⟩
end CSY
