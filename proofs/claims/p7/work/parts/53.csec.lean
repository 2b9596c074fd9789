/-! the class's sections of an object -/
/-- nothing has changed but what a reading of the object at q writes: its fields 7 .. 14, its groups at g, the marks -/
def frO (q g : Nat) (τ τ' : px_TT) : Prop := (∀ a k, (a ≠ q ∨ k < 7 ∨ 14 < k) → fI τ' a k = fI τ a k) ∧ (∀ a k, fJ τ' a k = fJ τ a k) ∧ (∀ a k, fN τ' a k = fN τ a k) ∧ (∀ a, a ≠ g → a ≠ 139 → eI τ' a = eI τ a) ∧ (∀ a, eJ τ' a = eJ τ a) ∧ (∀ a, eN τ' a = eN τ a)
theorem frO_refl (q g : Nat) (τ : px_TT) : frO q g τ τ := ⟨fun _ _ _ => rfl, fun _ _ => rfl, fun _ _ => rfl, fun _ _ _ => rfl, fun _ => rfl, fun _ => rfl⟩
theorem frO_trans {q g : Nat} {τ τ' τ'' : px_TT} (h1 : frO q g τ τ') (h2 : frO q g τ' τ'') : frO q g τ τ'' := ⟨fun a k h => (h2.1 a k h).trans (h1.1 a k h), fun a k => (h2.2.1 a k).trans (h1.2.1 a k), fun a k => (h2.2.2.1 a k).trans (h1.2.2.1 a k), fun a h h' => (h2.2.2.2.1 a h h').trans (h1.2.2.2.1 a h h'), fun a => (h2.2.2.2.2.1 a).trans (h1.2.2.2.2.1 a), fun a => (h2.2.2.2.2.2 a).trans (h1.2.2.2.2.2 a)⟩
theorem frO_I (q g : Nat) (τ : px_TT) (k : Nat) (v : Int32) (h1 : 7 ≤ k) (h2 : k ≤ 14) : frO q g τ (tI τ q k v) := ⟨fun a j h => u2_ne (by omega), fun _ _ => rfl, fun _ _ => rfl, fun _ _ _ => rfl, fun _ => rfl, fun _ => rfl⟩
theorem frO_g (q g : Nat) (τ : px_TT) (f : Nat → Int32) : frO q g τ (vI τ g f) := ⟨fun a j h => rfl, fun _ _ => rfl, fun _ _ => rfl, fun a h _ => u1_ne h, fun _ => rfl, fun _ => rfl⟩
theorem frO_m (q g : Nat) (τ : px_TT) (f : Nat → Int32) : frO q g τ (vI τ 139 f) := ⟨fun a j h => rfl, fun _ _ => rfl, fun _ _ => rfl, fun a _ h => u1_ne h, fun _ => rfl, fun _ => rfl⟩
theorem cO_fr {sk : Nat → Nat × Nat × Nat} {L q g base n : Nat} {τ τ' : px_TT} {S : Nat → Int32} (ho : cO sk L τ q base n S) (hf : frO q g τ τ') (hg : g ≠ 8) : cO sk L τ' q base n S := by
  obtain ⟨o1, o2, o3, o4, o5, o6, o7, o8, o9, o10⟩ := ho
  exact ⟨o1, (hf.2.2.1 q 0).trans o2, o3, (hf.2.2.1 7 0).trans o4, o5, (hf.2.2.2.1 8 (fun e => hg e.symm) (by decide)).trans o6, (hf.1 q 5 (by omega)).trans o7, (hf.1 q 6 (by omega)).trans o8, o9, o10⟩
/-- a section's group as the class has it: -1 for one that is not kept -/
def gv (b : Nat → Nat) (i : Nat) : Int32 := if oK b i = true then nI (oG b i) else Int32.ofInt (-1)
theorem gv_n (b : Nat → Nat) (i : Nat) : (gv b i < 0) ↔ oK b i = false := by
  unfold gv
  cases hq : oK b i with
  | true =>
    rw [if_pos rfl]
    have : oG b i ≤ 5 := by unfold oG; (repeat' split) <;> decide
    have h2 := nI_pos (n := oG b i) (by omega)
    exact ⟨fun e => absurd e h2, fun e => nomatch e⟩
  | false => rw [if_neg (by decide)]; decide
theorem oG_le (b : Nat → Nat) (i : Nat) : oG b i ≤ 5 := by unfold oG; (repeat' split) <;> decide
theorem gv_b (b : Nat → Nat) (i : Nat) : (gv b i).toInt8.toInt32.toInt8.toInt32 = gv b i := by
  unfold gv
  split
  · have := oG_le b i
    have h : ∀ x, x ≤ 5 → (nI x).toInt8.toInt32.toInt8.toInt32 = nI x := by decide
    exact h _ this
  · decide
section CSE
variable {F : Nat} {c : px_CT} {sk : Nat → Nat × Nat × Nat} {L q g base n : Nat} {τ : px_TT} {S : Nat → Int32}
theorem k_areRowsGood (ho : cO sk L τ q base n S) (hF : 8 < F) (hn : 64 ≤ n) (hg : g ≠ 8) : ∃ τ', frO q g τ τ' ∧ f_ObjectFile_areRowsGood F c q (cH sk L τ) = some (bI (decide (1 ≤ oS (cb S base n) ∧ oS (cb S base n) ≤ 24 ∧ oR (cb S base n) + 64 * oS (cb S base n) ≤ n ∧ oT (cb S base n) 0 = 0)), cH sk L τ') ∧ ((1 ≤ oS (cb S base n) ∧ oS (cb S base n) ≤ 24 ∧ oR (cb S base n) + 64 * oS (cb S base n) ≤ n ∧ oT (cb S base n) 0 = 0) → cR sk L τ' q base n S) ∧ fI τ' q 9 = fI τ q 9 ∧ fI τ' q 11 = fI τ q 11 := by
  have hS := oS_lt (cb_lt S base n)
  have hR := oR_lt (cb_lt S base n)
  have hon := ho.2.2.2.2.2.2.2.2.1
  unfold f_ObjectFile_areRowsGood
  rw [c_o ho.1, bs, k_num ho hF (by decide) (by decide), nm_in (by omega), xb_mk, c_o ho.1, bs, k_num ho hF (by decide) (by decide), nm_in (by omega), xb_mk, show le (cb S base n) 60 2 = oS (cb S base n) from rfl, show le (cb S base n) 40 8 = oR (cb S base n) from rfl, lN_i, lN_i, nI_l (by omega), show (64 : Int64) = lN 64 from rfl, lN_mul, c_o ho.1, bs, k_holds ho hR (by omega), xb_mk]
  simp only [nI_ltI (show oS (cb S base n) < 2 ^ 31 by omega) (show 1 < 2 ^ 31 by decide), nI_ltI (show 24 < 2 ^ 31 by decide) (show oS (cb S base n) < 2 ^ 31 by omega), show (0 : Int32) = nI 0 from rfl, bI_0, decide_eq_false_iff_not, f_ObjectFile_areRowsGood_43, f_ObjectFile_areRowsGood_71, xz_0, xz_1]
  by_cases d1 : oS (cb S base n) < 1
  · refine ⟨τ, frO_refl _ _ _, ?_, fun e => by have := e.1; omega, rfl, rfl⟩
    rw [if_pos d1, decide_eq_false (fun e => by have := e.1; omega)]
    rfl
  · by_cases d2 : 24 < oS (cb S base n)
    · refine ⟨τ, frO_refl _ _ _, ?_, fun e => by have := e.2.1; omega, rfl, rfl⟩
      rw [if_neg d1, if_pos d2, decide_eq_false (fun e => by have := e.2.1; omega)]
      rfl
    · by_cases d3 : oR (cb S base n) + 64 * oS (cb S base n) ≤ n
      · have fr : frO q g τ (tI (tI τ q 7 (nI (oR (cb S base n)))) q 8 (nI (oS (cb S base n)))) := frO_trans (frO_I q g τ 7 _ (by decide) (by decide)) (frO_I q g _ 8 _ (by decide) (by decide))
        have hr : cR sk L (tI (tI τ q 7 (nI (oR (cb S base n)))) q 8 (nI (oS (cb S base n)))) q base n S := ⟨cO_fr ho fr hg, ⟨⟨hn, hon⟩, d3, by omega⟩, by omega, (u2_ne (Or.inr (by decide))).trans u2_eq, u2_eq⟩
        have hT := oT_lt (cb_lt S base n) 0
        refine ⟨_, fr, ?_, fun _ => hr, (u2_ne (Or.inr (by decide))).trans (u2_ne (Or.inr (by decide))), (u2_ne (Or.inr (by decide))).trans (u2_ne (Or.inr (by decide)))⟩
        rw [if_neg d1, if_neg d2, if_neg (fun e => e d3), C7p7 ho.1, bs, C7p8 ho.1, bs, c_o ho.1, bs, k_T hr hF (by omega), xb_mk]
        simp only [lEQ (show oT (cb S base n) 0 < 2 ^ 64 by omega) (show 0 < 2 ^ 64 by decide)]
        by_cases d4 : oT (cb S base n) 0 = 0
        · rw [if_pos d4, decide_eq_true ⟨by omega, by omega, d3, d4⟩]
        · rw [if_neg d4, decide_eq_false (fun e => d4 e.2.2.2)]
      · refine ⟨τ, frO_refl _ _ _, ?_, fun e => absurd e.2.2.1 d3, rfl, rfl⟩
        rw [if_neg d1, if_neg d2, if_pos d3, decide_eq_false (fun e => d3 e.2.2.1)]
        rfl
theorem k_findGroup {i : Nat} {h : px_H} : f_ObjectFile_findGroup F c (lN (oT (cb S base n) i)) (lN (oF (cb S base n) i)) h = some (gv (cb S base n) i, h) := by
  have e1 := oT_lt (cb_lt S base n) i
  have e2 := oF_lt (cb_lt S base n) i
  have E : ∀ y, y < 4294967296 → (lN (oT (cb S base n) i) = lN y ↔ oT (cb S base n) i = y) := fun y hy => lEQ (by omega) (by omega)
  have A : ∀ y, y < 4294967296 → lN (oF (cb S base n) i) &&& lN y = lN (oF (cb S base n) i &&& y) := fun y hy => wb_and e2 (by omega)
  have Z : ∀ y, y < 4294967296 → (lN (oF (cb S base n) i &&& y) = lN 0 ↔ oF (cb S base n) i &&& y = 0) := fun y hy => lEQ (Nat.lt_of_le_of_lt Nat.and_le_right (by omega)) (by decide)
  simp only [f_ObjectFile_findGroup, f_ObjectFile_findGroup_14, f_ObjectFile_findGroup_24, f_ObjectFile_findGroup_47, f_ObjectFile_findGroup_83, lk, E 1 (by decide), E 8 (by decide), A 2 (by decide), A 1024 (by decide), A 4 (by decide), A 1 (by decide), Z 2 (by decide), Z 1024 (by decide), Z 4 (by decide), Z 1 (by decide)]
  unfold gv oK oG
  generalize oT (cb S base n) i = t
  generalize (oF (cb S base n) i &&& 2) = f2
  generalize (oF (cb S base n) i &&& 1024) = f10
  generalize (oF (cb S base n) i &&& 4) = f4
  generalize (oF (cb S base n) i &&& 1) = f1
  by_cases c1 : t = 1
  · subst c1
    by_cases d2 : f2 = 0 <;> by_cases d10 : f10 = 0 <;> by_cases d4 : f4 = 0 <;> by_cases d1 : f1 = 0 <;> simp [d2, d10, d4, d1]
  · by_cases c8 : t = 8
    · subst c8
      by_cases d2 : f2 = 0 <;> by_cases d10 : f10 = 0 <;> by_cases d4 : f4 = 0 <;> by_cases d1 : f1 = 0 <;> simp [d2, d10, d4, d1]
    · simp [c1, c8]
theorem cR_fr {τ' : px_TT} (hr : cR sk L τ q base n S) (hf : frO q g τ τ') (hg : g ≠ 8) (h7 : fI τ' q 7 = fI τ q 7) (h8 : fI τ' q 8 = fI τ q 8) : cR sk L τ' q base n S := ⟨cO_fr hr.1 hf hg, hr.2.1, hr.2.2.1, h7.trans hr.2.2.2.1, h8.trans hr.2.2.2.2⟩
theorem k_sE_58 {i : Nat} {k2 : Nat → Int32 → px_H → Option (Int32 × px_H)} (hr : cR sk L τ q base n S) (hF : 8 < F) (hi : i < oS (cb S base n)) (hg3 : fN τ q 3 = some g) (hga : ar sk L 0 24 g) (hg : g ≠ 8) : f_ObjectFile_sectionsError_58 F c k2 q (nI i) (lN (oT (cb S base n) i)) (cH sk L τ) = if oK (cb S base n) i = true ∧ (16384 < oZ (cb S base n) i ∨ oA (cb S base n) i ≠ 0 ∧ isP (oA (cb S base n) i) = false) then some (nI 4, cH sk L (vI τ g (upd (eI τ g) i (gv (cb S base n) i)))) else k2 q (nI (i + 1)) (cH sk L (vI τ g (upd (eI τ g) i (gv (cb S base n) i)))) := by
  have h24 := hr.2.1.2.2
  have fr := frO_g q g τ (upd (eI τ g) i (gv (cb S base n) i))
  have hr' := cR_fr hr fr hg rfl rfl
  have eA := oA_lt (cb_lt S base n) i
  have eZ := oZ_lt (cb_lt S base n) i
  unfold f_ObjectFile_sectionsError_58
  rw [C7r3 hr.1.1 hg3, bs, c_o hr.1.1, bs, k_Fl hr hF hi, xb_mk, k_findGroup, xb_mk, gv_b, c_sI hga (Or.inl rfl) (by decide) (by omega), bs, c_o hr.1.1, bs, k_A hr' hF hi, xb_mk]
  simp only [lEQ eA (show 0 < 2 ^ 64 by decide), k_isPower eA, xb_mk, f_ObjectFile_sectionsError_96, f_ObjectFile_sectionsError_110, c_o hr.1.1, bs, k_Z hr' hF hi, lk, k_above eZ (show 16384 < 2 ^ 64 by decide), f_ObjectFile_sectionsError_115, C7r3 hr.1.1 (show fN (vI τ g (upd (eI τ g) i (gv (cb S base n) i))) q 3 = some g from hg3), c_aI hga (Or.inl rfl) (show 24 < 2 ^ 31 by decide) (show i < 24 by omega), f_ObjectFile_sectionsError_131, f_ObjectFile_sectionsError_133, nI_add, show (0 : Int32) = nI 0 from rfl, bI_0, decide_eq_false_iff_not]
  rw [show eI (vI τ g (upd (eI τ g) i (gv (cb S base n) i))) g i = gv (cb S base n) i by
    show u1 τ.2.2.2.1 g (upd (eI τ g) i (gv (cb S base n) i)) g i = _
    rw [u1_eq]
    exact upd_eq]
  have eg : (gv (cb S base n) i < nI 0) ↔ oK (cb S base n) i = false := gv_n _ _
  simp only [eg]
  generalize cH sk L (vI τ g (upd (eI τ g) i (gv (cb S base n) i))) = H
  generalize oK (cb S base n) i = K
  generalize isP (oA (cb S base n) i) = P
  generalize oA (cb S base n) i = a
  generalize oZ (cb S base n) i = z
  have k1 : ¬ (nI 1 = nI 0) := by decide
  cases K with
  | false => simp
  | true =>
    by_cases c1 : a = 0
    · by_cases c2 : 16384 < z
      · simp [c1, c2, k1]
      · simp [c1, c2]
    · cases P with
      | false => simp [c1, k1]
      | true =>
        by_cases c2 : 16384 < z
        · simp [c1, c2, k1]
        · simp [c1, c2]
theorem k_sectionsError_2 (hF : 8 < F) (hga : ar sk L 0 24 g) (hg : g ≠ 8) : ∀ (k i f : Nat) (τ : px_TT), cR sk L τ q base n S → fN τ q 3 = some g → (∀ j, j < i → eI τ g j = gv (cb S base n) j) → i + k = oS (cb S base n) → k < f → ∃ τ', frO q g τ τ' ∧ f_ObjectFile_sectionsError_2 F c f q (nI i) (cH sk L τ) = some (nI (fst0 (eSec (cb S base n) n) i k), cH sk L τ') ∧ (fst0 (eSec (cb S base n) n) i k = 0 → ∀ j, j < oS (cb S base n) → eI τ' g j = gv (cb S base n) j) ∧ ∀ k, fI τ' q k = fI τ q k := by
  intro k
  induction k with
  | zero =>
    intro i f τ hr h3 hj hi hf
    obtain ⟨f, rfl⟩ : ∃ g, f = g + 1 := ⟨f - 1, by omega⟩
    have h24 := hr.2.1.2.2
    refine ⟨τ, frO_refl _ _ _, ?_, fun _ j hjs => hj j (by omega), fun _ => rfl⟩
    unfold f_ObjectFile_sectionsError_2
    rw [C7g8 hr.1.1, bs, hr.2.2.2.2, if_pos (nI_le (by omega) (by omega))]
    rfl
  | succ k ih =>
    intro i f τ hr h3 hj hi hf
    obtain ⟨f, rfl⟩ : ∃ g, f = g + 1 := ⟨f - 1, by omega⟩
    have h24 := hr.2.1.2.2
    have hiS : i < oS (cb S base n) := by omega
    have eT := oT_lt (cb_lt S base n) i
    have eP := oP_lt (cb_lt S base n) i
    have eZ := oZ_lt (cb_lt S base n) i
    have fr := frO_g q g τ (upd (eI τ g) i (gv (cb S base n) i))
    have hr' := cR_fr hr fr hg rfl rfl
    unfold f_ObjectFile_sectionsError_2
    rw [C7g8 hr.1.1, bs, hr.2.2.2.2, if_neg (nI_ge (by omega) (by omega)), C7r3 hr.1.1 h3, bs, c_l hga (by decide), bs, if_neg (nI_ge (by omega) (by decide)), c_o hr.1.1, bs, k_T hr hF hiS, xb_mk, c_o hr.1.1, bs, k_P hr hF hiS, xb_mk, c_o hr.1.1, bs, k_Z hr hF hiS, xb_mk, c_o hr.1.1, bs, k_holds hr.1 eP eZ, xb_mk, k_sE_58 hr hF hiS h3 hga hg]
    simp only [lEQ (show oT (cb S base n) i < 2 ^ 64 by omega) (show 0 < 2 ^ 64 by decide), lk, lEQ (show oT (cb S base n) i < 2 ^ 64 by omega) (show 8 < 2 ^ 64 by decide), show (0 : Int32) = nI 0 from rfl, bI_0, decide_eq_false_iff_not, f_ObjectFile_sectionsError_56]
    rw [fst0_s]
    by_cases c1 : oT (cb S base n) i ≠ 0 ∧ oT (cb S base n) i ≠ 8 ∧ ¬ oP (cb S base n) i + oZ (cb S base n) i ≤ n
    · have e3 : eSec (cb S base n) n i = 3 := if_pos c1
      refine ⟨τ, frO_refl _ _ _, ?_, fun e => ?_, fun _ => rfl⟩
      · rw [if_neg c1.1, if_neg c1.2.1, if_pos c1.2.2, e3, if_neg (by decide)]
      · rw [e3, if_neg (by decide)] at e
        exact absurd e (by decide)
    · have e1 : ∀ (X Y : Option (Int32 × px_H)), (if oT (cb S base n) i = 0 then X else if oT (cb S base n) i = 8 then X else if ¬ oP (cb S base n) i + oZ (cb S base n) i ≤ n then Y else X) = X := by
        intro X Y
        by_cases d1 : oT (cb S base n) i = 0
        · rw [if_pos d1]
        · rw [if_neg d1]
          by_cases d2 : oT (cb S base n) i = 8
          · rw [if_pos d2]
          · rw [if_neg d2, if_neg (fun e => c1 ⟨d1, d2, e⟩)]
      rw [e1]
      have e4 : eSec (cb S base n) n i = if oK (cb S base n) i = true ∧ (16384 < oZ (cb S base n) i ∨ oA (cb S base n) i ≠ 0 ∧ isP (oA (cb S base n) i) = false) then 4 else 0 := if_neg c1
      by_cases c2 : oK (cb S base n) i = true ∧ (16384 < oZ (cb S base n) i ∨ oA (cb S base n) i ≠ 0 ∧ isP (oA (cb S base n) i) = false)
      · rw [if_pos c2] at e4
        refine ⟨_, fr, ?_, fun e => ?_, fun _ => rfl⟩
        · rw [if_pos c2, e4, if_neg (by decide)]
        · rw [e4, if_neg (by decide)] at e
          exact absurd e (by decide)
      · rw [if_neg c2] at e4
        rw [if_neg c2, e4, if_pos rfl]
        obtain ⟨τ', f1, f2, f3, f4⟩ := ih (i + 1) f (vI τ g (upd (eI τ g) i (gv (cb S base n) i))) hr' h3 (by
          intro j hji
          show u1 τ.2.2.2.1 g (upd (eI τ g) i (gv (cb S base n) i)) g j = _
          rw [u1_eq]
          by_cases e : j = i
          · rw [e]; exact upd_eq
          · rw [upd_ne e]; exact hj j (by omega)) (by omega) (by omega)
        exact ⟨τ', frO_trans fr f1, f2, f3, f4⟩
theorem k_sectionsError (hr : cR sk L τ q base n S) (hF : 24 < F) (h3 : fN τ q 3 = some g) (hga : ar sk L 0 24 g) (hg : g ≠ 8) : ∃ τ', frO q g τ τ' ∧ f_ObjectFile_sectionsError F c q (cH sk L τ) = some (nI (fst0 (eSec (cb S base n) n) 0 (oS (cb S base n))), cH sk L τ') ∧ (fst0 (eSec (cb S base n) n) 0 (oS (cb S base n)) = 0 → ∀ j, j < oS (cb S base n) → eI τ' g j = gv (cb S base n) j) ∧ ∀ k, fI τ' q k = fI τ q k := by
  unfold f_ObjectFile_sectionsError
  have := hr.2.1.2.2
  exact k_sectionsError_2 (by omega) hga hg _ 0 F τ hr h3 (fun j h => absurd h (Nat.not_lt_zero j)) (by omega) (by omega)
end CSE
