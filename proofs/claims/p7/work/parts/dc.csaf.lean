/-! the class's readers: safe on whatever stands there -/
def rowS (sk : Nat → Nat × Nat × Nat) (L : Nat) (τ : px_TT) (r A n : Nat) : Prop := ob sk L 10 r ∧ ar sk L 0 n A ∧ n ≤ 65536 ∧ fN τ r 0 = some A ∧ ∃ z, z ≤ n ∧ fI τ r 1 = nI z
theorem rowOK_S {sk : Nat → Nat × Nat × Nat} {L : Nat} {τ : px_TT} {r A n : Nat} (h : rowOK sk L τ r A n) : rowS sk L τ r A n := ⟨h.1, h.2.1, h.2.2.1, h.2.2.2.1, h.2.2.2.2.1⟩
/-- a cell for an object of a file, whatever it holds -/
def obF (sk : Nat → Nat × Nat × Nat) (L : Nat) (τ : px_TT) (q : Nat) : Prop := ob sk L 7 q ∧ fN τ q 0 = some 7 ∧ ∃ g, fN τ q 3 = some g ∧ ar sk L 0 24 g
section CSF
variable {F : Nat} {c : px_CT} {sk : Nat → Nat × Nat × Nat} {L : Nat} {τ : px_TT} {r A n q : Nat}
theorem k_atS {x : Int32} (h : rowS sk L τ r A n) : ∃ v, f_Row_at F c r x (cH sk L τ) = some (v, cH sk L τ) := by
  obtain ⟨h1, h2, h3, h4, z, hz, ez⟩ := h
  unfold f_Row_at f_Row_at_25 f_Row_at_26
  by_cases c1 : x < 0
  · exact ⟨_, by rw [if_pos c1]⟩
  · obtain ⟨i, hi, ei⟩ := nI_of c1
    rw [if_neg c1, C10g1 h1, bs, ez, ei]
    by_cases c2 : z ≤ i
    · exact ⟨_, by rw [if_pos (nI_le c2 hi)]⟩
    · exact ⟨_, by rw [if_neg (nI_ge (by omega) (by omega)), C10r0 h1 h4, bs, c_aI h2 (Or.inl rfl) (by omega) (by omega), bs]⟩
theorem k_num7S {x : Int32} (h : rowS sk L τ r A n) : ∀ (d f : Nat) (v : Int64), d < f → d < 2 ^ 30 → ∃ w, f_Row_num_7 F c f r x v (nI d - nI 1) (cH sk L τ) = some (w, cH sk L τ) := by
  intro d
  induction d with
  | zero =>
    intro f v hf _
    obtain ⟨f, rfl⟩ : ∃ x, f = x + 1 := ⟨f - 1, by omega⟩
    unfold f_Row_num_7 f_Row_num_33
    exact ⟨_, by rw [if_pos (by decide)]⟩
  | succ d ih =>
    intro f v hf hd
    obtain ⟨f, rfl⟩ : ∃ x, f = x + 1 := ⟨f - 1, by omega⟩
    rw [pk_sub (by omega), Nat.add_sub_cancel]
    obtain ⟨w, kw⟩ := k_atS (F := F) (c := c) (x := x + nI d) h
    unfold f_Row_num_7
    rw [if_neg (nI_pos (by omega)), c_o h.1, bs, kw, xb_mk, nI_back]
    exact ih f _ (by omega) (by omega)
theorem k_numS {x : Int32} {k : Nat} (hF : 8 < F) (hk : k ≤ 8) (h : rowS sk L τ r A n) : ∃ w, f_Row_num F c r x (nI k) (cH sk L τ) = some (w, cH sk L τ) := k_num7S h k F _ (by omega) (by omega)
theorem k_aboveS {a b : Int64} {ph : px_H} : ∃ z, f_H_above F c a b ph = some (bI z, ph) := by
  obtain ⟨x, hx, ex⟩ := wb_of a
  obtain ⟨y, hy, ey⟩ := wb_of b
  rw [ex, ey]
  exact ⟨_, k_above hx hy⟩
theorem k_holdsS {a b : Int64} (h : rowS sk L τ r A n) : ∃ z, f_Row_holds F c r a b (cH sk L τ) = some (bI z, cH sk L τ) := by
  obtain ⟨h1, h2, h3, h4, z, hz, ez⟩ := h
  obtain ⟨y, ky⟩ := k_aboveS (F := F) (c := c) (a := a) (b := (nI z).toInt64) (ph := cH sk L τ)
  obtain ⟨u, ku⟩ := k_aboveS (F := F) (c := c) (a := b) (b := (nI z).toInt64 - a) (ph := cH sk L τ)
  unfold f_Row_holds f_Row_holds_30 f_Row_holds_31
  rw [C10g1 h1, bs, ez, ky, xb_mk, C10g1 h1, bs, ez, ku, xb_mk]
  cases y with
  | true => exact ⟨false, by rw [if_neg (show ¬ bI true = 0 by decide), xz_0]⟩
  | false =>
    rw [if_pos (show bI false = 0 from rfl)]
    cases u with
    | true => exact ⟨false, by rw [if_neg (show ¬ bI true = 0 by decide), xz_0]⟩
    | false => exact ⟨true, by rw [if_pos (show bI false = 0 from rfl), xz_1]⟩
theorem k_nameLen_2S {x y : Int32} (h : rowS sk L τ r A n) : ∀ (d k f : Nat), k + d = 21 → d < f → ∃ w, w ≤ 20 ∧ f_Row_nameLength_2 F c f r x y (nI k) (cH sk L τ) = some (nI w, cH sk L τ) := by
  intro d
  induction d with
  | zero =>
    intro k f hk hf
    obtain ⟨f, rfl⟩ : ∃ x, f = x + 1 := ⟨f - 1, by omega⟩
    unfold f_Row_nameLength_2 f_Row_nameLength_33
    exact ⟨0, by decide, by rw [if_pos (nI_lt (by omega) (by omega))]⟩
  | succ d ih =>
    intro k f hk hf
    obtain ⟨f, rfl⟩ : ∃ x, f = x + 1 := ⟨f - 1, by omega⟩
    obtain ⟨w, kw⟩ := k_atS (F := F) (c := c) (x := x + nI k) h
    unfold f_Row_nameLength_2 f_Row_nameLength_33 f_Row_nameLength_25
    rw [if_neg (nI_nlt (by omega) (by omega)), c_o h.1, bs, kw, xb_mk, nI_add]
    split
    · exact ⟨0, by decide, rfl⟩
    · split
      · exact ⟨k, by omega, rfl⟩
      · exact ih (k + 1) f (by omega) (by omega)
theorem k_nameLenS {x y : Int32} (hF : 32 < F) (h : rowS sk L τ r A n) : ∃ w, w ≤ 20 ∧ f_Row_nameLength F c r x y (cH sk L τ) = some (nI w, cH sk L τ) := k_nameLen_2S h 21 0 F rfl (by omega)
theorem k_begins_2S {j m : Nat} {l : List Nat} (hj : j < pg_nc) (hkB : ki_B (c j).1 = true) (hkv : kv c j l) (hl : l.length = m) (hm : m < 2 ^ 30) (h : rowS sk L τ r A n) : ∀ (d i f : Nat), i + d = m → d < f → ∃ z, f_Row_begins_2 F c f r j (nI i) (cH sk L τ) = some (bI z, cH sk L τ) := by
  intro d
  induction d with
  | zero =>
    intro i f hi hf
    obtain ⟨f, rfl⟩ : ∃ x, f = x + 1 := ⟨f - 1, by omega⟩
    unfold f_Row_begins_2 f_Row_begins_27
    exact ⟨true, by rw [xkl_at hkv hj, bs, hl, if_pos (nI_le (by omega) (by omega))]; rfl⟩
  | succ d ih =>
    intro i f hi hf
    obtain ⟨f, rfl⟩ : ∃ x, f = x + 1 := ⟨f - 1, by omega⟩
    obtain ⟨w, kw⟩ := k_atS (F := F) (c := c) (x := nI i) h
    unfold f_Row_begins_2 f_Row_begins_19
    rw [xkl_at hkv hj, bs, hl, if_neg (nI_ge (by omega) (by omega)), c_o h.1, bs, kw, xb_mk, xkB_at hkv hj hkB (by omega) (by omega), bs, nI_add]
    split
    · exact ih (i + 1) f (by omega) (by omega)
    · exact ⟨false, rfl⟩
theorem k_onum_49S {P : Nat} (hS : GS sk L) (hR : GR τ) (ho : obF sk L τ q) : ∀ (d f : Nat) (v : Int64), P + d ≤ 65536 → d < f → ∃ w, f_ObjectFile_num_49 F c f q (nI P) v (nI d - nI 1) (cH sk L τ) = some (w, cH sk L τ) := by
  intro d
  induction d with
  | zero =>
    intro f v hP hf
    obtain ⟨f, rfl⟩ : ∃ x, f = x + 1 := ⟨f - 1, by omega⟩
    unfold f_ObjectFile_num_49 f_ObjectFile_num_85
    exact ⟨_, by rw [if_pos (by decide)]⟩
  | succ d ih =>
    intro f v hP hf
    obtain ⟨f, rfl⟩ : ∃ x, f = x + 1 := ⟨f - 1, by omega⟩
    rw [pk_sub (by omega), Nat.add_sub_cancel]
    unfold f_ObjectFile_num_49
    rw [if_neg (nI_pos (by omega)), C7r0 ho.1 ho.2.1, bs, C10r0 (G7 hS) (GR_r (v := 8) hR (by decide)), bs, nI_add, c_aI (G8 hS) (Or.inl rfl) (by decide) (by omega), bs, nI_back]
    exact ih f _ (by omega) (by omega)
theorem k_onumS {x : Int32} {k : Nat} (hF : 8 < F) (hS : GS sk L) (hR : GR τ) (ho : obF sk L τ q) (hk : k ≤ 8) : ∃ v, f_ObjectFile_num F c q x (nI k) (cH sk L τ) = some (v, cH sk L τ) := by
  unfold f_ObjectFile_num f_ObjectFile_num_39
  rw [C7g5 ho.1, bs, C7g6 ho.1, bs]
  split
  · exact ⟨_, rfl⟩
  · split
    · exact ⟨_, rfl⟩
    · by_cases c3 : fI τ q 5 + x < 0
      · exact ⟨_, by rw [if_pos c3]⟩
      · obtain ⟨P, hP, eP⟩ := nI_of c3
        rw [if_neg c3, C7r0 ho.1 ho.2.1, bs, C10r0 (G7 hS) (GR_r (v := 8) hR (by decide)), bs, c_l (G8 hS) (by decide), bs, eP]
        by_cases c4 : k + P ≤ 65536
        · obtain ⟨w, kw⟩ := k_onum_49S (F := F) (c := c) (P := P) hS hR ho k F (lN 0) (by omega) (by omega)
          exact ⟨w, by rw [if_pos ((sub_le31 (by decide) (by omega) hP).mpr c4), kw]⟩
        · exact ⟨_, by rw [if_neg (fun w => c4 ((sub_le31 (by decide) (by omega) hP).mp w))]⟩
theorem k_nameStartS {x : Int32} (hF : 8 < F) (hS : GS sk L) (hR : GR τ) (ho : obF sk L τ q) : ∃ v, f_ObjectFile_nameStart F c q x (cH sk L τ) = some (v, cH sk L τ) := by
  obtain ⟨w, kw⟩ := k_onumS (F := F) (c := c) (x := fI τ q 10 + nI 24 * x) (k := 4) hF hS hR ho (by decide)
  unfold f_ObjectFile_nameStart
  exact ⟨_, by rw [C7g5 ho.1, bs, C7g12 ho.1, bs, C7g10 ho.1, bs, c_o ho.1, bs, kw, xb_mk]⟩
theorem k_bindS {x : Int32} (hF : 8 < F) (hS : GS sk L) (hR : GR τ) (ho : obF sk L τ q) : ∃ v, f_ObjectFile_bindOf F c q x (cH sk L τ) = some (v, cH sk L τ) := by
  obtain ⟨w, kw⟩ := k_onumS (F := F) (c := c) (x := (fI τ q 10 + nI 24 * x) + nI 4) (k := 1) hF hS hR ho (by decide)
  unfold f_ObjectFile_bindOf f_ObjectFile_bindOf_12 f_ObjectFile_bindOf_35
  rw [C7g11 ho.1, bs, C7g10 ho.1, bs, c_o ho.1, bs, kw, xb_mk]
  split
  · exact ⟨_, rfl⟩
  · split
    · exact ⟨_, rfl⟩
    · exact ⟨_, rfl⟩
theorem k_whereS {x : Int32} (hF : 8 < F) (hS : GS sk L) (hR : GR τ) (ho : obF sk L τ q) : ∃ v, f_ObjectFile_whereOf F c q x (cH sk L τ) = some (v, cH sk L τ) := by
  obtain ⟨w, kw⟩ := k_onumS (F := F) (c := c) (x := (fI τ q 10 + nI 24 * x) + nI 6) (k := 2) hF hS hR ho (by decide)
  unfold f_ObjectFile_whereOf
  exact ⟨_, by rw [C7g10 ho.1, bs, c_o ho.1, bs, kw, xb_mk]⟩
theorem k_valueS {x : Int32} (hF : 8 < F) (hS : GS sk L) (hR : GR τ) (ho : obF sk L τ q) : ∃ v, f_ObjectFile_valueOf F c q x (cH sk L τ) = some (v, cH sk L τ) := by
  obtain ⟨w, kw⟩ := k_onumS (F := F) (c := c) (x := (fI τ q 10 + nI 24 * x) + nI 8) (k := 8) hF hS hR ho (by decide)
  unfold f_ObjectFile_valueOf
  exact ⟨_, by rw [C7g10 ho.1, bs, c_o ho.1, bs, kw, xb_mk]⟩
theorem k_lengthS {x : Int32} (hF : 8 < F) (hS : GS sk L) (hR : GR τ) (ho : obF sk L τ q) : ∃ v, f_ObjectFile_lengthOf F c q x (cH sk L τ) = some (v, cH sk L τ) := by
  obtain ⟨w, kw⟩ := k_onumS (F := F) (c := c) (x := (fI τ q 7 + nI 64 * x) + nI 32) (k := 8) hF hS hR ho (by decide)
  unfold f_ObjectFile_lengthOf
  exact ⟨_, by rw [C7g7 ho.1, bs, c_o ho.1, bs, kw, xb_mk]⟩
theorem k_isDefS {x : Int32} (hF : 8 < F) (hS : GS sk L) (hR : GR τ) (ho : obF sk L τ q) : ∃ z, f_ObjectFile_isDefining F c q x (cH sk L τ) = some (bI z, cH sk L τ) := by
  obtain ⟨w, kw⟩ := k_bindS (F := F) (c := c) (x := x) hF hS hR ho
  obtain ⟨u, ku⟩ := k_whereS (F := F) (c := c) (x := x) hF hS hR ho
  unfold f_ObjectFile_isDefining f_ObjectFile_isDefining_20 f_ObjectFile_isDefining_21
  rw [c_o ho.1, bs, kw, xb_mk, c_o ho.1, bs, ku, xb_mk, xz_0, xz_1]
  split
  · exact ⟨_, rfl⟩
  · split
    · exact ⟨_, rfl⟩
    · exact ⟨_, rfl⟩
theorem k_groupS {x : Int64} (ho : obF sk L τ q) : ∃ v, f_ObjectFile_groupOf F c q x (cH sk L τ) = some (v, cH sk L τ) := by
  obtain ⟨h1, h2, g, h3, h4⟩ := ho
  unfold f_ObjectFile_groupOf f_ObjectFile_groupOf_37 f_ObjectFile_groupOf_38
  by_cases c1 : x < lN 0
  · exact ⟨_, by rw [if_pos c1]⟩
  · obtain ⟨k, hk, ek⟩ := pk_lOf c1
    rw [if_neg c1, C7g8 h1, bs, C7r3 h1 h3, bs, c_l h4 (by decide), bs, ek, nI_l (show 24 < 2 ^ 31 by decide), lN_i]
    split
    · exact ⟨_, rfl⟩
    · by_cases c2 : 24 ≤ k
      · exact ⟨_, by rw [if_pos ((pk_lLE (by decide) hk).mpr c2)]⟩
      · exact ⟨_, by rw [if_neg (fun w => c2 ((pk_lLE (by decide) hk).mp w)), bs, c_aI h4 (Or.inl rfl) (by decide) (by omega), bs]⟩
/-- a name's cell is written -/
theorem k_appendS {a : Nat} {x : Int32} (ha : ob sk L 5 a) : ∃ τ', f_Name_append F c a x (cH sk L τ) = some ((), cH sk L τ') ∧ frN a τ τ' := by
  have e72 : ∀ (k : Nat) (v : Int64), k ≤ 2 → ∃ τ', f_Name_append_72 F c a (cH sk L (tJ τ a k v)) = some ((), cH sk L τ') ∧ frN a τ τ' := fun k v hk => by
    refine ⟨tI (tJ τ a k v) a 3 (fI τ a 3 + nI 1), ?_, fun x y h => tI_ne (by omega), fun x y h => tJ_ne (by omega), fun _ _ => rfl, fun _ => rfl, fun _ => rfl, fun _ => rfl⟩
    unfold f_Name_append_72
    rw [C5g3 ha, bs]
    show ((xpI _ 5 3 a (fI τ a 3 + nI 1)).bind _) = _
    rw [C5p3 ha, bs]
  unfold f_Name_append
  rw [C5g3 ha, bs, bs, C5g2 ha, C5g1 ha, C5g0 ha, bs, bs, bs, bs, C5p2 ha, C5p1 ha, C5p0 ha, bs, bs, bs]
  split
  · split
    · exact e72 2 _ (by decide)
    · exact e72 1 _ (by decide)
  · exact e72 0 _ (by decide)
theorem rowS_N {a : Nat} {τ' : px_TT} (h : rowS sk L τ r A n) (f : frN a τ τ') (hne : r ≠ a) : rowS sk L τ' r A n := by
  obtain ⟨h1, h2, h3, h4, z, hz, ez⟩ := h
  exact ⟨h1, h2, h3, (f.2.2.1 _ _).trans h4, z, hz, (f.1 _ _ (Or.inl hne)).trans ez⟩
theorem k_nread_6S {a : Nat} {x : Int32} (ha : ob sk L 5 a) (hne : r ≠ a) : ∀ (d k f : Nat) (τ : px_TT), k + d = 20 → d < f → rowS sk L τ r A n → ∃ τ', f_Name_read_6 F c f a r x (nI k) (cH sk L τ) = some ((), cH sk L τ') ∧ frN a τ τ' := by
  intro d
  induction d with
  | zero =>
    intro k f τ hk hf h
    obtain ⟨f, rfl⟩ : ∃ x, f = x + 1 := ⟨f - 1, by omega⟩
    unfold f_Name_read_6 f_Name_read_39
    exact ⟨τ, by rw [if_pos (nI_le (by omega) (by omega))], fun _ _ _ => rfl, fun _ _ _ => rfl, fun _ _ => rfl, fun _ => rfl, fun _ => rfl, fun _ => rfl⟩
  | succ d ih =>
    intro k f τ hk hf h
    obtain ⟨f, rfl⟩ : ∃ x, f = x + 1 := ⟨f - 1, by omega⟩
    obtain ⟨w, kw⟩ := k_atS (F := F) (c := c) (x := x + nI k) h
    obtain ⟨τ1, b1, b2⟩ := k_appendS (F := F) (c := c) (τ := τ) (x := w) ha
    obtain ⟨τ2, d1, d2⟩ := ih (k + 1) f τ1 (by omega) (by omega) (rowS_N h b2 hne)
    unfold f_Name_read_6 f_Name_read_39
    rw [if_neg (nI_ge (by omega) (by omega)), c_o h.1, bs, kw, xb_mk]
    split
    · exact ⟨τ, rfl, fun _ _ _ => rfl, fun _ _ _ => rfl, fun _ _ => rfl, fun _ => rfl, fun _ => rfl, fun _ => rfl⟩
    · exact ⟨τ2, by rw [c_o h.1, bs, kw, xb_mk, c_o ha, bs, b1, xb_mk, nI_add]; exact d1, frN_trans b2 d2⟩
theorem k_nreadS {a : Nat} {x : Int32} (hF : 32 < F) (ha : ob sk L 5 a) (hne : r ≠ a) (h : rowS sk L τ r A n) : ∃ τ', f_Name_read F c a r x (cH sk L τ) = some ((), cH sk L τ') ∧ frN a τ τ' := by
  obtain ⟨τ1, hτ1⟩ : ∃ y, y = tI (tJ (tJ (tJ τ a 0 (lN 0)) a 1 (lN 0)) a 2 (lN 0)) a 3 (nI 0) := ⟨_, rfl⟩
  have f1 : frN a τ τ1 := by
    rw [hτ1]
    exact ⟨fun x k h => tI_ne (by omega), fun x k h => by
      show fJ (tJ (tJ (tJ τ a 0 (lN 0)) a 1 (lN 0)) a 2 (lN 0)) x k = _
      rw [tJ_ne (by omega), tJ_ne (by omega), tJ_ne (by omega)], fun _ _ => rfl, fun _ => rfl, fun _ => rfl, fun _ => rfl⟩
  obtain ⟨τ2, b1, b2⟩ := k_nread_6S (F := F) (c := c) (x := x) ha hne 20 0 F τ1 rfl (by omega) (rowS_N h f1 hne)
  refine ⟨τ2, ?_, frN_trans f1 b2⟩
  unfold f_Name_read f_Name_wipe
  rw [c_o ha, bs, C5p0 ha, bs, C5p1 ha, bs, C5p2 ha, bs, C5p3 ha, bs, ← hτ1, xb_mk]
  exact b1
end CSF
