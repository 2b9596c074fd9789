section
/-! the class's readers: safe on whatever stands there -/
def rowS (sk : Nat → Nat × Nat × Nat) (L : Nat) (τ : px_TT) (r A n : Nat) : Prop := ob sk L 10 r ∧ ar sk L 0 n A ∧ n ≤ 65536 ∧ fN τ r 0 = some A ∧ ∃ z, z ≤ n ∧ fI τ r 1 = nI z
theorem rowOK_S {sk : Nat → Nat × Nat × Nat} {L : Nat} {τ : px_TT} {r A n : Nat} (h : rowOK sk L τ r A n) : rowS sk L τ r A n := ⟨h.1, h.2.1, h.2.2.1, h.2.2.2.1, h.2.2.2.2.1⟩
/-- a cell for an object of a file, whatever it holds -/
def obF (sk : Nat → Nat × Nat × Nat) (L : Nat) (τ : px_TT) (q : Nat) : Prop := ob sk L 7 q ∧ fN τ q 0 = some 7 ∧ ∃ g, fN τ q 3 = some g ∧ ar sk L 0 24 g
section CSF
variable {F : Nat} {c : px_CT} {sk : Nat → Nat × Nat × Nat} {L : Nat} {τ : px_TT} {r A n q : Nat}
theorem k_atS {x : Int32} (h : rowS sk L τ r A n) : ∃ v, f_Row_at F c r x (cH sk L τ) = some (v, cH sk L τ) := by
  obtain ⟨h1, h2, h3, h4, z, hz, ez⟩ := h
  unfold f_Row_at f_Row_at_25 f_Row_at_26
  by_cases c1 : x < 0
  · exact ⟨_, by rw [if_pos c1]⟩
  · obtain ⟨i, hi, ei⟩ := nI_of c1
    rw [if_neg c1, C10g1 h1, bs, ez, ei]
    by_cases c2 : z ≤ i
    · exact ⟨_, by rw [if_pos (nI_le c2 hi)]⟩
    · exact ⟨_, by rw [if_neg (nI_ge (by omega) (by omega)), C10r0 h1 h4, bs, c_aI h2 (Or.inl rfl) (by omega) (by omega), bs]⟩
theorem k_num7S {x : Int32} (h : rowS sk L τ r A n) : ∀ (d f : Nat) (v : Int64), d < f → d < 2 ^ 30 → ∃ w, f_Row_num_7 F c f r x v (nI d - nI 1) (cH sk L τ) = some (w, cH sk L τ) := by
  intro d
  induction d with
  | zero =>
    intro f v hf _
    obtain ⟨f, rfl⟩ : ∃ x, f = x + 1 := ⟨f - 1, by omega⟩
    unfold f_Row_num_7 f_Row_num_33
    exact ⟨_, by rw [if_pos (by decide)]⟩
  | succ d ih =>
    intro f v hf hd
    obtain ⟨f, rfl⟩ : ∃ x, f = x + 1 := ⟨f - 1, by omega⟩
    rw [pk_sub (by omega), Nat.add_sub_cancel]
    obtain ⟨w, kw⟩ := k_atS (F := F) (c := c) (x := x + nI d) h
    unfold f_Row_num_7
    rw [if_neg (nI_pos (by omega)), c_o h.1, bs, kw, xb_mk, nI_back]
    exact ih f _ (by omega) (by omega)
theorem k_numS {x : Int32} {k : Nat} (hF : 8 < F) (hk : k ≤ 8) (h : rowS sk L τ r A n) : ∃ w, f_Row_num F c r x (nI k) (cH sk L τ) = some (w, cH sk L τ) := k_num7S h k F _ (by omega) (by omega)
theorem k_aboveS {a b : Int64} {ph : px_H} : ∃ z, f_H_above F c a b ph = some (bI z, ph) := by
  obtain ⟨x, hx, ex⟩ := wb_of a
  obtain ⟨y, hy, ey⟩ := wb_of b
  rw [ex, ey]
  exact ⟨_, k_above hx hy⟩
theorem k_holdsS {a b : Int64} (h : rowS sk L τ r A n) : ∃ z, f_Row_holds F c r a b (cH sk L τ) = some (bI z, cH sk L τ) := by
  obtain ⟨h1, h2, h3, h4, z, hz, ez⟩ := h
  obtain ⟨y, ky⟩ := k_aboveS (F := F) (c := c) (a := a) (b := (nI z).toInt64) (ph := cH sk L τ)
  obtain ⟨u, ku⟩ := k_aboveS (F := F) (c := c) (a := b) (b := (nI z).toInt64 - a) (ph := cH sk L τ)
  unfold f_Row_holds f_Row_holds_30 f_Row_holds_31
  rw [C10g1 h1, bs, ez, ky, xb_mk, C10g1 h1, bs, ez, ku, xb_mk]
  cases y with
  | true => exact ⟨false, by rw [if_neg (show ¬ bI true = 0 by decide), xz_0]⟩
  | false =>
    rw [if_pos (show bI false = 0 from rfl)]
    cases u with
    | true => exact ⟨false, by rw [if_neg (show ¬ bI true = 0 by decide), xz_0]⟩
    | false => exact ⟨true, by rw [if_pos (show bI false = 0 from rfl), xz_1]⟩
theorem k_nameLen_2S {x y : Int32} (h : rowS sk L τ r A n) : ∀ (d k f : Nat), k + d = 21 → d < f → ∃ w, w ≤ 20 ∧ f_Row_nameLength_2 F c f r x y (nI k) (cH sk L τ) = some (nI w, cH sk L τ) := by
  intro d
  induction d with
  | zero =>
    intro k f hk hf
    obtain ⟨f, rfl⟩ : ∃ x, f = x + 1 := ⟨f - 1, by omega⟩
    unfold f_Row_nameLength_2 f_Row_nameLength_33
    exact ⟨0, by decide, by rw [if_pos (nI_lt (by omega) (by omega))]⟩
  | succ d ih =>
    intro k f hk hf
    obtain ⟨f, rfl⟩ : ∃ x, f = x + 1 := ⟨f - 1, by omega⟩
    obtain ⟨w, kw⟩ := k_atS (F := F) (c := c) (x := x + nI k) h
    unfold f_Row_nameLength_2 f_Row_nameLength_33 f_Row_nameLength_25
    rw [if_neg (nI_nlt (by omega) (by omega)), c_o h.1, bs, kw, xb_mk, nI_add]
    split
    · exact ⟨0, by decide, rfl⟩
    · split
      · exact ⟨k, by omega, rfl⟩
      · exact ih (k + 1) f (by omega) (by omega)
theorem k_nameLenS {x y : Int32} (hF : 32 < F) (h : rowS sk L τ r A n) : ∃ w, w ≤ 20 ∧ f_Row_nameLength F c r x y (cH sk L τ) = some (nI w, cH sk L τ) := k_nameLen_2S h 21 0 F rfl (by omega)
theorem k_begins_2S {j m : Nat} {l : List Nat} (hj : j < pg_nc) (hkB : ki_B (c j).1 = true) (hkv : kv c j l) (hl : l.length = m) (hm : m < 2 ^ 30) (h : rowS sk L τ r A n) : ∀ (d i f : Nat), i + d = m → d < f → ∃ z, f_Row_begins_2 F c f r j (nI i) (cH sk L τ) = some (bI z, cH sk L τ) := by
  intro d
  induction d with
  | zero =>
    intro i f hi hf
    obtain ⟨f, rfl⟩ : ∃ x, f = x + 1 := ⟨f - 1, by omega⟩
    unfold f_Row_begins_2 f_Row_begins_27
    exact ⟨true, by rw [xkl_at hkv hj, bs, hl, if_pos (nI_le (by omega) (by omega))]; rfl⟩
  | succ d ih =>
    intro i f hi hf
    obtain ⟨f, rfl⟩ : ∃ x, f = x + 1 := ⟨f - 1, by omega⟩
    obtain ⟨w, kw⟩ := k_atS (F := F) (c := c) (x := nI i) h
    unfold f_Row_begins_2 f_Row_begins_19
    rw [xkl_at hkv hj, bs, hl, if_neg (nI_ge (by omega) (by omega)), c_o h.1, bs, kw, xb_mk, xkB_at hkv hj hkB (by omega) (by omega), bs, nI_add]
    split
    · exact ih (i + 1) f (by omega) (by omega)
    · exact ⟨false, rfl⟩
theorem k_onum_49S {P : Nat} (hS : GS sk L) (hR : GR τ) (ho : obF sk L τ q) : ∀ (d f : Nat) (v : Int64), P + d ≤ 65536 → d < f → ∃ w, f_ObjectFile_num_49 F c f q (nI P) v (nI d - nI 1) (cH sk L τ) = some (w, cH sk L τ) := by
  intro d
  induction d with
  | zero =>
    intro f v hP hf
    obtain ⟨f, rfl⟩ : ∃ x, f = x + 1 := ⟨f - 1, by omega⟩
    unfold f_ObjectFile_num_49 f_ObjectFile_num_85
    exact ⟨_, by rw [if_pos (by decide)]⟩
  | succ d ih =>
    intro f v hP hf
    obtain ⟨f, rfl⟩ : ∃ x, f = x + 1 := ⟨f - 1, by omega⟩
    rw [pk_sub (by omega), Nat.add_sub_cancel]
    unfold f_ObjectFile_num_49
    rw [if_neg (nI_pos (by omega)), C7r0 ho.1 ho.2.1, bs, C10r0 (G7 hS) (GR_r (v := 8) hR (by decide)), bs, nI_add, c_aI (G8 hS) (Or.inl rfl) (by decide) (by omega), bs, nI_back]
    exact ih f _ (by omega) (by omega)
theorem k_onumS {x : Int32} {k : Nat} (hF : 8 < F) (hS : GS sk L) (hR : GR τ) (ho : obF sk L τ q) (hk : k ≤ 8) : ∃ v, f_ObjectFile_num F c q x (nI k) (cH sk L τ) = some (v, cH sk L τ) := by
  unfold f_ObjectFile_num f_ObjectFile_num_39
  rw [C7g5 ho.1, bs, C7g6 ho.1, bs]
  split
  · exact ⟨_, rfl⟩
  · split
    · exact ⟨_, rfl⟩
    · by_cases c3 : fI τ q 5 + x < 0
      · exact ⟨_, by rw [if_pos c3]⟩
      · obtain ⟨P, hP, eP⟩ := nI_of c3
        rw [if_neg c3, C7r0 ho.1 ho.2.1, bs, C10r0 (G7 hS) (GR_r (v := 8) hR (by decide)), bs, c_l (G8 hS) (by decide), bs, eP]
        by_cases c4 : k + P ≤ 65536
        · obtain ⟨w, kw⟩ := k_onum_49S (F := F) (c := c) (P := P) hS hR ho k F (lN 0) (by omega) (by omega)
          exact ⟨w, by rw [if_pos ((sub_le31 (by decide) (by omega) hP).mpr c4), kw]⟩
        · exact ⟨_, by rw [if_neg (fun w => c4 ((sub_le31 (by decide) (by omega) hP).mp w))]⟩
theorem k_nameStartS {x : Int32} (hF : 8 < F) (hS : GS sk L) (hR : GR τ) (ho : obF sk L τ q) : ∃ v, f_ObjectFile_nameStart F c q x (cH sk L τ) = some (v, cH sk L τ) := by
  obtain ⟨w, kw⟩ := k_onumS (F := F) (c := c) (x := fI τ q 10 + nI 24 * x) (k := 4) hF hS hR ho (by decide)
  unfold f_ObjectFile_nameStart
  exact ⟨_, by rw [C7g5 ho.1, bs, C7g12 ho.1, bs, C7g10 ho.1, bs, c_o ho.1, bs, kw, xb_mk]⟩
theorem k_bindS {x : Int32} (hF : 8 < F) (hS : GS sk L) (hR : GR τ) (ho : obF sk L τ q) : ∃ v, f_ObjectFile_bindOf F c q x (cH sk L τ) = some (v, cH sk L τ) := by
  obtain ⟨w, kw⟩ := k_onumS (F := F) (c := c) (x := (fI τ q 10 + nI 24 * x) + nI 4) (k := 1) hF hS hR ho (by decide)
  unfold f_ObjectFile_bindOf f_ObjectFile_bindOf_12 f_ObjectFile_bindOf_35
  rw [C7g11 ho.1, bs, C7g10 ho.1, bs, c_o ho.1, bs, kw, xb_mk]
  split
  · exact ⟨_, rfl⟩
  · split
    · exact ⟨_, rfl⟩
    · exact ⟨_, rfl⟩
theorem k_whereS {x : Int32} (hF : 8 < F) (hS : GS sk L) (hR : GR τ) (ho : obF sk L τ q) : ∃ v, f_ObjectFile_whereOf F c q x (cH sk L τ) = some (v, cH sk L τ) := by
  obtain ⟨w, kw⟩ := k_onumS (F := F) (c := c) (x := (fI τ q 10 + nI 24 * x) + nI 6) (k := 2) hF hS hR ho (by decide)
  unfold f_ObjectFile_whereOf
  exact ⟨_, by rw [C7g10 ho.1, bs, c_o ho.1, bs, kw, xb_mk]⟩
theorem k_valueS {x : Int32} (hF : 8 < F) (hS : GS sk L) (hR : GR τ) (ho : obF sk L τ q) : ∃ v, f_ObjectFile_valueOf F c q x (cH sk L τ) = some (v, cH sk L τ) := by
  obtain ⟨w, kw⟩ := k_onumS (F := F) (c := c) (x := (fI τ q 10 + nI 24 * x) + nI 8) (k := 8) hF hS hR ho (by decide)
  unfold f_ObjectFile_valueOf
  exact ⟨_, by rw [C7g10 ho.1, bs, c_o ho.1, bs, kw, xb_mk]⟩
theorem k_lengthS {x : Int32} (hF : 8 < F) (hS : GS sk L) (hR : GR τ) (ho : obF sk L τ q) : ∃ v, f_ObjectFile_lengthOf F c q x (cH sk L τ) = some (v, cH sk L τ) := by
  obtain ⟨w, kw⟩ := k_onumS (F := F) (c := c) (x := (fI τ q 7 + nI 64 * x) + nI 32) (k := 8) hF hS hR ho (by decide)
  unfold f_ObjectFile_lengthOf
  exact ⟨_, by rw [C7g7 ho.1, bs, c_o ho.1, bs, kw, xb_mk]⟩
theorem k_isDefS {x : Int32} (hF : 8 < F) (hS : GS sk L) (hR : GR τ) (ho : obF sk L τ q) : ∃ z, f_ObjectFile_isDefining F c q x (cH sk L τ) = some (bI z, cH sk L τ) := by
  obtain ⟨w, kw⟩ := k_bindS (F := F) (c := c) (x := x) hF hS hR ho
  obtain ⟨u, ku⟩ := k_whereS (F := F) (c := c) (x := x) hF hS hR ho
  unfold f_ObjectFile_isDefining f_ObjectFile_isDefining_20 f_ObjectFile_isDefining_21
  rw [c_o ho.1, bs, kw, xb_mk, c_o ho.1, bs, ku, xb_mk, xz_0, xz_1]
  split
  · exact ⟨_, rfl⟩
  · split
    · exact ⟨_, rfl⟩
    · exact ⟨_, rfl⟩
theorem k_groupS {x : Int64} (ho : obF sk L τ q) : ∃ v, f_ObjectFile_groupOf F c q x (cH sk L τ) = some (v, cH sk L τ) := by
  obtain ⟨h1, h2, g, h3, h4⟩ := ho
  unfold f_ObjectFile_groupOf f_ObjectFile_groupOf_37 f_ObjectFile_groupOf_38
  by_cases c1 : x < lN 0
  · exact ⟨_, by rw [if_pos c1]⟩
  · obtain ⟨k, hk, ek⟩ := pk_lOf c1
    rw [if_neg c1, C7g8 h1, bs, C7r3 h1 h3, bs, c_l h4 (by decide), bs, ek, nI_l (show 24 < 2 ^ 31 by decide), lN_i]
    split
    · exact ⟨_, rfl⟩
    · by_cases c2 : 24 ≤ k
      · exact ⟨_, by rw [if_pos ((pk_lLE (by decide) hk).mpr c2)]⟩
      · exact ⟨_, by rw [if_neg (fun w => c2 ((pk_lLE (by decide) hk).mp w)), bs, c_aI h4 (Or.inl rfl) (by decide) (by omega), bs]⟩
/-- a name's cell is written -/
theorem k_appendS {a : Nat} {x : Int32} (ha : ob sk L 5 a) : ∃ τ', f_Name_append F c a x (cH sk L τ) = some ((), cH sk L τ') ∧ frN a τ τ' := by
  have e72 : ∀ (k : Nat) (v : Int64), k ≤ 2 → ∃ τ', f_Name_append_72 F c a (cH sk L (tJ τ a k v)) = some ((), cH sk L τ') ∧ frN a τ τ' := fun k v hk => by
    refine ⟨tI (tJ τ a k v) a 3 (fI τ a 3 + nI 1), ?_, fun x y h => tI_ne (by omega), fun x y h => tJ_ne (by omega), fun _ _ => rfl, fun _ => rfl, fun _ => rfl, fun _ => rfl⟩
    unfold f_Name_append_72
    rw [C5g3 ha, bs]
    show ((xpI _ 5 3 a (fI τ a 3 + nI 1)).bind _) = _
    rw [C5p3 ha, bs]
  unfold f_Name_append
  rw [C5g3 ha, bs, bs, C5g2 ha, C5g1 ha, C5g0 ha, bs, bs, bs, bs, C5p2 ha, C5p1 ha, C5p0 ha, bs, bs, bs]
  split
  · split
    · exact e72 2 _ (by decide)
    · exact e72 1 _ (by decide)
  · exact e72 0 _ (by decide)
theorem rowS_N {a : Nat} {τ' : px_TT} (h : rowS sk L τ r A n) (f : frN a τ τ') (hne : r ≠ a) : rowS sk L τ' r A n := by
  obtain ⟨h1, h2, h3, h4, z, hz, ez⟩ := h
  exact ⟨h1, h2, h3, (f.2.2.1 _ _).trans h4, z, hz, (f.1 _ _ (Or.inl hne)).trans ez⟩
theorem k_nread_6S {a : Nat} {x : Int32} (ha : ob sk L 5 a) (hne : r ≠ a) : ∀ (d k f : Nat) (τ : px_TT), k + d = 20 → d < f → rowS sk L τ r A n → ∃ τ', f_Name_read_6 F c f a r x (nI k) (cH sk L τ) = some ((), cH sk L τ') ∧ frN a τ τ' := by
  intro d
  induction d with
  | zero =>
    intro k f τ hk hf h
    obtain ⟨f, rfl⟩ : ∃ x, f = x + 1 := ⟨f - 1, by omega⟩
    unfold f_Name_read_6 f_Name_read_39
    exact ⟨τ, by rw [if_pos (nI_le (by omega) (by omega))], fun _ _ _ => rfl, fun _ _ _ => rfl, fun _ _ => rfl, fun _ => rfl, fun _ => rfl, fun _ => rfl⟩
  | succ d ih =>
    intro k f τ hk hf h
    obtain ⟨f, rfl⟩ : ∃ x, f = x + 1 := ⟨f - 1, by omega⟩
    obtain ⟨w, kw⟩ := k_atS (F := F) (c := c) (x := x + nI k) h
    obtain ⟨τ1, b1, b2⟩ := k_appendS (F := F) (c := c) (τ := τ) (x := w) ha
    obtain ⟨τ2, d1, d2⟩ := ih (k + 1) f τ1 (by omega) (by omega) (rowS_N h b2 hne)
    unfold f_Name_read_6 f_Name_read_39
    rw [if_neg (nI_ge (by omega) (by omega)), c_o h.1, bs, kw, xb_mk]
    split
    · exact ⟨τ, rfl, fun _ _ _ => rfl, fun _ _ _ => rfl, fun _ _ => rfl, fun _ => rfl, fun _ => rfl, fun _ => rfl⟩
    · exact ⟨τ2, by rw [c_o h.1, bs, kw, xb_mk, c_o ha, bs, b1, xb_mk, nI_add]; exact d1, frN_trans b2 d2⟩
theorem k_nreadS {a : Nat} {x : Int32} (hF : 32 < F) (ha : ob sk L 5 a) (hne : r ≠ a) (h : rowS sk L τ r A n) : ∃ τ', f_Name_read F c a r x (cH sk L τ) = some ((), cH sk L τ') ∧ frN a τ τ' := by
  obtain ⟨τ1, hτ1⟩ : ∃ y, y = tI (tJ (tJ (tJ τ a 0 (lN 0)) a 1 (lN 0)) a 2 (lN 0)) a 3 (nI 0) := ⟨_, rfl⟩
  have f1 : frN a τ τ1 := by
    rw [hτ1]
    exact ⟨fun x k h => tI_ne (by omega), fun x k h => by
      show fJ (tJ (tJ (tJ τ a 0 (lN 0)) a 1 (lN 0)) a 2 (lN 0)) x k = _
      rw [tJ_ne (by omega), tJ_ne (by omega), tJ_ne (by omega)], fun _ _ => rfl, fun _ => rfl, fun _ => rfl, fun _ => rfl⟩
  obtain ⟨τ2, b1, b2⟩ := k_nread_6S (F := F) (c := c) (x := x) ha hne 20 0 F τ1 rfl (by omega) (rowS_N h f1 hne)
  refine ⟨τ2, ?_, frN_trans f1 b2⟩
  unfold f_Name_read f_Name_wipe
  rw [c_o ha, bs, C5p0 ha, bs, C5p1 ha, bs, C5p2 ha, bs, C5p3 ha, bs, ← hτ1, xb_mk]
  exact b1
end CSF
end
section
/-! safety, step by step: a run ends, its answer is of a kind, and the state it leaves keeps a property -/
def Sf (sk : Nat → Nat × Nat × Nat) (L : Nat) (I : px_TT → Prop) {α : Type} (V : α → Prop) (m : Option (α × px_H)) : Prop := ∃ v τ, m = some (v, cH sk L τ) ∧ V v ∧ I τ
/-- nothing is said of the answer -/
def Any {α : Type} (_ : α) : Prop := True
theorem any {α : Type} {x : α} : Any x := trivial
section SFR
variable {sk : Nat → Nat × Nat × Nat} {L : Nat} {I : px_TT → Prop} {α β : Type} {V : α → Prop} {W : β → Prop} {τ : px_TT} {ci k a t n : Nat}
theorem sf_r {v : α} (hv : V v) (hI : I τ) : Sf sk L I V (some (v, cH sk L τ)) := ⟨v, τ, rfl, hv, hI⟩
theorem sf_z {V : Int32 → Prop} {v : Int32} (hz : isZ v) (hv : V v) (hI : I τ) : Sf sk L I V (xz v (cH sk L τ)) := by
  obtain ⟨b, rfl⟩ := hz
  exact ⟨bI b, τ, xz_b b _, hv, hI⟩
theorem sf_i {p : Prop} [Decidable p] {x y : Option (α × px_H)} (h1 : p → Sf sk L I V x) (h2 : ¬ p → Sf sk L I V y) : Sf sk L I V (if p then x else y) := by
  by_cases c : p
  · rw [if_pos c]; exact h1 c
  · rw [if_neg c]; exact h2 c
theorem sf_x {m : Option (β × px_H)} {f : β → px_H → Option (α × px_H)} (h : Sf sk L I W m) (g : ∀ v τ, W v → I τ → Sf sk L I V (f v (cH sk L τ))) : Sf sk L I V (xb m f) := by
  obtain ⟨v, τ, e, hw, hI⟩ := h
  rw [e, xb_mk]
  exact g v τ hw hI
theorem sf_w {V' : α → Prop} {m : Option (α × px_H)} (h : Sf sk L I V m) (g : ∀ v, V v → V' v) : Sf sk L I V' m := by
  obtain ⟨v, τ, e, hw, hI⟩ := h
  exact ⟨v, τ, e, g v hw, hI⟩
theorem sf_s {p : Nat} {f : Nat → Option (α × px_H)} (g : Sf sk L I V (f p)) : Sf sk L I V ((some p).bind f) := g
theorem sf_m {o : Option Nat} {x : Option (α × px_H)} {f : Nat → Option (α × px_H)} (h1 : o = none → Sf sk L I V x) (h2 : ∀ p, o = some p → Sf sk L I V (f p)) : Sf sk L I V (match o with | none => x | some p => f p) := by
  cases o with
  | none => exact h1 rfl
  | some p => exact h2 p rfl
theorem sf_o {f : List Value → Option (α × px_H)} (h : ob sk L ci a) (g : ∀ l, Sf sk L I V (f l)) : Sf sk L I V ((xo (cH sk L τ) ci a).bind f) := by
  rw [c_o h, bs]; exact g _
theorem sf_gI {f : Int32 → Option (α × px_H)} (h : ob sk L ci a) (hk : cF ci k = 0) (hn : k < cN ci) (g : Sf sk L I V (f (fI τ a k))) : Sf sk L I V ((xgI (cH sk L τ) ci k a).bind f) := by
  rw [c_gI h hk hn, bs]; exact g
theorem sf_gJ {f : Int64 → Option (α × px_H)} (h : ob sk L ci a) (hk : cF ci k = 1) (hn : k < cN ci) (g : Sf sk L I V (f (fJ τ a k))) : Sf sk L I V ((xgJ (cH sk L τ) ci k a).bind f) := by
  rw [c_gJ h hk hn, bs]; exact g
theorem sf_gN {f : Option Nat → Option (α × px_H)} (h : ob sk L ci a) (hk : cF ci k = 2) (hn : k < cN ci) (g : Sf sk L I V (f (fN τ a k))) : Sf sk L I V ((xgN (cH sk L τ) ci k a).bind f) := by
  rw [c_gN h hk hn, bs]; exact g
theorem sf_gR {f : Nat → Option (α × px_H)} {q : Nat} (h : ob sk L ci a) (hk : cF ci k = 2) (hn : k < cN ci) (hq : fN τ a k = some q) (g : Sf sk L I V (f q)) : Sf sk L I V ((xgR (cH sk L τ) ci k a).bind f) := by
  rw [c_gR h hk hn hq, bs]; exact g
theorem sf_pI {f : px_H → Option (α × px_H)} {v : Int32} (h : ob sk L ci a) (hk : cF ci k = 0) (hn : k < cN ci) (hI : I (tI τ a k v)) (g : ∀ τ, I τ → Sf sk L I V (f (cH sk L τ))) : Sf sk L I V ((xpI (cH sk L τ) ci k a v).bind f) := by
  rw [c_pI h hk hn, bs]; exact g _ hI
theorem sf_pJ {f : px_H → Option (α × px_H)} {v : Int64} (h : ob sk L ci a) (hk : cF ci k = 1) (hn : k < cN ci) (hI : I (tJ τ a k v)) (g : ∀ τ, I τ → Sf sk L I V (f (cH sk L τ))) : Sf sk L I V ((xpJ (cH sk L τ) ci k a v).bind f) := by
  rw [c_pJ h hk hn, bs]; exact g _ hI
theorem sf_al {f : Int32 → Option (α × px_H)} (h : ar sk L t n a) (ht : t ≤ 6) (g : Sf sk L I V (f (nI n))) : Sf sk L I V ((xal (cH sk L τ) t a).bind f) := by
  rw [c_l h ht, bs]; exact g
theorem sf_aI {f : Int32 → Option (α × px_H)} {i : Int32} (h : ar sk L t n a) (ht : t = 0 ∨ t = 1 ∨ t = 3) (hn : n < 2 ^ 31) (hi : ∃ j, j < n ∧ i = nI j) (g : ∀ j, j < n → i = nI j → Sf sk L I V (f (eI τ a j))) : Sf sk L I V ((xaI (cH sk L τ) t a i).bind f) := by
  obtain ⟨j, hj, rfl⟩ := hi
  rw [c_aI h ht hn hj, bs]; exact g j hj rfl
theorem sf_aJ {f : Int64 → Option (α × px_H)} {i : Int32} (h : ar sk L 2 n a) (hn : n < 2 ^ 31) (hi : ∃ j, j < n ∧ i = nI j) (g : ∀ j, j < n → i = nI j → Sf sk L I V (f (eJ τ a j))) : Sf sk L I V ((xaJ (cH sk L τ) 2 a i).bind f) := by
  obtain ⟨j, hj, rfl⟩ := hi
  rw [c_aJ h hn hj, bs]; exact g j hj rfl
theorem sf_aN {f : Option Nat → Option (α × px_H)} {i : Int32} (h : ar sk L t n a) (ht : t = 4 ∨ t = 5 ∨ t = 6) (hn : n < 2 ^ 31) (hi : ∃ j, j < n ∧ i = nI j) (g : ∀ j, j < n → i = nI j → Sf sk L I V (f (eN τ a j))) : Sf sk L I V ((xaN (cH sk L τ) t a i).bind f) := by
  obtain ⟨j, hj, rfl⟩ := hi
  rw [c_aN h ht hn hj, bs]; exact g j hj rfl
theorem sf_sI {f : px_H → Option (α × px_H)} {i v : Int32} (h : ar sk L t n a) (ht : t = 0 ∨ t = 1 ∨ t = 3) (hn : n < 2 ^ 31) (hi : ∃ j, j < n ∧ i = nI j) (hI : ∀ g, I (vI τ a g)) (g : ∀ τ, I τ → Sf sk L I V (f (cH sk L τ))) : Sf sk L I V ((xsI (cH sk L τ) t a i v).bind f) := by
  obtain ⟨j, hj, rfl⟩ := hi
  rw [c_sI h ht hn hj, bs]; exact g _ (hI _)
theorem sf_sJ {f : px_H → Option (α × px_H)} {i : Int32} {v : Int64} (h : ar sk L 2 n a) (hn : n < 2 ^ 31) (hi : ∃ j, j < n ∧ i = nI j) (hI : ∀ g, I (vJ τ a g)) (g : ∀ τ, I τ → Sf sk L I V (f (cH sk L τ))) : Sf sk L I V ((xsJ (cH sk L τ) 2 a i v).bind f) := by
  obtain ⟨j, hj, rfl⟩ := hi
  rw [c_sJ h hn hj, bs]; exact g _ (hI _)
/-- a run that only reads -/
theorem sf_of {m : Option (α × px_H)} (h : ∃ v, m = some (v, cH sk L τ)) (hI : I τ) : Sf sk L I Any m := by
  obtain ⟨v, e⟩ := h
  exact ⟨v, τ, e, any, hI⟩
end SFR
/-! the state between two links, as far as a call may need it -/
/-- a row that calls write: its cell, its bytes' cell, its length -/
def TRw (r A n : Nat) : Prop := (r = 3 ∧ A = 4 ∧ n = 65536) ∨ (r = 5 ∧ A = 6 ∧ n = 65536) ∨ (r = 1714 ∧ A = 1715 ∧ n = 1536) ∨ (r = 1719 ∧ A = 1720 ∧ n = 65536)
/-- the memory's counts -/
def MEm (τ : px_TT) : Prop := (∃ m, m ≤ 8 ∧ fI τ 1718 6 = nI m) ∧ ∃ m, m ≤ 4096 ∧ fI τ 1718 9 = nI m
/-- a name of the link's table -/
def Nmo (sk : Nat → Nat × Nat × Nat) (L : Nat) (τ : px_TT) (p : Nat) : Prop := 1815 ≤ p ∧ ob sk L 5 p ∧ (fI τ p 5 = nI 1 → ∃ x, x < 1536 ∧ fN τ p 6 = some (152 + x))
/-- the names that a merge listed so far -/
def MLs (N : Nat) (sk : Nat → Nat × Nat × Nat) (L : Nat) (τ0 τ : px_TT) : Prop := ∃ m, m ≤ N ∧ fI τ 1713 6 = nI m ∧ ∀ i p, i < m → i < 64 → eN τ 1717 i = some p → Nmo sk L τ0 p
def SI (zb : Option Nat) (sk : Nat → Nat × Nat × Nat) (L : Nat) (τ0 τ : px_TT) : Prop := frZ τ0 τ ∧ ((∀ k, fI τ 1 k = fI τ0 1 k) ∧ eI τ 2 = eI τ0 2 ∧ fI τ 147 18 = fI τ0 147 18 ∧ (∀ k, fI τ 1711 k = fI τ0 1711 k) ∧ eI τ 1712 = eI τ0 1712) ∧ ROk sk L τ ∧ MEm τ ∧ ∀ N, zb = some N → MLs N sk L τ0 τ
section SIS
variable {sk : Nat → Nat × Nat × Nat} {L : Nat} {zb : Option Nat} {τ0 τ τ' : px_TT} {r A n : Nat}
theorem SI_row (h : SI zb sk L τ0 τ) (hr : TRw r A n) : rowOK sk L τ r A n := by
  obtain ⟨_, _, ⟨_, h3, h5, h1711, h1714, h1719⟩, _, _⟩ := h
  rcases hr with ⟨rfl, rfl, rfl⟩ | ⟨rfl, rfl, rfl⟩ | ⟨rfl, rfl, rfl⟩ | ⟨rfl, rfl, rfl⟩
  · exact h3
  · exact h5
  · exact h1714
  · exact h1719
theorem SI_fl (h : SI zb sk L τ0 τ) : rowOK sk L τ 1711 1712 65536 := h.2.2.1.2.2.2.1
theorem rowOK_fr {r' A' n' : Nat} (h : rowOK sk L τ r' A' n') (f : frRw r A τ τ') (hr : r' ≠ r) (hA : A' ≠ A) : rowOK sk L τ' r' A' n' := by
  obtain ⟨h1, h2, h3, h4, h5, h6, h7⟩ := h
  refine ⟨h1, h2, h3, (f.2.2.1 _ _).trans h4, ?_, ?_, ?_⟩
  · rw [f.1 r' 1 (Or.inl hr)]; exact h5
  · rw [f.1 r' 2 (Or.inl hr)]; exact h6
  · rw [f.2.2.2.1 A' hA]; exact h7
theorem SI_Rw (h : SI zb sk L τ0 τ) (hr : TRw r A n) (f : frRw r A τ τ') (hk : rowOK sk L τ' r A n) : SI zb sk L τ0 τ' := by
  have hr' := hr
  unfold TRw at hr'
  obtain ⟨hZ, hT, ⟨⟨ro, rd, hc, e1, e2⟩, h3, h5, h1711, h1714, h1719⟩, ⟨hm1, hm2⟩, hm3⟩ := h
  have zr : Zc r := by unfold Zc; omega
  have zA : Zc A := by unfold Zc; omega
  have n1 : 1 ≠ r := by omega
  have n2 : 2 ≠ A := by omega
  have n3 : 1718 ≠ r := by omega
  refine ⟨frZ_trans hZ (frZ_Rw f zr zA), ⟨fun k => (f.1 1 k (Or.inl n1)).trans (hT.1 k), (f.2.2.2.1 2 n2).trans hT.2.1, (f.1 147 18 (Or.inl (by omega))).trans hT.2.2.1, fun k => (f.1 1711 k (Or.inl (by omega))).trans (hT.2.2.2.1 k), (f.2.2.2.1 1712 (by omega)).trans hT.2.2.2.2⟩, ⟨⟨ro, rd, hc, (f.2.2.1 0 1).trans e1, (f.2.2.1 0 2).trans e2⟩, ?_, ?_, rowOK_fr h1711 f (by omega) (by omega), ?_, ?_⟩, ⟨?_, ?_⟩, ?_⟩
  · rcases hr with ⟨rfl, rfl, rfl⟩ | ⟨rfl, rfl, rfl⟩ | ⟨rfl, rfl, rfl⟩ | ⟨rfl, rfl, rfl⟩
    · exact hk
    all_goals exact rowOK_fr h3 f (by decide) (by decide)
  · rcases hr with ⟨rfl, rfl, rfl⟩ | ⟨rfl, rfl, rfl⟩ | ⟨rfl, rfl, rfl⟩ | ⟨rfl, rfl, rfl⟩
    · exact rowOK_fr h5 f (by decide) (by decide)
    · exact hk
    all_goals exact rowOK_fr h5 f (by decide) (by decide)
  · rcases hr with ⟨rfl, rfl, rfl⟩ | ⟨rfl, rfl, rfl⟩ | ⟨rfl, rfl, rfl⟩ | ⟨rfl, rfl, rfl⟩
    · exact rowOK_fr h1714 f (by decide) (by decide)
    · exact rowOK_fr h1714 f (by decide) (by decide)
    · exact hk
    · exact rowOK_fr h1714 f (by decide) (by decide)
  · rcases hr with ⟨rfl, rfl, rfl⟩ | ⟨rfl, rfl, rfl⟩ | ⟨rfl, rfl, rfl⟩ | ⟨rfl, rfl, rfl⟩
    · exact rowOK_fr h1719 f (by decide) (by decide)
    · exact rowOK_fr h1719 f (by decide) (by decide)
    · exact rowOK_fr h1719 f (by decide) (by decide)
    · exact hk
  · rw [f.1 1718 6 (Or.inl n3)]; exact hm1
  · rw [f.1 1718 9 (Or.inl n3)]; exact hm2
  · intro N hN
    obtain ⟨m, h1, h2, h3⟩ := hm3 N hN
    exact ⟨m, h1, (f.1 1713 6 (Or.inl (by omega))).trans h2, by rw [f.2.2.2.2.2 1717]; exact h3⟩
/-- fields that no call needs to know -/
theorem SI_tI {a k : Nat} {v : Int32} (h : SI zb sk L τ0 τ) (hz : (a = 0 ∧ 15 ≤ k) ∨ a = 146 ∨ a = 1695 ∨ (a = 1713 ∧ k ≠ 6) ∨ (1815 ≤ a ∧ k = 17) ∨ (152 ≤ a ∧ a < 1688 ∧ k = 12) ∨ (a = 1718 ∧ k ≠ 6 ∧ k ≠ 9)) : SI zb sk L τ0 (tI τ a k v) := by
  obtain ⟨hZ, hT, ⟨hc, h3, h5, h1711, h1714, h1719⟩, ⟨hm1, hm2⟩, hm3⟩ := h
  have zz : Zc a ∨ (a = 0 ∧ 15 ≤ k) ∨ (1815 ≤ a ∧ k = 17) ∨ (152 ≤ a ∧ a < 1688 ∧ k = 12) ∨ (a = 147 ∧ k = 18) := by
    unfold Zc; omega
  have hrow : ∀ r' A' n', a ≠ r' → rowOK sk L τ r' A' n' → rowOK sk L (tI τ a k v) r' A' n' := fun r' A' n' hn w => by
    obtain ⟨h1, h2, h3, h4, h5, h6, h7⟩ := w
    refine ⟨h1, h2, h3, h4, ?_, ?_, h7⟩
    · rw [tI_ne (by omega)]; exact h5
    · rw [tI_ne (by omega)]; exact h6
  refine ⟨frZ_trans hZ (frZ_I zz), ⟨fun k' => (tI_ne (by omega)).trans (hT.1 k'), hT.2.1, (tI_ne (by omega)).trans hT.2.2.1, fun k' => (tI_ne (by omega)).trans (hT.2.2.2.1 k'), hT.2.2.2.2⟩, ⟨hc, hrow _ _ _ (by omega) h3, hrow _ _ _ (by omega) h5, hrow _ _ _ (by omega) h1711, hrow _ _ _ (by omega) h1714, hrow _ _ _ (by omega) h1719⟩, ⟨?_, ?_⟩, ?_⟩
  · rw [tI_ne (by omega)]; exact hm1
  · rw [tI_ne (by omega)]; exact hm2
  · intro N hN
    obtain ⟨m, h1, h2, h3⟩ := hm3 N hN
    exact ⟨m, h1, (tI_ne (by omega)).trans h2, h3⟩
theorem SI_m6 {m : Nat} (h : SI zb sk L τ0 τ) (hm : m ≤ 8) : SI zb sk L τ0 (tI τ 1718 6 (nI m)) := by
  obtain ⟨hZ, hT, ⟨hc, h3, h5, h1711, h1714, h1719⟩, ⟨hm1, hm2⟩, hm3⟩ := h
  have hrow : ∀ r' A' n', 1718 ≠ r' → rowOK sk L τ r' A' n' → rowOK sk L (tI τ 1718 6 (nI m)) r' A' n' := fun r' A' n' hn w => by
    obtain ⟨h1, h2, h3, h4, h5, h6, h7⟩ := w
    refine ⟨h1, h2, h3, h4, ?_, ?_, h7⟩
    · rw [tI_ne (by omega)]; exact h5
    · rw [tI_ne (by omega)]; exact h6
  refine ⟨frZ_trans hZ (frZ_I (Or.inl (by unfold Zc; omega))), ⟨fun k' => (tI_ne (by omega)).trans (hT.1 k'), hT.2.1, (tI_ne (by omega)).trans hT.2.2.1, fun k' => (tI_ne (by omega)).trans (hT.2.2.2.1 k'), hT.2.2.2.2⟩, ⟨hc, hrow _ _ _ (by omega) h3, hrow _ _ _ (by omega) h5, hrow _ _ _ (by omega) h1711, hrow _ _ _ (by omega) h1714, hrow _ _ _ (by omega) h1719⟩, ⟨⟨m, hm, tI_at⟩, ?_⟩, fun N hN => ?_⟩
  · rw [tI_ne (by omega)]; exact hm2
  · obtain ⟨m', h1, h2, h3⟩ := hm3 N hN
    exact ⟨m', h1, (tI_ne (by omega)).trans h2, h3⟩
theorem SI_m9 {m : Nat} (h : SI zb sk L τ0 τ) (hm : m ≤ 4096) : SI zb sk L τ0 (tI τ 1718 9 (nI m)) := by
  obtain ⟨hZ, hT, ⟨hc, h3, h5, h1711, h1714, h1719⟩, ⟨hm1, hm2⟩, hm3⟩ := h
  have hrow : ∀ r' A' n', 1718 ≠ r' → rowOK sk L τ r' A' n' → rowOK sk L (tI τ 1718 9 (nI m)) r' A' n' := fun r' A' n' hn w => by
    obtain ⟨h1, h2, h3, h4, h5, h6, h7⟩ := w
    refine ⟨h1, h2, h3, h4, ?_, ?_, h7⟩
    · rw [tI_ne (by omega)]; exact h5
    · rw [tI_ne (by omega)]; exact h6
  refine ⟨frZ_trans hZ (frZ_I (Or.inl (by unfold Zc; omega))), ⟨fun k' => (tI_ne (by omega)).trans (hT.1 k'), hT.2.1, (tI_ne (by omega)).trans hT.2.2.1, fun k' => (tI_ne (by omega)).trans (hT.2.2.2.1 k'), hT.2.2.2.2⟩, ⟨hc, hrow _ _ _ (by omega) h3, hrow _ _ _ (by omega) h5, hrow _ _ _ (by omega) h1711, hrow _ _ _ (by omega) h1714, hrow _ _ _ (by omega) h1719⟩, ⟨?_, ⟨m, hm, tI_at⟩⟩, fun N hN => ?_⟩
  · rw [tI_ne (by omega)]; exact hm1
  · obtain ⟨m', h1, h2, h3⟩ := hm3 N hN
    exact ⟨m', h1, (tI_ne (by omega)).trans h2, h3⟩
theorem SI_tJ {a k : Nat} {v : Int64} (h : SI zb sk L τ0 τ) (hz : a = 146 ∨ a = 1695 ∨ a = 1718) : SI zb sk L τ0 (tJ τ a k v) :=
  ⟨frZ_trans h.1 (frZ_J (Or.inl (by unfold Zc; omega))), h.2.1, h.2.2.1, h.2.2.2⟩
theorem SI_vI {a : Nat} {g : Nat → Int32} (h : SI zb sk L τ0 τ) (hz : a = 1716 ∨ a = 1724) : SI zb sk L τ0 (vI τ a g) := by
  obtain ⟨hZ, hT, ⟨hc, h3, h5, h1711, h1714, h1719⟩, hm⟩ := h
  have hrow : ∀ r' A' n', A' ≠ a → rowOK sk L τ r' A' n' → rowOK sk L (vI τ a g) r' A' n' := fun r' A' n' hn w => by
    obtain ⟨h1, h2, h3, h4, h5, h6, h7⟩ := w
    exact ⟨h1, h2, h3, h4, h5, h6, by rw [eI_v_ne hn]; exact h7⟩
  exact ⟨frZ_trans hZ (frZ_v (by unfold Zc; omega)), ⟨hT.1, (eI_v_ne (by omega)).trans hT.2.1, hT.2.2.1, hT.2.2.2.1, (eI_v_ne (by omega)).trans hT.2.2.2.2⟩, ⟨hc, hrow _ _ _ (by omega) h3, hrow _ _ _ (by omega) h5, hrow _ _ _ (by omega) h1711, hrow _ _ _ (by omega) h1714, hrow _ _ _ (by omega) h1719⟩, hm⟩
theorem SI_vJ {a : Nat} {g : Nat → Int64} (h : SI zb sk L τ0 τ) (hz : 1721 ≤ a ∧ a ≤ 1725) : SI zb sk L τ0 (vJ τ a g) :=
  ⟨frZ_trans h.1 (frZ_vJ (by unfold Zc; omega)), h.2.1, h.2.2.1, h.2.2.2⟩
theorem SI_N {a : Nat} (h : SI zb sk L τ0 τ) (f : frN a τ τ') (hz : a = 146 ∨ a = 1695) : SI zb sk L τ0 τ' := by
  obtain ⟨hZ, hT, ⟨⟨ro, rd, hc, e1, e2⟩, h3, h5, h1711, h1714, h1719⟩, ⟨hm1, hm2⟩, hm3⟩ := h
  have hrow : ∀ r' A' n', r' ≠ a → rowOK sk L τ r' A' n' → rowOK sk L τ' r' A' n' := fun r' A' n' hn w => by
    obtain ⟨h1, h2, h3, h4, h5, h6, h7⟩ := w
    refine ⟨h1, h2, h3, (f.2.2.1 _ _).trans h4, ?_, ?_, ?_⟩
    · rw [f.1 r' 1 (Or.inl hn)]; exact h5
    · rw [f.1 r' 2 (Or.inl hn)]; exact h6
    · rw [f.2.2.2.1 A']; exact h7
  refine ⟨frZ_trans hZ (frZ_N f (by unfold Zc; omega)), ⟨fun k => (f.1 1 k (Or.inl (by omega))).trans (hT.1 k), (f.2.2.2.1 2).trans hT.2.1, (f.1 147 18 (Or.inl (by omega))).trans hT.2.2.1, fun k => (f.1 1711 k (Or.inl (by omega))).trans (hT.2.2.2.1 k), (f.2.2.2.1 1712).trans hT.2.2.2.2⟩, ⟨⟨ro, rd, hc, (f.2.2.1 0 1).trans e1, (f.2.2.1 0 2).trans e2⟩, hrow _ _ _ (by omega) h3, hrow _ _ _ (by omega) h5, hrow _ _ _ (by omega) h1711, hrow _ _ _ (by omega) h1714, hrow _ _ _ (by omega) h1719⟩, ⟨?_, ?_⟩, ?_⟩
  · rw [f.1 1718 6 (Or.inl (by omega))]; exact hm1
  · rw [f.1 1718 9 (Or.inl (by omega))]; exact hm2
  · intro N hN
    obtain ⟨m, h1, h2, h3⟩ := hm3 N hN
    exact ⟨m, h1, (f.1 1713 6 (Or.inl (by omega))).trans h2, by rw [f.2.2.2.2.2 1717]; exact h3⟩
/-- the rows by their cells alone -/
def RWr (r : Nat) : Prop := r = 3 ∨ r = 5 ∨ r = 1714 ∨ r = 1719
theorem RWr_T (h : RWr r) : ∃ A n, TRw r A n := by
  rcases h with rfl | rfl | rfl | rfl
  · exact ⟨4, 65536, Or.inl ⟨rfl, rfl, rfl⟩⟩
  · exact ⟨6, 65536, Or.inr (Or.inl ⟨rfl, rfl, rfl⟩)⟩
  · exact ⟨1715, 1536, Or.inr (Or.inr (Or.inl ⟨rfl, rfl, rfl⟩))⟩
  · exact ⟨1720, 65536, Or.inr (Or.inr (Or.inr ⟨rfl, rfl, rfl⟩))⟩
/-- .. and the tape, which is only read -/
def RRd (r : Nat) : Prop := r = 1 ∨ RWr r
def grG (a k : Nat) : List (Nat × Nat × Nat) → Option Nat
  | [] => none
  | (x, y, z) :: l => bif Nat.beq x a && Nat.beq y k then some z else grG a k l
def grF (a k : Nat) : Option Nat := grG a k grl
theorem grG_m {a k q : Nat} : ∀ {l : List (Nat × Nat × Nat)}, grG a k l = some q → (a, k, q) ∈ l
  | [], h => by cases h
  | (x, y, z) :: l, h => by
    unfold grG at h
    cases e : (Nat.beq x a && Nat.beq y k) with
    | true =>
      rw [e] at h
      simp only [Bool.and_eq_true, Nat.beq_eq] at e
      injection h with h3
      rw [← e.1, ← e.2, ← h3]; exact List.mem_cons_self
    | false => rw [e] at h; exact List.mem_cons_of_mem _ (grG_m h)
theorem grF_m {a k q : Nat} (h : grF a k = some q) : (a, k, q) ∈ grl := grG_m h
/-- what holds at the state that the calls start from -/
def S0 (sk : Nat → Nat × Nat × Nat) (L : Nat) (τ0 : px_TT) : Prop := GS sk L ∧ GR τ0 ∧ ∃ z, z ≤ 8192 ∧ fI τ0 1 1 = nI z
theorem SI_S (h0 : S0 sk L τ0) (h : SI zb sk L τ0 τ) (hr : RRd r) : ∃ A n, rowS sk L τ r A n := by
  rcases hr with rfl | hr
  · obtain ⟨z, hz, ez⟩ := h0.2.2
    exact ⟨2, 8192, G1 h0.1, G2 h0.1, by decide, GR_r (GR_Z h0.2.1 h.1) (by decide), z, hz, (h.2.1.1 1).trans ez⟩
  · obtain ⟨A, n, hT⟩ := RWr_T hr
    exact ⟨A, n, rowOK_S (SI_row h hT)⟩
theorem RRd_o (h0 : S0 sk L τ0) (hr : RRd r) : ob sk L 10 r := by
  rcases hr with rfl | rfl | rfl | rfl | rfl
  · exact G1 h0.1
  · exact G3 h0.1
  · exact G5 h0.1
  · exact GS_o h0.1 (by decide) (by decide)
  · exact GS_o h0.1 (by decide) (by decide)
theorem sf_gG {I : px_TT → Prop} {α : Type} {V : α → Prop} {f : Nat → Option (α × px_H)} {a ci k q : Nat} (h0 : S0 sk L τ0) (hI : SI zb sk L τ0 τ) (ha : a < 1726) (hks : ks a = (0, ci, 0)) (hk : cF ci k = 2) (hn : k < cN ci) (hq : grF a k = some q) (g : Sf sk L I V (f q)) : Sf sk L I V ((xgR (cH sk L τ) ci k a).bind f) := sf_gR (GS_o h0.1 ha hks) hk hn (GR_r (GR_Z h0.2.1 hI.1) (grF_m hq)) g
theorem sf_gF {I : px_TT → Prop} {α : Type} {V : α → Prop} {f : Int32 → Option (α × px_H)} {a ci k : Nat} (h0 : S0 sk L τ0) (ha : a < 1726) (hks : ks a = (0, ci, 0)) (hk : cF ci k = 0) (hn : k < cN ci) (g : Sf sk L I V (f (fI τ a k))) : Sf sk L I V ((xgI (cH sk L τ) ci k a).bind f) := sf_gI (GS_o h0.1 ha hks) hk hn g
theorem sf_oF {I : px_TT → Prop} {α : Type} {V : α → Prop} {f : List Value → Option (α × px_H)} {a ci : Nat} (h0 : S0 sk L τ0) (ha : a < 1726) (hks : ks a = (0, ci, 0)) (g : ∀ l, Sf sk L I V (f l)) : Sf sk L I V ((xo (cH sk L τ) ci a).bind f) := sf_o (GS_o h0.1 ha hks) g
theorem sf_lF {I : px_TT → Prop} {α : Type} {V : α → Prop} {f : Int32 → Option (α × px_H)} {a t m : Nat} (h0 : S0 sk L τ0) (ha : a < 1726) (hks : ks a = (1, t, m)) (ht : t ≤ 6) (g : Sf sk L I V (f (nI m))) : Sf sk L I V ((xal (cH sk L τ) t a).bind f) := sf_al (GS_a h0.1 ha hks) ht g
theorem sf_sb {I : px_TT → Prop} {α : Type} {V : α → Prop} {f : Nat → Option (α × px_H)} {o : Option Nat} {p : Nat} (h : o = some p) (g : Sf sk L I V (f p)) : Sf sk L I V (o.bind f) := by
  rw [h, bs]; exact g
theorem sf_aIF {I : px_TT → Prop} {α : Type} {V : α → Prop} {f : Int32 → Option (α × px_H)} {a t m : Nat} {i : Int32} (h0 : S0 sk L τ0) (ha : a < 1726) (hks : ks a = (1, t, m)) (ht : t = 0 ∨ t = 1 ∨ t = 3) (hn : m < 2 ^ 31) (hi : ∃ j, j < m ∧ i = nI j) (g : ∀ j, j < m → i = nI j → Sf sk L I V (f (eI τ a j))) : Sf sk L I V ((xaI (cH sk L τ) t a i).bind f) := sf_aI (GS_a h0.1 ha hks) ht hn hi g
theorem sf_aJF {I : px_TT → Prop} {α : Type} {V : α → Prop} {f : Int64 → Option (α × px_H)} {a m : Nat} {i : Int32} (h0 : S0 sk L τ0) (ha : a < 1726) (hks : ks a = (1, 2, m)) (hn : m < 2 ^ 31) (hi : ∃ j, j < m ∧ i = nI j) (g : ∀ j, j < m → i = nI j → Sf sk L I V (f (eJ τ a j))) : Sf sk L I V ((xaJ (cH sk L τ) 2 a i).bind f) := sf_aJ (GS_a h0.1 ha hks) hn hi g
theorem sf_aNF {I : px_TT → Prop} {α : Type} {V : α → Prop} {f : Option Nat → Option (α × px_H)} {a t m : Nat} {i : Int32} (h0 : S0 sk L τ0) (ha : a < 1726) (hks : ks a = (1, t, m)) (ht : t = 4 ∨ t = 5 ∨ t = 6) (hn : m < 2 ^ 31) (hi : ∃ j, j < m ∧ i = nI j) (g : ∀ j, j < m → i = nI j → Sf sk L I V (f (eN τ a j))) : Sf sk L I V ((xaN (cH sk L τ) t a i).bind f) := sf_aN (GS_a h0.1 ha hks) ht hn hi g
theorem sf_sIF {I : px_TT → Prop} {α : Type} {V : α → Prop} {f : px_H → Option (α × px_H)} {a t m : Nat} {i v : Int32} (h0 : S0 sk L τ0) (ha : a < 1726) (hks : ks a = (1, t, m)) (ht : t = 0 ∨ t = 1 ∨ t = 3) (hn : m < 2 ^ 31) (hi : ∃ j, j < m ∧ i = nI j) (hI : ∀ g, I (vI τ a g)) (g : ∀ τ, I τ → Sf sk L I V (f (cH sk L τ))) : Sf sk L I V ((xsI (cH sk L τ) t a i v).bind f) := sf_sI (GS_a h0.1 ha hks) ht hn hi hI g
theorem sf_sJF {I : px_TT → Prop} {α : Type} {V : α → Prop} {f : px_H → Option (α × px_H)} {a m : Nat} {i : Int32} {v : Int64} (h0 : S0 sk L τ0) (ha : a < 1726) (hks : ks a = (1, 2, m)) (hn : m < 2 ^ 31) (hi : ∃ j, j < m ∧ i = nI j) (hI : ∀ g, I (vJ τ a g)) (g : ∀ τ, I τ → Sf sk L I V (f (cH sk L τ))) : Sf sk L I V ((xsJ (cH sk L τ) 2 a i v).bind f) := sf_sJ (GS_a h0.1 ha hks) hn hi hI g
section SFC
variable {F : Nat} {c : px_CT}
theorem sf_num {k : Nat} {x : Int32} (h0 : S0 sk L τ0) (hF : 65540 < F) (hI : SI zb sk L τ0 τ) (hr : RRd r) (hk : k ≤ 8) : Sf sk L (SI zb sk L τ0) Any (f_Row_num F c r x (nI k) (cH sk L τ)) := by
  obtain ⟨A, n, h⟩ := SI_S h0 hI hr
  exact sf_of (k_numS (by omega) hk h) hI
theorem sf_at {x : Int32} (h0 : S0 sk L τ0) (hI : SI zb sk L τ0 τ) (hr : RRd r) : Sf sk L (SI zb sk L τ0) Any (f_Row_at F c r x (cH sk L τ)) := by
  obtain ⟨A, n, h⟩ := SI_S h0 hI hr
  exact sf_of (k_atS h) hI
theorem sf_above {a b : Int64} (hI : SI zb sk L τ0 τ) : Sf sk L (SI zb sk L τ0) isZ (f_H_above F c a b (cH sk L τ)) := by
  obtain ⟨z, e⟩ := k_aboveS (F := F) (c := c) (a := a) (b := b) (ph := cH sk L τ)
  exact ⟨_, τ, e, ⟨z, rfl⟩, hI⟩
theorem sf_holds {a b : Int64} (h0 : S0 sk L τ0) (hI : SI zb sk L τ0 τ) (hr : RRd r) : Sf sk L (SI zb sk L τ0) isZ (f_Row_holds F c r a b (cH sk L τ)) := by
  obtain ⟨A, n, h⟩ := SI_S h0 hI hr
  obtain ⟨z, e⟩ := k_holdsS (F := F) (c := c) (a := a) (b := b) h
  exact ⟨_, τ, e, ⟨z, rfl⟩, hI⟩
theorem sf_nameLen {x y : Int32} (h0 : S0 sk L τ0) (hF : 65540 < F) (hI : SI zb sk L τ0 τ) (hr : RRd r) : Sf sk L (SI zb sk L τ0) Any (f_Row_nameLength F c r x y (cH sk L τ)) := by
  obtain ⟨A, n, h⟩ := SI_S h0 hI hr
  obtain ⟨w, _, e⟩ := k_nameLenS (F := F) (c := c) (x := x) (y := y) (by omega) h
  exact ⟨_, τ, e, any, hI⟩
theorem sf_Rw {β : Type} {m : Option (β × px_H)} {v : β} (hI : SI zb sk L τ0 τ) (hr : TRw r A n) (h : ∃ τ', m = some (v, cH sk L τ') ∧ rowOK sk L τ' r A n ∧ frRw r A τ τ') : Sf sk L (SI zb sk L τ0) Any m := by
  obtain ⟨τ', e, h1, h2⟩ := h
  exact ⟨v, τ', e, any, SI_Rw hI hr h2 h1⟩
theorem sf_clear (hI : SI zb sk L τ0 τ) (hr : RWr r) : Sf sk L (SI zb sk L τ0) Any (f_Row_clear F c r (cH sk L τ)) := by
  obtain ⟨A, n, hT⟩ := RWr_T hr
  exact sf_Rw hI hT (k_clearS (SI_row hI hT))
theorem sf_put {k : Nat} {v : Int64} (hF : 65540 < F) (hI : SI zb sk L τ0 τ) (hr : RWr r) (hk : k ≤ 8) : Sf sk L (SI zb sk L τ0) Any (f_Row_put F c r (nI k) v (cH sk L τ)) := by
  obtain ⟨A, n, hT⟩ := RWr_T hr
  exact sf_Rw hI hT (k_putS (by omega) (by omega) (SI_row hI hT))
theorem sf_set {k : Nat} {p : Int32} {v : Int64} (hF : 65540 < F) (hI : SI zb sk L τ0 τ) (hr : RWr r) (hk : k ≤ 8) : Sf sk L (SI zb sk L τ0) Any (f_Row_set F c r p (nI k) v (cH sk L τ)) := by
  obtain ⟨A, n, hT⟩ := RWr_T hr
  exact sf_Rw hI hT (k_setS (by omega) (by omega) (SI_row hI hT))
theorem sf_fill {x : Int64} {w : Int32} (hF : 65540 < F) (hI : SI zb sk L τ0 τ) (hr : RWr r) (hx : ∃ e, e < 2 ^ 62 ∧ x = lN e) : Sf sk L (SI zb sk L τ0) Any (f_Row_fillTo F c r x w (cH sk L τ)) := by
  obtain ⟨A, n, hT⟩ := RWr_T hr
  obtain ⟨e, he, rfl⟩ := hx
  exact sf_Rw hI hT (k_fillToS (by omega) he (SI_row hI hT))
theorem sf_hex {v : Int64} (hF : 65540 < F) (hI : SI zb sk L τ0 τ) (hr : RWr r) : Sf sk L (SI zb sk L τ0) Any (f_Row_putHex F c r v (cH sk L τ)) := by
  obtain ⟨A, n, hT⟩ := RWr_T hr
  exact sf_Rw hI hT (k_putHexS (by omega) (SI_row hI hT))
theorem sf_dec {v : Int32} (hF : 65540 < F) (hI : SI zb sk L τ0 τ) (hr : RWr r) : Sf sk L (SI zb sk L τ0) Any (f_Row_putDecimal F c r v (cH sk L τ)) := by
  obtain ⟨A, n, hT⟩ := RWr_T hr
  exact sf_Rw hI hT (k_putDecS (by omega) (SI_row hI hT))
theorem sf_high {v : Int32} (hF : 65540 < F) (hI : SI zb sk L τ0 τ) (hr : RWr r) : Sf sk L (SI zb sk L τ0) Any (f_Row_putHighestFirst F c r v (cH sk L τ)) := by
  obtain ⟨A, n, hT⟩ := RWr_T hr
  exact sf_Rw hI hT (k_putHighS (by omega) (SI_row hI hT))
theorem sf_writeTo {p : Nat} (hF : 65540 < F) (hI : SI zb sk L τ0 τ) (hp : ob sk L 5 p) (hr : RWr r) : Sf sk L (SI zb sk L τ0) Any (f_Name_writeTo F c p r (cH sk L τ)) := by
  obtain ⟨A, n, hT⟩ := RWr_T hr
  exact sf_Rw hI hT (k_writeToS (by omega) hp (SI_row hI hT))
/-- where bytes are copied from -/
def CS (sk : Nat → Nat × Nat × Nat) (L : Nat) (τ : px_TT) (S : Nat) : Prop := ∃ N, ar sk L 0 N S ∧ N ≤ 65536 ∧ ∀ k, isB (eI τ S k)
theorem CS_S (hI : SI zb sk L τ0 τ) (hr : TRw r A n) : CS sk L τ A := ⟨n, (SI_row hI hr).2.1, (SI_row hI hr).2.2.1, (SI_row hI hr).2.2.2.2.2.2⟩
theorem CS_F (hI : SI zb sk L τ0 τ) : CS sk L τ 1712 := ⟨65536, (SI_fl hI).2.1, (SI_fl hI).2.2.1, (SI_fl hI).2.2.2.2.2.2⟩
theorem sf_copy {S : Nat} {q m : Int32} (hI : SI zb sk L τ0 τ) (hS : CS sk L τ S) (hr : RWr r) : Sf sk L (SI zb sk L τ0) Any (f_Row_copy F c r S q m (cH sk L τ)) := by
  obtain ⟨A, n, hT⟩ := RWr_T hr
  obtain ⟨N, h1, h2, h3⟩ := hS
  exact sf_Rw hI hT (k_copyS h1 h2 h3 (SI_row hI hT))
end SFC
end SIS
end
section
/-! readers that leave the state as it was, and what their answers are -/
section CMB
variable {F : Nat} {c : px_CT} {sk : Nat → Nat × Nat × Nat} {L : Nat} {zb : Option Nat} {τ0 τ : px_TT} {r A n : Nat} {I : px_TT → Prop} {α : Type} {V : α → Prop}
theorem nI_div24 {m : Nat} (h : m < 2 ^ 30) : nI m / nI 24 = nI (m / 24) := by
  apply Int32.toInt_inj.mp
  rw [Int32.toInt_div]
  have e1 : (nI m).toInt = (m : Int) := nI_toInt (by omega)
  have e2 : (nI 24).toInt = (24 : Int) := rfl
  have e3 : (nI (m / 24)).toInt = ((m / 24 : Nat) : Int) := nI_toInt (by omega)
  rw [e1, e2, e3]
  rw [Int.tdiv_eq_ediv_of_nonneg (by omega)]
  rw [Int.bmod_eq_of_le (by omega) (by omega)]
  rfl
theorem k_atB {x : Int32} (h : rowS sk L τ r A n) : ∃ y, f_Row_at F c r x (cH sk L τ) = some (y &&& nI 255, cH sk L τ) := by
  obtain ⟨h1, h2, h3, h4, z, hz, ez⟩ := h
  unfold f_Row_at f_Row_at_25 f_Row_at_26
  by_cases c1 : x < 0
  · exact ⟨nI 0, by rw [if_pos c1]; rfl⟩
  · obtain ⟨i, hi, ei⟩ := nI_of c1
    rw [if_neg c1, C10g1 h1, bs, ez, ei]
    by_cases c2 : z ≤ i
    · exact ⟨nI 0, by rw [if_pos (nI_le c2 hi)]; rfl⟩
    · exact ⟨eI τ A i, by rw [if_neg (nI_ge (by omega) (by omega)), C10r0 h1 h4, bs, c_aI h2 (Or.inl rfl) (by omega) (by omega), bs]⟩
theorem k_num7B {x : Int32} (h : rowS sk L τ r A n) : ∀ (d f m : Nat), d < f → d < 2 ^ 30 → (m + 1) * 256 ^ d ≤ 2 ^ 64 → ∃ w, w < (m + 1) * 256 ^ d ∧ f_Row_num_7 F c f r x (lN m) (nI d - nI 1) (cH sk L τ) = some (lN w, cH sk L τ) := by
  intro d
  induction d with
  | zero =>
    intro f m hf _ _
    obtain ⟨f, rfl⟩ : ∃ x, f = x + 1 := ⟨f - 1, by omega⟩
    unfold f_Row_num_7 f_Row_num_33
    exact ⟨m, by omega, by rw [if_pos (by decide)]⟩
  | succ d ih =>
    intro f m hf hd hm
    obtain ⟨f, rfl⟩ : ∃ x, f = x + 1 := ⟨f - 1, by omega⟩
    rw [Nat.pow_succ, Nat.mul_comm (256 ^ d) 256, ← Nat.mul_assoc] at hm
    have h1 : 1 ≤ 256 ^ d := Nat.pos_of_ne_zero (by simp)
    have h2 : (m + 1) * 256 ≤ (m + 1) * 256 * 256 ^ d := Nat.le_mul_of_pos_right _ h1
    rw [pk_sub (by omega), Nat.add_sub_cancel]
    obtain ⟨y, ky⟩ := k_atB (F := F) (c := c) (x := x + nI d) h
    have hb := b8_lt y
    have h3 : (m * 256 + b8 y + 1) * 256 ^ d ≤ (m + 1) * 256 * 256 ^ d := Nat.mul_le_mul_right _ (by omega)
    unfold f_Row_num_7
    rw [if_neg (nI_pos (by omega)), c_o h.1, bs, ky, xb_mk, nI_back, sh_byte m y (by omega)]
    obtain ⟨w, hw, e⟩ := ih f (m * 256 + b8 y) (by omega) (by omega) (by omega)
    refine ⟨w, ?_, e⟩
    rw [Nat.pow_succ, Nat.mul_comm (256 ^ d) 256, ← Nat.mul_assoc]
    omega
theorem k_numB {x : Int32} {k : Nat} (hF : 8 < F) (hk : k ≤ 8) (h : rowS sk L τ r A n) : ∃ w, w < 256 ^ k ∧ f_Row_num F c r x (nI k) (cH sk L τ) = some (lN w, cH sk L τ) := by
  have hp : 256 ^ k ≤ 256 ^ 8 := Nat.pow_le_pow_right (by decide) hk
  obtain ⟨w, hw, e⟩ := k_num7B (F := F) (c := c) (x := x) h k F 0 (by omega) (by omega) (by omega)
  exact ⟨w, by omega, e⟩
theorem k_holdsB {a b : Int64} (h : rowS sk L τ r A n) : ∃ z, f_Row_holds F c r a b (cH sk L τ) = some (bI z, cH sk L τ) ∧ (z = true → ∃ m, m ≤ 65536 ∧ b = lN m) := by
  obtain ⟨h1, h2, h3, h4, z, hz, ez⟩ := h
  obtain ⟨x, hx, ex⟩ := wb_of a
  obtain ⟨y, hy, ey⟩ := wb_of b
  unfold f_Row_holds f_Row_holds_30 f_Row_holds_31
  rw [C10g1 h1, bs, ez, ex, nI_l (by omega), k_above hx (by omega), xb_mk]
  by_cases c1 : z < x
  · exact ⟨false, by rw [decide_eq_true c1, if_neg (show ¬ bI true = 0 by decide), xz_0], fun e => by cases e⟩
  · rw [decide_eq_false c1, if_pos (show bI false = 0 from rfl), C10g1 h1, bs, ez, nI_l (by omega), lN_sub (by omega), ey, k_above hy (by omega), xb_mk]
    by_cases c2 : z - x < y
    · exact ⟨false, by rw [decide_eq_true c2, if_neg (show ¬ bI true = 0 by decide), xz_0], fun e => by cases e⟩
    · exact ⟨true, by rw [decide_eq_false c2, if_pos (show bI false = 0 from rfl), xz_1], fun _ => ⟨y, by omega, rfl⟩⟩
theorem sx_num {k : Nat} {x : Int32} {f : Int64 → px_H → Option (α × px_H)} (h0 : S0 sk L τ0) (hF : 65540 < F) (hI : SI zb sk L τ0 τ) (hr : RRd r) (hk : k ≤ 8) (g : ∀ w, w < 256 ^ k → Sf sk L I V (f (lN w) (cH sk L τ))) : Sf sk L I V (xb (f_Row_num F c r x (nI k) (cH sk L τ)) f) := by
  obtain ⟨A, n, h⟩ := SI_S h0 hI hr
  obtain ⟨w, hw, e⟩ := k_numB (F := F) (c := c) (x := x) (by omega) hk h
  rw [e, xb_mk]; exact g w hw
theorem sx_at {x : Int32} {f : Int32 → px_H → Option (α × px_H)} (h0 : S0 sk L τ0) (hI : SI zb sk L τ0 τ) (hr : RRd r) (g : ∀ v, Sf sk L I V (f v (cH sk L τ))) : Sf sk L I V (xb (f_Row_at F c r x (cH sk L τ)) f) := by
  obtain ⟨A, n, h⟩ := SI_S h0 hI hr
  obtain ⟨w, e⟩ := k_atS (F := F) (c := c) (x := x) h
  rw [e, xb_mk]; exact g w
theorem sx_above {a b : Int64} {f : Int32 → px_H → Option (α × px_H)} (g : ∀ v, isZ v → Sf sk L I V (f v (cH sk L τ))) : Sf sk L I V (xb (f_H_above F c a b (cH sk L τ)) f) := by
  obtain ⟨z, e⟩ := k_aboveS (F := F) (c := c) (a := a) (b := b) (ph := cH sk L τ)
  rw [e, xb_mk]; exact g _ ⟨z, rfl⟩
theorem sx_holds {a b : Int64} {f : Int32 → px_H → Option (α × px_H)} (h0 : S0 sk L τ0) (hI : SI zb sk L τ0 τ) (hr : RRd r) (g : ∀ v, isZ v → (¬ v = 0 → ∃ m, m ≤ 65536 ∧ b = lN m) → Sf sk L I V (f v (cH sk L τ))) : Sf sk L I V (xb (f_Row_holds F c r a b (cH sk L τ)) f) := by
  obtain ⟨A, n, h⟩ := SI_S h0 hI hr
  obtain ⟨z, e, hz⟩ := k_holdsB (F := F) (c := c) (a := a) (b := b) h
  rw [e, xb_mk]
  refine g _ ⟨z, rfl⟩ (fun hn => hz ?_)
  cases z with
  | true => rfl
  | false => exact absurd rfl hn
theorem sx_nlen {x y : Int32} {f : Int32 → px_H → Option (α × px_H)} (h0 : S0 sk L τ0) (hF : 65540 < F) (hI : SI zb sk L τ0 τ) (hr : RRd r) (g : ∀ w, w ≤ 20 → Sf sk L I V (f (nI w) (cH sk L τ))) : Sf sk L I V (xb (f_Row_nameLength F c r x y (cH sk L τ)) f) := by
  obtain ⟨A, n, h⟩ := SI_S h0 hI hr
  obtain ⟨w, hw, e⟩ := k_nameLenS (F := F) (c := c) (x := x) (y := y) (by omega) h
  rw [e, xb_mk]; exact g w hw
theorem sx_begins {f : Int32 → px_H → Option (α × px_H)} (h0 : S0 sk L τ0) (hc : KT c) (hF : 65540 < F) (hI : SI zb sk L τ0 τ) (hr : RRd r) (g : ∀ v, isZ v → Sf sk L I V (f v (cH sk L τ))) : Sf sk L I V (xb (f_Row_begins F c r 3 (cH sk L τ)) f) := by
  obtain ⟨A, n, h⟩ := SI_S h0 hI hr
  obtain ⟨z, e⟩ := k_begins_2S (F := F) (c := c) (j := 3) (by decide) hc.2.2.1.1 hc.2.2.1.2 rfl (by decide) h 7 0 F rfl (by omega)
  unfold f_Row_begins
  rw [e, xb_mk]; exact g _ ⟨z, rfl⟩
end CMB
end
section
/-! the class's memory: its calls are safe (steps spelled out by sf/pp.py) -/
section CMS
variable {F : Nat} {c : px_CT} {sk : Nat → Nat × Nat × Nat} {L : Nat} {zb : Option Nat} {τ0 τ : px_TT}
theorem sf_mvalue {j : Int32} (h0 : S0 sk L τ0) (hF : 65540 < F) (hI : SI zb sk L τ0 τ) : Sf sk L (SI zb sk L τ0) Any (f_Memory_valueOf F c 1718 j (cH sk L τ)) := by
  unfold f_Memory_valueOf
  repeat' (first | exact absurd (show nI 0 = 0 from rfl) (by assumption) | exact absurd (show nI 1 = 0 by assumption) (by decide) | ((with_reducible refine sf_i (fun hc => ?_) (fun hc => ?_))) | ((with_reducible refine sf_gF h0 ?_ ?_ ?_ ?_ ?_); decide; decide; decide; decide) | ((with_reducible refine sf_gI ?_ ?_ ?_ ?_); (first | assumption | exact GS_o h0.1 (by decide) (by decide) | exact RRd_o h0 (by assumption) | exact RRd_o h0 (Or.inr (by assumption)) | exact OBq_o h0 (by assumption) | exact OBq_o h0 (Obt_q (by assumption)) | exact G_part h0.1 (by assumption) | exact Nmo_o (by assumption)); decide; decide) | ((with_reducible refine sf_gJ ?_ ?_ ?_ ?_); (first | assumption | exact GS_o h0.1 (by decide) (by decide) | exact RRd_o h0 (by assumption) | exact RRd_o h0 (Or.inr (by assumption)) | exact OBq_o h0 (by assumption) | exact OBq_o h0 (Obt_q (by assumption)) | exact G_part h0.1 (by assumption) | exact Nmo_o (by assumption)); decide; decide) | ((with_reducible refine sf_gN ?_ ?_ ?_ ?_); (first | assumption | exact GS_o h0.1 (by decide) (by decide) | exact RRd_o h0 (by assumption) | exact RRd_o h0 (Or.inr (by assumption)) | exact OBq_o h0 (by assumption) | exact OBq_o h0 (Obt_q (by assumption)) | exact G_part h0.1 (by assumption) | exact Nmo_o (by assumption)); decide; decide) | ((with_reducible refine sf_gG h0 (by assumption) ?_ ?_ ?_ ?_ (by with_unfolding_all exact rfl) ?_); decide; decide; decide; decide) | ((with_reducible refine sf_o ?_ (fun l => ?_)); (first | assumption | exact GS_o h0.1 (by decide) (by decide) | exact RRd_o h0 (by assumption) | exact RRd_o h0 (Or.inr (by assumption)) | exact OBq_o h0 (by assumption) | exact OBq_o h0 (Obt_q (by assumption)) | exact G_part h0.1 (by assumption) | exact Nmo_o (by assumption))) | ((with_reducible refine sf_s ?_)) | ((with_reducible refine sf_sb (by assumption) ?_)) | ((with_reducible refine sf_r ?_ ?_); (first | exact any | assumption | exact ⟨false, rfl⟩ | exact ⟨true, rfl⟩); assumption) | ((with_reducible refine sf_z ?_ ?_ ?_); (first | exact ⟨false, rfl⟩ | exact ⟨true, rfl⟩ | assumption); (first | exact any | exact ⟨false, rfl⟩ | exact ⟨true, rfl⟩ | assumption); assumption) | ((with_reducible refine sx_num h0 hF (by assumption) ?_ ?_ (fun w hw => ?_)); (first | assumption | exact Or.inr (by assumption) | (unfold RRd RWr; decide)); decide))
theorem sf_mname {j : Int32} (h0 : S0 sk L τ0) (hF : 65540 < F) (hI : SI zb sk L τ0 τ) : Sf sk L (SI zb sk L τ0) Any (f_Memory_nameStart F c 1718 j (cH sk L τ)) := by
  unfold f_Memory_nameStart
  repeat' (first | exact absurd (show nI 0 = 0 from rfl) (by assumption) | exact absurd (show nI 1 = 0 by assumption) (by decide) | ((with_reducible refine sf_i (fun hc => ?_) (fun hc => ?_))) | ((with_reducible refine sf_gF h0 ?_ ?_ ?_ ?_ ?_); decide; decide; decide; decide) | ((with_reducible refine sf_gI ?_ ?_ ?_ ?_); (first | assumption | exact GS_o h0.1 (by decide) (by decide) | exact RRd_o h0 (by assumption) | exact RRd_o h0 (Or.inr (by assumption)) | exact OBq_o h0 (by assumption) | exact OBq_o h0 (Obt_q (by assumption)) | exact G_part h0.1 (by assumption) | exact Nmo_o (by assumption)); decide; decide) | ((with_reducible refine sf_gJ ?_ ?_ ?_ ?_); (first | assumption | exact GS_o h0.1 (by decide) (by decide) | exact RRd_o h0 (by assumption) | exact RRd_o h0 (Or.inr (by assumption)) | exact OBq_o h0 (by assumption) | exact OBq_o h0 (Obt_q (by assumption)) | exact G_part h0.1 (by assumption) | exact Nmo_o (by assumption)); decide; decide) | ((with_reducible refine sf_gN ?_ ?_ ?_ ?_); (first | assumption | exact GS_o h0.1 (by decide) (by decide) | exact RRd_o h0 (by assumption) | exact RRd_o h0 (Or.inr (by assumption)) | exact OBq_o h0 (by assumption) | exact OBq_o h0 (Obt_q (by assumption)) | exact G_part h0.1 (by assumption) | exact Nmo_o (by assumption)); decide; decide) | ((with_reducible refine sf_gG h0 (by assumption) ?_ ?_ ?_ ?_ (by with_unfolding_all exact rfl) ?_); decide; decide; decide; decide) | ((with_reducible refine sf_o ?_ (fun l => ?_)); (first | assumption | exact GS_o h0.1 (by decide) (by decide) | exact RRd_o h0 (by assumption) | exact RRd_o h0 (Or.inr (by assumption)) | exact OBq_o h0 (by assumption) | exact OBq_o h0 (Obt_q (by assumption)) | exact G_part h0.1 (by assumption) | exact Nmo_o (by assumption))) | ((with_reducible refine sf_s ?_)) | ((with_reducible refine sf_sb (by assumption) ?_)) | ((with_reducible refine sf_r ?_ ?_); (first | exact any | assumption | exact ⟨false, rfl⟩ | exact ⟨true, rfl⟩); assumption) | ((with_reducible refine sf_z ?_ ?_ ?_); (first | exact ⟨false, rfl⟩ | exact ⟨true, rfl⟩ | assumption); (first | exact any | exact ⟨false, rfl⟩ | exact ⟨true, rfl⟩ | assumption); assumption) | ((with_reducible refine sx_num h0 hF (by assumption) ?_ ?_ (fun w hw => ?_)); (first | assumption | exact Or.inr (by assumption) | (unfold RRd RWr; decide)); decide))
theorem sf_misName {j : Int32} (h0 : S0 sk L τ0) (hF : 65540 < F) (hI : SI zb sk L τ0 τ) : Sf sk L (SI zb sk L τ0) isZ (f_Memory_isName F c 1718 j (cH sk L τ)) := by
  unfold f_Memory_isName f_Memory_isName_33 f_Memory_isName_105 f_Memory_isName_106 f_Memory_isName_50
  repeat' (first | exact absurd (show nI 0 = 0 from rfl) (by assumption) | exact absurd (show nI 1 = 0 by assumption) (by decide) | ((with_reducible refine sf_i (fun hc => ?_) (fun hc => ?_))) | ((with_reducible refine sf_gF h0 ?_ ?_ ?_ ?_ ?_); decide; decide; decide; decide) | ((with_reducible refine sf_gI ?_ ?_ ?_ ?_); (first | assumption | exact GS_o h0.1 (by decide) (by decide) | exact RRd_o h0 (by assumption) | exact RRd_o h0 (Or.inr (by assumption)) | exact OBq_o h0 (by assumption) | exact OBq_o h0 (Obt_q (by assumption)) | exact G_part h0.1 (by assumption) | exact Nmo_o (by assumption)); decide; decide) | ((with_reducible refine sf_gJ ?_ ?_ ?_ ?_); (first | assumption | exact GS_o h0.1 (by decide) (by decide) | exact RRd_o h0 (by assumption) | exact RRd_o h0 (Or.inr (by assumption)) | exact OBq_o h0 (by assumption) | exact OBq_o h0 (Obt_q (by assumption)) | exact G_part h0.1 (by assumption) | exact Nmo_o (by assumption)); decide; decide) | ((with_reducible refine sf_gN ?_ ?_ ?_ ?_); (first | assumption | exact GS_o h0.1 (by decide) (by decide) | exact RRd_o h0 (by assumption) | exact RRd_o h0 (Or.inr (by assumption)) | exact OBq_o h0 (by assumption) | exact OBq_o h0 (Obt_q (by assumption)) | exact G_part h0.1 (by assumption) | exact Nmo_o (by assumption)); decide; decide) | ((with_reducible refine sf_gG h0 (by assumption) ?_ ?_ ?_ ?_ (by with_unfolding_all exact rfl) ?_); decide; decide; decide; decide) | ((with_reducible refine sf_o ?_ (fun l => ?_)); (first | assumption | exact GS_o h0.1 (by decide) (by decide) | exact RRd_o h0 (by assumption) | exact RRd_o h0 (Or.inr (by assumption)) | exact OBq_o h0 (by assumption) | exact OBq_o h0 (Obt_q (by assumption)) | exact G_part h0.1 (by assumption) | exact Nmo_o (by assumption))) | ((with_reducible refine sf_s ?_)) | ((with_reducible refine sf_sb (by assumption) ?_)) | ((with_reducible refine sf_r ?_ ?_); (first | exact any | assumption | exact ⟨false, rfl⟩ | exact ⟨true, rfl⟩); assumption) | ((with_reducible refine sf_z ?_ ?_ ?_); (first | exact ⟨false, rfl⟩ | exact ⟨true, rfl⟩ | assumption); (first | exact any | exact ⟨false, rfl⟩ | exact ⟨true, rfl⟩ | assumption); assumption) | ((with_reducible refine sx_num h0 hF (by assumption) ?_ ?_ (fun w hw => ?_)); (first | assumption | exact Or.inr (by assumption) | (unfold RRd RWr; decide)); decide) | ((with_reducible refine sx_at h0 (by assumption) ?_ (fun v => ?_)); (first | assumption | exact Or.inr (by assumption) | (unfold RRd RWr; decide))) | ((with_reducible refine sx_nlen h0 hF (by assumption) ?_ (fun w hw => ?_)); (first | assumption | exact Or.inr (by assumption) | (unfold RRd RWr; decide))))
theorem sf_mrow_2 {x : Int64} (h0 : S0 sk L τ0) (hF : 65540 < F) : ∀ (d j f : Nat) (τ : px_TT), j + d = 8 → d < f → SI zb sk L τ0 τ → Sf sk L (SI zb sk L τ0) (fun v => v = Int32.ofInt (-1) ∨ ∃ m, m < 8 ∧ v = nI m) (f_Memory_rowAt_2 F c f 1718 x (nI j) (cH sk L τ)) := by
  intro d
  induction d with
  | zero =>
    intro j f τ hj hf hI
    obtain ⟨f, rfl⟩ : ∃ y, f = y + 1 := ⟨f - 1, by omega⟩
    obtain rfl : j = 8 := by omega
    unfold f_Memory_rowAt_2 f_Memory_rowAt_47
    repeat' (first | (exact absurd (show nI 8 ≤ nI 8 by decide) hc) | (refine sf_r (Or.inl rfl) hI) | exact absurd (show nI 0 = 0 from rfl) (by assumption) | exact absurd (show nI 1 = 0 by assumption) (by decide) | ((with_reducible refine sf_i (fun hc => ?_) (fun hc => ?_))) | ((with_reducible refine sf_gF h0 ?_ ?_ ?_ ?_ ?_); decide; decide; decide; decide) | ((with_reducible refine sf_gI ?_ ?_ ?_ ?_); (first | assumption | exact GS_o h0.1 (by decide) (by decide) | exact RRd_o h0 (by assumption) | exact RRd_o h0 (Or.inr (by assumption)) | exact OBq_o h0 (by assumption) | exact OBq_o h0 (Obt_q (by assumption)) | exact G_part h0.1 (by assumption) | exact Nmo_o (by assumption)); decide; decide) | ((with_reducible refine sf_gJ ?_ ?_ ?_ ?_); (first | assumption | exact GS_o h0.1 (by decide) (by decide) | exact RRd_o h0 (by assumption) | exact RRd_o h0 (Or.inr (by assumption)) | exact OBq_o h0 (by assumption) | exact OBq_o h0 (Obt_q (by assumption)) | exact G_part h0.1 (by assumption) | exact Nmo_o (by assumption)); decide; decide) | ((with_reducible refine sf_gN ?_ ?_ ?_ ?_); (first | assumption | exact GS_o h0.1 (by decide) (by decide) | exact RRd_o h0 (by assumption) | exact RRd_o h0 (Or.inr (by assumption)) | exact OBq_o h0 (by assumption) | exact OBq_o h0 (Obt_q (by assumption)) | exact G_part h0.1 (by assumption) | exact Nmo_o (by assumption)); decide; decide) | ((with_reducible refine sf_gG h0 (by assumption) ?_ ?_ ?_ ?_ (by with_unfolding_all exact rfl) ?_); decide; decide; decide; decide) | ((with_reducible refine sf_o ?_ (fun l => ?_)); (first | assumption | exact GS_o h0.1 (by decide) (by decide) | exact RRd_o h0 (by assumption) | exact RRd_o h0 (Or.inr (by assumption)) | exact OBq_o h0 (by assumption) | exact OBq_o h0 (Obt_q (by assumption)) | exact G_part h0.1 (by assumption) | exact Nmo_o (by assumption))) | ((with_reducible refine sf_s ?_)) | ((with_reducible refine sf_sb (by assumption) ?_)) | ((with_reducible refine sf_r ?_ ?_); (first | exact any | assumption | exact ⟨false, rfl⟩ | exact ⟨true, rfl⟩); assumption) | ((with_reducible refine sf_z ?_ ?_ ?_); (first | exact ⟨false, rfl⟩ | exact ⟨true, rfl⟩ | assumption); (first | exact any | exact ⟨false, rfl⟩ | exact ⟨true, rfl⟩ | assumption); assumption) | ((with_reducible refine sf_lF h0 ?_ (by with_unfolding_all exact rfl) ?_ ?_); decide; decide))
  | succ d ih =>
    intro j f τ hj hf hI
    obtain ⟨f, rfl⟩ : ∃ y, f = y + 1 := ⟨f - 1, by omega⟩
    unfold f_Memory_rowAt_2 f_Memory_rowAt_47 f_Memory_rowAt_39
    rw [nI_add]
    repeat' (first | (refine sf_r (Or.inl rfl) hI) | ((with_reducible refine sf_aJF h0 ?_ (by with_unfolding_all exact rfl) ?_ ?_ (fun m hm em => ?_)); decide; decide; exact ⟨j, by omega, rfl⟩) | ((with_reducible refine sf_r ?_ ?_); exact Or.inr ⟨j, by omega, rfl⟩; assumption) | (exact ih _ _ _ (by omega) (by omega) (by assumption)) | exact absurd (show nI 0 = 0 from rfl) (by assumption) | exact absurd (show nI 1 = 0 by assumption) (by decide) | ((with_reducible refine sf_i (fun hc => ?_) (fun hc => ?_))) | ((with_reducible refine sf_gF h0 ?_ ?_ ?_ ?_ ?_); decide; decide; decide; decide) | ((with_reducible refine sf_gI ?_ ?_ ?_ ?_); (first | assumption | exact GS_o h0.1 (by decide) (by decide) | exact RRd_o h0 (by assumption) | exact RRd_o h0 (Or.inr (by assumption)) | exact OBq_o h0 (by assumption) | exact OBq_o h0 (Obt_q (by assumption)) | exact G_part h0.1 (by assumption) | exact Nmo_o (by assumption)); decide; decide) | ((with_reducible refine sf_gJ ?_ ?_ ?_ ?_); (first | assumption | exact GS_o h0.1 (by decide) (by decide) | exact RRd_o h0 (by assumption) | exact RRd_o h0 (Or.inr (by assumption)) | exact OBq_o h0 (by assumption) | exact OBq_o h0 (Obt_q (by assumption)) | exact G_part h0.1 (by assumption) | exact Nmo_o (by assumption)); decide; decide) | ((with_reducible refine sf_gN ?_ ?_ ?_ ?_); (first | assumption | exact GS_o h0.1 (by decide) (by decide) | exact RRd_o h0 (by assumption) | exact RRd_o h0 (Or.inr (by assumption)) | exact OBq_o h0 (by assumption) | exact OBq_o h0 (Obt_q (by assumption)) | exact G_part h0.1 (by assumption) | exact Nmo_o (by assumption)); decide; decide) | ((with_reducible refine sf_gG h0 (by assumption) ?_ ?_ ?_ ?_ (by with_unfolding_all exact rfl) ?_); decide; decide; decide; decide) | ((with_reducible refine sf_o ?_ (fun l => ?_)); (first | assumption | exact GS_o h0.1 (by decide) (by decide) | exact RRd_o h0 (by assumption) | exact RRd_o h0 (Or.inr (by assumption)) | exact OBq_o h0 (by assumption) | exact OBq_o h0 (Obt_q (by assumption)) | exact G_part h0.1 (by assumption) | exact Nmo_o (by assumption))) | ((with_reducible refine sf_s ?_)) | ((with_reducible refine sf_sb (by assumption) ?_)) | ((with_reducible refine sf_r ?_ ?_); (first | exact any | assumption | exact ⟨false, rfl⟩ | exact ⟨true, rfl⟩); assumption) | ((with_reducible refine sf_z ?_ ?_ ?_); (first | exact ⟨false, rfl⟩ | exact ⟨true, rfl⟩ | assumption); (first | exact any | exact ⟨false, rfl⟩ | exact ⟨true, rfl⟩ | assumption); assumption) | ((with_reducible refine sf_lF h0 ?_ (by with_unfolding_all exact rfl) ?_ ?_); decide; decide) | ((with_reducible refine sx_above (fun v hv => ?_))))
theorem sf_mrow {x : Int64} (h0 : S0 sk L τ0) (hF : 65540 < F) (hI : SI zb sk L τ0 τ) : Sf sk L (SI zb sk L τ0) (fun v => v = Int32.ofInt (-1) ∨ ∃ m, m < 8 ∧ v = nI m) (f_Memory_rowAt F c 1718 x (cH sk L τ)) := sf_mrow_2 h0 hF 8 0 F τ rfl (by omega) hI
theorem row_m {v : Int32} (h : v = Int32.ofInt (-1) ∨ ∃ m, m < 8 ∧ v = nI m) (hc : 0 ≤ v) : ∃ m, m < 8 ∧ v = nI m := by
  rcases h with rfl | h
  · exact absurd hc (by decide)
  · exact h
theorem sf_mbyte {x : Int64} (h0 : S0 sk L τ0) (hF : 65540 < F) (hI : SI zb sk L τ0 τ) : Sf sk L (SI zb sk L τ0) Any (f_Memory_byteAt F c 1718 x (cH sk L τ)) := by
  unfold f_Memory_byteAt f_Memory_byteAt_55
  repeat' (first | ((with_reducible refine sf_aJF h0 ?_ (by with_unfolding_all exact rfl) ?_ ?_ (fun m hm em => ?_)); decide; decide; exact row_m (by assumption) (by assumption)) | ((with_reducible refine sf_aIF h0 ?_ (by with_unfolding_all exact rfl) ?_ ?_ ?_ (fun m hm em => ?_)); decide; decide; decide; exact row_m (by assumption) (by assumption)) | exact absurd (show nI 0 = 0 from rfl) (by assumption) | exact absurd (show nI 1 = 0 by assumption) (by decide) | ((with_reducible refine sf_i (fun hc => ?_) (fun hc => ?_))) | ((with_reducible refine sf_gF h0 ?_ ?_ ?_ ?_ ?_); decide; decide; decide; decide) | ((with_reducible refine sf_gI ?_ ?_ ?_ ?_); (first | assumption | exact GS_o h0.1 (by decide) (by decide) | exact RRd_o h0 (by assumption) | exact RRd_o h0 (Or.inr (by assumption)) | exact OBq_o h0 (by assumption) | exact OBq_o h0 (Obt_q (by assumption)) | exact G_part h0.1 (by assumption) | exact Nmo_o (by assumption)); decide; decide) | ((with_reducible refine sf_gJ ?_ ?_ ?_ ?_); (first | assumption | exact GS_o h0.1 (by decide) (by decide) | exact RRd_o h0 (by assumption) | exact RRd_o h0 (Or.inr (by assumption)) | exact OBq_o h0 (by assumption) | exact OBq_o h0 (Obt_q (by assumption)) | exact G_part h0.1 (by assumption) | exact Nmo_o (by assumption)); decide; decide) | ((with_reducible refine sf_gN ?_ ?_ ?_ ?_); (first | assumption | exact GS_o h0.1 (by decide) (by decide) | exact RRd_o h0 (by assumption) | exact RRd_o h0 (Or.inr (by assumption)) | exact OBq_o h0 (by assumption) | exact OBq_o h0 (Obt_q (by assumption)) | exact G_part h0.1 (by assumption) | exact Nmo_o (by assumption)); decide; decide) | ((with_reducible refine sf_gG h0 (by assumption) ?_ ?_ ?_ ?_ (by with_unfolding_all exact rfl) ?_); decide; decide; decide; decide) | ((with_reducible refine sf_o ?_ (fun l => ?_)); (first | assumption | exact GS_o h0.1 (by decide) (by decide) | exact RRd_o h0 (by assumption) | exact RRd_o h0 (Or.inr (by assumption)) | exact OBq_o h0 (by assumption) | exact OBq_o h0 (Obt_q (by assumption)) | exact G_part h0.1 (by assumption) | exact Nmo_o (by assumption))) | ((with_reducible refine sf_s ?_)) | ((with_reducible refine sf_sb (by assumption) ?_)) | ((with_reducible refine sf_r ?_ ?_); (first | exact any | assumption | exact ⟨false, rfl⟩ | exact ⟨true, rfl⟩); assumption) | ((with_reducible refine sf_z ?_ ?_ ?_); (first | exact ⟨false, rfl⟩ | exact ⟨true, rfl⟩ | assumption); (first | exact any | exact ⟨false, rfl⟩ | exact ⟨true, rfl⟩ | assumption); assumption) | ((with_reducible refine sx_at h0 (by assumption) ?_ (fun v => ?_)); (first | assumption | exact Or.inr (by assumption) | (unfold RRd RWr; decide))) | ((with_reducible refine sf_x (sf_mrow h0 hF (by assumption)) ?_); intro v τ hv hi))
theorem sf_mflag {x : Int64} (h0 : S0 sk L τ0) (hF : 65540 < F) (hI : SI zb sk L τ0 τ) : Sf sk L (SI zb sk L τ0) Any (f_Memory_flagsAt F c 1718 x (cH sk L τ)) := by
  unfold f_Memory_flagsAt f_Memory_flagsAt_22
  repeat' (first | ((with_reducible refine sf_aJF h0 ?_ (by with_unfolding_all exact rfl) ?_ ?_ (fun m hm em => ?_)); decide; decide; exact row_m (by assumption) (by assumption)) | exact absurd (show nI 0 = 0 from rfl) (by assumption) | exact absurd (show nI 1 = 0 by assumption) (by decide) | ((with_reducible refine sf_i (fun hc => ?_) (fun hc => ?_))) | ((with_reducible refine sf_gF h0 ?_ ?_ ?_ ?_ ?_); decide; decide; decide; decide) | ((with_reducible refine sf_gI ?_ ?_ ?_ ?_); (first | assumption | exact GS_o h0.1 (by decide) (by decide) | exact RRd_o h0 (by assumption) | exact RRd_o h0 (Or.inr (by assumption)) | exact OBq_o h0 (by assumption) | exact OBq_o h0 (Obt_q (by assumption)) | exact G_part h0.1 (by assumption) | exact Nmo_o (by assumption)); decide; decide) | ((with_reducible refine sf_gJ ?_ ?_ ?_ ?_); (first | assumption | exact GS_o h0.1 (by decide) (by decide) | exact RRd_o h0 (by assumption) | exact RRd_o h0 (Or.inr (by assumption)) | exact OBq_o h0 (by assumption) | exact OBq_o h0 (Obt_q (by assumption)) | exact G_part h0.1 (by assumption) | exact Nmo_o (by assumption)); decide; decide) | ((with_reducible refine sf_gN ?_ ?_ ?_ ?_); (first | assumption | exact GS_o h0.1 (by decide) (by decide) | exact RRd_o h0 (by assumption) | exact RRd_o h0 (Or.inr (by assumption)) | exact OBq_o h0 (by assumption) | exact OBq_o h0 (Obt_q (by assumption)) | exact G_part h0.1 (by assumption) | exact Nmo_o (by assumption)); decide; decide) | ((with_reducible refine sf_gG h0 (by assumption) ?_ ?_ ?_ ?_ (by with_unfolding_all exact rfl) ?_); decide; decide; decide; decide) | ((with_reducible refine sf_o ?_ (fun l => ?_)); (first | assumption | exact GS_o h0.1 (by decide) (by decide) | exact RRd_o h0 (by assumption) | exact RRd_o h0 (Or.inr (by assumption)) | exact OBq_o h0 (by assumption) | exact OBq_o h0 (Obt_q (by assumption)) | exact G_part h0.1 (by assumption) | exact Nmo_o (by assumption))) | ((with_reducible refine sf_s ?_)) | ((with_reducible refine sf_sb (by assumption) ?_)) | ((with_reducible refine sf_r ?_ ?_); (first | exact any | assumption | exact ⟨false, rfl⟩ | exact ⟨true, rfl⟩); assumption) | ((with_reducible refine sf_z ?_ ?_ ?_); (first | exact ⟨false, rfl⟩ | exact ⟨true, rfl⟩ | assumption); (first | exact any | exact ⟨false, rfl⟩ | exact ⟨true, rfl⟩ | assumption); assumption) | ((with_reducible refine sf_x (sf_mrow h0 hF (by assumption)) ?_); intro v τ hv hi))
theorem sf_mnear_5 {x : Int64} (h0 : S0 sk L τ0) (hF : 65540 < F) : ∀ (d j f : Nat) (b : Int32) (τ : px_TT), j + d = 4097 → d < f → SI zb sk L τ0 τ → Sf sk L (SI zb sk L τ0) Any (f_Memory_nearest_5 F c f 1718 x b (nI j) (cH sk L τ)) := by
  intro d
  induction d with
  | zero =>
    intro j f b τ hj hf hI
    obtain ⟨f, rfl⟩ : ∃ y, f = y + 1 := ⟨f - 1, by omega⟩
    obtain ⟨m, hm, em⟩ := hI.2.2.2.1.2
    unfold f_Memory_nearest_5 f_Memory_nearest_78
    repeat' (first | (exact absurd (show fI τ 1718 9 ≤ nI j by rw [em]; exact nI_le (by omega) (by omega)) hc) | exact absurd (show nI 0 = 0 from rfl) (by assumption) | exact absurd (show nI 1 = 0 by assumption) (by decide) | ((with_reducible refine sf_i (fun hc => ?_) (fun hc => ?_))) | ((with_reducible refine sf_gF h0 ?_ ?_ ?_ ?_ ?_); decide; decide; decide; decide) | ((with_reducible refine sf_gI ?_ ?_ ?_ ?_); (first | assumption | exact GS_o h0.1 (by decide) (by decide) | exact RRd_o h0 (by assumption) | exact RRd_o h0 (Or.inr (by assumption)) | exact OBq_o h0 (by assumption) | exact OBq_o h0 (Obt_q (by assumption)) | exact G_part h0.1 (by assumption) | exact Nmo_o (by assumption)); decide; decide) | ((with_reducible refine sf_gJ ?_ ?_ ?_ ?_); (first | assumption | exact GS_o h0.1 (by decide) (by decide) | exact RRd_o h0 (by assumption) | exact RRd_o h0 (Or.inr (by assumption)) | exact OBq_o h0 (by assumption) | exact OBq_o h0 (Obt_q (by assumption)) | exact G_part h0.1 (by assumption) | exact Nmo_o (by assumption)); decide; decide) | ((with_reducible refine sf_gN ?_ ?_ ?_ ?_); (first | assumption | exact GS_o h0.1 (by decide) (by decide) | exact RRd_o h0 (by assumption) | exact RRd_o h0 (Or.inr (by assumption)) | exact OBq_o h0 (by assumption) | exact OBq_o h0 (Obt_q (by assumption)) | exact G_part h0.1 (by assumption) | exact Nmo_o (by assumption)); decide; decide) | ((with_reducible refine sf_gG h0 (by assumption) ?_ ?_ ?_ ?_ (by with_unfolding_all exact rfl) ?_); decide; decide; decide; decide) | ((with_reducible refine sf_o ?_ (fun l => ?_)); (first | assumption | exact GS_o h0.1 (by decide) (by decide) | exact RRd_o h0 (by assumption) | exact RRd_o h0 (Or.inr (by assumption)) | exact OBq_o h0 (by assumption) | exact OBq_o h0 (Obt_q (by assumption)) | exact G_part h0.1 (by assumption) | exact Nmo_o (by assumption))) | ((with_reducible refine sf_s ?_)) | ((with_reducible refine sf_sb (by assumption) ?_)) | ((with_reducible refine sf_r ?_ ?_); (first | exact any | assumption | exact ⟨false, rfl⟩ | exact ⟨true, rfl⟩); assumption) | ((with_reducible refine sf_z ?_ ?_ ?_); (first | exact ⟨false, rfl⟩ | exact ⟨true, rfl⟩ | assumption); (first | exact any | exact ⟨false, rfl⟩ | exact ⟨true, rfl⟩ | assumption); assumption))
  | succ d ih =>
    intro j f b τ hj hf hI
    obtain ⟨f, rfl⟩ : ∃ y, f = y + 1 := ⟨f - 1, by omega⟩
    unfold f_Memory_nearest_5 f_Memory_nearest_32 f_Memory_nearest_60 f_Memory_nearest_72 f_Memory_nearest_78
    rw [nI_add]
    repeat' (first | (exact ih _ _ _ _ (by omega) (by omega) (by assumption)) | exact absurd (show nI 0 = 0 from rfl) (by assumption) | exact absurd (show nI 1 = 0 by assumption) (by decide) | ((with_reducible refine sf_i (fun hc => ?_) (fun hc => ?_))) | ((with_reducible refine sf_gF h0 ?_ ?_ ?_ ?_ ?_); decide; decide; decide; decide) | ((with_reducible refine sf_gI ?_ ?_ ?_ ?_); (first | assumption | exact GS_o h0.1 (by decide) (by decide) | exact RRd_o h0 (by assumption) | exact RRd_o h0 (Or.inr (by assumption)) | exact OBq_o h0 (by assumption) | exact OBq_o h0 (Obt_q (by assumption)) | exact G_part h0.1 (by assumption) | exact Nmo_o (by assumption)); decide; decide) | ((with_reducible refine sf_gJ ?_ ?_ ?_ ?_); (first | assumption | exact GS_o h0.1 (by decide) (by decide) | exact RRd_o h0 (by assumption) | exact RRd_o h0 (Or.inr (by assumption)) | exact OBq_o h0 (by assumption) | exact OBq_o h0 (Obt_q (by assumption)) | exact G_part h0.1 (by assumption) | exact Nmo_o (by assumption)); decide; decide) | ((with_reducible refine sf_gN ?_ ?_ ?_ ?_); (first | assumption | exact GS_o h0.1 (by decide) (by decide) | exact RRd_o h0 (by assumption) | exact RRd_o h0 (Or.inr (by assumption)) | exact OBq_o h0 (by assumption) | exact OBq_o h0 (Obt_q (by assumption)) | exact G_part h0.1 (by assumption) | exact Nmo_o (by assumption)); decide; decide) | ((with_reducible refine sf_gG h0 (by assumption) ?_ ?_ ?_ ?_ (by with_unfolding_all exact rfl) ?_); decide; decide; decide; decide) | ((with_reducible refine sf_o ?_ (fun l => ?_)); (first | assumption | exact GS_o h0.1 (by decide) (by decide) | exact RRd_o h0 (by assumption) | exact RRd_o h0 (Or.inr (by assumption)) | exact OBq_o h0 (by assumption) | exact OBq_o h0 (Obt_q (by assumption)) | exact G_part h0.1 (by assumption) | exact Nmo_o (by assumption))) | ((with_reducible refine sf_s ?_)) | ((with_reducible refine sf_sb (by assumption) ?_)) | ((with_reducible refine sf_r ?_ ?_); (first | exact any | assumption | exact ⟨false, rfl⟩ | exact ⟨true, rfl⟩); assumption) | ((with_reducible refine sf_z ?_ ?_ ?_); (first | exact ⟨false, rfl⟩ | exact ⟨true, rfl⟩ | assumption); (first | exact any | exact ⟨false, rfl⟩ | exact ⟨true, rfl⟩ | assumption); assumption) | ((with_reducible refine sx_above (fun v hv => ?_))) | ((with_reducible refine sf_x (sf_mvalue h0 hF (by assumption)) ?_); intro v τ hv hi) | ((with_reducible refine sf_x (sf_misName h0 hF (by assumption)) ?_); intro v τ hv hi))
theorem sf_mnear {x : Int64} (h0 : S0 sk L τ0) (hF : 65540 < F) (hI : SI zb sk L τ0 τ) : Sf sk L (SI zb sk L τ0) Any (f_Memory_nearest F c 1718 x (cH sk L τ)) := sf_mnear_5 h0 hF 4096 1 F _ τ rfl (by omega) hI
end CMS
end
section
/-! the class boots: safe (steps spelled out by sf/pp.py) -/
section CBO
variable {F : Nat} {c : px_CT} {sk : Nat → Nat × Nat × Nat} {L : Nat} {zb : Option Nat} {τ0 τ : px_TT} {r : Nat}
theorem sf_rowErr {x : Int32} {e : Int64} (h0 : S0 sk L τ0) (hF : 65540 < F) (hr : RRd r) (hI : SI zb sk L τ0 τ) : Sf sk L (fun τ' => τ' = τ) Any (f_Memory_rowError F c r x e (cH sk L τ)) := by
  unfold f_Memory_rowError f_Memory_rowError_139 f_Memory_rowError_141 f_Memory_rowError_153
  repeat' (first | (exact sf_r any rfl) | exact absurd (show nI 0 = 0 from rfl) (by assumption) | exact absurd (show nI 1 = 0 by assumption) (by decide) | ((with_reducible refine sf_i (fun hc => ?_) (fun hc => ?_))) | ((with_reducible refine sf_gF h0 ?_ ?_ ?_ ?_ ?_); decide; decide; decide; decide) | ((with_reducible refine sf_gI ?_ ?_ ?_ ?_); (first | assumption | exact GS_o h0.1 (by decide) (by decide) | exact RRd_o h0 (by assumption) | exact RRd_o h0 (Or.inr (by assumption)) | exact OBq_o h0 (by assumption) | exact OBq_o h0 (Obt_q (by assumption)) | exact G_part h0.1 (by assumption) | exact Nmo_o (by assumption)); decide; decide) | ((with_reducible refine sf_gJ ?_ ?_ ?_ ?_); (first | assumption | exact GS_o h0.1 (by decide) (by decide) | exact RRd_o h0 (by assumption) | exact RRd_o h0 (Or.inr (by assumption)) | exact OBq_o h0 (by assumption) | exact OBq_o h0 (Obt_q (by assumption)) | exact G_part h0.1 (by assumption) | exact Nmo_o (by assumption)); decide; decide) | ((with_reducible refine sf_gN ?_ ?_ ?_ ?_); (first | assumption | exact GS_o h0.1 (by decide) (by decide) | exact RRd_o h0 (by assumption) | exact RRd_o h0 (Or.inr (by assumption)) | exact OBq_o h0 (by assumption) | exact OBq_o h0 (Obt_q (by assumption)) | exact G_part h0.1 (by assumption) | exact Nmo_o (by assumption)); decide; decide) | ((with_reducible refine sf_gG h0 (by assumption) ?_ ?_ ?_ ?_ (by with_unfolding_all exact rfl) ?_); decide; decide; decide; decide) | ((with_reducible refine sf_o ?_ (fun l => ?_)); (first | assumption | exact GS_o h0.1 (by decide) (by decide) | exact RRd_o h0 (by assumption) | exact RRd_o h0 (Or.inr (by assumption)) | exact OBq_o h0 (by assumption) | exact OBq_o h0 (Obt_q (by assumption)) | exact G_part h0.1 (by assumption) | exact Nmo_o (by assumption))) | ((with_reducible refine sf_s ?_)) | ((with_reducible refine sf_sb (by assumption) ?_)) | ((with_reducible refine sf_r ?_ ?_); (first | exact any | assumption | exact ⟨false, rfl⟩ | exact ⟨true, rfl⟩); assumption) | ((with_reducible refine sf_z ?_ ?_ ?_); (first | exact ⟨false, rfl⟩ | exact ⟨true, rfl⟩ | assumption); (first | exact any | exact ⟨false, rfl⟩ | exact ⟨true, rfl⟩ | assumption); assumption) | ((with_reducible refine sx_num h0 hF (by assumption) ?_ ?_ (fun w hw => ?_)); (first | assumption | exact Or.inr (by assumption) | (unfold RRd RWr; decide)); decide) | ((with_reducible refine sx_holds h0 (by assumption) ?_ (fun v hv hh => ?_)); (first | assumption | exact Or.inr (by assumption) | (unfold RRd RWr; decide))) | ((with_reducible refine sx_above (fun v hv => ?_))))
theorem sf_err_127 {at0 : Int64} {a4 : Int32} (h0 : S0 sk L τ0) (hF : 65540 < F) (hr : RRd r) (h4 : ¬ nI 8 < a4) (hI : SI zb sk L τ0 τ) : ∀ (d j f : Nat) (e : Int64) (b : Int32), j + d = 8 → d < f → Sf sk L (fun τ' => τ' = τ) Any (f_Memory_errorOf_127 F c f r at0 a4 e b (nI j) (cH sk L τ)) := by
  intro d
  induction d with
  | zero =>
    intro j f e b hj hf
    obtain ⟨f, rfl⟩ : ∃ y, f = y + 1 := ⟨f - 1, by omega⟩
    obtain rfl : j = 8 := by omega
    unfold f_Memory_errorOf_127 f_Memory_errorOf_264 f_Memory_errorOf_275
    rw [if_pos (Int32.not_lt.mp h4)]
    repeat' (first | (exact sf_r any rfl) | exact absurd (show nI 0 = 0 from rfl) (by assumption) | exact absurd (show nI 1 = 0 by assumption) (by decide) | ((with_reducible refine sf_i (fun hc => ?_) (fun hc => ?_))) | ((with_reducible refine sf_gF h0 ?_ ?_ ?_ ?_ ?_); decide; decide; decide; decide) | ((with_reducible refine sf_gI ?_ ?_ ?_ ?_); (first | assumption | exact GS_o h0.1 (by decide) (by decide) | exact RRd_o h0 (by assumption) | exact RRd_o h0 (Or.inr (by assumption)) | exact OBq_o h0 (by assumption) | exact OBq_o h0 (Obt_q (by assumption)) | exact G_part h0.1 (by assumption) | exact Nmo_o (by assumption)); decide; decide) | ((with_reducible refine sf_gJ ?_ ?_ ?_ ?_); (first | assumption | exact GS_o h0.1 (by decide) (by decide) | exact RRd_o h0 (by assumption) | exact RRd_o h0 (Or.inr (by assumption)) | exact OBq_o h0 (by assumption) | exact OBq_o h0 (Obt_q (by assumption)) | exact G_part h0.1 (by assumption) | exact Nmo_o (by assumption)); decide; decide) | ((with_reducible refine sf_gN ?_ ?_ ?_ ?_); (first | assumption | exact GS_o h0.1 (by decide) (by decide) | exact RRd_o h0 (by assumption) | exact RRd_o h0 (Or.inr (by assumption)) | exact OBq_o h0 (by assumption) | exact OBq_o h0 (Obt_q (by assumption)) | exact G_part h0.1 (by assumption) | exact Nmo_o (by assumption)); decide; decide) | ((with_reducible refine sf_gG h0 (by assumption) ?_ ?_ ?_ ?_ (by with_unfolding_all exact rfl) ?_); decide; decide; decide; decide) | ((with_reducible refine sf_o ?_ (fun l => ?_)); (first | assumption | exact GS_o h0.1 (by decide) (by decide) | exact RRd_o h0 (by assumption) | exact RRd_o h0 (Or.inr (by assumption)) | exact OBq_o h0 (by assumption) | exact OBq_o h0 (Obt_q (by assumption)) | exact G_part h0.1 (by assumption) | exact Nmo_o (by assumption))) | ((with_reducible refine sf_s ?_)) | ((with_reducible refine sf_sb (by assumption) ?_)) | ((with_reducible refine sf_r ?_ ?_); (first | exact any | assumption | exact ⟨false, rfl⟩ | exact ⟨true, rfl⟩); assumption) | ((with_reducible refine sf_z ?_ ?_ ?_); (first | exact ⟨false, rfl⟩ | exact ⟨true, rfl⟩ | assumption); (first | exact any | exact ⟨false, rfl⟩ | exact ⟨true, rfl⟩ | assumption); assumption))
  | succ d ih =>
    intro j f e b hj hf
    obtain ⟨f, rfl⟩ : ∃ y, f = y + 1 := ⟨f - 1, by omega⟩
    unfold f_Memory_errorOf_127 f_Memory_errorOf_264 f_Memory_errorOf_275 f_Memory_errorOf_171 f_Memory_errorOf_258 f_Memory_errorOf_255 f_Memory_errorOf_251 f_Memory_errorOf_256 f_Memory_errorOf_258
    rw [nI_add]
    repeat' (first | (exact sf_r any rfl) | (exact ih _ _ _ _ (by omega) (by omega)) | ((with_reducible refine sf_x (sf_rowErr h0 hF hr hI) ?_); rintro v _ hv rfl) | exact absurd (show nI 0 = 0 from rfl) (by assumption) | exact absurd (show nI 1 = 0 by assumption) (by decide) | ((with_reducible refine sf_i (fun hc => ?_) (fun hc => ?_))) | ((with_reducible refine sf_gF h0 ?_ ?_ ?_ ?_ ?_); decide; decide; decide; decide) | ((with_reducible refine sf_gI ?_ ?_ ?_ ?_); (first | assumption | exact GS_o h0.1 (by decide) (by decide) | exact RRd_o h0 (by assumption) | exact RRd_o h0 (Or.inr (by assumption)) | exact OBq_o h0 (by assumption) | exact OBq_o h0 (Obt_q (by assumption)) | exact G_part h0.1 (by assumption) | exact Nmo_o (by assumption)); decide; decide) | ((with_reducible refine sf_gJ ?_ ?_ ?_ ?_); (first | assumption | exact GS_o h0.1 (by decide) (by decide) | exact RRd_o h0 (by assumption) | exact RRd_o h0 (Or.inr (by assumption)) | exact OBq_o h0 (by assumption) | exact OBq_o h0 (Obt_q (by assumption)) | exact G_part h0.1 (by assumption) | exact Nmo_o (by assumption)); decide; decide) | ((with_reducible refine sf_gN ?_ ?_ ?_ ?_); (first | assumption | exact GS_o h0.1 (by decide) (by decide) | exact RRd_o h0 (by assumption) | exact RRd_o h0 (Or.inr (by assumption)) | exact OBq_o h0 (by assumption) | exact OBq_o h0 (Obt_q (by assumption)) | exact G_part h0.1 (by assumption) | exact Nmo_o (by assumption)); decide; decide) | ((with_reducible refine sf_gG h0 (by assumption) ?_ ?_ ?_ ?_ (by with_unfolding_all exact rfl) ?_); decide; decide; decide; decide) | ((with_reducible refine sf_o ?_ (fun l => ?_)); (first | assumption | exact GS_o h0.1 (by decide) (by decide) | exact RRd_o h0 (by assumption) | exact RRd_o h0 (Or.inr (by assumption)) | exact OBq_o h0 (by assumption) | exact OBq_o h0 (Obt_q (by assumption)) | exact G_part h0.1 (by assumption) | exact Nmo_o (by assumption))) | ((with_reducible refine sf_s ?_)) | ((with_reducible refine sf_sb (by assumption) ?_)) | ((with_reducible refine sf_r ?_ ?_); (first | exact any | assumption | exact ⟨false, rfl⟩ | exact ⟨true, rfl⟩); assumption) | ((with_reducible refine sf_z ?_ ?_ ?_); (first | exact ⟨false, rfl⟩ | exact ⟨true, rfl⟩ | assumption); (first | exact any | exact ⟨false, rfl⟩ | exact ⟨true, rfl⟩ | assumption); assumption) | ((with_reducible refine sx_num h0 hF (by assumption) ?_ ?_ (fun w hw => ?_)); (first | assumption | exact Or.inr (by assumption) | (unfold RRd RWr; decide)); decide) | ((with_reducible refine sx_above (fun v hv => ?_))))
theorem sf_err (h0 : S0 sk L τ0) (hK : KT c) (hF : 65540 < F) (hr : RRd r) (hI : SI zb sk L τ0 τ) : Sf sk L (fun τ' => τ' = τ) Any (f_Memory_errorOf F c 1718 r (cH sk L τ)) := by
  unfold f_Memory_errorOf f_Memory_errorOf_73 f_Memory_errorOf_116
  repeat' (first | (exact sf_r any rfl) | (exact sf_err_127 h0 hF hr (by assumption) hI 8 0 F _ _ rfl (by omega)) | exact absurd (show nI 0 = 0 from rfl) (by assumption) | exact absurd (show nI 1 = 0 by assumption) (by decide) | ((with_reducible refine sf_i (fun hc => ?_) (fun hc => ?_))) | ((with_reducible refine sf_gF h0 ?_ ?_ ?_ ?_ ?_); decide; decide; decide; decide) | ((with_reducible refine sf_gI ?_ ?_ ?_ ?_); (first | assumption | exact GS_o h0.1 (by decide) (by decide) | exact RRd_o h0 (by assumption) | exact RRd_o h0 (Or.inr (by assumption)) | exact OBq_o h0 (by assumption) | exact OBq_o h0 (Obt_q (by assumption)) | exact G_part h0.1 (by assumption) | exact Nmo_o (by assumption)); decide; decide) | ((with_reducible refine sf_gJ ?_ ?_ ?_ ?_); (first | assumption | exact GS_o h0.1 (by decide) (by decide) | exact RRd_o h0 (by assumption) | exact RRd_o h0 (Or.inr (by assumption)) | exact OBq_o h0 (by assumption) | exact OBq_o h0 (Obt_q (by assumption)) | exact G_part h0.1 (by assumption) | exact Nmo_o (by assumption)); decide; decide) | ((with_reducible refine sf_gN ?_ ?_ ?_ ?_); (first | assumption | exact GS_o h0.1 (by decide) (by decide) | exact RRd_o h0 (by assumption) | exact RRd_o h0 (Or.inr (by assumption)) | exact OBq_o h0 (by assumption) | exact OBq_o h0 (Obt_q (by assumption)) | exact G_part h0.1 (by assumption) | exact Nmo_o (by assumption)); decide; decide) | ((with_reducible refine sf_gG h0 (by assumption) ?_ ?_ ?_ ?_ (by with_unfolding_all exact rfl) ?_); decide; decide; decide; decide) | ((with_reducible refine sf_o ?_ (fun l => ?_)); (first | assumption | exact GS_o h0.1 (by decide) (by decide) | exact RRd_o h0 (by assumption) | exact RRd_o h0 (Or.inr (by assumption)) | exact OBq_o h0 (by assumption) | exact OBq_o h0 (Obt_q (by assumption)) | exact G_part h0.1 (by assumption) | exact Nmo_o (by assumption))) | ((with_reducible refine sf_s ?_)) | ((with_reducible refine sf_sb (by assumption) ?_)) | ((with_reducible refine sf_r ?_ ?_); (first | exact any | assumption | exact ⟨false, rfl⟩ | exact ⟨true, rfl⟩); assumption) | ((with_reducible refine sf_z ?_ ?_ ?_); (first | exact ⟨false, rfl⟩ | exact ⟨true, rfl⟩ | assumption); (first | exact any | exact ⟨false, rfl⟩ | exact ⟨true, rfl⟩ | assumption); assumption) | ((with_reducible refine sx_num h0 hF (by assumption) ?_ ?_ (fun w hw => ?_)); (first | assumption | exact Or.inr (by assumption) | (unfold RRd RWr; decide)); decide) | ((with_reducible refine sx_holds h0 (by assumption) ?_ (fun v hv hh => ?_)); (first | assumption | exact Or.inr (by assumption) | (unfold RRd RWr; decide))) | ((with_reducible refine sx_begins h0 hK hF (by assumption) ?_ (fun v hv => ?_)); (first | assumption | exact Or.inr (by assumption) | (unfold RRd RWr; decide))))
theorem sf_find_299 {a4 a7 s0 : Int32} {a8 : Int64} (h0 : S0 sk L τ0) (hF : 65540 < F) (h8 : ¬ s0 = 0 → ∃ m, m ≤ 65536 ∧ a8 = lN m) (hI : SI zb sk L τ0 τ) : Sf sk L (SI zb sk L τ0) Any (f_Memory_findNames_299 F c 1718 a4 a7 a8 s0 (cH sk L τ)) := by
  unfold f_Memory_findNames_299 f_Memory_findNames_384
  refine sf_i (fun hc => sf_r any hI) (fun hc => ?_)
  obtain ⟨m, hm, rfl⟩ := h8 hc
  rw [lN_i, nI_div24 (by omega)]
  repeat' (first | ((with_reducible refine sf_pI ?_ ?_ ?_ ?_ (fun τ hi => ?_)); exact GS_o h0.1 (by decide) (by decide); decide; decide; exact SI_m9 (by assumption) (by omega)) | exact absurd (show nI 0 = 0 from rfl) (by assumption) | exact absurd (show nI 1 = 0 by assumption) (by decide) | ((with_reducible refine sf_i (fun hc => ?_) (fun hc => ?_))) | ((with_reducible refine sf_gF h0 ?_ ?_ ?_ ?_ ?_); decide; decide; decide; decide) | ((with_reducible refine sf_gI ?_ ?_ ?_ ?_); (first | assumption | exact GS_o h0.1 (by decide) (by decide) | exact RRd_o h0 (by assumption) | exact RRd_o h0 (Or.inr (by assumption)) | exact OBq_o h0 (by assumption) | exact OBq_o h0 (Obt_q (by assumption)) | exact G_part h0.1 (by assumption) | exact Nmo_o (by assumption)); decide; decide) | ((with_reducible refine sf_gJ ?_ ?_ ?_ ?_); (first | assumption | exact GS_o h0.1 (by decide) (by decide) | exact RRd_o h0 (by assumption) | exact RRd_o h0 (Or.inr (by assumption)) | exact OBq_o h0 (by assumption) | exact OBq_o h0 (Obt_q (by assumption)) | exact G_part h0.1 (by assumption) | exact Nmo_o (by assumption)); decide; decide) | ((with_reducible refine sf_gN ?_ ?_ ?_ ?_); (first | assumption | exact GS_o h0.1 (by decide) (by decide) | exact RRd_o h0 (by assumption) | exact RRd_o h0 (Or.inr (by assumption)) | exact OBq_o h0 (by assumption) | exact OBq_o h0 (Obt_q (by assumption)) | exact G_part h0.1 (by assumption) | exact Nmo_o (by assumption)); decide; decide) | ((with_reducible refine sf_gG h0 (by assumption) ?_ ?_ ?_ ?_ (by with_unfolding_all exact rfl) ?_); decide; decide; decide; decide) | ((with_reducible refine sf_o ?_ (fun l => ?_)); (first | assumption | exact GS_o h0.1 (by decide) (by decide) | exact RRd_o h0 (by assumption) | exact RRd_o h0 (Or.inr (by assumption)) | exact OBq_o h0 (by assumption) | exact OBq_o h0 (Obt_q (by assumption)) | exact G_part h0.1 (by assumption) | exact Nmo_o (by assumption))) | ((with_reducible refine sf_s ?_)) | ((with_reducible refine sf_sb (by assumption) ?_)) | ((with_reducible refine sf_r ?_ ?_); (first | exact any | assumption | exact ⟨false, rfl⟩ | exact ⟨true, rfl⟩); assumption) | ((with_reducible refine sf_z ?_ ?_ ?_); (first | exact ⟨false, rfl⟩ | exact ⟨true, rfl⟩ | assumption); (first | exact any | exact ⟨false, rfl⟩ | exact ⟨true, rfl⟩ | assumption); assumption) | ((with_reducible refine sx_num h0 hF (by assumption) ?_ ?_ (fun w hw => ?_)); (first | assumption | exact Or.inr (by assumption) | (unfold RRd RWr; decide)); decide) | ((with_reducible refine sf_pI ?_ ?_ ?_ ?_ (fun τ hi => ?_)); (first | assumption | exact GS_o h0.1 (by decide) (by decide) | exact RRd_o h0 (by assumption) | exact RRd_o h0 (Or.inr (by assumption)) | exact OBq_o h0 (by assumption) | exact OBq_o h0 (Obt_q (by assumption)) | exact G_part h0.1 (by assumption) | exact Nmo_o (by assumption)); decide; decide; (first | exact SI_tI (by assumption) (by omega) | exact SI_m9 (by assumption) (by decide) | exact SI_m6 (by assumption) (by decide))))
theorem sf_find_135 {a1 : Int64} {a3 a4 : Int32} (h0 : S0 sk L τ0) (hF : 65540 < F) (hI : SI zb sk L τ0 τ) : Sf sk L (SI zb sk L τ0) Any (f_Memory_findNames_135 F c 1718 a1 a3 a4 (cH sk L τ)) := by
  unfold f_Memory_findNames_135 f_Memory_findNames_213 f_Memory_findNames_298
  repeat' (first | (exact sf_find_299 h0 hF (fun hn => absurd rfl hn) (by assumption)) | (exact sf_find_299 h0 hF (fun _ => by solve_by_elim) (by assumption)) | exact absurd (show nI 0 = 0 from rfl) (by assumption) | exact absurd (show nI 1 = 0 by assumption) (by decide) | ((with_reducible refine sf_i (fun hc => ?_) (fun hc => ?_))) | ((with_reducible refine sf_gF h0 ?_ ?_ ?_ ?_ ?_); decide; decide; decide; decide) | ((with_reducible refine sf_gI ?_ ?_ ?_ ?_); (first | assumption | exact GS_o h0.1 (by decide) (by decide) | exact RRd_o h0 (by assumption) | exact RRd_o h0 (Or.inr (by assumption)) | exact OBq_o h0 (by assumption) | exact OBq_o h0 (Obt_q (by assumption)) | exact G_part h0.1 (by assumption) | exact Nmo_o (by assumption)); decide; decide) | ((with_reducible refine sf_gJ ?_ ?_ ?_ ?_); (first | assumption | exact GS_o h0.1 (by decide) (by decide) | exact RRd_o h0 (by assumption) | exact RRd_o h0 (Or.inr (by assumption)) | exact OBq_o h0 (by assumption) | exact OBq_o h0 (Obt_q (by assumption)) | exact G_part h0.1 (by assumption) | exact Nmo_o (by assumption)); decide; decide) | ((with_reducible refine sf_gN ?_ ?_ ?_ ?_); (first | assumption | exact GS_o h0.1 (by decide) (by decide) | exact RRd_o h0 (by assumption) | exact RRd_o h0 (Or.inr (by assumption)) | exact OBq_o h0 (by assumption) | exact OBq_o h0 (Obt_q (by assumption)) | exact G_part h0.1 (by assumption) | exact Nmo_o (by assumption)); decide; decide) | ((with_reducible refine sf_gG h0 (by assumption) ?_ ?_ ?_ ?_ (by with_unfolding_all exact rfl) ?_); decide; decide; decide; decide) | ((with_reducible refine sf_o ?_ (fun l => ?_)); (first | assumption | exact GS_o h0.1 (by decide) (by decide) | exact RRd_o h0 (by assumption) | exact RRd_o h0 (Or.inr (by assumption)) | exact OBq_o h0 (by assumption) | exact OBq_o h0 (Obt_q (by assumption)) | exact G_part h0.1 (by assumption) | exact Nmo_o (by assumption))) | ((with_reducible refine sf_s ?_)) | ((with_reducible refine sf_sb (by assumption) ?_)) | ((with_reducible refine sf_r ?_ ?_); (first | exact any | assumption | exact ⟨false, rfl⟩ | exact ⟨true, rfl⟩); assumption) | ((with_reducible refine sf_z ?_ ?_ ?_); (first | exact ⟨false, rfl⟩ | exact ⟨true, rfl⟩ | assumption); (first | exact any | exact ⟨false, rfl⟩ | exact ⟨true, rfl⟩ | assumption); assumption) | ((with_reducible refine sx_num h0 hF (by assumption) ?_ ?_ (fun w hw => ?_)); (first | assumption | exact Or.inr (by assumption) | (unfold RRd RWr; decide)); decide) | ((with_reducible refine sx_holds h0 (by assumption) ?_ (fun v hv hh => ?_)); (first | assumption | exact Or.inr (by assumption) | (unfold RRd RWr; decide))))
theorem sf_find_84 {a1 : Int64} {a3 : Int32} (h0 : S0 sk L τ0) (hF : 65540 < F) (hI : SI zb sk L τ0 τ) : ∀ (d f : Nat) (a4 : Int32), d ≤ 65536 → d < f → Sf sk L (SI zb sk L τ0) Any (f_Memory_findNames_84 F c f 1718 a1 a3 a4 (nI d - nI 1) (cH sk L τ)) := by
  intro d
  induction d with
  | zero =>
    intro f a4 hd hf
    obtain ⟨f, rfl⟩ : ∃ y, f = y + 1 := ⟨f - 1, by omega⟩
    unfold f_Memory_findNames_84
    rw [if_pos (by decide)]
    exact sf_find_135 h0 hF hI
  | succ d ih =>
    intro f a4 hd hf
    obtain ⟨f, rfl⟩ : ∃ y, f = y + 1 := ⟨f - 1, by omega⟩
    rw [pk_sub (by omega), Nat.add_sub_cancel]
    unfold f_Memory_findNames_84 f_Memory_findNames_127
    rw [if_neg (nI_pos (by omega)), nI_back]
    repeat' (first | (exact ih _ _ (by omega) (by omega)) | exact absurd (show nI 0 = 0 from rfl) (by assumption) | exact absurd (show nI 1 = 0 by assumption) (by decide) | ((with_reducible refine sf_i (fun hc => ?_) (fun hc => ?_))) | ((with_reducible refine sf_gF h0 ?_ ?_ ?_ ?_ ?_); decide; decide; decide; decide) | ((with_reducible refine sf_gI ?_ ?_ ?_ ?_); (first | assumption | exact GS_o h0.1 (by decide) (by decide) | exact RRd_o h0 (by assumption) | exact RRd_o h0 (Or.inr (by assumption)) | exact OBq_o h0 (by assumption) | exact OBq_o h0 (Obt_q (by assumption)) | exact G_part h0.1 (by assumption) | exact Nmo_o (by assumption)); decide; decide) | ((with_reducible refine sf_gJ ?_ ?_ ?_ ?_); (first | assumption | exact GS_o h0.1 (by decide) (by decide) | exact RRd_o h0 (by assumption) | exact RRd_o h0 (Or.inr (by assumption)) | exact OBq_o h0 (by assumption) | exact OBq_o h0 (Obt_q (by assumption)) | exact G_part h0.1 (by assumption) | exact Nmo_o (by assumption)); decide; decide) | ((with_reducible refine sf_gN ?_ ?_ ?_ ?_); (first | assumption | exact GS_o h0.1 (by decide) (by decide) | exact RRd_o h0 (by assumption) | exact RRd_o h0 (Or.inr (by assumption)) | exact OBq_o h0 (by assumption) | exact OBq_o h0 (Obt_q (by assumption)) | exact G_part h0.1 (by assumption) | exact Nmo_o (by assumption)); decide; decide) | ((with_reducible refine sf_gG h0 (by assumption) ?_ ?_ ?_ ?_ (by with_unfolding_all exact rfl) ?_); decide; decide; decide; decide) | ((with_reducible refine sf_o ?_ (fun l => ?_)); (first | assumption | exact GS_o h0.1 (by decide) (by decide) | exact RRd_o h0 (by assumption) | exact RRd_o h0 (Or.inr (by assumption)) | exact OBq_o h0 (by assumption) | exact OBq_o h0 (Obt_q (by assumption)) | exact G_part h0.1 (by assumption) | exact Nmo_o (by assumption))) | ((with_reducible refine sf_s ?_)) | ((with_reducible refine sf_sb (by assumption) ?_)) | ((with_reducible refine sf_r ?_ ?_); (first | exact any | assumption | exact ⟨false, rfl⟩ | exact ⟨true, rfl⟩); assumption) | ((with_reducible refine sf_z ?_ ?_ ?_); (first | exact ⟨false, rfl⟩ | exact ⟨true, rfl⟩ | assumption); (first | exact any | exact ⟨false, rfl⟩ | exact ⟨true, rfl⟩ | assumption); assumption) | ((with_reducible refine sx_num h0 hF (by assumption) ?_ ?_ (fun w hw => ?_)); (first | assumption | exact Or.inr (by assumption) | (unfold RRd RWr; decide)); decide))
theorem sf_find (h0 : S0 sk L τ0) (hF : 65540 < F) (hI : SI zb sk L τ0 τ) : Sf sk L (SI zb sk L τ0) Any (f_Memory_findNames F c 1718 (cH sk L τ)) := by
  unfold f_Memory_findNames f_Memory_findNames_74
  repeat' (first | ((rw [lN_i]; exact sf_find_84 h0 hF (by assumption) _ _ _ (by omega) (by omega))) | exact absurd (show nI 0 = 0 from rfl) (by assumption) | exact absurd (show nI 1 = 0 by assumption) (by decide) | ((with_reducible refine sf_i (fun hc => ?_) (fun hc => ?_))) | ((with_reducible refine sf_gF h0 ?_ ?_ ?_ ?_ ?_); decide; decide; decide; decide) | ((with_reducible refine sf_gI ?_ ?_ ?_ ?_); (first | assumption | exact GS_o h0.1 (by decide) (by decide) | exact RRd_o h0 (by assumption) | exact RRd_o h0 (Or.inr (by assumption)) | exact OBq_o h0 (by assumption) | exact OBq_o h0 (Obt_q (by assumption)) | exact G_part h0.1 (by assumption) | exact Nmo_o (by assumption)); decide; decide) | ((with_reducible refine sf_gJ ?_ ?_ ?_ ?_); (first | assumption | exact GS_o h0.1 (by decide) (by decide) | exact RRd_o h0 (by assumption) | exact RRd_o h0 (Or.inr (by assumption)) | exact OBq_o h0 (by assumption) | exact OBq_o h0 (Obt_q (by assumption)) | exact G_part h0.1 (by assumption) | exact Nmo_o (by assumption)); decide; decide) | ((with_reducible refine sf_gN ?_ ?_ ?_ ?_); (first | assumption | exact GS_o h0.1 (by decide) (by decide) | exact RRd_o h0 (by assumption) | exact RRd_o h0 (Or.inr (by assumption)) | exact OBq_o h0 (by assumption) | exact OBq_o h0 (Obt_q (by assumption)) | exact G_part h0.1 (by assumption) | exact Nmo_o (by assumption)); decide; decide) | ((with_reducible refine sf_gG h0 (by assumption) ?_ ?_ ?_ ?_ (by with_unfolding_all exact rfl) ?_); decide; decide; decide; decide) | ((with_reducible refine sf_o ?_ (fun l => ?_)); (first | assumption | exact GS_o h0.1 (by decide) (by decide) | exact RRd_o h0 (by assumption) | exact RRd_o h0 (Or.inr (by assumption)) | exact OBq_o h0 (by assumption) | exact OBq_o h0 (Obt_q (by assumption)) | exact G_part h0.1 (by assumption) | exact Nmo_o (by assumption))) | ((with_reducible refine sf_s ?_)) | ((with_reducible refine sf_sb (by assumption) ?_)) | ((with_reducible refine sf_r ?_ ?_); (first | exact any | assumption | exact ⟨false, rfl⟩ | exact ⟨true, rfl⟩); assumption) | ((with_reducible refine sf_z ?_ ?_ ?_); (first | exact ⟨false, rfl⟩ | exact ⟨true, rfl⟩ | assumption); (first | exact any | exact ⟨false, rfl⟩ | exact ⟨true, rfl⟩ | assumption); assumption) | ((with_reducible refine sx_num h0 hF (by assumption) ?_ ?_ (fun w hw => ?_)); (first | assumption | exact Or.inr (by assumption) | (unfold RRd RWr; decide)); decide) | ((with_reducible refine sx_holds h0 (by assumption) ?_ (fun v hv hh => ?_)); (first | assumption | exact Or.inr (by assumption) | (unfold RRd RWr; decide))) | ((with_reducible refine sf_pI ?_ ?_ ?_ ?_ (fun τ hi => ?_)); (first | assumption | exact GS_o h0.1 (by decide) (by decide) | exact RRd_o h0 (by assumption) | exact RRd_o h0 (Or.inr (by assumption)) | exact OBq_o h0 (by assumption) | exact OBq_o h0 (Obt_q (by assumption)) | exact G_part h0.1 (by assumption) | exact Nmo_o (by assumption)); decide; decide; (first | exact SI_tI (by assumption) (by omega) | exact SI_m9 (by assumption) (by decide) | exact SI_m6 (by assumption) (by decide))))
theorem sf_load_228 (h0 : S0 sk L τ0) (hF : 65540 < F) : ∀ (d j f : Nat) (τ : px_TT), j + d = 4097 → d < f → SI zb sk L τ0 τ → Sf sk L (SI zb sk L τ0) Any (f_Memory_load_228 F c f 1718 (nI j) (cH sk L τ)) := by
  intro d
  induction d with
  | zero =>
    intro j f τ hj hf hI
    obtain ⟨f, rfl⟩ : ∃ y, f = y + 1 := ⟨f - 1, by omega⟩
    obtain ⟨m, hm, em⟩ := hI.2.2.2.1.2
    unfold f_Memory_load_228 f_Memory_load_266
    repeat' (first | (exact absurd (show fI τ 1718 9 ≤ nI j by rw [em]; exact nI_le (by omega) (by omega)) hc) | exact absurd (show nI 0 = 0 from rfl) (by assumption) | exact absurd (show nI 1 = 0 by assumption) (by decide) | ((with_reducible refine sf_i (fun hc => ?_) (fun hc => ?_))) | ((with_reducible refine sf_gF h0 ?_ ?_ ?_ ?_ ?_); decide; decide; decide; decide) | ((with_reducible refine sf_gI ?_ ?_ ?_ ?_); (first | assumption | exact GS_o h0.1 (by decide) (by decide) | exact RRd_o h0 (by assumption) | exact RRd_o h0 (Or.inr (by assumption)) | exact OBq_o h0 (by assumption) | exact OBq_o h0 (Obt_q (by assumption)) | exact G_part h0.1 (by assumption) | exact Nmo_o (by assumption)); decide; decide) | ((with_reducible refine sf_gJ ?_ ?_ ?_ ?_); (first | assumption | exact GS_o h0.1 (by decide) (by decide) | exact RRd_o h0 (by assumption) | exact RRd_o h0 (Or.inr (by assumption)) | exact OBq_o h0 (by assumption) | exact OBq_o h0 (Obt_q (by assumption)) | exact G_part h0.1 (by assumption) | exact Nmo_o (by assumption)); decide; decide) | ((with_reducible refine sf_gN ?_ ?_ ?_ ?_); (first | assumption | exact GS_o h0.1 (by decide) (by decide) | exact RRd_o h0 (by assumption) | exact RRd_o h0 (Or.inr (by assumption)) | exact OBq_o h0 (by assumption) | exact OBq_o h0 (Obt_q (by assumption)) | exact G_part h0.1 (by assumption) | exact Nmo_o (by assumption)); decide; decide) | ((with_reducible refine sf_gG h0 (by assumption) ?_ ?_ ?_ ?_ (by with_unfolding_all exact rfl) ?_); decide; decide; decide; decide) | ((with_reducible refine sf_o ?_ (fun l => ?_)); (first | assumption | exact GS_o h0.1 (by decide) (by decide) | exact RRd_o h0 (by assumption) | exact RRd_o h0 (Or.inr (by assumption)) | exact OBq_o h0 (by assumption) | exact OBq_o h0 (Obt_q (by assumption)) | exact G_part h0.1 (by assumption) | exact Nmo_o (by assumption))) | ((with_reducible refine sf_s ?_)) | ((with_reducible refine sf_sb (by assumption) ?_)) | ((with_reducible refine sf_r ?_ ?_); (first | exact any | assumption | exact ⟨false, rfl⟩ | exact ⟨true, rfl⟩); assumption) | ((with_reducible refine sf_z ?_ ?_ ?_); (first | exact ⟨false, rfl⟩ | exact ⟨true, rfl⟩ | assumption); (first | exact any | exact ⟨false, rfl⟩ | exact ⟨true, rfl⟩ | assumption); assumption))
  | succ d ih =>
    intro j f τ hj hf hI
    obtain ⟨f, rfl⟩ : ∃ y, f = y + 1 := ⟨f - 1, by omega⟩
    unfold f_Memory_load_228 f_Memory_load_266 f_Memory_load_256
    rw [nI_add]
    repeat' (first | (exact ih _ _ _ (by omega) (by omega) (by assumption)) | exact absurd (show nI 0 = 0 from rfl) (by assumption) | exact absurd (show nI 1 = 0 by assumption) (by decide) | ((with_reducible refine sf_i (fun hc => ?_) (fun hc => ?_))) | ((with_reducible refine sf_gF h0 ?_ ?_ ?_ ?_ ?_); decide; decide; decide; decide) | ((with_reducible refine sf_gI ?_ ?_ ?_ ?_); (first | assumption | exact GS_o h0.1 (by decide) (by decide) | exact RRd_o h0 (by assumption) | exact RRd_o h0 (Or.inr (by assumption)) | exact OBq_o h0 (by assumption) | exact OBq_o h0 (Obt_q (by assumption)) | exact G_part h0.1 (by assumption) | exact Nmo_o (by assumption)); decide; decide) | ((with_reducible refine sf_gJ ?_ ?_ ?_ ?_); (first | assumption | exact GS_o h0.1 (by decide) (by decide) | exact RRd_o h0 (by assumption) | exact RRd_o h0 (Or.inr (by assumption)) | exact OBq_o h0 (by assumption) | exact OBq_o h0 (Obt_q (by assumption)) | exact G_part h0.1 (by assumption) | exact Nmo_o (by assumption)); decide; decide) | ((with_reducible refine sf_gN ?_ ?_ ?_ ?_); (first | assumption | exact GS_o h0.1 (by decide) (by decide) | exact RRd_o h0 (by assumption) | exact RRd_o h0 (Or.inr (by assumption)) | exact OBq_o h0 (by assumption) | exact OBq_o h0 (Obt_q (by assumption)) | exact G_part h0.1 (by assumption) | exact Nmo_o (by assumption)); decide; decide) | ((with_reducible refine sf_gG h0 (by assumption) ?_ ?_ ?_ ?_ (by with_unfolding_all exact rfl) ?_); decide; decide; decide; decide) | ((with_reducible refine sf_o ?_ (fun l => ?_)); (first | assumption | exact GS_o h0.1 (by decide) (by decide) | exact RRd_o h0 (by assumption) | exact RRd_o h0 (Or.inr (by assumption)) | exact OBq_o h0 (by assumption) | exact OBq_o h0 (Obt_q (by assumption)) | exact G_part h0.1 (by assumption) | exact Nmo_o (by assumption))) | ((with_reducible refine sf_s ?_)) | ((with_reducible refine sf_sb (by assumption) ?_)) | ((with_reducible refine sf_r ?_ ?_); (first | exact any | assumption | exact ⟨false, rfl⟩ | exact ⟨true, rfl⟩); assumption) | ((with_reducible refine sf_z ?_ ?_ ?_); (first | exact ⟨false, rfl⟩ | exact ⟨true, rfl⟩ | assumption); (first | exact any | exact ⟨false, rfl⟩ | exact ⟨true, rfl⟩ | assumption); assumption) | ((with_reducible refine sf_pI ?_ ?_ ?_ ?_ (fun τ hi => ?_)); (first | assumption | exact GS_o h0.1 (by decide) (by decide) | exact RRd_o h0 (by assumption) | exact RRd_o h0 (Or.inr (by assumption)) | exact OBq_o h0 (by assumption) | exact OBq_o h0 (Obt_q (by assumption)) | exact G_part h0.1 (by assumption) | exact Nmo_o (by assumption)); decide; decide; (first | exact SI_tI (by assumption) (by omega) | exact SI_m9 (by assumption) (by decide) | exact SI_m6 (by assumption) (by decide))) | ((with_reducible refine sf_x (sf_misName h0 hF (by assumption)) ?_); intro v τ hv hi))
theorem sf_load_216 (h0 : S0 sk L τ0) (hF : 65540 < F) (hI : SI zb sk L τ0 τ) : Sf sk L (SI zb sk L τ0) Any (f_Memory_load_216 F c 1718 (cH sk L τ)) := by
  unfold f_Memory_load_216
  repeat' (first | (exact sf_load_228 h0 hF 4096 1 F _ rfl (by omega) (by assumption)) | exact absurd (show nI 0 = 0 from rfl) (by assumption) | exact absurd (show nI 1 = 0 by assumption) (by decide) | ((with_reducible refine sf_i (fun hc => ?_) (fun hc => ?_))) | ((with_reducible refine sf_gF h0 ?_ ?_ ?_ ?_ ?_); decide; decide; decide; decide) | ((with_reducible refine sf_gI ?_ ?_ ?_ ?_); (first | assumption | exact GS_o h0.1 (by decide) (by decide) | exact RRd_o h0 (by assumption) | exact RRd_o h0 (Or.inr (by assumption)) | exact OBq_o h0 (by assumption) | exact OBq_o h0 (Obt_q (by assumption)) | exact G_part h0.1 (by assumption) | exact Nmo_o (by assumption)); decide; decide) | ((with_reducible refine sf_gJ ?_ ?_ ?_ ?_); (first | assumption | exact GS_o h0.1 (by decide) (by decide) | exact RRd_o h0 (by assumption) | exact RRd_o h0 (Or.inr (by assumption)) | exact OBq_o h0 (by assumption) | exact OBq_o h0 (Obt_q (by assumption)) | exact G_part h0.1 (by assumption) | exact Nmo_o (by assumption)); decide; decide) | ((with_reducible refine sf_gN ?_ ?_ ?_ ?_); (first | assumption | exact GS_o h0.1 (by decide) (by decide) | exact RRd_o h0 (by assumption) | exact RRd_o h0 (Or.inr (by assumption)) | exact OBq_o h0 (by assumption) | exact OBq_o h0 (Obt_q (by assumption)) | exact G_part h0.1 (by assumption) | exact Nmo_o (by assumption)); decide; decide) | ((with_reducible refine sf_gG h0 (by assumption) ?_ ?_ ?_ ?_ (by with_unfolding_all exact rfl) ?_); decide; decide; decide; decide) | ((with_reducible refine sf_o ?_ (fun l => ?_)); (first | assumption | exact GS_o h0.1 (by decide) (by decide) | exact RRd_o h0 (by assumption) | exact RRd_o h0 (Or.inr (by assumption)) | exact OBq_o h0 (by assumption) | exact OBq_o h0 (Obt_q (by assumption)) | exact G_part h0.1 (by assumption) | exact Nmo_o (by assumption))) | ((with_reducible refine sf_s ?_)) | ((with_reducible refine sf_sb (by assumption) ?_)) | ((with_reducible refine sf_r ?_ ?_); (first | exact any | assumption | exact ⟨false, rfl⟩ | exact ⟨true, rfl⟩); assumption) | ((with_reducible refine sf_z ?_ ?_ ?_); (first | exact ⟨false, rfl⟩ | exact ⟨true, rfl⟩ | assumption); (first | exact any | exact ⟨false, rfl⟩ | exact ⟨true, rfl⟩ | assumption); assumption) | ((with_reducible refine sf_pI ?_ ?_ ?_ ?_ (fun τ hi => ?_)); (first | assumption | exact GS_o h0.1 (by decide) (by decide) | exact RRd_o h0 (by assumption) | exact RRd_o h0 (Or.inr (by assumption)) | exact OBq_o h0 (by assumption) | exact OBq_o h0 (Obt_q (by assumption)) | exact G_part h0.1 (by assumption) | exact Nmo_o (by assumption)); decide; decide; (first | exact SI_tI (by assumption) (by omega) | exact SI_m9 (by assumption) (by decide) | exact SI_m6 (by assumption) (by decide))) | ((with_reducible refine sf_x (sf_find h0 hF (by assumption)) ?_); intro v τ hv hi))
theorem sx_sJ {α : Type} {V : α → Prop} {f : px_H → Option (α × px_H)} {a m : Nat} {v : Int64} (h0 : S0 sk L τ0) (em : fI τ 1718 6 = nI m) (hm : m < 8) (hI : SI zb sk L τ0 τ) (hks : ks a = (1, 2, 8)) (ha : 1721 ≤ a ∧ a ≤ 1725) (g : ∀ τ', SI zb sk L τ0 τ' → fI τ' 1718 6 = nI m → Sf sk L (SI zb sk L τ0) V (f (cH sk L τ'))) : Sf sk L (SI zb sk L τ0) V ((xsJ (cH sk L τ) 2 a (fI τ 1718 6) v).bind f) := by
  rw [em, c_sJ (GS_a h0.1 (by omega) hks) (by decide) hm, bs]
  exact g _ (SI_vJ hI ha) em
theorem sx_sI {α : Type} {V : α → Prop} {f : px_H → Option (α × px_H)} {m : Nat} {v : Int32} (h0 : S0 sk L τ0) (em : fI τ 1718 6 = nI m) (hm : m < 8) (hI : SI zb sk L τ0 τ) (g : ∀ τ', SI zb sk L τ0 τ' → fI τ' 1718 6 = nI m → Sf sk L (SI zb sk L τ0) V (f (cH sk L τ'))) : Sf sk L (SI zb sk L τ0) V ((xsI (cH sk L τ) 1 1724 (fI τ 1718 6) v).bind f) := by
  rw [em, c_sI (GS_a h0.1 (a := 1724) (n := 8) (by decide) (by decide)) (Or.inr (Or.inl rfl)) (by decide) hm, bs]
  exact g _ (SI_vI hI (Or.inr rfl)) em
theorem sf_load_62 {a2 : Int32} {N : Nat} (h0 : S0 sk L τ0) (hF : 65540 < F) (hr : RRd r) (hN : N ≤ 65536) : ∀ (d j f : Nat) (τ : px_TT), j + d = N → d < f → SI zb sk L τ0 τ → Sf sk L (SI zb sk L τ0) Any (f_Memory_load_62 F c f 1718 r a2 (nI N) (nI j) (cH sk L τ)) := by
  intro d
  induction d with
  | zero =>
    intro j f τ hj hf hI
    obtain ⟨f, rfl⟩ : ∃ y, f = y + 1 := ⟨f - 1, by omega⟩
    unfold f_Memory_load_62
    rw [if_pos (nI_le (by omega) (by omega))]
    exact sf_load_216 h0 hF hI
  | succ d ih =>
    intro j f τ hj hf hI
    obtain ⟨f, rfl⟩ : ∃ y, f = y + 1 := ⟨f - 1, by omega⟩
    obtain ⟨m, hm, em⟩ := hI.2.2.2.1.1
    by_cases h8 : m = 8
    · subst h8
      unfold f_Memory_load_62
      repeat' (first | (exact sf_load_216 h0 hF hI) | (exact absurd (show nI 8 ≤ fI τ 1718 6 by rw [em]; decide) hc) | exact absurd (show nI 0 = 0 from rfl) (by assumption) | exact absurd (show nI 1 = 0 by assumption) (by decide) | ((with_reducible refine sf_i (fun hc => ?_) (fun hc => ?_))) | ((with_reducible refine sf_gF h0 ?_ ?_ ?_ ?_ ?_); decide; decide; decide; decide) | ((with_reducible refine sf_gI ?_ ?_ ?_ ?_); (first | assumption | exact GS_o h0.1 (by decide) (by decide) | exact RRd_o h0 (by assumption) | exact RRd_o h0 (Or.inr (by assumption)) | exact OBq_o h0 (by assumption) | exact OBq_o h0 (Obt_q (by assumption)) | exact G_part h0.1 (by assumption) | exact Nmo_o (by assumption)); decide; decide) | ((with_reducible refine sf_gJ ?_ ?_ ?_ ?_); (first | assumption | exact GS_o h0.1 (by decide) (by decide) | exact RRd_o h0 (by assumption) | exact RRd_o h0 (Or.inr (by assumption)) | exact OBq_o h0 (by assumption) | exact OBq_o h0 (Obt_q (by assumption)) | exact G_part h0.1 (by assumption) | exact Nmo_o (by assumption)); decide; decide) | ((with_reducible refine sf_gN ?_ ?_ ?_ ?_); (first | assumption | exact GS_o h0.1 (by decide) (by decide) | exact RRd_o h0 (by assumption) | exact RRd_o h0 (Or.inr (by assumption)) | exact OBq_o h0 (by assumption) | exact OBq_o h0 (Obt_q (by assumption)) | exact G_part h0.1 (by assumption) | exact Nmo_o (by assumption)); decide; decide) | ((with_reducible refine sf_gG h0 (by assumption) ?_ ?_ ?_ ?_ (by with_unfolding_all exact rfl) ?_); decide; decide; decide; decide) | ((with_reducible refine sf_o ?_ (fun l => ?_)); (first | assumption | exact GS_o h0.1 (by decide) (by decide) | exact RRd_o h0 (by assumption) | exact RRd_o h0 (Or.inr (by assumption)) | exact OBq_o h0 (by assumption) | exact OBq_o h0 (Obt_q (by assumption)) | exact G_part h0.1 (by assumption) | exact Nmo_o (by assumption))) | ((with_reducible refine sf_s ?_)) | ((with_reducible refine sf_sb (by assumption) ?_)) | ((with_reducible refine sf_r ?_ ?_); (first | exact any | assumption | exact ⟨false, rfl⟩ | exact ⟨true, rfl⟩); assumption) | ((with_reducible refine sf_z ?_ ?_ ?_); (first | exact ⟨false, rfl⟩ | exact ⟨true, rfl⟩ | assumption); (first | exact any | exact ⟨false, rfl⟩ | exact ⟨true, rfl⟩ | assumption); assumption) | ((with_reducible refine sf_lF h0 ?_ (by with_unfolding_all exact rfl) ?_ ?_); decide; decide))
    have hm8 : m < 8 := by omega
    unfold f_Memory_load_62 f_Memory_load_210
    rw [nI_add]
    repeat' (first | (exact sf_load_216 h0 hF (by assumption)) | (exact ih _ _ _ (by omega) (by omega) (by assumption)) | ((with_reducible refine sx_sJ h0 (by assumption) hm8 ?_ ?_ ?_ (fun τ hi em => ?_)); assumption; decide; decide) | ((with_reducible refine sx_sI h0 (by assumption) hm8 ?_ (fun τ hi em => ?_)); assumption) | ((with_reducible refine sf_pI ?_ ?_ ?_ ?_ (fun τ hi => ?_)); exact GS_o h0.1 (by decide) (by decide); decide; decide; (rw [show fI _ 1718 6 = nI m by assumption, nI_add]; exact SI_m6 (by assumption) (by omega))) | exact absurd (show nI 0 = 0 from rfl) (by assumption) | exact absurd (show nI 1 = 0 by assumption) (by decide) | ((with_reducible refine sf_i (fun hc => ?_) (fun hc => ?_))) | ((with_reducible refine sf_gF h0 ?_ ?_ ?_ ?_ ?_); decide; decide; decide; decide) | ((with_reducible refine sf_gI ?_ ?_ ?_ ?_); (first | assumption | exact GS_o h0.1 (by decide) (by decide) | exact RRd_o h0 (by assumption) | exact RRd_o h0 (Or.inr (by assumption)) | exact OBq_o h0 (by assumption) | exact OBq_o h0 (Obt_q (by assumption)) | exact G_part h0.1 (by assumption) | exact Nmo_o (by assumption)); decide; decide) | ((with_reducible refine sf_gJ ?_ ?_ ?_ ?_); (first | assumption | exact GS_o h0.1 (by decide) (by decide) | exact RRd_o h0 (by assumption) | exact RRd_o h0 (Or.inr (by assumption)) | exact OBq_o h0 (by assumption) | exact OBq_o h0 (Obt_q (by assumption)) | exact G_part h0.1 (by assumption) | exact Nmo_o (by assumption)); decide; decide) | ((with_reducible refine sf_gN ?_ ?_ ?_ ?_); (first | assumption | exact GS_o h0.1 (by decide) (by decide) | exact RRd_o h0 (by assumption) | exact RRd_o h0 (Or.inr (by assumption)) | exact OBq_o h0 (by assumption) | exact OBq_o h0 (Obt_q (by assumption)) | exact G_part h0.1 (by assumption) | exact Nmo_o (by assumption)); decide; decide) | ((with_reducible refine sf_gG h0 (by assumption) ?_ ?_ ?_ ?_ (by with_unfolding_all exact rfl) ?_); decide; decide; decide; decide) | ((with_reducible refine sf_o ?_ (fun l => ?_)); (first | assumption | exact GS_o h0.1 (by decide) (by decide) | exact RRd_o h0 (by assumption) | exact RRd_o h0 (Or.inr (by assumption)) | exact OBq_o h0 (by assumption) | exact OBq_o h0 (Obt_q (by assumption)) | exact G_part h0.1 (by assumption) | exact Nmo_o (by assumption))) | ((with_reducible refine sf_s ?_)) | ((with_reducible refine sf_sb (by assumption) ?_)) | ((with_reducible refine sf_r ?_ ?_); (first | exact any | assumption | exact ⟨false, rfl⟩ | exact ⟨true, rfl⟩); assumption) | ((with_reducible refine sf_z ?_ ?_ ?_); (first | exact ⟨false, rfl⟩ | exact ⟨true, rfl⟩ | assumption); (first | exact any | exact ⟨false, rfl⟩ | exact ⟨true, rfl⟩ | assumption); assumption) | ((with_reducible refine sx_num h0 hF (by assumption) ?_ ?_ (fun w hw => ?_)); (first | assumption | exact Or.inr (by assumption) | (unfold RRd RWr; decide)); decide) | ((with_reducible refine sf_lF h0 ?_ (by with_unfolding_all exact rfl) ?_ ?_); decide; decide))
theorem sf_load (h0 : S0 sk L τ0) (hF : 65540 < F) (hr : RRd r) (hcs : ∀ τ', SI zb sk L τ0 τ' → ∃ A, fN τ' r 0 = some A ∧ CS sk L τ' A) (hI : SI zb sk L τ0 τ) : Sf sk L (SI zb sk L τ0) Any (f_Memory_load F c 1718 r (cH sk L τ)) := by
  have ho := RRd_o h0 hr
  unfold f_Memory_load
  refine sf_gG h0 hI (by decide) (by decide) (by decide) (by decide) (q := 1719) rfl ?_
  repeat' (first | ((rw [lN_i, lN_i]; exact sf_load_62 h0 hF hr (by omega) _ 0 F _ (Nat.zero_add _) (by omega) (by assumption))) | (obtain ⟨A, eA, cA⟩ := hcs _ hi; (with_reducible refine sf_gR ho ?_ ?_ eA ?_); decide; decide) | ((with_reducible refine sf_x (sf_copy ?_ ?_ ?_) ?_); assumption; assumption; (unfold RWr; decide); intro v τ hv hi) | exact absurd (show nI 0 = 0 from rfl) (by assumption) | exact absurd (show nI 1 = 0 by assumption) (by decide) | ((with_reducible refine sf_i (fun hc => ?_) (fun hc => ?_))) | ((with_reducible refine sf_gF h0 ?_ ?_ ?_ ?_ ?_); decide; decide; decide; decide) | ((with_reducible refine sf_gI ?_ ?_ ?_ ?_); (first | assumption | exact GS_o h0.1 (by decide) (by decide) | exact RRd_o h0 (by assumption) | exact RRd_o h0 (Or.inr (by assumption)) | exact OBq_o h0 (by assumption) | exact OBq_o h0 (Obt_q (by assumption)) | exact G_part h0.1 (by assumption) | exact Nmo_o (by assumption)); decide; decide) | ((with_reducible refine sf_gJ ?_ ?_ ?_ ?_); (first | assumption | exact GS_o h0.1 (by decide) (by decide) | exact RRd_o h0 (by assumption) | exact RRd_o h0 (Or.inr (by assumption)) | exact OBq_o h0 (by assumption) | exact OBq_o h0 (Obt_q (by assumption)) | exact G_part h0.1 (by assumption) | exact Nmo_o (by assumption)); decide; decide) | ((with_reducible refine sf_gN ?_ ?_ ?_ ?_); (first | assumption | exact GS_o h0.1 (by decide) (by decide) | exact RRd_o h0 (by assumption) | exact RRd_o h0 (Or.inr (by assumption)) | exact OBq_o h0 (by assumption) | exact OBq_o h0 (Obt_q (by assumption)) | exact G_part h0.1 (by assumption) | exact Nmo_o (by assumption)); decide; decide) | ((with_reducible refine sf_gG h0 (by assumption) ?_ ?_ ?_ ?_ (by with_unfolding_all exact rfl) ?_); decide; decide; decide; decide) | ((with_reducible refine sf_o ?_ (fun l => ?_)); (first | assumption | exact GS_o h0.1 (by decide) (by decide) | exact RRd_o h0 (by assumption) | exact RRd_o h0 (Or.inr (by assumption)) | exact OBq_o h0 (by assumption) | exact OBq_o h0 (Obt_q (by assumption)) | exact G_part h0.1 (by assumption) | exact Nmo_o (by assumption))) | ((with_reducible refine sf_s ?_)) | ((with_reducible refine sf_sb (by assumption) ?_)) | ((with_reducible refine sf_r ?_ ?_); (first | exact any | assumption | exact ⟨false, rfl⟩ | exact ⟨true, rfl⟩); assumption) | ((with_reducible refine sf_z ?_ ?_ ?_); (first | exact ⟨false, rfl⟩ | exact ⟨true, rfl⟩ | assumption); (first | exact any | exact ⟨false, rfl⟩ | exact ⟨true, rfl⟩ | assumption); assumption) | ((with_reducible refine sx_num h0 hF (by assumption) ?_ ?_ (fun w hw => ?_)); (first | assumption | exact Or.inr (by assumption) | (unfold RRd RWr; decide)); decide) | ((with_reducible refine sf_pI ?_ ?_ ?_ ?_ (fun τ hi => ?_)); (first | assumption | exact GS_o h0.1 (by decide) (by decide) | exact RRd_o h0 (by assumption) | exact RRd_o h0 (Or.inr (by assumption)) | exact OBq_o h0 (by assumption) | exact OBq_o h0 (Obt_q (by assumption)) | exact G_part h0.1 (by assumption) | exact Nmo_o (by assumption)); decide; decide; (first | exact SI_tI (by assumption) (by omega) | exact SI_m9 (by assumption) (by decide) | exact SI_m6 (by assumption) (by decide))) | ((with_reducible refine sf_pJ ?_ ?_ ?_ ?_ (fun τ hi => ?_)); (first | assumption | exact GS_o h0.1 (by decide) (by decide) | exact RRd_o h0 (by assumption) | exact RRd_o h0 (Or.inr (by assumption)) | exact OBq_o h0 (by assumption) | exact OBq_o h0 (Obt_q (by assumption)) | exact G_part h0.1 (by assumption) | exact Nmo_o (by assumption)); decide; decide; exact SI_tJ (by assumption) (by omega)) | ((with_reducible refine sf_x (sf_clear ?_ ?_) ?_); assumption; (first | assumption | (unfold RWr; decide)); intro v τ hv hi))
end CBO
end
section
/-! the class's scribe: its small parts are safe (steps spelled out by sf/pp.py) -/
def OBq (q : Nat) : Prop := ∃ i, i < 64 ∧ q = 10 + 2 * i
def Syb (τ : px_TT) (q : Nat) : Prop := (∃ s, s ≤ 64 ∧ fI τ q 11 = nI s) ∧ ∃ z, z ≤ 24 ∧ fI τ q 8 = nI z
/-- the members that hold an object have few symbols and sections -/
def MBk (τ : px_TT) : Prop := ∀ q, OBq q → fI τ q 4 = nI 1 ∨ fI τ q 4 = nI 2 → Syb τ q
def S1 (sk : Nat → Nat × Nat × Nat) (L : Nat) (τ0 : px_TT) : Prop := S0 sk L τ0 ∧ MBk τ0 ∧ (∃ z, z ≤ 65536 ∧ fI τ0 7 1 = nI z) ∧ ∀ k, isB (eI τ0 8 k)
section CSC
variable {F : Nat} {c : px_CT} {sk : Nat → Nat × Nat × Nat} {L : Nat} {zb : Option Nat} {τ0 τ : px_TT} {r q : Nat}
theorem CF_MB {fs : List (Nat × (Nat → Nat))} (h : CF sk L τ fs) : MBk τ := by
  rintro q ⟨i, hi, rfl⟩ hk
  cases e : obAt fs i with
  | none =>
    have h4 := CF_no h e hi
    rw [h4] at hk
    exact absurd hk (by decide)
  | some x =>
    obtain ⟨o, n, b, z⟩ := x
    obtain ⟨_, ⟨y, _, h4⟩, hb, _, _, hD⟩ := CF_ob h e
    have hz : z = false := by
      cases z with
      | false => rfl
      | true =>
        rw [h4] at hk
        unfold mkd at hk
        cases ea : isAr y.2 y.1 with
        | true => rw [ea] at hk; exact absurd hk (by decide)
        | false =>
          exfalso
          unfold obAt at e
          rw [‹fs[i / 8]? = some y›] at e
          simp only at e
          unfold fMem at e
          rw [ea] at e
          simp only [Bool.false_eq_true, if_false] at e
          cases e2 : i % 8 with
          | zero => rw [e2] at e; simp at e
          | succ k => rw [e2] at e; simp at e
    obtain ⟨⟨hG, hY, hw⟩, _, _⟩ := hD hz
    exact ⟨⟨_, w2_M hw, hY.2.1⟩, _, hG.1.2.1.2.2, hG.1.2.2.2.2⟩
theorem sx_of {I : px_TT → Prop} {α β : Type} {V : α → Prop} {m : Option (β × px_H)} {f : β → px_H → Option (α × px_H)} (h : ∃ v, m = some (v, cH sk L τ)) (g : ∀ v, Sf sk L I V (f v (cH sk L τ))) : Sf sk L I V (xb m f) := by
  obtain ⟨v, e⟩ := h
  rw [e, xb_mk]; exact g v
theorem OBq_o (h0 : S0 sk L τ0) (h : OBq q) : ob sk L 7 q := by
  obtain ⟨i, hi, rfl⟩ := h
  exact G_of h0.1 hi
theorem OBq_F (h0 : S0 sk L τ0) (hI : SI zb sk L τ0 τ) (h : OBq q) : obF sk L τ q := by
  obtain ⟨i, hi, rfl⟩ := h
  have w := (GR_Z h0.2.1 hI.1).2.1 i hi
  exact ⟨G_of h0.1 hi, w.1, _, w.2.1, G_og h0.1 hi⟩
theorem so_where {x : Int32} (h0 : S0 sk L τ0) (hF : 65540 < F) (hI : SI zb sk L τ0 τ) (hq : OBq q) : ∃ v, f_ObjectFile_whereOf F c q x (cH sk L τ) = some (v, cH sk L τ) := k_whereS (by omega) h0.1 (GR_Z h0.2.1 hI.1) (OBq_F h0 hI hq)
theorem so_bind {x : Int32} (h0 : S0 sk L τ0) (hF : 65540 < F) (hI : SI zb sk L τ0 τ) (hq : OBq q) : ∃ v, f_ObjectFile_bindOf F c q x (cH sk L τ) = some (v, cH sk L τ) := k_bindS (by omega) h0.1 (GR_Z h0.2.1 hI.1) (OBq_F h0 hI hq)
theorem so_value {x : Int32} (h0 : S0 sk L τ0) (hF : 65540 < F) (hI : SI zb sk L τ0 τ) (hq : OBq q) : ∃ v, f_ObjectFile_valueOf F c q x (cH sk L τ) = some (v, cH sk L τ) := k_valueS (by omega) h0.1 (GR_Z h0.2.1 hI.1) (OBq_F h0 hI hq)
theorem so_length {x : Int32} (h0 : S0 sk L τ0) (hF : 65540 < F) (hI : SI zb sk L τ0 τ) (hq : OBq q) : ∃ v, f_ObjectFile_lengthOf F c q x (cH sk L τ) = some (v, cH sk L τ) := k_lengthS (by omega) h0.1 (GR_Z h0.2.1 hI.1) (OBq_F h0 hI hq)
theorem so_nstart {x : Int32} (h0 : S0 sk L τ0) (hF : 65540 < F) (hI : SI zb sk L τ0 τ) (hq : OBq q) : ∃ v, f_ObjectFile_nameStart F c q x (cH sk L τ) = some (v, cH sk L τ) := k_nameStartS (by omega) h0.1 (GR_Z h0.2.1 hI.1) (OBq_F h0 hI hq)
theorem so_group {x : Int64} (h0 : S0 sk L τ0) (hF : 65540 < F) (hI : SI zb sk L τ0 τ) (hq : OBq q) : ∃ v, f_ObjectFile_groupOf F c q x (cH sk L τ) = some (v, cH sk L τ) := k_groupS (OBq_F h0 hI hq)
theorem so_isdef {x : Int32} (h0 : S0 sk L τ0) (hF : 65540 < F) (hI : SI zb sk L τ0 τ) (hq : OBq q) : ∃ v, f_ObjectFile_isDefining F c q x (cH sk L τ) = some (v, cH sk L τ) := by
  obtain ⟨z, e⟩ := k_isDefS (F := F) (c := c) (x := x) (by omega) h0.1 (GR_Z h0.2.1 hI.1) (OBq_F h0 hI hq)
  exact ⟨_, e⟩
theorem sf_nread {x : Int32} (h1 : S1 sk L τ0) (hF : 65540 < F) (hI : SI zb sk L τ0 τ) : Sf sk L (SI zb sk L τ0) Any (f_Name_read F c 1695 7 x (cH sk L τ)) := by
  obtain ⟨z, hz, ez⟩ := h1.2.2.1
  have hs : rowS sk L τ 7 8 65536 := ⟨G7 h1.1.1, G8 h1.1.1, by decide, GR_r (GR_Z h1.1.2.1 hI.1) (by decide), z, hz, (hI.1.1 7 1 (Zc_no (by omega)) (by omega) (by omega) (by omega) (by omega)).trans ez⟩
  obtain ⟨τ', e, f⟩ := k_nreadS (F := F) (c := c) (x := x) (by omega) (G1695 h1.1.1) (by decide) hs
  exact ⟨_, τ', e, any, SI_N hI f (Or.inr rfl)⟩
theorem fill_sz {k : Nat} (hI : SI zb sk L τ0 τ) (hr : RWr r) (hk : k ≤ 64) : ∃ e, e < 2 ^ 62 ∧ (fI τ r 1 + nI k).toInt64 = lN e := by
  obtain ⟨A, n, hT⟩ := RWr_T hr
  obtain ⟨_, _, hn, _, ⟨z, hz, ez⟩, _⟩ := SI_row hI hT
  exact ⟨z + k, by omega, by rw [ez, nI_add, nI_l (by omega)]⟩
theorem SI_q {k : Nat} (hI : SI zb sk L τ0 τ) (hq : OBq q) : fI τ q k = fI τ0 q k := by
  obtain ⟨i, hi, rfl⟩ := hq
  exact hI.1.1 _ k (Zc_no (by omega)) (by omega) (by omega) (by omega) (by omega)
theorem sym_le {j : Nat} (hs : Syb τ0 q) (hq : OBq q) (hI : SI zb sk L τ0 τ) (hj : 64 ≤ j) (hj2 : j < 2 ^ 31) : fI τ q 11 ≤ nI j := by
  obtain ⟨s, h1, h2⟩ := hs.1
  rw [SI_q hI hq, h2]
  exact nI_le (by omega) hj2
theorem sf_putRow {a1 a3 a5 a7 : Int64} {a9 a10 : Int32} (h0 : S0 sk L τ0) (hF : 65540 < F) (hI : SI zb sk L τ0 τ) : Sf sk L (SI zb sk L τ0) Any (f_Scribe_putRow F c 1713 a1 a3 a5 a7 a9 a10 (cH sk L τ)) := by
  unfold f_Scribe_putRow
  repeat' (first | exact absurd (show nI 0 = 0 from rfl) (by assumption) | exact absurd (show nI 1 = 0 by assumption) (by decide) | ((with_reducible refine sf_i (fun hc => ?_) (fun hc => ?_))) | ((with_reducible refine sf_gF h0 ?_ ?_ ?_ ?_ ?_); decide; decide; decide; decide) | ((with_reducible refine sf_gI ?_ ?_ ?_ ?_); (first | assumption | exact GS_o h0.1 (by decide) (by decide) | exact RRd_o h0 (by assumption) | exact RRd_o h0 (Or.inr (by assumption)) | exact OBq_o h0 (by assumption) | exact OBq_o h0 (Obt_q (by assumption)) | exact G_part h0.1 (by assumption) | exact Nmo_o (by assumption)); decide; decide) | ((with_reducible refine sf_gJ ?_ ?_ ?_ ?_); (first | assumption | exact GS_o h0.1 (by decide) (by decide) | exact RRd_o h0 (by assumption) | exact RRd_o h0 (Or.inr (by assumption)) | exact OBq_o h0 (by assumption) | exact OBq_o h0 (Obt_q (by assumption)) | exact G_part h0.1 (by assumption) | exact Nmo_o (by assumption)); decide; decide) | ((with_reducible refine sf_gN ?_ ?_ ?_ ?_); (first | assumption | exact GS_o h0.1 (by decide) (by decide) | exact RRd_o h0 (by assumption) | exact RRd_o h0 (Or.inr (by assumption)) | exact OBq_o h0 (by assumption) | exact OBq_o h0 (Obt_q (by assumption)) | exact G_part h0.1 (by assumption) | exact Nmo_o (by assumption)); decide; decide) | ((with_reducible refine sf_gG h0 (by assumption) ?_ ?_ ?_ ?_ (by with_unfolding_all exact rfl) ?_); decide; decide; decide; decide) | ((with_reducible refine sf_o ?_ (fun l => ?_)); (first | assumption | exact GS_o h0.1 (by decide) (by decide) | exact RRd_o h0 (by assumption) | exact RRd_o h0 (Or.inr (by assumption)) | exact OBq_o h0 (by assumption) | exact OBq_o h0 (Obt_q (by assumption)) | exact G_part h0.1 (by assumption) | exact Nmo_o (by assumption))) | ((with_reducible refine sf_s ?_)) | ((with_reducible refine sf_sb (by assumption) ?_)) | ((with_reducible refine sf_r ?_ ?_); (first | exact any | assumption | exact ⟨false, rfl⟩ | exact ⟨true, rfl⟩); assumption) | ((with_reducible refine sf_z ?_ ?_ ?_); (first | exact ⟨false, rfl⟩ | exact ⟨true, rfl⟩ | assumption); (first | exact any | exact ⟨false, rfl⟩ | exact ⟨true, rfl⟩ | assumption); assumption) | ((with_reducible refine sf_x (sf_put hF ?_ ?_ ?_) ?_); assumption; (first | assumption | (unfold RWr; decide)); decide; intro v τ hv hi))
theorem sf_endRow {a1 : Int64} {a3 : Int32} (h0 : S0 sk L τ0) (hF : 65540 < F) (hI : SI zb sk L τ0 τ) : Sf sk L (SI zb sk L τ0) Any (f_Scribe_endRow F c 1713 a1 a3 (cH sk L τ)) := by
  unfold f_Scribe_endRow
  repeat' (first | exact absurd (show nI 0 = 0 from rfl) (by assumption) | exact absurd (show nI 1 = 0 by assumption) (by decide) | ((with_reducible refine sf_i (fun hc => ?_) (fun hc => ?_))) | ((with_reducible refine sf_gF h0 ?_ ?_ ?_ ?_ ?_); decide; decide; decide; decide) | ((with_reducible refine sf_gI ?_ ?_ ?_ ?_); (first | assumption | exact GS_o h0.1 (by decide) (by decide) | exact RRd_o h0 (by assumption) | exact RRd_o h0 (Or.inr (by assumption)) | exact OBq_o h0 (by assumption) | exact OBq_o h0 (Obt_q (by assumption)) | exact G_part h0.1 (by assumption) | exact Nmo_o (by assumption)); decide; decide) | ((with_reducible refine sf_gJ ?_ ?_ ?_ ?_); (first | assumption | exact GS_o h0.1 (by decide) (by decide) | exact RRd_o h0 (by assumption) | exact RRd_o h0 (Or.inr (by assumption)) | exact OBq_o h0 (by assumption) | exact OBq_o h0 (Obt_q (by assumption)) | exact G_part h0.1 (by assumption) | exact Nmo_o (by assumption)); decide; decide) | ((with_reducible refine sf_gN ?_ ?_ ?_ ?_); (first | assumption | exact GS_o h0.1 (by decide) (by decide) | exact RRd_o h0 (by assumption) | exact RRd_o h0 (Or.inr (by assumption)) | exact OBq_o h0 (by assumption) | exact OBq_o h0 (Obt_q (by assumption)) | exact G_part h0.1 (by assumption) | exact Nmo_o (by assumption)); decide; decide) | ((with_reducible refine sf_gG h0 (by assumption) ?_ ?_ ?_ ?_ (by with_unfolding_all exact rfl) ?_); decide; decide; decide; decide) | ((with_reducible refine sf_o ?_ (fun l => ?_)); (first | assumption | exact GS_o h0.1 (by decide) (by decide) | exact RRd_o h0 (by assumption) | exact RRd_o h0 (Or.inr (by assumption)) | exact OBq_o h0 (by assumption) | exact OBq_o h0 (Obt_q (by assumption)) | exact G_part h0.1 (by assumption) | exact Nmo_o (by assumption))) | ((with_reducible refine sf_s ?_)) | ((with_reducible refine sf_sb (by assumption) ?_)) | ((with_reducible refine sf_r ?_ ?_); (first | exact any | assumption | exact ⟨false, rfl⟩ | exact ⟨true, rfl⟩); assumption) | ((with_reducible refine sf_z ?_ ?_ ?_); (first | exact ⟨false, rfl⟩ | exact ⟨true, rfl⟩ | assumption); (first | exact any | exact ⟨false, rfl⟩ | exact ⟨true, rfl⟩ | assumption); assumption) | ((with_reducible refine sf_x (sf_put hF ?_ ?_ ?_) ?_); assumption; (first | assumption | (unfold RWr; decide)); decide; intro v τ hv hi))
theorem sf_putSym {a1 a2 a3 : Int32} {a4 a6 : Int64} (h0 : S0 sk L τ0) (hF : 65540 < F) (hr : RWr r) (hI : SI zb sk L τ0 τ) : Sf sk L (SI zb sk L τ0) Any (f_Scribe_putSymbol F c r a1 a2 a3 a4 a6 (cH sk L τ)) := by
  unfold f_Scribe_putSymbol
  repeat' (first | exact absurd (show nI 0 = 0 from rfl) (by assumption) | exact absurd (show nI 1 = 0 by assumption) (by decide) | ((with_reducible refine sf_i (fun hc => ?_) (fun hc => ?_))) | ((with_reducible refine sf_gF h0 ?_ ?_ ?_ ?_ ?_); decide; decide; decide; decide) | ((with_reducible refine sf_gI ?_ ?_ ?_ ?_); (first | assumption | exact GS_o h0.1 (by decide) (by decide) | exact RRd_o h0 (by assumption) | exact RRd_o h0 (Or.inr (by assumption)) | exact OBq_o h0 (by assumption) | exact OBq_o h0 (Obt_q (by assumption)) | exact G_part h0.1 (by assumption) | exact Nmo_o (by assumption)); decide; decide) | ((with_reducible refine sf_gJ ?_ ?_ ?_ ?_); (first | assumption | exact GS_o h0.1 (by decide) (by decide) | exact RRd_o h0 (by assumption) | exact RRd_o h0 (Or.inr (by assumption)) | exact OBq_o h0 (by assumption) | exact OBq_o h0 (Obt_q (by assumption)) | exact G_part h0.1 (by assumption) | exact Nmo_o (by assumption)); decide; decide) | ((with_reducible refine sf_gN ?_ ?_ ?_ ?_); (first | assumption | exact GS_o h0.1 (by decide) (by decide) | exact RRd_o h0 (by assumption) | exact RRd_o h0 (Or.inr (by assumption)) | exact OBq_o h0 (by assumption) | exact OBq_o h0 (Obt_q (by assumption)) | exact G_part h0.1 (by assumption) | exact Nmo_o (by assumption)); decide; decide) | ((with_reducible refine sf_gG h0 (by assumption) ?_ ?_ ?_ ?_ (by with_unfolding_all exact rfl) ?_); decide; decide; decide; decide) | ((with_reducible refine sf_o ?_ (fun l => ?_)); (first | assumption | exact GS_o h0.1 (by decide) (by decide) | exact RRd_o h0 (by assumption) | exact RRd_o h0 (Or.inr (by assumption)) | exact OBq_o h0 (by assumption) | exact OBq_o h0 (Obt_q (by assumption)) | exact G_part h0.1 (by assumption) | exact Nmo_o (by assumption))) | ((with_reducible refine sf_s ?_)) | ((with_reducible refine sf_sb (by assumption) ?_)) | ((with_reducible refine sf_r ?_ ?_); (first | exact any | assumption | exact ⟨false, rfl⟩ | exact ⟨true, rfl⟩); assumption) | ((with_reducible refine sf_z ?_ ?_ ?_); (first | exact ⟨false, rfl⟩ | exact ⟨true, rfl⟩ | assumption); (first | exact any | exact ⟨false, rfl⟩ | exact ⟨true, rfl⟩ | assumption); assumption) | ((with_reducible refine sf_x (sf_put hF ?_ ?_ ?_) ?_); assumption; (first | assumption | (unfold RWr; decide)); decide; intro v τ hv hi))
theorem sf_next (h0 : S0 sk L τ0) (hF : 65540 < F) (hr : RWr r) (hI : SI zb sk L τ0 τ) : Sf sk L (SI zb sk L τ0) Any (f_Scribe_nextPlace F c r (cH sk L τ)) := by
  obtain ⟨A, n, hT⟩ := RWr_T hr
  obtain ⟨_, _, hn, _, ⟨z, hz, ez⟩, _⟩ := SI_row hI hT
  have hu := upN_le (v := z) (a := 2 ^ 3) (by decide)
  unfold f_Scribe_nextPlace
  refine sf_gI (RRd_o h0 (Or.inr hr)) (by decide) (by decide) ?_
  rw [ez, nI_l (by omega), show (8 : Int64) = lN (2 ^ 3) from rfl, k_up (by decide) (by omega), xb_mk]
  have hx : ∃ e, e < 2 ^ 62 ∧ lN (upN z (2 ^ 3)) = lN e := ⟨_, by omega, rfl⟩
  repeat' (first | exact absurd (show nI 0 = 0 from rfl) (by assumption) | exact absurd (show nI 1 = 0 by assumption) (by decide) | ((with_reducible refine sf_i (fun hc => ?_) (fun hc => ?_))) | ((with_reducible refine sf_gF h0 ?_ ?_ ?_ ?_ ?_); decide; decide; decide; decide) | ((with_reducible refine sf_gI ?_ ?_ ?_ ?_); (first | assumption | exact GS_o h0.1 (by decide) (by decide) | exact RRd_o h0 (by assumption) | exact RRd_o h0 (Or.inr (by assumption)) | exact OBq_o h0 (by assumption) | exact OBq_o h0 (Obt_q (by assumption)) | exact G_part h0.1 (by assumption) | exact Nmo_o (by assumption)); decide; decide) | ((with_reducible refine sf_gJ ?_ ?_ ?_ ?_); (first | assumption | exact GS_o h0.1 (by decide) (by decide) | exact RRd_o h0 (by assumption) | exact RRd_o h0 (Or.inr (by assumption)) | exact OBq_o h0 (by assumption) | exact OBq_o h0 (Obt_q (by assumption)) | exact G_part h0.1 (by assumption) | exact Nmo_o (by assumption)); decide; decide) | ((with_reducible refine sf_gN ?_ ?_ ?_ ?_); (first | assumption | exact GS_o h0.1 (by decide) (by decide) | exact RRd_o h0 (by assumption) | exact RRd_o h0 (Or.inr (by assumption)) | exact OBq_o h0 (by assumption) | exact OBq_o h0 (Obt_q (by assumption)) | exact G_part h0.1 (by assumption) | exact Nmo_o (by assumption)); decide; decide) | ((with_reducible refine sf_gG h0 (by assumption) ?_ ?_ ?_ ?_ (by with_unfolding_all exact rfl) ?_); decide; decide; decide; decide) | ((with_reducible refine sf_o ?_ (fun l => ?_)); (first | assumption | exact GS_o h0.1 (by decide) (by decide) | exact RRd_o h0 (by assumption) | exact RRd_o h0 (Or.inr (by assumption)) | exact OBq_o h0 (by assumption) | exact OBq_o h0 (Obt_q (by assumption)) | exact G_part h0.1 (by assumption) | exact Nmo_o (by assumption))) | ((with_reducible refine sf_s ?_)) | ((with_reducible refine sf_sb (by assumption) ?_)) | ((with_reducible refine sf_r ?_ ?_); (first | exact any | assumption | exact ⟨false, rfl⟩ | exact ⟨true, rfl⟩); assumption) | ((with_reducible refine sf_z ?_ ?_ ?_); (first | exact ⟨false, rfl⟩ | exact ⟨true, rfl⟩ | assumption); (first | exact any | exact ⟨false, rfl⟩ | exact ⟨true, rfl⟩ | assumption); assumption) | ((with_reducible refine sf_x (sf_fill hF ?_ ?_ ?_) ?_); assumption; (first | assumption | (unfold RWr; decide)); (first | assumption | exact fill_sz (by assumption) (by assumption) (by decide) | exact fill_sz (by assumption) (by unfold RWr; decide) (by decide) | exact ⟨_, by decide, rfl⟩); intro v τ hv hi))
theorem sf_ahead {a1 a2 : Int32} (h0 : S0 sk L τ0) (hF : 65540 < F) (hr : RWr r) (h48 : ∃ e, e < 2 ^ 62 ∧ (a2 + nI 48).toInt64 = lN e) (h58 : ∃ e, e < 2 ^ 62 ∧ (a2 + nI 58).toInt64 = lN e) (hI : SI zb sk L τ0 τ) : Sf sk L (SI zb sk L τ0) Any (f_Scribe_writeAhead F c r a1 a2 (cH sk L τ)) := by
  unfold f_Scribe_writeAhead
  repeat' (first | exact absurd (show nI 0 = 0 from rfl) (by assumption) | exact absurd (show nI 1 = 0 by assumption) (by decide) | ((with_reducible refine sf_i (fun hc => ?_) (fun hc => ?_))) | ((with_reducible refine sf_gF h0 ?_ ?_ ?_ ?_ ?_); decide; decide; decide; decide) | ((with_reducible refine sf_gI ?_ ?_ ?_ ?_); (first | assumption | exact GS_o h0.1 (by decide) (by decide) | exact RRd_o h0 (by assumption) | exact RRd_o h0 (Or.inr (by assumption)) | exact OBq_o h0 (by assumption) | exact OBq_o h0 (Obt_q (by assumption)) | exact G_part h0.1 (by assumption) | exact Nmo_o (by assumption)); decide; decide) | ((with_reducible refine sf_gJ ?_ ?_ ?_ ?_); (first | assumption | exact GS_o h0.1 (by decide) (by decide) | exact RRd_o h0 (by assumption) | exact RRd_o h0 (Or.inr (by assumption)) | exact OBq_o h0 (by assumption) | exact OBq_o h0 (Obt_q (by assumption)) | exact G_part h0.1 (by assumption) | exact Nmo_o (by assumption)); decide; decide) | ((with_reducible refine sf_gN ?_ ?_ ?_ ?_); (first | assumption | exact GS_o h0.1 (by decide) (by decide) | exact RRd_o h0 (by assumption) | exact RRd_o h0 (Or.inr (by assumption)) | exact OBq_o h0 (by assumption) | exact OBq_o h0 (Obt_q (by assumption)) | exact G_part h0.1 (by assumption) | exact Nmo_o (by assumption)); decide; decide) | ((with_reducible refine sf_gG h0 (by assumption) ?_ ?_ ?_ ?_ (by with_unfolding_all exact rfl) ?_); decide; decide; decide; decide) | ((with_reducible refine sf_o ?_ (fun l => ?_)); (first | assumption | exact GS_o h0.1 (by decide) (by decide) | exact RRd_o h0 (by assumption) | exact RRd_o h0 (Or.inr (by assumption)) | exact OBq_o h0 (by assumption) | exact OBq_o h0 (Obt_q (by assumption)) | exact G_part h0.1 (by assumption) | exact Nmo_o (by assumption))) | ((with_reducible refine sf_s ?_)) | ((with_reducible refine sf_sb (by assumption) ?_)) | ((with_reducible refine sf_r ?_ ?_); (first | exact any | assumption | exact ⟨false, rfl⟩ | exact ⟨true, rfl⟩); assumption) | ((with_reducible refine sf_z ?_ ?_ ?_); (first | exact ⟨false, rfl⟩ | exact ⟨true, rfl⟩ | assumption); (first | exact any | exact ⟨false, rfl⟩ | exact ⟨true, rfl⟩ | assumption); assumption) | ((with_reducible refine sf_x (sf_fill hF ?_ ?_ ?_) ?_); assumption; (first | assumption | (unfold RWr; decide)); (first | assumption | exact fill_sz (by assumption) (by assumption) (by decide) | exact fill_sz (by assumption) (by unfold RWr; decide) (by decide) | exact ⟨_, by decide, rfl⟩); intro v τ hv hi) | ((with_reducible refine sf_x (sf_dec hF ?_ ?_) ?_); assumption; (first | assumption | (unfold RWr; decide)); intro v τ hv hi) | ((with_reducible refine sf_x (sf_put hF ?_ ?_ ?_) ?_); assumption; (first | assumption | (unfold RWr; decide)); decide; intro v τ hv hi))
theorem xs_20 : xsl 20 = some (nI 6) ∧ ∀ j, j < 6 → ∃ v, xsc 20 (nI j) = some v := by
  refine ⟨by decide +kernel, fun j hj => ?_⟩
  have : (xsc 20 (nI j)).isSome = true := by
    revert j; decide +kernel
  exact Option.isSome_iff_exists.mp this
theorem sf_letter {x : Int32} (h0 : S0 sk L τ0) (hF : 65540 < F) (hq : OBq q) (hI : SI zb sk L τ0 τ) : Sf sk L (SI zb sk L τ0) Any (f_Scribe_letterOf F c (some q) x (cH sk L τ)) := by
  unfold f_Scribe_letterOf f_Scribe_letterOf_20 f_Scribe_letterOf_36 f_Scribe_letterOf_80 f_Scribe_letterOf_81 f_Scribe_letterOf_100
  rw [xs_20.1]
  have key : ∀ {v : Int32} {f : Int32 → Option (Int32 × px_H)}, ¬ v < 0 → ¬ nI 6 ≤ v → (∀ w, Sf sk L (SI zb sk L τ0) Any (f w)) → Sf sk L (SI zb sk L τ0) Any ((xsc 20 v).bind f) := by
    intro v f h1 h2 g
    obtain ⟨i, hi, rfl⟩ := nI_of h1
    have h6 : i < 6 := Nat.lt_of_not_le (fun h => h2 (nI_le h hi))
    obtain ⟨w, e⟩ := xs_20.2 i h6
    rw [e, bs]; exact g w
  repeat' (first | ((with_reducible refine key ?_ ?_ (fun w => ?_)); assumption; assumption) | ((rw [bs])) | exact absurd (show nI 0 = 0 from rfl) (by assumption) | exact absurd (show nI 1 = 0 by assumption) (by decide) | ((with_reducible refine sf_i (fun hc => ?_) (fun hc => ?_))) | ((with_reducible refine sf_gF h0 ?_ ?_ ?_ ?_ ?_); decide; decide; decide; decide) | ((with_reducible refine sf_gI ?_ ?_ ?_ ?_); (first | assumption | exact GS_o h0.1 (by decide) (by decide) | exact RRd_o h0 (by assumption) | exact RRd_o h0 (Or.inr (by assumption)) | exact OBq_o h0 (by assumption) | exact OBq_o h0 (Obt_q (by assumption)) | exact G_part h0.1 (by assumption) | exact Nmo_o (by assumption)); decide; decide) | ((with_reducible refine sf_gJ ?_ ?_ ?_ ?_); (first | assumption | exact GS_o h0.1 (by decide) (by decide) | exact RRd_o h0 (by assumption) | exact RRd_o h0 (Or.inr (by assumption)) | exact OBq_o h0 (by assumption) | exact OBq_o h0 (Obt_q (by assumption)) | exact G_part h0.1 (by assumption) | exact Nmo_o (by assumption)); decide; decide) | ((with_reducible refine sf_gN ?_ ?_ ?_ ?_); (first | assumption | exact GS_o h0.1 (by decide) (by decide) | exact RRd_o h0 (by assumption) | exact RRd_o h0 (Or.inr (by assumption)) | exact OBq_o h0 (by assumption) | exact OBq_o h0 (Obt_q (by assumption)) | exact G_part h0.1 (by assumption) | exact Nmo_o (by assumption)); decide; decide) | ((with_reducible refine sf_gG h0 (by assumption) ?_ ?_ ?_ ?_ (by with_unfolding_all exact rfl) ?_); decide; decide; decide; decide) | ((with_reducible refine sf_o ?_ (fun l => ?_)); (first | assumption | exact GS_o h0.1 (by decide) (by decide) | exact RRd_o h0 (by assumption) | exact RRd_o h0 (Or.inr (by assumption)) | exact OBq_o h0 (by assumption) | exact OBq_o h0 (Obt_q (by assumption)) | exact G_part h0.1 (by assumption) | exact Nmo_o (by assumption))) | ((with_reducible refine sf_s ?_)) | ((with_reducible refine sf_sb (by assumption) ?_)) | ((with_reducible refine sf_r ?_ ?_); (first | exact any | assumption | exact ⟨false, rfl⟩ | exact ⟨true, rfl⟩); assumption) | ((with_reducible refine sf_z ?_ ?_ ?_); (first | exact ⟨false, rfl⟩ | exact ⟨true, rfl⟩ | assumption); (first | exact any | exact ⟨false, rfl⟩ | exact ⟨true, rfl⟩ | assumption); assumption) | ((with_reducible refine sx_of (so_where h0 hF (by assumption) (by first | assumption | exact Obt_q (by assumption))) (fun v => ?_))) | ((with_reducible refine sx_of (so_bind h0 hF (by assumption) (by first | assumption | exact Obt_q (by assumption))) (fun v => ?_))) | ((with_reducible refine sx_of (so_group h0 hF (by assumption) (by first | assumption | exact Obt_q (by assumption))) (fun v => ?_))))
end CSC
end
