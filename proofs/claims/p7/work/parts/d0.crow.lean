/-! the class's rows: whatever is written, they stay rows -/
def rowOK (sk : Nat → Nat × Nat × Nat) (L : Nat) (τ : px_TT) (r A n : Nat) : Prop := ob sk L 10 r ∧ ar sk L 0 n A ∧ n ≤ 65536 ∧ fN τ r 0 = some A ∧ (∃ z, z ≤ n ∧ fI τ r 1 = nI z) ∧ (∃ b, fI τ r 2 = bI b) ∧ ∀ k, isB (eI τ A k)
def frRw (r A : Nat) (τ τ' : px_TT) : Prop := (∀ a k, (a ≠ r ∨ (k ≠ 1 ∧ k ≠ 2)) → fI τ' a k = fI τ a k) ∧ (∀ a k, fJ τ' a k = fJ τ a k) ∧ (∀ a k, fN τ' a k = fN τ a k) ∧ (∀ a, a ≠ A → eI τ' a = eI τ a) ∧ (∀ a, eJ τ' a = eJ τ a) ∧ ∀ a, eN τ' a = eN τ a
theorem frRw_refl {r A : Nat} {τ : px_TT} : frRw r A τ τ := ⟨fun _ _ _ => rfl, fun _ _ => rfl, fun _ _ => rfl, fun _ _ => rfl, fun _ => rfl, fun _ => rfl⟩
theorem frRw_trans {r A : Nat} {τ τ1 τ2 : px_TT} (h : frRw r A τ τ1) (g : frRw r A τ1 τ2) : frRw r A τ τ2 := ⟨fun a k x => (g.1 a k x).trans (h.1 a k x), fun a k => (g.2.1 a k).trans (h.2.1 a k), fun a k => (g.2.2.1 a k).trans (h.2.2.1 a k), fun a x => (g.2.2.2.1 a x).trans (h.2.2.2.1 a x), fun a => (g.2.2.2.2.1 a).trans (h.2.2.2.2.1 a), fun a => (g.2.2.2.2.2 a).trans (h.2.2.2.2.2 a)⟩
theorem frRw_1 {r A : Nat} {τ : px_TT} {v : Int32} : frRw r A τ (tI τ r 1 v) := ⟨fun a k h => tI_ne (by omega), fun _ _ => rfl, fun _ _ => rfl, fun _ _ => rfl, fun _ => rfl, fun _ => rfl⟩
theorem frRw_2 {r A : Nat} {τ : px_TT} {v : Int32} : frRw r A τ (tI τ r 2 v) := ⟨fun a k h => tI_ne (by omega), fun _ _ => rfl, fun _ _ => rfl, fun _ _ => rfl, fun _ => rfl, fun _ => rfl⟩
theorem frRw_v {r A : Nat} {τ : px_TT} {g : Nat → Int32} : frRw r A τ (vI τ A g) := ⟨fun _ _ _ => rfl, fun _ _ => rfl, fun _ _ => rfl, fun a h => eI_v_ne h, fun _ => rfl, fun _ => rfl⟩
theorem GR_mx {τ τ' : px_TT} (h : GR τ) (hN : ∀ a k, a < 1726 → fN τ' a k = fN τ a k) (hI : ∀ a k, 10 ≤ a → a < 138 → k < 3 → fI τ' a k = fI τ a k) (h9 : eN τ' 9 = eN τ 9) (h151 : eN τ' 151 = eN τ 151) : GR τ' := by
  refine ⟨fun x hx => ?_, fun i hi => ?_, fun i hi => ?_⟩
  · have hlt : ∀ x, x ∈ grl → x.1 < 1726 := by decide
    rw [hN _ _ (hlt x hx)]
    exact h.1 x hx
  · have g := h.2.1 i hi
    rw [hN _ _ (by omega), hN _ _ (by omega), h9, hI _ _ (by omega) (by omega) (by omega), hI _ _ (by omega) (by omega) (by omega)]
    exact g
  · rw [h151]; exact h.2.2 i hi
theorem GR_Rw {r A : Nat} {τ τ' : px_TT} (h : GR τ) (f : frRw r A τ τ') (hr : r < 10 ∨ 138 ≤ r) : GR τ' := GR_mx h (fun a k _ => f.2.2.1 a k) (fun a k h1 h2 _ => f.1 a k (Or.inl (by omega))) (f.2.2.2.2.2 9) (f.2.2.2.2.2 151)
section CRW
variable {F : Nat} {c : px_CT} {sk : Nat → Nat × Nat × Nat} {L : Nat} {r A n : Nat}
theorem rowOK_1 {τ : px_TT} {z : Nat} (h : rowOK sk L τ r A n) (hz : z ≤ n) : rowOK sk L (tI τ r 1 (nI z)) r A n := by
  obtain ⟨h1, h2, h3, h4, h5, ⟨b, h6⟩, h7⟩ := h
  exact ⟨h1, h2, h3, h4, ⟨z, hz, tI_at⟩, ⟨b, by rw [tI_ne (Or.inr (by decide))]; exact h6⟩, h7⟩
theorem rowOK_2 {τ : px_TT} {b : Bool} (h : rowOK sk L τ r A n) : rowOK sk L (tI τ r 2 (bI b)) r A n := by
  obtain ⟨h1, h2, h3, h4, ⟨z, hz, h5⟩, h6, h7⟩ := h
  exact ⟨h1, h2, h3, h4, ⟨z, hz, by rw [tI_ne (Or.inr (by decide))]; exact h5⟩, ⟨b, tI_at⟩, h7⟩
theorem rowOK_v {τ : px_TT} {g : Nat → Int32} (h : rowOK sk L τ r A n) (hg : ∀ k, isB (g k)) : rowOK sk L (vI τ A g) r A n := by
  obtain ⟨h1, h2, h3, h4, h5, h6, h7⟩ := h
  exact ⟨h1, h2, h3, h4, h5, h6, fun k => by rw [vI_at]; exact hg k⟩
theorem upd_B {g : Nat → Int32} {i : Nat} {v : Int32} (h : ∀ k, isB (g k)) (hv : isB v) (k : Nat) : isB (upd g i v k) := by
  by_cases e : k = i
  · rw [e, pk_us]; exact hv
  · rw [pk_un e]; exact h k
theorem k_clearS {τ : px_TT} (h : rowOK sk L τ r A n) : ∃ τ', f_Row_clear F c r (cH sk L τ) = some ((), cH sk L τ') ∧ rowOK sk L τ' r A n ∧ frRw r A τ τ' := by
  refine ⟨tI (tI τ r 1 (nI 0)) r 2 (bI false), ?_, rowOK_2 (rowOK_1 h (Nat.zero_le _)), frRw_trans frRw_1 frRw_2⟩
  unfold f_Row_clear
  rw [C10p1 h.1, bs, show (nI 0 : Int32) = bI false from rfl, C10z2 h.1, bs]
theorem k_put_3S {v : Int64} {k : Nat} (hk : k < 2 ^ 31) : ∀ (d j f : Nat) (τ : px_TT), j + d = k → d < f → rowOK sk L τ r A n → ∃ τ', f_Row_put_3 F c f r (nI k) v (nI j) (cH sk L τ) = some ((), cH sk L τ') ∧ rowOK sk L τ' r A n ∧ frRw r A τ τ' := by
  intro d
  induction d with
  | zero =>
    intro j f τ hj hf h
    obtain ⟨f, rfl⟩ : ∃ x, f = x + 1 := ⟨f - 1, by omega⟩
    refine ⟨τ, ?_, h, frRw_refl⟩
    unfold f_Row_put_3 f_Row_put_63
    rw [if_pos (nI_le (by omega) (by omega))]
  | succ d ih =>
    intro j f τ hj hf h
    obtain ⟨f, rfl⟩ : ∃ x, f = x + 1 := ⟨f - 1, by omega⟩
    obtain ⟨z, hz, ez⟩ := h.2.2.2.2.1
    have hn := h.2.2.1
    unfold f_Row_put_3 f_Row_put_57
    rw [if_neg (nI_ge (by omega) (by omega)), C10g1 h.1, bs, C10r0 h.1 h.2.2.2.1, bs, c_l h.2.1 (by decide), bs, ez, nI_add]
    by_cases c1 : n ≤ z
    · obtain ⟨τ', g1, g2, g3⟩ := ih (j + 1) f (tI τ r 2 (bI true)) (by omega) (by omega) (rowOK_2 h)
      refine ⟨τ', ?_, g2, frRw_trans frRw_2 g3⟩
      rw [if_pos (nI_le c1 (by omega)), show (nI 1 : Int32) = bI true from rfl, C10z2 h.1, bs]
      exact g1
    · have h1 := rowOK_v (g := upd (eI τ A) z (((((v.toUInt64 >>> (((nI 8) * (nI j)).toInt64.toUInt64 &&& Int64.toUInt64 63)).toInt64).toInt32).toInt8.toInt32).toInt8.toInt32)) h (upd_B h.2.2.2.2.2.2 (isB_8 _))
      have h2 := rowOK_1 (z := z + 1) h1 (by omega)
      obtain ⟨τ', g1, g2, g3⟩ := ih (j + 1) f _ (by omega) (by omega) h2
      refine ⟨τ', ?_, g2, frRw_trans (frRw_trans frRw_v frRw_1) g3⟩
      rw [if_neg (nI_ge (by omega) (by omega)), bs, bs, c_sI h.2.1 (Or.inl rfl) (by omega) (by omega), bs, C10g1 h.1, bs]
      show ((xpI _ 10 1 r (fI τ r 1 + nI 1)).bind _) = _
      rw [ez, nI_add, C10p1 h.1, bs]
      exact g1
theorem k_putS {τ : px_TT} {v : Int64} {k : Nat} (hF : k < F) (hk : k < 2 ^ 31) (h : rowOK sk L τ r A n) : ∃ τ', f_Row_put F c r (nI k) v (cH sk L τ) = some ((), cH sk L τ') ∧ rowOK sk L τ' r A n ∧ frRw r A τ τ' := k_put_3S hk k 0 F τ (Nat.zero_add _) hF h
theorem k_set_3S {v : Int64} {k : Nat} {p : Int32} (hk : k < 2 ^ 31) : ∀ (d j f : Nat) (τ : px_TT), j + d = k → d < f → rowOK sk L τ r A n → ∃ τ', f_Row_set_3 F c f r p (nI k) v (nI j) (cH sk L τ) = some ((), cH sk L τ') ∧ rowOK sk L τ' r A n ∧ frRw r A τ τ' := by
  intro d
  induction d with
  | zero =>
    intro j f τ hj hf h
    obtain ⟨f, rfl⟩ : ∃ x, f = x + 1 := ⟨f - 1, by omega⟩
    refine ⟨τ, ?_, h, frRw_refl⟩
    unfold f_Row_set_3 f_Row_set_51
    rw [if_pos (nI_le (by omega) (by omega))]
  | succ d ih =>
    intro j f τ hj hf h
    obtain ⟨f, rfl⟩ : ∃ x, f = x + 1 := ⟨f - 1, by omega⟩
    obtain ⟨z, hz, ez⟩ := h.2.2.2.2.1
    have hn := h.2.2.1
    unfold f_Row_set_3 f_Row_set_45
    rw [if_neg (nI_ge (by omega) (by omega)), nI_add]
    by_cases c0 : p + nI j < 0
    · rw [if_pos c0]; exact ih (j + 1) f τ (by omega) (by omega) h
    · rw [if_neg c0, C10g1 h.1, bs, ez]
      obtain ⟨i, hi, ei⟩ := nI_of c0
      rw [ei]
      by_cases c1 : z ≤ i
      · rw [if_pos (nI_le c1 hi)]; exact ih (j + 1) f τ (by omega) (by omega) h
      · have h1 := rowOK_v (g := upd (eI τ A) i (((((v.toUInt64 >>> (((nI 8) * (nI j)).toInt64.toUInt64 &&& Int64.toUInt64 63)).toInt64).toInt32).toInt8.toInt32).toInt8.toInt32)) h (upd_B h.2.2.2.2.2.2 (isB_8 _))
        obtain ⟨τ', g1, g2, g3⟩ := ih (j + 1) f _ (by omega) (by omega) h1
        refine ⟨τ', ?_, g2, frRw_trans frRw_v g3⟩
        rw [if_neg (nI_ge (by omega) (by omega)), C10r0 h.1 h.2.2.2.1, bs, c_sI h.2.1 (Or.inl rfl) (by omega) (by omega), bs]
        exact g1
theorem k_setS {τ : px_TT} {v : Int64} {k : Nat} {p : Int32} (hF : k < F) (hk : k < 2 ^ 31) (h : rowOK sk L τ r A n) : ∃ τ', f_Row_set F c r p (nI k) v (cH sk L τ) = some ((), cH sk L τ') ∧ rowOK sk L τ' r A n ∧ frRw r A τ τ' := k_set_3S hk k 0 F τ (Nat.zero_add _) hF h
theorem k_fill3_10S {w : Int32} {e : Nat} (he : e ≤ n) : ∀ (d j f : Nat) (τ : px_TT), j + d = e → d < f → rowOK sk L τ r A n → ∃ τ', f_Arrays_fill_3_10 F c f A (nI e) w (nI j) (cH sk L τ) = some ((), cH sk L τ') ∧ rowOK sk L τ' r A n ∧ frRw r A τ τ' := by
  intro d
  induction d with
  | zero =>
    intro j f τ hj hf h
    have hn := h.2.2.1
    obtain ⟨f, rfl⟩ : ∃ x, f = x + 1 := ⟨f - 1, by omega⟩
    refine ⟨τ, ?_, h, frRw_refl⟩
    unfold f_Arrays_fill_3_10 f_Arrays_fill_3_27
    rw [if_pos (nI_le (by omega) (by omega))]
  | succ d ih =>
    intro j f τ hj hf h
    have hn := h.2.2.1
    obtain ⟨f, rfl⟩ : ∃ x, f = x + 1 := ⟨f - 1, by omega⟩
    obtain ⟨τ', g1, g2, g3⟩ := ih (j + 1) f _ (by omega) (by omega) (rowOK_v (g := upd (eI τ A) j w.toInt8.toInt32) h (upd_B h.2.2.2.2.2.2 (isB_8 _)))
    refine ⟨τ', ?_, g2, frRw_trans frRw_v g3⟩
    unfold f_Arrays_fill_3_10
    rw [if_neg (nI_ge (by omega) (by omega)), c_sI h.2.1 (Or.inl rfl) (by omega) (by omega), bs, nI_add]
    exact g1
theorem k_fillTo_16S {τ : px_TT} {e : Nat} {w : Int32} (hF : 65536 < F) (he : e < 2 ^ 62) (h : rowOK sk L τ r A n) : ∃ τ', f_Row_fillTo_16 F c r (lN e) w (cH sk L τ) = some ((), cH sk L τ') ∧ rowOK sk L τ' r A n ∧ frRw r A τ τ' := by
  obtain ⟨z, hz, ez⟩ := h.2.2.2.2.1
  have hn := h.2.2.1
  obtain ⟨m, hm⟩ : ∃ m, m = (if (nI n).toInt64 < lN e then (nI n).toInt64 else lN e).toInt32 := ⟨_, rfl⟩
  have hmq : ∃ q, q ≤ n ∧ m = nI q := by
    rw [nI_l (by omega)] at hm
    by_cases c2 : lN n < lN e
    · rw [if_pos c2, lN_i] at hm
      exact ⟨n, Nat.le_refl _, hm⟩
    · rw [if_neg c2, lN_i] at hm
      exact ⟨e, Nat.le_of_not_lt (fun q => c2 ((pk_lLT (by omega) (by omega)).mpr q)), hm⟩
  obtain ⟨q, q1, q3⟩ := hmq
  unfold f_Row_fillTo_16 f_Row_fillTo_59
  rw [C10r0 h.1 h.2.2.2.1, bs, c_l h.2.1 (by decide), bs, C10g1 h.1, bs, ez, ← hm, q3]
  by_cases c1 : q ≤ z
  · exact ⟨τ, by rw [if_pos (nI_le c1 (by omega))], h, frRw_refl⟩
  · obtain ⟨τ1, g1, g2, g3⟩ := k_fill3_10S (F := F) (c := c) (w := w.toInt8.toInt32) q1 (q - z) z F τ (by omega) (by omega) h
    refine ⟨tI τ1 r 1 (nI q), ?_, rowOK_1 g2 q1, frRw_trans g3 frRw_1⟩
    rw [if_neg (nI_ge (by omega) (by omega)), bs, bs]
    unfold f_Arrays_fill_3 f_Arrays_rangeCheck
    rw [c_l h.2.1 (by decide), bs, if_pos (nI_le (by omega) (by omega)), if_pos (nI_0le (by omega)), if_pos (nI_le q1 (by omega)), xb_mk, g1, xb_mk, C10p1 h.1, bs]
theorem k_fillToS {τ : px_TT} {e : Nat} {w : Int32} (hF : 65536 < F) (he : e < 2 ^ 62) (h : rowOK sk L τ r A n) : ∃ τ', f_Row_fillTo F c r (lN e) w (cH sk L τ) = some ((), cH sk L τ') ∧ rowOK sk L τ' r A n ∧ frRw r A τ τ' := by
  unfold f_Row_fillTo
  rw [C10r0 h.1 h.2.2.2.1, bs, c_l h.2.1 (by decide), bs]
  by_cases c1 : lN e ≤ (nI n).toInt64
  · rw [if_pos c1]; exact k_fillTo_16S hF he h
  · obtain ⟨τ', g1, g2, g3⟩ := k_fillTo_16S (F := F) (c := c) (e := e) (w := w) hF he (rowOK_2 (b := true) h)
    refine ⟨τ', ?_, g2, frRw_trans frRw_2 g3⟩
    rw [if_neg c1, show (nI 1 : Int32) = bI true from rfl, C10z2 h.1, bs]
    exact g1
theorem k_putAll_2S {j m : Nat} {l : List Nat} (hj : j < pg_nc) (hkB : ki_B (c j).1 = true) (hkv : kv c j l) (hl : l.length = m) (hm : m < 2 ^ 30) (hF : 1 < F) : ∀ (d i f : Nat) (τ : px_TT), i + d = m → d < f → rowOK sk L τ r A n → ∃ τ', f_Row_putAll_2 F c f r j (nI i) (cH sk L τ) = some ((), cH sk L τ') ∧ rowOK sk L τ' r A n ∧ frRw r A τ τ' := by
  intro d
  induction d with
  | zero =>
    intro i f τ hi hf h
    obtain ⟨f, rfl⟩ : ∃ x, f = x + 1 := ⟨f - 1, by omega⟩
    refine ⟨τ, ?_, h, frRw_refl⟩
    unfold f_Row_putAll_2 f_Row_putAll_23
    rw [xkl_at hkv hj, bs, hl, if_pos (nI_le (by omega) (by omega))]
  | succ d ih =>
    intro i f τ hi hf h
    obtain ⟨f, rfl⟩ : ∃ x, f = x + 1 := ⟨f - 1, by omega⟩
    obtain ⟨τ1, a1, a2, a3⟩ := k_putS (F := F) (c := c) (v := (nI (l.getD i 0)).toInt64) (k := 1) hF (by decide) h
    obtain ⟨τ', g1, g2, g3⟩ := ih (i + 1) f τ1 (by omega) (by omega) a2
    refine ⟨τ', ?_, g2, frRw_trans a3 g3⟩
    unfold f_Row_putAll_2
    rw [xkl_at hkv hj, bs, hl, if_neg (nI_ge (by omega) (by omega)), xkB_at hkv hj hkB (by omega) (by omega), bs, c_o h.1, bs, a1, xb_mk, nI_add]
    exact g1
end CRW
