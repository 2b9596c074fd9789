/-! the class's rows, with what stands in them -/
abbrev px_FW : Type := Nat × (Nat → Int32)
def iN (x : Int32) : Nat := x.toInt.toNat
theorem iN_n {i : Nat} (h : i < 2 ^ 31) : iN (nI i) = i := by
  unfold iN
  rw [nI_toInt h]
  exact Int.toNat_natCast i
/-- byte j of a long, as it is written -/
def bV (v : Int64) (j : Nat) : Int32 := (((((v.toUInt64 >>> (((nI 8) * (nI j)).toInt64.toUInt64 &&& Int64.toUInt64 63)).toInt64).toInt32).toInt8.toInt32).toInt8.toInt32)
def wP1 (n : Nat) (b : Int32) (w : px_FW) : px_FW := if n ≤ w.1 then w else (w.1 + 1, upd w.2 w.1 b)
def wPut (n k : Nat) (v : Int64) (w : px_FW) : px_FW := itr (fun j => wP1 n (bV v j)) 0 k w
def wS1 (p b : Int32) (w : px_FW) : px_FW := if p < 0 then w else if w.1 ≤ iN p then w else (w.1, upd w.2 (iN p) b)
def wSet (p : Int32) (k : Nat) (v : Int64) (w : px_FW) : px_FW := itr (fun j => wS1 (p + nI j) (bV v j)) 0 k w
def wCov (S : Nat → Int32) (N : Nat) (p q m : Int32) (w : px_FW) : px_FW := if p < 0 then w else if q < 0 then w else if m < 0 then w else if iN p + iN m ≤ w.1 ∧ iN q + iN m ≤ N then (w.1, va_cpy S w.2 (iN q) (iN p) (iN m)) else w
def wFil (e : Nat) (b : Int32) (w : px_FW) : px_FW := if e ≤ w.1 then w else (e, fun i => if i < w.1 then w.2 i else b)
/-- a row's size and its bytes -/
def fW (r A n : Nat) (τ : px_TT) (w : px_FW) : Prop := w.1 ≤ n ∧ fI τ r 1 = nI w.1 ∧ ∀ i, i < w.1 → eI τ A i = w.2 i
section CRC
variable {F : Nat} {c : px_CT} {sk : Nat → Nat × Nat × Nat} {L : Nat} {r A n : Nat}
theorem fW_z {τ : px_TT} {w : px_FW} {z : Nat} (hw : fW r A n τ w) (hn : n ≤ 65536) (hz : z ≤ n) (ez : fI τ r 1 = nI z) : w.1 = z := (nI_eq (by have := hw.1; omega) (by omega)).mp (hw.2.1.symm.trans ez)
theorem fW_2 {τ : px_TT} {w : px_FW} {v : Int32} (h : fW r A n τ w) : fW r A n (tI τ r 2 v) w := ⟨h.1, (tI_ne (Or.inr (by decide))).trans h.2.1, h.2.2⟩
theorem fW_put {τ : px_TT} {w : px_FW} {z : Nat} {b : Int32} (h : fW r A n τ w) (e : w.1 = z) (hz : z < n) : fW r A n (tI (vI τ A (upd (eI τ A) z b)) r 1 (nI (z + 1))) (wP1 n b w) := by
  subst e
  unfold wP1
  rw [if_neg (by omega)]
  refine ⟨by show w.1 + 1 ≤ n; omega, tI_at, fun i hi => ?_⟩
  have hi' : i < w.1 + 1 := hi
  show eI (vI τ A (upd (eI τ A) w.1 b)) A i = upd w.2 w.1 b i
  rw [vI_at]
  by_cases e : i = w.1
  · rw [e, pk_us, pk_us]
  · rw [pk_un e, pk_un e]
    exact h.2.2 i (by omega)
theorem fW_set {τ : px_TT} {w : px_FW} {i : Nat} {b : Int32} (h : fW r A n τ w) : fW r A n (vI τ A (upd (eI τ A) i b)) (w.1, upd w.2 i b) := by
  refine ⟨h.1, h.2.1, fun k hk => ?_⟩
  show eI (vI τ A (upd (eI τ A) i b)) A k = upd w.2 i b k
  rw [vI_at]
  by_cases e : k = i
  · rw [e, pk_us, pk_us]
  · rw [pk_un e, pk_un e]
    exact h.2.2 k hk
theorem k_clearC {τ : px_TT} (h : rowOK sk L τ r A n) : ∃ τ', f_Row_clear F c r (cH sk L τ) = some ((), cH sk L τ') ∧ rowOK sk L τ' r A n ∧ frRw r A τ τ' ∧ ∀ g, fW r A n τ' (0, g) := by
  refine ⟨tI (tI τ r 1 (nI 0)) r 2 (bI false), ?_, rowOK_2 (rowOK_1 h (Nat.zero_le _)), frRw_trans frRw_1 frRw_2, fun g => ⟨Nat.zero_le _, (tI_ne (Or.inr (by decide))).trans tI_at, fun i hi => absurd hi (Nat.not_lt_zero _)⟩⟩
  unfold f_Row_clear
  rw [C10p1 h.1, bs, show (nI 0 : Int32) = bI false from rfl, C10z2 h.1, bs]
theorem k_put_3C {v : Int64} {k : Nat} (hk : k < 2 ^ 31) : ∀ (d j f : Nat) (τ : px_TT), j + d = k → d < f → rowOK sk L τ r A n → ∃ τ', f_Row_put_3 F c f r (nI k) v (nI j) (cH sk L τ) = some ((), cH sk L τ') ∧ rowOK sk L τ' r A n ∧ frRw r A τ τ' ∧ ∀ w, fW r A n τ w → fW r A n τ' (itr (fun j => wP1 n (bV v j)) j d w) := by
  intro d
  induction d with
  | zero =>
    intro j f τ hj hf h
    obtain ⟨f, rfl⟩ : ∃ x, f = x + 1 := ⟨f - 1, by omega⟩
    refine ⟨τ, ?_, h, frRw_refl, fun w hw => hw⟩
    unfold f_Row_put_3 f_Row_put_63
    rw [if_pos (nI_le (by omega) (by omega))]
  | succ d ih =>
    intro j f τ hj hf h
    obtain ⟨f, rfl⟩ : ∃ x, f = x + 1 := ⟨f - 1, by omega⟩
    obtain ⟨z, hz, ez⟩ := h.2.2.2.2.1
    have hn := h.2.2.1
    unfold f_Row_put_3 f_Row_put_57
    rw [if_neg (nI_ge (by omega) (by omega)), C10g1 h.1, bs, C10r0 h.1 h.2.2.2.1, bs, c_l h.2.1 (by decide), bs, ez, nI_add]
    by_cases c1 : n ≤ z
    · obtain ⟨τ', g1, g2, g3, g4⟩ := ih (j + 1) f (tI τ r 2 (bI true)) (by omega) (by omega) (rowOK_2 h)
      refine ⟨τ', ?_, g2, frRw_trans frRw_2 g3, fun w hw => ?_⟩
      · rw [if_pos (nI_le c1 (by omega)), show (nI 1 : Int32) = bI true from rfl, C10z2 h.1, bs]
        exact g1
      · have e := fW_z hw hn hz ez
        have e1 : wP1 n (bV v j) w = w := by unfold wP1; rw [if_pos (by omega)]
        show fW r A n τ' (itr (fun j => wP1 n (bV v j)) (j + 1) d (wP1 n (bV v j) w))
        rw [e1]
        exact g4 w (fW_2 hw)
    · have h1 := rowOK_v (g := upd (eI τ A) z (bV v j)) h (upd_B h.2.2.2.2.2.2 (isB_8 _))
      have h2 := rowOK_1 (z := z + 1) h1 (by omega)
      obtain ⟨τ', g1, g2, g3, g4⟩ := ih (j + 1) f _ (by omega) (by omega) h2
      refine ⟨τ', ?_, g2, frRw_trans (frRw_trans frRw_v frRw_1) g3, fun w hw => g4 _ (fW_put hw (fW_z hw hn hz ez) (by omega))⟩
      rw [if_neg (nI_ge (by omega) (by omega)), bs, bs, c_sI h.2.1 (Or.inl rfl) (by omega) (by omega), bs, C10g1 h.1, bs]
      show ((xpI _ 10 1 r (fI τ r 1 + nI 1)).bind _) = _
      rw [ez, nI_add, C10p1 h.1, bs]
      exact g1
theorem k_putC {τ : px_TT} {v : Int64} {k : Nat} (hF : k < F) (hk : k < 2 ^ 31) (h : rowOK sk L τ r A n) : ∃ τ', f_Row_put F c r (nI k) v (cH sk L τ) = some ((), cH sk L τ') ∧ rowOK sk L τ' r A n ∧ frRw r A τ τ' ∧ ∀ w, fW r A n τ w → fW r A n τ' (wPut n k v w) := k_put_3C hk k 0 F τ (Nat.zero_add _) hF h
theorem k_set_3C {v : Int64} {k : Nat} {p : Int32} (hk : k < 2 ^ 31) : ∀ (d j f : Nat) (τ : px_TT), j + d = k → d < f → rowOK sk L τ r A n → ∃ τ', f_Row_set_3 F c f r p (nI k) v (nI j) (cH sk L τ) = some ((), cH sk L τ') ∧ rowOK sk L τ' r A n ∧ frRw r A τ τ' ∧ ∀ w, fW r A n τ w → fW r A n τ' (itr (fun j => wS1 (p + nI j) (bV v j)) j d w) := by
  intro d
  induction d with
  | zero =>
    intro j f τ hj hf h
    obtain ⟨f, rfl⟩ : ∃ x, f = x + 1 := ⟨f - 1, by omega⟩
    refine ⟨τ, ?_, h, frRw_refl, fun w hw => hw⟩
    unfold f_Row_set_3 f_Row_set_51
    rw [if_pos (nI_le (by omega) (by omega))]
  | succ d ih =>
    intro j f τ hj hf h
    obtain ⟨f, rfl⟩ : ∃ x, f = x + 1 := ⟨f - 1, by omega⟩
    obtain ⟨z, hz, ez⟩ := h.2.2.2.2.1
    have hn := h.2.2.1
    unfold f_Row_set_3 f_Row_set_45
    rw [if_neg (nI_ge (by omega) (by omega)), nI_add]
    by_cases c0 : p + nI j < 0
    · obtain ⟨τ', g1, g2, g3, g4⟩ := ih (j + 1) f τ (by omega) (by omega) h
      refine ⟨τ', ?_, g2, g3, fun w hw => ?_⟩
      · rw [if_pos c0]; exact g1
      · have e1 : wS1 (p + nI j) (bV v j) w = w := by unfold wS1; rw [if_pos c0]
        show fW r A n τ' (itr (fun j => wS1 (p + nI j) (bV v j)) (j + 1) d (wS1 (p + nI j) (bV v j) w))
        rw [e1]
        exact g4 w hw
    · rw [if_neg c0, C10g1 h.1, bs, ez]
      obtain ⟨i, hi, ei⟩ := nI_of c0
      have eN : iN (p + nI j) = i := by rw [ei]; exact iN_n hi
      by_cases c1 : z ≤ i
      · obtain ⟨τ', g1, g2, g3, g4⟩ := ih (j + 1) f τ (by omega) (by omega) h
        refine ⟨τ', ?_, g2, g3, fun w hw => ?_⟩
        · rw [ei, if_pos (nI_le c1 hi)]; exact g1
        · have e := fW_z hw hn hz ez
          have e1 : wS1 (p + nI j) (bV v j) w = w := by unfold wS1; rw [if_neg c0, if_pos (by rw [eN]; omega)]
          show fW r A n τ' (itr (fun j => wS1 (p + nI j) (bV v j)) (j + 1) d (wS1 (p + nI j) (bV v j) w))
          rw [e1]
          exact g4 w hw
      · have h1 := rowOK_v (g := upd (eI τ A) i (bV v j)) h (upd_B h.2.2.2.2.2.2 (isB_8 _))
        obtain ⟨τ', g1, g2, g3, g4⟩ := ih (j + 1) f _ (by omega) (by omega) h1
        refine ⟨τ', ?_, g2, frRw_trans frRw_v g3, fun w hw => ?_⟩
        · rw [ei, if_neg (nI_ge (by omega) (by omega)), C10r0 h.1 h.2.2.2.1, bs, c_sI h.2.1 (Or.inl rfl) (by omega) (by omega), bs]
          exact g1
        · have e := fW_z hw hn hz ez
          have e1 : wS1 (p + nI j) (bV v j) w = (w.1, upd w.2 i (bV v j)) := by unfold wS1; rw [if_neg c0, eN, if_neg (by omega)]
          show fW r A n τ' (itr (fun j => wS1 (p + nI j) (bV v j)) (j + 1) d (wS1 (p + nI j) (bV v j) w))
          rw [e1]
          exact g4 _ (fW_set hw)
theorem k_setC {τ : px_TT} {v : Int64} {k : Nat} {p : Int32} (hF : k < F) (hk : k < 2 ^ 31) (h : rowOK sk L τ r A n) : ∃ τ', f_Row_set F c r p (nI k) v (cH sk L τ) = some ((), cH sk L τ') ∧ rowOK sk L τ' r A n ∧ frRw r A τ τ' ∧ ∀ w, fW r A n τ w → fW r A n τ' (wSet p k v w) := k_set_3C hk k 0 F τ (Nat.zero_add _) hF h
theorem k_fill3_10C {w : Int32} {e : Nat} (he : e ≤ n) : ∀ (d j f : Nat) (τ : px_TT), j + d = e → d < f → rowOK sk L τ r A n → ∃ τ', f_Arrays_fill_3_10 F c f A (nI e) w (nI j) (cH sk L τ) = some ((), cH sk L τ') ∧ rowOK sk L τ' r A n ∧ frRw r A τ τ' ∧ (∀ a k, fI τ' a k = fI τ a k) ∧ ∀ i, eI τ' A i = if j ≤ i ∧ i < e then w.toInt8.toInt32 else eI τ A i := by
  intro d
  induction d with
  | zero =>
    intro j f τ hj hf h
    have hn := h.2.2.1
    obtain ⟨f, rfl⟩ : ∃ x, f = x + 1 := ⟨f - 1, by omega⟩
    refine ⟨τ, ?_, h, frRw_refl, fun _ _ => rfl, fun i => by rw [if_neg (by omega)]⟩
    unfold f_Arrays_fill_3_10 f_Arrays_fill_3_27
    rw [if_pos (nI_le (by omega) (by omega))]
  | succ d ih =>
    intro j f τ hj hf h
    have hn := h.2.2.1
    obtain ⟨f, rfl⟩ : ∃ x, f = x + 1 := ⟨f - 1, by omega⟩
    obtain ⟨τ', g1, g2, g3, g4, g5⟩ := ih (j + 1) f _ (by omega) (by omega) (rowOK_v (g := upd (eI τ A) j w.toInt8.toInt32) h (upd_B h.2.2.2.2.2.2 (isB_8 _)))
    refine ⟨τ', ?_, g2, frRw_trans frRw_v g3, fun a k => g4 a k, fun i => ?_⟩
    · unfold f_Arrays_fill_3_10
      rw [if_neg (nI_ge (by omega) (by omega)), c_sI h.2.1 (Or.inl rfl) (by omega) (by omega), bs, nI_add]
      exact g1
    · rw [g5 i, vI_at]
      by_cases e1 : i = j
      · rw [e1, if_neg (by omega), if_pos (by omega), pk_us]
      · rw [pk_un e1]
        by_cases e2 : j + 1 ≤ i ∧ i < e
        · rw [if_pos e2, if_pos (by omega)]
        · rw [if_neg e2, if_neg (by omega)]
theorem k_fillTo_16C {τ : px_TT} {e : Nat} {x : Int32} (hF : 65536 < F) (he : e < 2 ^ 62) (h : rowOK sk L τ r A n) : ∃ τ', f_Row_fillTo_16 F c r (lN e) x (cH sk L τ) = some ((), cH sk L τ') ∧ rowOK sk L τ' r A n ∧ frRw r A τ τ' ∧ (e ≤ n → ∀ w, fW r A n τ w → fW r A n τ' (wFil e (x.toInt8.toInt32.toInt8.toInt32) w)) := by
  obtain ⟨z, hz, ez⟩ := h.2.2.2.2.1
  have hn := h.2.2.1
  obtain ⟨m, hm⟩ : ∃ m, m = (if (nI n).toInt64 < lN e then (nI n).toInt64 else lN e).toInt32 := ⟨_, rfl⟩
  have hmq : ∃ q, q ≤ n ∧ m = nI q ∧ (e ≤ n → q = e) := by
    rw [nI_l (by omega)] at hm
    by_cases c2 : lN n < lN e
    · rw [if_pos c2, lN_i] at hm
      exact ⟨n, Nat.le_refl _, hm, fun w => absurd ((pk_lLT (by omega) (by omega)).mp c2) (by omega)⟩
    · rw [if_neg c2, lN_i] at hm
      exact ⟨e, Nat.le_of_not_lt (fun q => c2 ((pk_lLT (by omega) (by omega)).mpr q)), hm, fun _ => rfl⟩
  obtain ⟨q, q1, q3, q4⟩ := hmq
  unfold f_Row_fillTo_16 f_Row_fillTo_59
  rw [C10r0 h.1 h.2.2.2.1, bs, c_l h.2.1 (by decide), bs, C10g1 h.1, bs, ez, ← hm, q3]
  by_cases c1 : q ≤ z
  · refine ⟨τ, by rw [if_pos (nI_le c1 (by omega))], h, frRw_refl, fun hen w hw => ?_⟩
    have e1 := q4 hen
    have e2 := fW_z hw hn hz ez
    unfold wFil
    rw [if_pos (by omega)]
    exact hw
  · obtain ⟨τ1, g1, g2, g3, g4, g5⟩ := k_fill3_10C (F := F) (c := c) (w := x.toInt8.toInt32) q1 (q - z) z F τ (by omega) (by omega) h
    refine ⟨tI τ1 r 1 (nI q), ?_, rowOK_1 g2 q1, frRw_trans g3 frRw_1, fun hen w hw => ?_⟩
    · rw [if_neg (nI_ge (by omega) (by omega)), bs, bs]
      unfold f_Arrays_fill_3 f_Arrays_rangeCheck
      rw [c_l h.2.1 (by decide), bs, if_pos (nI_le (by omega) (by omega)), if_pos (nI_0le (by omega)), if_pos (nI_le q1 (by omega)), xb_mk, g1, xb_mk, C10p1 h.1, bs]
    · have e1 := q4 hen
      have e2 := fW_z hw hn hz ez
      unfold wFil
      rw [if_neg (by omega)]
      refine ⟨hen, by rw [tI_at, e1], fun i hi => ?_⟩
      have hi' : i < e := hi
      show eI τ1 A i = if i < w.1 then w.2 i else x.toInt8.toInt32.toInt8.toInt32
      rw [g5 i]
      by_cases e3 : i < w.1
      · rw [if_neg (by omega), if_pos e3]; exact hw.2.2 i e3
      · rw [if_pos (by omega), if_neg e3]
theorem k_fillToC {τ : px_TT} {e : Nat} {x : Int32} (hF : 65536 < F) (he : e < 2 ^ 62) (h : rowOK sk L τ r A n) : ∃ τ', f_Row_fillTo F c r (lN e) x (cH sk L τ) = some ((), cH sk L τ') ∧ rowOK sk L τ' r A n ∧ frRw r A τ τ' ∧ (e ≤ n → ∀ w, fW r A n τ w → fW r A n τ' (wFil e (x.toInt8.toInt32.toInt8.toInt32) w)) := by
  have hn := h.2.2.1
  unfold f_Row_fillTo
  rw [C10r0 h.1 h.2.2.2.1, bs, c_l h.2.1 (by decide), bs]
  by_cases c1 : lN e ≤ (nI n).toInt64
  · rw [if_pos c1]; exact k_fillTo_16C hF he h
  · obtain ⟨τ', g1, g2, g3, g4⟩ := k_fillTo_16C (F := F) (c := c) (e := e) (x := x) hF he (rowOK_2 (b := true) h)
    refine ⟨τ', ?_, g2, frRw_trans frRw_2 g3, fun hen w hw => g4 hen w (fW_2 hw)⟩
    rw [if_neg c1, show (nI 1 : Int32) = bI true from rfl, C10z2 h.1, bs]
    exact g1
theorem k_putAll_2C {j m : Nat} {l : List Nat} (hj : j < pg_nc) (hkB : ki_B (c j).1 = true) (hkv : kv c j l) (hl : l.length = m) (hm : m < 2 ^ 30) (hF : 1 < F) : ∀ (d i f : Nat) (τ : px_TT), i + d = m → d < f → rowOK sk L τ r A n → ∃ τ', f_Row_putAll_2 F c f r j (nI i) (cH sk L τ) = some ((), cH sk L τ') ∧ rowOK sk L τ' r A n ∧ frRw r A τ τ' ∧ ∀ w, fW r A n τ w → fW r A n τ' (itr (fun i => wPut n 1 ((nI (l.getD i 0)).toInt64)) i d w) := by
  intro d
  induction d with
  | zero =>
    intro i f τ hi hf h
    obtain ⟨f, rfl⟩ : ∃ x, f = x + 1 := ⟨f - 1, by omega⟩
    refine ⟨τ, ?_, h, frRw_refl, fun w hw => hw⟩
    unfold f_Row_putAll_2 f_Row_putAll_23
    rw [xkl_at hkv hj, bs, hl, if_pos (nI_le (by omega) (by omega))]
  | succ d ih =>
    intro i f τ hi hf h
    obtain ⟨f, rfl⟩ : ∃ x, f = x + 1 := ⟨f - 1, by omega⟩
    obtain ⟨τ1, a1, a2, a3, a4⟩ := k_putC (F := F) (c := c) (v := (nI (l.getD i 0)).toInt64) (k := 1) hF (by decide) h
    obtain ⟨τ', g1, g2, g3, g4⟩ := ih (i + 1) f τ1 (by omega) (by omega) a2
    refine ⟨τ', ?_, g2, frRw_trans a3 g3, fun w hw => g4 _ (a4 w hw)⟩
    unfold f_Row_putAll_2
    rw [xkl_at hkv hj, bs, hl, if_neg (nI_ge (by omega) (by omega)), xkB_at hkv hj hkB (by omega) (by omega), bs, c_o h.1, bs, a1, xb_mk, nI_add]
    exact g1
theorem k_coverC {τ : px_TT} {S N : Nat} {p q m : Int32} (hS : ar sk L 0 N S) (hN : N ≤ 65536) (hB : ∀ k, isB (eI τ S k)) (h : rowOK sk L τ r A n) : ∃ τ', f_Row_cover F c r p S q m (cH sk L τ) = some ((), cH sk L τ') ∧ rowOK sk L τ' r A n ∧ frRw r A τ τ' ∧ ∀ w, fW r A n τ w → fW r A n τ' (wCov (eI τ S) N p q m w) := by
  obtain ⟨z, hz, ez⟩ := h.2.2.2.2.1
  have hn := h.2.2.1
  unfold f_Row_cover f_Row_cover_33
  by_cases c1 : p < 0
  · exact ⟨τ, by rw [if_pos c1], h, frRw_refl, fun w hw => by unfold wCov; rw [if_pos c1]; exact hw⟩
  · rw [if_neg c1]
    by_cases c2 : q < 0
    · exact ⟨τ, by rw [if_pos c2], h, frRw_refl, fun w hw => by unfold wCov; rw [if_neg c1, if_pos c2]; exact hw⟩
    · rw [if_neg c2]
      by_cases c3 : m < 0
      · exact ⟨τ, by rw [if_pos c3], h, frRw_refl, fun w hw => by unfold wCov; rw [if_neg c1, if_neg c2, if_pos c3]; exact hw⟩
      · obtain ⟨p', hp, ep⟩ := nI_of c1
        obtain ⟨q', hq, eq⟩ := nI_of c2
        obtain ⟨m', hm, em⟩ := nI_of c3
        have ip : iN p = p' := by rw [ep]; exact iN_n hp
        have iq : iN q = q' := by rw [eq]; exact iN_n hq
        have im : iN m = m' := by rw [em]; exact iN_n hm
        have eW : ∀ w : px_FW, wCov (eI τ S) N p q m w = if p' + m' ≤ w.1 ∧ q' + m' ≤ N then (w.1, va_cpy (eI τ S) w.2 q' p' m') else w := fun w => by
          unfold wCov
          rw [if_neg c1, if_neg c2, if_neg c3, ip, iq, im]
        rw [if_neg c3, C10g1 h.1, bs, ez, c_l hS (by decide), ep, eq, em]
        rw [ep, eq, em] at eW
        by_cases c4 : p' + m' ≤ z
        · rw [if_neg (fun w => (sub_lt31 (by omega) hp hm).mp w c4), bs]
          by_cases c5 : q' + m' ≤ N
          · refine ⟨vI τ A (va_cpy (eI τ S) (eI τ A) q' p' m'), ?_, rowOK_v h (cpy_B hB h.2.2.2.2.2.2), frRw_v, fun w hw => ?_⟩
            · rw [if_pos ((sub_le31 (by omega) hq hm).mpr c5), C10r0 h.1 h.2.2.2.1, bs, c_cpy h.2.1 hS hB hq hp hm c5 (by omega), bs]
            · have e := fW_z hw hn hz ez
              rw [eW w, if_pos ⟨by omega, c5⟩]
              refine ⟨hw.1, hw.2.1, fun i hi => ?_⟩
              show eI (vI τ A (va_cpy (eI τ S) (eI τ A) q' p' m')) A i = va_cpy (eI τ S) w.2 q' p' m' i
              rw [vI_at]
              unfold va_cpy
              split
              · rfl
              · exact hw.2.2 i hi
          · exact ⟨τ, by rw [if_neg (fun w => c5 ((sub_le31 (by omega) hq hm).mp w))], h, frRw_refl, fun w hw => by rw [eW w, if_neg (fun u => c5 u.2)]; exact hw⟩
        · exact ⟨τ, by rw [if_pos ((sub_lt31 (by omega) hp hm).mpr c4)], h, frRw_refl, fun w hw => by have e := fW_z hw hn hz ez; rw [eW w, if_neg (fun u => c4 (by omega))]; exact hw⟩
end CRC
