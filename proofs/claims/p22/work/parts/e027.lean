section
/-! rows of the class that grow: what stands there stays -/
/-- the row has grown, its bytes are as they were -/
def APq (r A n : Nat) (τ τ' : px_TT) : Prop := ∀ z, z ≤ n → fI τ r 1 = nI z → ∃ z', z ≤ z' ∧ z' ≤ n ∧ fI τ' r 1 = nI z' ∧ ∀ i, i < z → eI τ' A i = eI τ A i
theorem APq_refl {r A n : Nat} {τ : px_TT} : APq r A n τ τ := fun z hz e => ⟨z, Nat.le_refl _, hz, e, fun _ _ => rfl⟩
theorem APq_trans {r A n : Nat} {τ τ1 τ2 : px_TT} (h : APq r A n τ τ1) (g : APq r A n τ1 τ2) : APq r A n τ τ2 := fun z hz e => by
  obtain ⟨z1, a1, a2, a3, a4⟩ := h z hz e
  obtain ⟨z2, b1, b2, b3, b4⟩ := g z1 a2 a3
  exact ⟨z2, by omega, b2, b3, fun i hi => (b4 i (by omega)).trans (a4 i hi)⟩
theorem APq_of {r A n : Nat} {τ τ' : px_TT} {g : px_FW → px_FW} (hg : ∀ w, w.1 ≤ (g w).1 ∧ ∀ i, i < w.1 → (g w).2 i = w.2 i) (h : ∀ w, fW r A n τ w → fW r A n τ' (g w)) : APq r A n τ τ' := fun z hz e => by
  obtain ⟨f1, f2, f3⟩ := h (z, eI τ A) ⟨hz, e, fun _ _ => rfl⟩
  obtain ⟨p1, p2⟩ := hg (z, eI τ A)
  exact ⟨_, p1, f1, f2, fun i hi => (f3 i (Nat.lt_of_lt_of_le hi p1)).trans (p2 i hi)⟩
theorem wP1_k {n : Nat} {b : Int32} (w : px_FW) : w.1 ≤ (wP1 n b w).1 ∧ ∀ i, i < w.1 → (wP1 n b w).2 i = w.2 i := by
  unfold wP1
  split
  · exact ⟨Nat.le_refl _, fun _ _ => rfl⟩
  · exact ⟨Nat.le_succ _, fun i hi => pk_un (by omega)⟩
theorem itr_k {g : Nat → px_FW → px_FW} (hg : ∀ j w, w.1 ≤ (g j w).1 ∧ ∀ i, i < w.1 → (g j w).2 i = w.2 i) : ∀ (d j : Nat) (w : px_FW), w.1 ≤ (itr g j d w).1 ∧ ∀ i, i < w.1 → (itr g j d w).2 i = w.2 i := by
  intro d
  induction d with
  | zero => intro j w; rw [itr_0]; exact ⟨Nat.le_refl _, fun _ _ => rfl⟩
  | succ d ih =>
    intro j w
    rw [itr_s]
    obtain ⟨a1, a2⟩ := hg j w
    obtain ⟨b1, b2⟩ := ih (j + 1) (g j w)
    exact ⟨by omega, fun i hi => (b2 i (by omega)).trans (a2 i hi)⟩
theorem wPut_k {n k : Nat} {v : Int64} (w : px_FW) : w.1 ≤ (wPut n k v w).1 ∧ ∀ i, i < w.1 → (wPut n k v w).2 i = w.2 i := itr_k (g := fun j => wP1 n (bV v j)) (fun j w => wP1_k w) k 0 w
theorem wCpy_k {S : Nat → Int32} {n q m : Nat} (w : px_FW) : w.1 ≤ (wCpy S n q m w).1 ∧ ∀ i, i < w.1 → (wCpy S n q m w).2 i = w.2 i := by
  unfold wCpy
  split
  · exact ⟨Nat.le_add_right _ _, fun i hi => pk_cpy_out (Or.inl hi)⟩
  · exact ⟨Nat.le_refl _, fun _ _ => rfl⟩
section CAP
variable {F : Nat} {c : px_CT} {sk : Nat → Nat × Nat × Nat} {L : Nat} {r A n : Nat}
theorem k_putA {τ : px_TT} {v : Int64} {k : Nat} (hF : k < F) (hk : k < 2 ^ 31) (h : rowOK sk L τ r A n) : ∃ τ', f_Row_put F c r (nI k) v (cH sk L τ) = some ((), cH sk L τ') ∧ rowOK sk L τ' r A n ∧ frRw r A τ τ' ∧ APq r A n τ τ' := by
  obtain ⟨τ', a1, a2, a3, a4⟩ := k_putC (F := F) (c := c) (v := v) hF hk h
  exact ⟨τ', a1, a2, a3, APq_of (fun w => wPut_k w) a4⟩
theorem k_copyA {τ : px_TT} {S N q m : Nat} (hS : ar sk L 0 N S) (hN : N ≤ 65536) (hB : ∀ k, isB (eI τ S k)) (hqm : q + m ≤ N) (h : rowOK sk L τ r A n) : ∃ τ', f_Row_copy F c r S (nI q) (nI m) (cH sk L τ) = some ((), cH sk L τ') ∧ rowOK sk L τ' r A n ∧ frRw r A τ τ' ∧ APq r A n τ τ' := by
  obtain ⟨τ', a1, a2, a3, a4⟩ := k_copyC (F := F) (c := c) hS hN hB hqm h
  exact ⟨τ', a1, a2, a3, APq_of (fun w => wCpy_k w) a4⟩
theorem APq_2 {τ : px_TT} {v : Int32} : APq r A n τ (tI τ r 2 v) := fun z hz e => ⟨z, Nat.le_refl _, hz, (tI_ne (Or.inr (by decide))).trans e, fun _ _ => rfl⟩
theorem k_fillTo_16A {τ : px_TT} {e : Nat} {x : Int32} (hF : 65536 < F) (he : e < 2 ^ 62) (h : rowOK sk L τ r A n) : ∃ τ', f_Row_fillTo_16 F c r (lN e) x (cH sk L τ) = some ((), cH sk L τ') ∧ rowOK sk L τ' r A n ∧ frRw r A τ τ' ∧ APq r A n τ τ' := by
  obtain ⟨z, hz, ez⟩ := h.2.2.2.2.1
  have hn := h.2.2.1
  obtain ⟨m, hm⟩ : ∃ m, m = (if (nI n).toInt64 < lN e then (nI n).toInt64 else lN e).toInt32 := ⟨_, rfl⟩
  have hmq : ∃ q, q ≤ n ∧ m = nI q := by
    rw [nI_l (by omega)] at hm
    by_cases c2 : lN n < lN e
    · rw [if_pos c2, lN_i] at hm
      exact ⟨n, Nat.le_refl _, hm⟩
    · rw [if_neg c2, lN_i] at hm
      exact ⟨e, Nat.le_of_not_lt (fun q => c2 ((pk_lLT (by omega) (by omega)).mpr q)), hm⟩
  obtain ⟨q, q1, q3⟩ := hmq
  unfold f_Row_fillTo_16 f_Row_fillTo_59
  rw [C10r0 h.1 h.2.2.2.1, bs, c_l h.2.1 (by decide), bs, C10g1 h.1, bs, ez, ← hm, q3]
  by_cases c1 : q ≤ z
  · exact ⟨τ, by rw [if_pos (nI_le c1 (by omega))], h, frRw_refl, APq_refl⟩
  · obtain ⟨τ1, g1, g2, g3, g4, g5⟩ := k_fill3_10C (F := F) (c := c) (w := x.toInt8.toInt32) q1 (q - z) z F τ (by omega) (by omega) h
    refine ⟨tI τ1 r 1 (nI q), ?_, rowOK_1 g2 q1, frRw_trans g3 frRw_1, fun z0 hz0 e0 => ⟨q, ?_, q1, tI_at, fun i hi => ?_⟩⟩
    · rw [if_neg (nI_ge (by omega) (by omega)), bs, bs]
      unfold f_Arrays_fill_3 f_Arrays_rangeCheck
      rw [c_l h.2.1 (by decide), bs, if_pos (nI_le (by omega) (by omega)), if_pos (nI_0le (by omega)), if_pos (nI_le q1 (by omega)), xb_mk, g1, xb_mk, C10p1 h.1, bs]
    · have : z0 = z := (nI_eq (by omega) (by omega)).mp (e0.symm.trans ez)
      omega
    · have : z0 = z := (nI_eq (by omega) (by omega)).mp (e0.symm.trans ez)
      show eI τ1 A i = eI τ A i
      rw [g5 i, if_neg (by omega)]
theorem k_fillToA {τ : px_TT} {e : Nat} {x : Int32} (hF : 65536 < F) (he : e < 2 ^ 62) (h : rowOK sk L τ r A n) : ∃ τ', f_Row_fillTo F c r (lN e) x (cH sk L τ) = some ((), cH sk L τ') ∧ rowOK sk L τ' r A n ∧ frRw r A τ τ' ∧ APq r A n τ τ' := by
  unfold f_Row_fillTo
  rw [C10r0 h.1 h.2.2.2.1, bs, c_l h.2.1 (by decide), bs]
  by_cases c1 : lN e ≤ (nI n).toInt64
  · rw [if_pos c1]; exact k_fillTo_16A hF he h
  · obtain ⟨τ', g1, g2, g3, g4⟩ := k_fillTo_16A (F := F) (c := c) (e := e) (x := x) hF he (rowOK_2 (b := true) h)
    refine ⟨τ', ?_, g2, frRw_trans frRw_2 g3, APq_trans APq_2 g4⟩
    rw [if_neg c1, show (nI 1 : Int32) = bI true from rfl, C10z2 h.1, bs]
    exact g1
theorem k_writeTo_2A {p : Nat} (hF : 1 < F) (hp : ob sk L 5 p) : ∀ (d j f : Nat) (τ : px_TT), j + d = 24 → d < f → rowOK sk L τ r A n → ∃ τ', f_Name_writeTo_2 F c f p r (nI j) (cH sk L τ) = some ((), cH sk L τ') ∧ rowOK sk L τ' r A n ∧ frRw r A τ τ' ∧ APq r A n τ τ' := by
  intro d
  induction d with
  | zero =>
    intro j f τ hj hf h
    obtain ⟨f, rfl⟩ : ∃ x, f = x + 1 := ⟨f - 1, by omega⟩
    refine ⟨τ, ?_, h, frRw_refl, APq_refl⟩
    unfold f_Name_writeTo_2 f_Name_writeTo_67
    rw [C5g3 hp, bs]
    split
    · rfl
    · rw [if_pos (nI_le (by omega) (by omega))]
  | succ d ih =>
    intro j f τ hj hf h
    obtain ⟨f, rfl⟩ : ∃ x, f = x + 1 := ⟨f - 1, by omega⟩
    have step : ∀ w : Int64, ∃ τ', f_Name_writeTo_46 F c (f_Name_writeTo_2 F c f) p r (nI j) w (cH sk L τ) = some ((), cH sk L τ') ∧ rowOK sk L τ' r A n ∧ frRw r A τ τ' ∧ APq r A n τ τ' := fun w => by
      obtain ⟨τ1, a1, a2, a3, a4⟩ := k_putA (F := F) (c := c) (v := ((w.toUInt64 >>> (((nI 8) * ((nI j) &&& (nI 7))).toInt64.toUInt64 &&& Int64.toUInt64 63)).toInt64)) (k := 1) hF (by decide) h
      obtain ⟨τ2, b1, b2, b3, b4⟩ := ih (j + 1) f τ1 (by omega) (by omega) a2
      refine ⟨τ2, ?_, b2, frRw_trans a3 b3, APq_trans a4 b4⟩
      unfold f_Name_writeTo_46
      rw [c_o h.1, bs, a1, xb_mk, nI_add]
      exact b1
    unfold f_Name_writeTo_2 f_Name_writeTo_67
    rw [C5g3 hp, bs, if_neg (nI_ge (show j < 24 by omega) (by decide)), C5g0 hp, C5g1 hp, C5g2 hp, bs, bs, bs]
    split
    · exact ⟨τ, rfl, h, frRw_refl, APq_refl⟩
    · split
      · split
        · exact step _
        · exact step _
      · exact step _
theorem k_writeToA {τ : px_TT} {p : Nat} (hF : 24 < F) (hp : ob sk L 5 p) (h : rowOK sk L τ r A n) : ∃ τ', f_Name_writeTo F c p r (cH sk L τ) = some ((), cH sk L τ') ∧ rowOK sk L τ' r A n ∧ frRw r A τ τ' ∧ APq r A n τ τ' := k_writeTo_2A (by omega) hp 24 0 F τ rfl (by omega) h
theorem k_putHex_3A {v : Int64} (hF : 1 < F) : ∀ (d f : Nat) (τ : px_TT), d ≤ 16 → d < f → rowOK sk L τ r A n → ∃ τ', f_Row_putHex_3 F c f r v (nI (4 * d) - nI 4) (cH sk L τ) = some ((), cH sk L τ') ∧ rowOK sk L τ' r A n ∧ frRw r A τ τ' ∧ APq r A n τ τ' := by
  intro d
  induction d with
  | zero =>
    intro f τ hd hf h
    obtain ⟨f, rfl⟩ : ∃ x, f = x + 1 := ⟨f - 1, by omega⟩
    refine ⟨τ, ?_, h, frRw_refl, APq_refl⟩
    unfold f_Row_putHex_3 f_Row_putHex_52
    rw [if_pos (by decide)]
  | succ d ih =>
    intro f τ hd hf h
    obtain ⟨f, rfl⟩ : ∃ x, f = x + 1 := ⟨f - 1, by omega⟩
    have e4 : nI (4 * (d + 1)) - nI 4 = nI (4 * d) := by rw [pk_sub (by omega), show 4 * (d + 1) - 4 = 4 * d by omega]
    have em : nI (4 * d) + Int32.ofInt (-4) = nI (4 * d) - nI 4 := by rw [Int32.sub_eq_add_neg]; rfl
    have step : ∀ w : Int64, ∃ τ', f_Row_putHex_43 F c (f_Row_putHex_3 F c f) r v (nI (4 * d)) r (nI 1) w (cH sk L τ) = some ((), cH sk L τ') ∧ rowOK sk L τ' r A n ∧ frRw r A τ τ' ∧ APq r A n τ τ' := fun w => by
      obtain ⟨τ1, a1, a2, a3, a4⟩ := k_putA (F := F) (c := c) (v := w) (k := 1) hF (by decide) h
      obtain ⟨τ2, b1, b2, b3, b4⟩ := ih f τ1 (by omega) (by omega) a2
      refine ⟨τ2, ?_, b2, frRw_trans a3 b3, APq_trans a4 b4⟩
      unfold f_Row_putHex_43
      rw [c_o h.1, bs, a1, xb_mk, em]
      exact b1
    rw [e4]
    unfold f_Row_putHex_3 f_Row_putHex_52
    rw [if_neg (show ¬ nI (4 * d) < 0 from nI_pos (by omega))]
    split
    · exact step _
    · exact step _
theorem k_putHexA {τ : px_TT} {v : Int64} (hF : 16 < F) (h : rowOK sk L τ r A n) : ∃ τ', f_Row_putHex F c r v (cH sk L τ) = some ((), cH sk L τ') ∧ rowOK sk L τ' r A n ∧ frRw r A τ τ' ∧ APq r A n τ τ' := k_putHex_3A (by omega) 16 F τ (Nat.le_refl _) (by omega) h
theorem k_putDec_3A {v : Int32} (hF : 1 < F) : ∀ (d f : Nat) (τ : px_TT), d ≤ 9 → d + 1 < f → rowOK sk L τ r A n → ∃ τ', f_Row_putDecimal_3 F c f r v (nI (10 ^ d)) (cH sk L τ) = some ((), cH sk L τ') ∧ rowOK sk L τ' r A n ∧ frRw r A τ τ' ∧ APq r A n τ τ' := by
  intro d
  induction d with
  | zero =>
    intro f τ hd hf h
    obtain ⟨f, rfl⟩ : ∃ x, f = x + 2 := ⟨f - 2, by omega⟩
    have e0 : ∀ τ1, f_Row_putDecimal_32 F c (f_Row_putDecimal_3 F c (f + 1)) r v (nI (10 ^ 0)) (cH sk L τ1) = some ((), cH sk L τ1) := fun τ1 => by
      unfold f_Row_putDecimal_32 f_Row_putDecimal_3 f_Row_putDecimal_40
      rw [if_pos (by decide)]
    obtain ⟨τ1, a1, a2, a3, a4⟩ := k_putA (F := F) (c := c) (v := (((nI 48) + ((v / (nI (10 ^ 0))) - (v / (nI (10 ^ 0))) / (nI 10) * (nI 10))).toInt64)) (k := 1) hF (by decide) h
    have e17 : f_Row_putDecimal_17 F c (f_Row_putDecimal_3 F c (f + 1)) r v (nI (10 ^ 0)) (cH sk L τ) = some ((), cH sk L τ1) := by
      unfold f_Row_putDecimal_17
      rw [show xnzI (nI (10 ^ 0)) = some () from rfl, bs, c_o h.1, bs, a1, xb_mk, e0]
    refine ⟨τ1, ?_, a2, a3, a4⟩
    unfold f_Row_putDecimal_3
    rw [if_neg (by decide), e17, if_pos (show nI (10 ^ 0) = nI 1 from rfl)]
    split
    · rfl
    · rfl
  | succ d ih =>
    intro f τ hd hf h
    obtain ⟨f, rfl⟩ : ∃ x, f = x + 1 := ⟨f - 1, by omega⟩
    have hp : 10 ^ (d + 1) ≤ 10 ^ 9 := Nat.pow_le_pow_right (by decide) hd
    have hpos : 0 < 10 ^ (d + 1) := Nat.pow_pos (by decide)
    have ed : nI (10 ^ (d + 1)) / nI 10 = nI (10 ^ d) := by rw [pk_div (by omega) (by decide) (by decide), Nat.pow_succ, Nat.mul_div_cancel _ (by decide)]
    have e32 : ∀ τ1, rowOK sk L τ1 r A n → ∃ τ', f_Row_putDecimal_32 F c (f_Row_putDecimal_3 F c f) r v (nI (10 ^ (d + 1))) (cH sk L τ1) = some ((), cH sk L τ') ∧ rowOK sk L τ' r A n ∧ frRw r A τ1 τ' ∧ APq r A n τ1 τ' := fun τ1 h1 => by
      unfold f_Row_putDecimal_32
      rw [ed]
      exact ih f τ1 (by omega) (by omega) h1
    have e17 : ∃ τ', f_Row_putDecimal_17 F c (f_Row_putDecimal_3 F c f) r v (nI (10 ^ (d + 1))) (cH sk L τ) = some ((), cH sk L τ') ∧ rowOK sk L τ' r A n ∧ frRw r A τ τ' ∧ APq r A n τ τ' := by
      obtain ⟨τ1, a1, a2, a3, a4⟩ := k_putA (F := F) (c := c) (v := (((nI 48) + ((v / (nI (10 ^ (d + 1)))) - (v / (nI (10 ^ (d + 1)))) / (nI 10) * (nI 10))).toInt64)) (k := 1) hF (by decide) h
      obtain ⟨τ2, b1, b2, b3, b4⟩ := e32 τ1 a2
      refine ⟨τ2, ?_, b2, frRw_trans a3 b3, APq_trans a4 b4⟩
      unfold f_Row_putDecimal_17
      have e0 : xnzI (nI (10 ^ (d + 1))) = some () := by
        unfold xnzI
        rw [if_neg (fun q => by have := (nI_eq (by omega) (by decide)).mp (show nI (10 ^ (d + 1)) = nI 0 from q); omega)]
      rw [e0, bs, c_o h.1, bs, a1, xb_mk]
      exact b1
    unfold f_Row_putDecimal_3
    rw [if_neg (show ¬ nI (10 ^ (d + 1)) ≤ 0 from nI_ge (a := 0) hpos (by omega))]
    split
    · exact e17
    · split
      · exact e17
      · exact e32 τ h
theorem k_putDecA {τ : px_TT} {v : Int32} (hF : 16 < F) (h : rowOK sk L τ r A n) : ∃ τ', f_Row_putDecimal F c r v (cH sk L τ) = some ((), cH sk L τ') ∧ rowOK sk L τ' r A n ∧ frRw r A τ τ' ∧ APq r A n τ τ' := k_putDec_3A (by omega) 9 F τ (Nat.le_refl _) (by omega) h
theorem k_putHigh_3A {v : Int32} (hF : 1 < F) : ∀ (d f : Nat) (τ : px_TT), d ≤ 4 → d < f → rowOK sk L τ r A n → ∃ τ', f_Row_putHighestFirst_3 F c f r v (nI (8 * d) - nI 8) (cH sk L τ) = some ((), cH sk L τ') ∧ rowOK sk L τ' r A n ∧ frRw r A τ τ' ∧ APq r A n τ τ' := by
  intro d
  induction d with
  | zero =>
    intro f τ hd hf h
    obtain ⟨f, rfl⟩ : ∃ x, f = x + 1 := ⟨f - 1, by omega⟩
    refine ⟨τ, ?_, h, frRw_refl, APq_refl⟩
    unfold f_Row_putHighestFirst_3 f_Row_putHighestFirst_22
    rw [if_pos (by decide)]
  | succ d ih =>
    intro f τ hd hf h
    obtain ⟨f, rfl⟩ : ∃ x, f = x + 1 := ⟨f - 1, by omega⟩
    have e4 : nI (8 * (d + 1)) - nI 8 = nI (8 * d) := by rw [pk_sub (by omega), show 8 * (d + 1) - 8 = 8 * d by omega]
    have em : nI (8 * d) + Int32.ofInt (-8) = nI (8 * d) - nI 8 := by rw [Int32.sub_eq_add_neg]; rfl
    rw [e4]
    obtain ⟨τ1, a1, a2, a3, a4⟩ := k_putA (F := F) (c := c) (v := (((v.toUInt32 >>> ((nI (8 * d)).toUInt32 &&& Int32.toUInt32 31)).toInt32).toInt64)) (k := 1) hF (by decide) h
    obtain ⟨τ2, b1, b2, b3, b4⟩ := ih f τ1 (by omega) (by omega) a2
    refine ⟨τ2, ?_, b2, frRw_trans a3 b3, APq_trans a4 b4⟩
    unfold f_Row_putHighestFirst_3 f_Row_putHighestFirst_22
    rw [if_neg (show ¬ nI (8 * d) < 0 from nI_pos (by omega)), c_o h.1, bs, a1, xb_mk, em]
    exact b1
theorem k_putHighA {τ : px_TT} {v : Int32} (hF : 16 < F) (h : rowOK sk L τ r A n) : ∃ τ', f_Row_putHighestFirst F c r v (cH sk L τ) = some ((), cH sk L τ') ∧ rowOK sk L τ' r A n ∧ frRw r A τ τ' ∧ APq r A n τ τ' := k_putHigh_3A (by omega) 4 F τ (Nat.le_refl _) (by omega) h
theorem k_putAll_2A {j m : Nat} {l : List Nat} (hj : j < pg_nc) (hkB : ki_B (c j).1 = true) (hkv : kv c j l) (hl : l.length = m) (hm : m < 2 ^ 30) (hF : 1 < F) : ∀ (d i f : Nat) (τ : px_TT), i + d = m → d < f → rowOK sk L τ r A n → ∃ τ', f_Row_putAll_2 F c f r j (nI i) (cH sk L τ) = some ((), cH sk L τ') ∧ rowOK sk L τ' r A n ∧ frRw r A τ τ' ∧ APq r A n τ τ' := by
  intro d
  induction d with
  | zero =>
    intro i f τ hi hf h
    obtain ⟨f, rfl⟩ : ∃ x, f = x + 1 := ⟨f - 1, by omega⟩
    refine ⟨τ, ?_, h, frRw_refl, APq_refl⟩
    unfold f_Row_putAll_2 f_Row_putAll_23
    rw [xkl_at hkv hj, bs, hl, if_pos (nI_le (by omega) (by omega))]
  | succ d ih =>
    intro i f τ hi hf h
    obtain ⟨f, rfl⟩ : ∃ x, f = x + 1 := ⟨f - 1, by omega⟩
    obtain ⟨τ1, a1, a2, a3, a4⟩ := k_putA (F := F) (c := c) (v := (nI (l.getD i 0)).toInt64) (k := 1) hF (by decide) h
    obtain ⟨τ', g1, g2, g3, g4⟩ := ih (i + 1) f τ1 (by omega) (by omega) a2
    refine ⟨τ', ?_, g2, frRw_trans a3 g3, APq_trans a4 g4⟩
    unfold f_Row_putAll_2
    rw [xkl_at hkv hj, bs, hl, if_neg (nI_ge (by omega) (by omega)), xkB_at hkv hj hkB (by omega) (by omega), bs, c_o h.1, bs, a1, xb_mk, nI_add]
    exact g1
end CAP
/-- the row has bytes, and the first one is none of an executable -/
def BOK (r A : Nat) (τ : px_TT) : Prop := ∃ z, 0 < z ∧ z ≤ 65536 ∧ fI τ r 1 = nI z ∧ b8 (eI τ A 0) ≠ 127
/-- what growing leaves, and what is written elsewhere -/
def StA (r : Nat) (P : px_TT → Prop) : Prop := (∀ τ τ', P τ → APq r (r + 1) 65536 τ τ' → P τ') ∧ ∀ τ τ', P τ → fI τ' r 1 = fI τ r 1 → eI τ' (r + 1) = eI τ (r + 1) → P τ'
/-- as SZ, and P where there are bytes -/
def SZQ (P : px_TT → Prop) (zb : Option Nat) (sk : Nat → Nat × Nat × Nat) (L : Nat) (τ0 : px_TT) (r n cc : Nat) (τ : px_TT) : Prop := SZ zb sk L τ0 r n cc τ ∧ (0 < cc → P τ) ∧ StA r P
/-- as SZ, and the first byte is none of an executable -/
abbrev SZP (zb : Option Nat) (sk : Nat → Nat × Nat × Nat) (L : Nat) (τ0 : px_TT) (r n cc : Nat) (τ : px_TT) : Prop := SZQ (BOK r (r + 1)) zb sk L τ0 r n cc τ
section CSP
variable {F : Nat} {c : px_CT} {sk : Nat → Nat × Nat × Nat} {L : Nat} {zb : Option Nat} {τ0 τ τ' : px_TT} {r A n cc cd k : Nat} {α β : Type} {V : α → Prop} {P : px_TT → Prop}
theorem cH_fI {r : Nat} (h : ob sk L 10 r) (e : cH sk L τ = cH sk L τ') : fI τ r 1 = fI τ' r 1 := by
  have w := C10g1 (τ := τ) h
  rw [e, C10g1 h] at w
  exact (Option.some.inj w).symm
theorem cH_eI {A n : Nat} (h : ar sk L 0 n A) (e : cH sk L τ = cH sk L τ') : eI τ A = eI τ' A := by
  have w := c_A (τ := τ) h (Or.inl rfl)
  rw [e, c_A h (Or.inl rfl)] at w
  exact (Prod.mk.inj (Option.some.inj w)).2.symm
theorem stA_BOK : StA r (BOK r (r + 1)) := ⟨fun τ τ' h f => by
  obtain ⟨z, a1, a2, a3, a4⟩ := h
  obtain ⟨z', b1, b2, b3, b4⟩ := f z a2 a3
  exact ⟨z', by omega, b2, b3, by rw [b4 0 a1]; exact a4⟩, fun τ τ' h e1 e2 => by
  obtain ⟨z, a1, a2, a3, a4⟩ := h
  exact ⟨z, a1, a2, e1.trans a3, by rw [e2]; exact a4⟩⟩
theorem BOK_A (h : BOK r A τ) (f : APq r A 65536 τ τ') : BOK r A τ' := by
  obtain ⟨z, a1, a2, a3, a4⟩ := h
  obtain ⟨z', b1, b2, b3, b4⟩ := f z a2 a3
  exact ⟨z', by omega, b2, b3, by rw [b4 0 a1]; exact a4⟩
theorem StA_H {n : Nat} (hs : StA r P) (h1 : ob sk L 10 r) (h2 : ar sk L 0 n (r + 1)) (e : cH sk L τ = cH sk L τ') (h : P τ) : P τ' := hs.2 τ τ' h (cH_fI h1 e).symm (cH_eI h2 e).symm
/-- a row that has bytes already grows -/
theorem sp_pos {m : Option (Unit × px_H)} (hI : SZQ P zb sk L τ0 r 65536 cc τ) (hc : 0 < cc) (hS : Sf sk L (SZ zb sk L τ0 r 65536 cd) Any m) (hA : ∃ τ', m = some ((), cH sk L τ') ∧ rowOK sk L τ' r (r + 1) 65536 ∧ frRw r (r + 1) τ τ' ∧ APq r (r + 1) 65536 τ τ') : Sf sk L (SZQ P zb sk L τ0 r 65536 cd) Any m := by
  obtain ⟨v, τ1, e1, _, s1⟩ := hS
  obtain ⟨τ2, e2, k2, _, p2⟩ := hA
  have e : cH sk L τ2 = cH sk L τ1 := by
    rw [e1] at e2
    exact (Prod.mk.inj (Option.some.inj e2)).2.symm
  exact ⟨v, τ1, e1, any, s1, fun _ => StA_H hI.2.2 k2.1 k2.2.1 e (hI.2.2.1 τ τ2 (hI.2.1 hc) p2), hI.2.2⟩
/-- an empty row gets its first byte -/
theorem sp_new {m : Option (Unit × px_H)} (hS : Sf sk L (SZ zb sk L τ0 r 65536 cd) Any m) (hA : ∃ τ', m = some ((), cH sk L τ') ∧ rowOK sk L τ' r (r + 1) 65536 ∧ BOK r (r + 1) τ') : Sf sk L (SZP zb sk L τ0 r 65536 cd) Any m := by
  obtain ⟨v, τ1, e1, _, s1⟩ := hS
  obtain ⟨τ2, e2, k2, p2⟩ := hA
  have e : cH sk L τ2 = cH sk L τ1 := by
    rw [e1] at e2
    exact (Prod.mk.inj (Option.some.inj e2)).2.symm
  exact ⟨v, τ1, e1, any, s1, fun _ => StA_H stA_BOK k2.1 k2.2.1 e p2, stA_BOK⟩
theorem sp_clear (hI : SI zb sk L τ0 τ) (hN : ∀ k, fN τ 0 k = fN τ0 0 k) (hr : TRw r A n) : Sf sk L (SZP zb sk L τ0 r n 0) Any (f_Row_clear F c r (cH sk L τ)) := by
  obtain ⟨v, τ1, e1, h1, s1⟩ := sz_clear (F := F) (c := c) hI hN hr
  exact ⟨v, τ1, e1, h1, s1, fun q => absurd q (by decide), stA_BOK⟩
theorem sp_put {v : Int64} (hF : 65540 < F) (hr : TRw r (r + 1) 65536) (hk : k ≤ 8) (hI : SZQ P zb sk L τ0 r 65536 cc τ) (hc : 0 < cc := by omega) : Sf sk L (SZQ P zb sk L τ0 r 65536 (cc + k)) Any (f_Row_put F c r (nI k) v (cH sk L τ)) := sp_pos hI hc (sz_put hF hr hk hI.1) (k_putA (by omega) (by omega) (SI_row hI.1.1 hr))
theorem sp_wto {p w : Nat} (hF : 65540 < F) (hr : TRw r (r + 1) 65536) (hp : ob sk L 5 p) (hpr : p ≠ r) (hw : w ≤ 24) (ew : fI τ p 3 = nI w) (hI : SZQ P zb sk L τ0 r 65536 cc τ) (hc : 0 < cc := by omega) : Sf sk L (SZQ P zb sk L τ0 r 65536 (cc + w)) Any (f_Name_writeTo F c p r (cH sk L τ)) := sp_pos hI hc (sz_wto hF hr hp hpr hw ew hI.1) (k_writeToA (by omega) hp (SI_row hI.1.1 hr))
theorem sp_dec (hF : 65540 < F) (hr : TRw r (r + 1) 65536) (hk : k ≤ 99999) (hI : SZQ P zb sk L τ0 r 65536 cc τ) (hc : 0 < cc := by omega) : Sf sk L (SZQ P zb sk L τ0 r 65536 (cc + wdN k)) Any (f_Row_putDecimal F c r (nI k) (cH sk L τ)) := sp_pos hI hc (sz_dec hF hr hk hI.1) (k_putDecA (by omega) (SI_row hI.1.1 hr))
theorem sp_high {v : Int32} (hF : 65540 < F) (hr : TRw r (r + 1) 65536) (hI : SZQ P zb sk L τ0 r 65536 cc τ) (hc : 0 < cc := by omega) : Sf sk L (SZQ P zb sk L τ0 r 65536 (cc + 4)) Any (f_Row_putHighestFirst F c r v (cH sk L τ)) := sp_pos hI hc (sz_high hF hr hI.1) (k_putHighA (by omega) (SI_row hI.1.1 hr))
theorem sp_copy {S N q m : Nat} (hr : TRw r (r + 1) 65536) (hS : ar sk L 0 N S) (hN : N ≤ 65536) (hB : ∀ k, isB (eI τ S k)) (hqm : q + m ≤ N) (hI : SZQ P zb sk L τ0 r 65536 cc τ) (hc : 0 < cc := by omega) : Sf sk L (SZQ P zb sk L τ0 r 65536 (cc + m)) Any (f_Row_copy F c r S (nI q) (nI m) (cH sk L τ)) := sp_pos hI hc (sz_copy hr hS hN hB hqm hI.1) (k_copyA hS hN hB hqm (SI_row hI.1.1 hr))
theorem bV_hex : ∀ d, d < 16 → b8 (bV ((nI 48 + nI d).toInt64) 0) ≠ 127 ∧ b8 (bV ((nI 97 + nI d - nI 10).toInt64) 0) ≠ 127 := by decide +kernel
/-- a byte is put into an empty row -/
theorem k_put1 {v : Int64} (hF : 1 < F) (h : rowOK sk L τ r A 65536) (hz : fI τ r 1 = nI 0) (hv : b8 (bV v 0) ≠ 127) : ∃ τ', f_Row_put F c r (nI 1) v (cH sk L τ) = some ((), cH sk L τ') ∧ rowOK sk L τ' r A 65536 ∧ frRw r A τ τ' ∧ BOK r A τ' := by
  obtain ⟨τ', a1, a2, a3, a4⟩ := k_putC (F := F) (c := c) (v := v) (k := 1) hF (by decide) h
  refine ⟨τ', a1, a2, a3, ?_⟩
  have w := a4 (0, eI τ A) ⟨Nat.zero_le _, hz, fun _ _ => rfl⟩
  have e : wPut 65536 1 v (0, eI τ A) = (1, upd (eI τ A) 0 (bV v 0)) := by
    unfold wPut
    rw [itr_s, itr_0]
    unfold wP1
    rw [if_neg (show ¬ 65536 ≤ (0, eI τ A).1 from (show ¬ 65536 ≤ 0 by decide))]
  rw [e] at w
  obtain ⟨w1, w2, w3⟩ := w
  refine ⟨1, by decide, by decide, w2, ?_⟩
  rw [w3 0 (show 0 < 1 by decide)]
  show b8 (upd (eI τ A) 0 (bV v 0) 0) ≠ 127
  rw [pk_us]
  exact hv
theorem k_hex1 {v : Int64} (hF : 16 < F) (h : rowOK sk L τ r A 65536) (hz : fI τ r 1 = nI 0) : ∃ τ', f_Row_putHex F c r v (cH sk L τ) = some ((), cH sk L τ') ∧ rowOK sk L τ' r A 65536 ∧ BOK r A τ' := by
  obtain ⟨f, hf⟩ : ∃ f, F = f + 1 := ⟨F - 1, by omega⟩
  have em : nI 60 + Int32.ofInt (-4) = nI (4 * 15) - nI 4 := by decide
  have step : ∀ w : Int64, b8 (bV w 0) ≠ 127 → ∃ τ', f_Row_putHex_43 F c (f_Row_putHex_3 F c f) r v (nI 60) r (nI 1) w (cH sk L τ) = some ((), cH sk L τ') ∧ rowOK sk L τ' r A 65536 ∧ BOK r A τ' := fun w hw => by
    obtain ⟨τ1, a1, a2, a3, a4⟩ := k_put1 (F := F) (c := c) (v := w) (by omega) h hz hw
    obtain ⟨τ2, b1, b2, b3, b4⟩ := k_putHex_3A (F := F) (c := c) (v := v) (by omega) 15 f τ1 (by decide) (by omega) a2
    refine ⟨τ2, ?_, b2, BOK_A a4 b4⟩
    unfold f_Row_putHex_43
    rw [c_o h.1, bs, a1, xb_mk, em]
    exact b1
  unfold f_Row_putHex
  rw [show f_Row_putHex_3 F c F = f_Row_putHex_3 F c (f + 1) from by rw [← hf]]
  unfold f_Row_putHex_3
  rw [if_neg (show ¬ nI 60 < 0 by decide)]
  obtain ⟨d, hd, ed⟩ := pk_andE (((v.toUInt64 >>> ((nI 60).toInt64.toUInt64 &&& Int64.toUInt64 63)).toInt64).toInt32) (m := nI 15) 4 (by decide)
  rw [ed]
  split
  · exact step _ (bV_hex d hd).2
  · exact step _ (bV_hex d hd).1
theorem SZ_0 (hr : TRw r A 65536) (hI : SZ zb sk L τ0 r 65536 0 τ) : fI τ r 1 = nI 0 := (hI.2.1.1 (Nat.zero_le _)).1
theorem sp_hex {v : Int64} (hF : 65540 < F) (hr : TRw r (r + 1) 65536) (hI : SZP zb sk L τ0 r 65536 cc τ) : Sf sk L (SZP zb sk L τ0 r 65536 (cc + 16)) Any (f_Row_putHex F c r v (cH sk L τ)) := by
  by_cases hc : 0 < cc
  · exact sp_pos hI hc (sz_hex hF hr hI.1) (k_putHexA (by omega) (SI_row hI.1.1 hr))
  · obtain rfl : cc = 0 := by omega
    exact sp_new (sz_hex hF hr hI.1) (k_hex1 (by omega) (SI_row hI.1.1 hr) (SZ_0 hr hI.1))
theorem k_fill1 {e : Nat} (hF : 65536 < F) (h : rowOK sk L τ r A 65536) (hz : fI τ r 1 = nI 0) (h1 : 1 ≤ e) (he : e ≤ 65536) : ∃ τ', f_Row_fillTo F c r (lN e) (nI 32) (cH sk L τ) = some ((), cH sk L τ') ∧ rowOK sk L τ' r A 65536 ∧ BOK r A τ' := by
  obtain ⟨τ', a1, a2, a3, a4⟩ := k_fillToC (F := F) (c := c) (e := e) (x := nI 32) hF (by omega) h
  refine ⟨τ', a1, a2, ?_⟩
  have w := a4 he (0, eI τ A) ⟨Nat.zero_le _, hz, fun _ _ => rfl⟩
  unfold wFil at w
  rw [if_neg (show ¬ e ≤ (0, eI τ A).1 by show ¬ e ≤ 0; omega)] at w
  obtain ⟨w1, w2, w3⟩ := w
  refine ⟨e, by omega, he, w2, ?_⟩
  rw [w3 0 (by show 0 < e; omega)]
  show b8 (if 0 < 0 then eI τ A 0 else (nI 32).toInt8.toInt32.toInt8.toInt32) ≠ 127
  rw [if_neg (by decide)]
  decide
theorem sp_fill (hF : 65540 < F) (hr : TRw r (r + 1) 65536) (hk : 1 ≤ k) (hk2 : k ≤ 64) (hI : SZP zb sk L τ0 r 65536 cc τ) : Sf sk L (SZP zb sk L τ0 r 65536 (cc + k)) Any (f_Row_fillTo F c r ((fI τ r 1 + nI k).toInt64) (nI 32) (cH sk L τ)) := by
  have hS := sz_fill (w := nI 32) (c := c) hF hr hk hk2 hI.1
  obtain ⟨_, _, hn, _, ⟨z, hz, ez⟩, _⟩ := SI_row hI.1.1 hr
  have e : (fI τ r 1 + nI k).toInt64 = lN (z + k) := by rw [ez, nI_add, nI_l (by omega)]
  rw [e] at hS ⊢
  by_cases hc : 0 < cc
  · exact sp_pos hI hc hS (k_fillToA (by omega) (by omega) (SI_row hI.1.1 hr))
  · obtain rfl : cc = 0 := by omega
    have e0 := SZ_0 hr hI.1
    have : z = 0 := (nI_eq (by omega) (by decide)).mp (ez.symm.trans e0)
    exact sp_new hS (k_fill1 (by omega) (SI_row hI.1.1 hr) e0 (by omega) (by omega))
theorem sp_fillp {p j d : Nat} {w : Int32} (hF : 65540 < F) (hr : TRw r (r + 1) 65536) (hd : 1 ≤ d) (hp : p ≤ 65536) (hj : j ≤ 64) (hcc : cc ≤ 65536 → p + j = cc + d) (hI : SZQ P zb sk L τ0 r 65536 cc τ) (hc : 0 < cc := by omega) : Sf sk L (SZQ P zb sk L τ0 r 65536 (cc + d)) Any (f_Row_fillTo F c r ((nI p + nI j).toInt64) w (cH sk L τ)) := by
  have e : (nI p + nI j).toInt64 = lN (p + j) := by rw [nI_add, nI_l (by omega)]
  have hS := sz_fillp (w := w) (c := c) hF hr hd hp hj hcc hI.1
  rw [e] at hS ⊢
  exact sp_pos hI hc hS (k_fillToA (by omega) (by omega) (SI_row hI.1.1 hr))
/-- an archive's eight bytes -/
theorem sp_putAr (hK : KT c) (hF : 65540 < F) (hr : TRw r (r + 1) 65536) (hI : SZP zb sk L τ0 r 65536 0 τ) : Sf sk L (SZP zb sk L τ0 r 65536 (0 + 8)) Any (f_Row_putAll F c r 1 (cH sk L τ)) := by
  have hrow := SI_row hI.1.1 hr
  refine sp_new (sz_putAr hK hF hr hI.1) ?_
  obtain ⟨f, hf⟩ : ∃ f, F = f + 1 := ⟨F - 1, by omega⟩
  obtain ⟨τ1, a1, a2, a3, a4⟩ := k_put1 (F := F) (c := c) (v := (nI ([33, 60, 97, 114, 99, 104, 62, 10].getD 0 0)).toInt64) (by omega) hrow (SZ_0 hr hI.1) (by decide)
  obtain ⟨τ2, b1, b2, b3, b4⟩ := k_putAll_2A (F := F) (c := c) (j := 1) (m := 8) (l := [33, 60, 97, 114, 99, 104, 62, 10]) (by decide) hK.1.1 hK.1.2 rfl (by decide) (by omega) 7 1 f τ1 rfl (by omega) a2
  refine ⟨τ2, ?_, b2, BOK_A a4 b4⟩
  unfold f_Row_putAll
  rw [show f_Row_putAll_2 F c F = f_Row_putAll_2 F c (f + 1) from by rw [← hf]]
  unfold f_Row_putAll_2
  rw [xkl_at hK.1.2 (by decide), bs, if_neg (show ¬ nI [33, 60, 97, 114, 99, 104, 62, 10].length ≤ nI 0 by decide), xkB_at hK.1.2 (by decide) hK.1.1 (by decide) (by decide), bs, c_o hrow.1, bs, a1, xb_mk, nI_add]
  exact b1
theorem SZP_N {a : Nat} (hI : SZQ P zb sk L τ0 r 65536 cc τ) (h : SZ zb sk L τ0 r 65536 cc τ') (f : frN a τ τ') (ha : r ≠ a) : SZQ P zb sk L τ0 r 65536 cc τ' := ⟨h, fun hc => hI.2.2.2 τ τ' (hI.2.1 hc) (f.1 r 1 (Or.inl ha)) (by rw [f.2.2.2.1]), hI.2.2⟩
end CSP
end
section
/-! lists, archives and maps of the class are no executables (made by a program out of fn, fs, ft, fu, fz) -/
section CAHP
variable {F : Nat} {c : px_CT} {sk : Nat → Nat × Nat × Nat} {L : Nat} {zb : Option Nat} {τ0 τ : px_TT} {r cc k p v : Nat}
theorem sp_ahead (hc : 0 < cc) (hF : 65540 < F) (hr : TRw r (r + 1) 65536) (hk : 1 ≤ k) (hk3 : k ≤ 3) (hp : p ≤ 65536) (hv : v ≤ 99999) (hcc : cc ≤ 65536 → p + k = cc) (hI : SZP zb sk L τ0 r 65536 cc τ) : Sf sk L (SZP zb sk L τ0 r 65536 (cc + (60 - k))) Any (f_Scribe_writeAhead F c r (nI v) (nI p) (cH sk L τ)) := by
  have orr := (SI_row hI.1.1 hr).1
  have hb := wdN_c v
  unfold f_Scribe_writeAhead
  rw [c_o orr, bs]
  refine sz_x (sp_fillp (d := 48 - k) hF hr (by omega) hp (by decide) (fun w => by have := hcc w; omega) hI) (fun _ τ1 _ i1 => ?_)
  rw [c_o orr, bs]
  refine sz_x (sp_dec hF hr hv i1) (fun _ τ2 _ i2 => ?_)
  rw [c_o orr, bs]
  refine sz_x (sp_fillp (p := p) (d := 10 - wdN v) hF hr (by omega) hp (by decide) (fun w => by have := hcc (by omega); omega) i2) (fun _ τ3 _ i3 => ?_)
  rw [c_o orr, bs]
  refine sz_x (sp_put hF hr (by decide) i3) (fun _ τ4 _ i4 => ?_)
  rw [show cc + (60 - k) = cc + (48 - k) + wdN v + (10 - wdN v) + 2 by omega]
  exact sf_r any i4
end CAHP
section CPVP
variable {F : Nat} {c : px_CT} {sk : Nat → Nat × Nat × Nat} {L : Nat} {own : Nat → Nat × Nat} {τ0 τ : px_TT} {fs : List (Nat × (Nat → Nat))} {gs : List (List Nat × Int64)} {ws : List (List Nat)} {n : Nat} {b : Nat → Nat} {a : Int32} {Y : px_Y} {q o n' r A cc : Nat} {b' : Nat → Nat}
theorem zp_wi70 {J : px_TT → Prop} {k54 : Nat → Nat → Nat → Int32 → Int32 → Int32 → px_H → Option (Unit × px_H)} {a5 a6 : Int32} (hc : 0 < cc) (hF : 65540 < F) (hC : CV sk L own τ0 fs gs ws n b a Y) (hob : obAt fs q = some (o, n', b', false)) (hr : TRw r (r + 1) 65536) (hK : ∀ a6 τ, SZP none sk L τ0 r 65536 (cc + 4 * sumT (pkN (pkD b')) (pkM (oM b'))) τ → Sf sk L J Any (k54 1713 r 9 a5 a6 (nI (q + 1)) (cH sk L τ))) : ∀ (d j f : Nat) (τ : px_TT), j + d = pkM (oM b') → 1 ≤ j → d < f → SZP none sk L τ0 r 65536 (cc + 4 * sumT (pkN (pkD b')) j) τ → Sf sk L J Any (f_Scribe_writeIndex_70 F c k54 f 1713 r 9 a5 a6 (nI q) (some (10 + 2 * q)) (nI j) (cH sk L τ)) := by
  have hMx := z_M hC hob
  obtain ⟨m1, m2, m3⟩ := pkM_1 (oM b')
  have ht : isOb fs q = true := isOb_o hob
  intro d
  induction d with
  | zero =>
    intro j f τ hj h1 hf hI
    obtain ⟨f, rfl⟩ : ∃ y, f = y + 1 := ⟨f - 1, by omega⟩
    obtain rfl : j = pkM (oM b') := by omega
    obtain ⟨h64, o1, _, k6, _, _, k5⟩ := z_ob56 hC hob hI.1.1
    unfold f_Scribe_writeIndex_70 f_Scribe_writeIndex_110 f_Scribe_writeIndex_140
    rw [z_isO hC h64 hI.1.1, ht, xb_mk, if_neg (show ¬ bI true = 0 by decide), bs, C7g11 o1, bs, k5, if_pos (nI_le (by omega) (by omega)), z_isO hC h64 hI.1.1, ht, xb_mk, if_neg (show ¬ bI true = 0 by decide), bs, C7g6 o1, bs, bs, nI_add q 1]
    exact hK _ τ hI
  | succ d ih =>
    intro j f τ hj h1 hf hI
    obtain ⟨f, rfl⟩ : ∃ y, f = y + 1 := ⟨f - 1, by omega⟩
    have hjM := m3 j h1 (by omega)
    obtain ⟨h64, o1, _, k6, _, _, k5⟩ := z_ob56 hC hob hI.1.1
    have kd := z_def (F := F) (c := c) hF hC hob h1 hjM hI.1.1
    have e5 : sumT (pkN (pkD b')) (j + 1) = sumT (pkN (pkD b')) j + pkN (pkD b') j := rfl
    have go := fun τ hI => ih (j + 1) f τ (by omega) (by omega) (by omega) hI
    rw [e5] at go
    have orr := (SI_row hI.1.1 hr).1
    unfold f_Scribe_writeIndex_70 f_Scribe_writeIndex_104
    rw [z_isO hC h64 hI.1.1, ht, xb_mk, if_neg (show ¬ bI true = 0 by decide), bs, C7g11 o1, bs, k5, if_neg (nI_ge (by omega) (by omega)), c_o o1, bs, kd, xb_mk]
    cases hD : pkD b' j with
    | false =>
      rw [if_pos (show bI false = 0 from rfl), nI_add]
      rw [pkN_f hD] at go
      exact go τ hI
    | true =>
      rw [if_neg (show ¬ bI true = 0 by decide), c_o orr, bs]
      rw [pkN_t h1 hD, Nat.mul_add, ← Nat.add_assoc] at go
      refine sz_x (sp_high hF hr hI) (fun _ τ1 _ i1 => ?_)
      rw [nI_add]
      exact go τ1 i1
theorem zp_wi54 {J : px_TT → Prop} {a5 : Int32} (hc : 0 < cc) (hF : 65540 < F) (hC : CV sk L own τ0 fs gs ws n b a Y) (hr : TRw r (r + 1) 65536) (hT : ∀ τ, SZP none sk L τ0 r 65536 (cc + 4 * ((obL fs 64).map (pn1 fs)).sum) τ → Sf sk L J Any (f_Scribe_writeIndex_149 F c 1713 r 9 a5 (cH sk L τ))) : ∀ (d i f : Nat) (a6 : Int32) (τ : px_TT), i + d = 64 → d < f → SZP none sk L τ0 r 65536 (cc + 4 * ((obL fs i).map (pn1 fs)).sum) τ → Sf sk L J Any (f_Scribe_writeIndex_54 F c f 1713 r 9 a5 a6 (nI i) (cH sk L τ)) := by
  intro d
  induction d with
  | zero =>
    intro i f a6 τ hi hf hI
    obtain ⟨f, rfl⟩ : ∃ y, f = y + 1 := ⟨f - 1, by omega⟩
    obtain rfl : i = 64 := by omega
    unfold f_Scribe_writeIndex_54
    rw [c_l (G9 hC.1) (by decide), bs, if_pos (nI_le (Nat.le_refl _) (by decide))]
    exact hT τ hI
  | succ d ih =>
    intro i f a6 τ hi hf hI
    obtain ⟨f, rfl⟩ : ∃ y, f = y + 1 := ⟨f - 1, by omega⟩
    have hi64 : i < 64 := by omega
    have hCt := CV_SI hC hI.1.1
    have go := fun a6 τ hI => ih (i + 1) f a6 τ (by omega) (by omega) hI
    unfold f_Scribe_writeIndex_54
    rw [c_l (G9 hC.1) (by decide), bs, if_neg (nI_ge hi64 (by decide)), c_aN (G9 hC.1) (Or.inl rfl) (by decide) hi64, bs, (hCt.2.1.2.1 _ hi64).2.2.1]
    cases hob : isOb fs i with
    | false =>
      rw [obL_f hob] at go
      exact z_wi70n (by omega) hC hi64 hob hI.1.1 (fun a6 => go a6 τ hI)
    | true =>
      obtain ⟨o, n', b', eo, eV⟩ := isOb_t hob
      rw [obL_t hob, sum_1] at go
      have p1 : pn1 fs i = sumT (pkN (pkD b')) (pkM (oM b')) := by unfold pn1; rw [eV]
      rw [p1, Nat.mul_add, ← Nat.add_assoc] at go
      obtain ⟨m1, m2, m3⟩ := pkM_1 (oM b')
      have hMx := z_M hC eo
      have z0 : sumT (pkN (pkD b')) 1 = 0 := rfl
      refine zp_wi70 (cc := cc + 4 * ((obL fs i).map (pn1 fs)).sum) (by omega) hF hC eo hr go (pkM (oM b') - 1) 1 F τ (by omega) (Nat.le_refl _) (by omega) ?_
      rw [z0]
      exact hI
theorem zp_wi168 {J : px_TT → Prop} {k152 : Nat → Nat → Nat → Int32 → Int32 → px_H → Option (Unit × px_H)} {a5 : Int32} (hc : 0 < cc) (hF : 65540 < F) (hC : CV sk L own τ0 fs gs ws n b a Y) (hob : obAt fs q = some (o, n', b', false)) (hr : TRw r (r + 1) 65536) (hK : ∀ τ, SZP none sk L τ0 r 65536 (cc + sumT (pkLb b') (pkM (oM b'))) τ → Sf sk L J Any (k152 1713 r 9 a5 (nI (q + 1)) (cH sk L τ))) : ∀ (d j f : Nat) (τ : px_TT), j + d = pkM (oM b') → 1 ≤ j → d < f → SZP none sk L τ0 r 65536 (cc + sumT (pkLb b') j) τ → Sf sk L J Any (f_Scribe_writeIndex_168 F c k152 f 1713 r 9 a5 (nI q) (some (10 + 2 * q)) (nI j) (cH sk L τ)) := by
  have h0 := (CV_S4 hC).1.1.1
  have o13 := G1713 hC.1
  have o47 := G147 hC.1
  have o95 : ob sk L 5 1695 := GS_o hC.1 (by decide) (by decide)
  have hrne : r ≠ 1695 := by
    unfold TRw at hr
    omega
  have hMx := z_M hC hob
  obtain ⟨m1, m2, m3⟩ := pkM_1 (oM b')
  have ht : isOb fs q = true := isOb_o hob
  intro d
  induction d with
  | zero =>
    intro j f τ hj h1 hf hI
    obtain ⟨f, rfl⟩ : ∃ y, f = y + 1 := ⟨f - 1, by omega⟩
    obtain rfl : j = pkM (oM b') := by omega
    obtain ⟨h64, o1, _, k6, _, _, k5⟩ := z_ob56 hC hob hI.1.1
    unfold f_Scribe_writeIndex_168 f_Scribe_writeIndex_240
    rw [z_isO hC h64 hI.1.1, ht, xb_mk, if_neg (show ¬ bI true = 0 by decide), bs, C7g11 o1, bs, k5, if_pos (nI_le (by omega) (by omega)), nI_add q 1]
    exact hK τ hI
  | succ d ih =>
    intro j f τ hj h1 hf hI
    obtain ⟨f, rfl⟩ : ∃ y, f = y + 1 := ⟨f - 1, by omega⟩
    have hjM := m3 j h1 (by omega)
    obtain ⟨h64, o1, _, _, _, _, k5⟩ := z_ob56 hC hob hI.1.1
    obtain ⟨_, _, _, _, _, P, e4, hn⟩ := z_sym (F := F) (c := c) hF hC hob h1 hjM hI.1.1
    have kd := z_def (F := F) (c := c) hF hC hob h1 hjM hI.1.1
    have e5 : sumT (pkLb b') (j + 1) = sumT (pkLb b') j + pkLb b' j := rfl
    have go := fun τ hI => ih (j + 1) f τ (by omega) (by omega) (by omega) hI
    rw [e5] at go
    have orr := (SI_row hI.1.1 hr).1
    unfold f_Scribe_writeIndex_168 f_Scribe_writeIndex_234
    rw [z_isO hC h64 hI.1.1, ht, xb_mk, if_neg (show ¬ bI true = 0 by decide), bs, C7g11 o1, bs, k5, if_neg (nI_ge (by omega) (by omega)), c_o o1, bs, kd, xb_mk]
    cases hD : pkD b' j with
    | false =>
      rw [if_pos (show bI false = 0 from rfl), nI_add]
      rw [show pkLb b' j = 0 by unfold pkLb; rw [if_neg (by omega), if_neg (by rw [hD]; decide)]] at go
      exact go τ hI
    | true =>
      have hB : yB b' j ≠ 0 := fun w => (of_decide_eq_true hD) (Or.inl w)
      obtain ⟨⟨y1, y2⟩, τ5, e5', f5, l5⟩ := hn hB
      have hR := GR_Z h0.2.1 hI.1.1.1
      have i5 : SZP none sk L τ0 r 65536 (cc + sumT (pkLb b') j) τ5 := SZP_N hI ⟨SI_N hI.1.1 f5 (Or.inr rfl), rz_fr hI.1.2.1 (fun k => f5.1 r k (Or.inl hrne)), fun k => (f5.2.2.1 0 k).trans (hI.1.2.2 k)⟩ f5 hrne
      have hR5 := GR_Z h0.2.1 i5.1.1.1
      rw [if_neg (show ¬ bI true = 0 by decide)]
      rw [show pkLb b' j = yL b' j + 1 by unfold pkLb; rw [if_neg (by omega), if_pos hD], ← Nat.add_assoc, ← Nat.add_assoc] at go
      rw [C11r0 o13 (GR_r (v := 147) hR (by decide)), bs, C3r11 o47 (GR_r (v := 1695) hR (by decide)), bs, C11r2 o13 (GR_r (v := 7) hR (by decide)), bs, c_o o1, bs, e4, xb_mk, c_o o95, bs, e5', xb_mk, C11r0 o13 (GR_r (v := 147) hR5 (by decide)), bs, C3r11 o47 (GR_r (v := 1695) hR5 (by decide)), bs, c_o o95, bs]
      refine sz_x (sp_wto hF hr o95 (Ne.symm hrne) (by omega) l5 i5) (fun _ τ6 _ i6 => ?_)
      rw [c_o orr, bs]
      refine sz_x (sp_put hF hr (by decide) i6) (fun _ τ7 _ i7 => ?_)
      rw [nI_add]
      exact go τ7 i7
theorem zp_wi152 {v : Nat} (hc : 0 < cc) (hF : 65540 < F) (hv : v < 2 ^ 31) (hC : CV sk L own τ0 fs gs ws n b a Y) (hr : TRw r (r + 1) 65536) : ∀ (d i f : Nat) (τ : px_TT), i + d = 64 → d < f → SZP none sk L τ0 r 65536 (cc + ((obL fs i).map (pl1 fs)).sum) τ → Sf sk L (SZP none sk L τ0 r 65536 (cc + ((obL fs 64).map (pl1 fs)).sum + v % 2)) Any (f_Scribe_writeIndex_152 F c f 1713 r 9 (nI v) (nI i) (cH sk L τ)) := by
  intro d
  induction d with
  | zero =>
    intro i f τ hi hf hI
    obtain ⟨f, rfl⟩ : ∃ y, f = y + 1 := ⟨f - 1, by omega⟩
    obtain rfl : i = 64 := by omega
    have orr := (SI_row hI.1.1 hr).1
    unfold f_Scribe_writeIndex_152 f_Scribe_writeIndex_246 f_Scribe_writeIndex_262
    rw [c_l (G9 hC.1) (by decide), bs, if_pos (nI_le (Nat.le_refl _) (by decide)), nI_od v hv]
    by_cases c2 : v % 2 = 1
    · rw [if_pos (by rw [c2]), c_o orr, bs, c2]
      exact sz_x (sp_put hF hr (by decide) hI) (fun _ τ7 _ i7 => sf_r any i7)
    · rw [if_neg (fun w => c2 ((nI_eq (by omega) (by decide)).mp w)), show v % 2 = 0 by omega, Nat.add_zero]
      exact sf_r any hI
  | succ d ih =>
    intro i f τ hi hf hI
    obtain ⟨f, rfl⟩ : ∃ y, f = y + 1 := ⟨f - 1, by omega⟩
    have hi64 : i < 64 := by omega
    have hCt := CV_SI hC hI.1.1
    have go := fun τ hI => ih (i + 1) f τ (by omega) (by omega) hI
    unfold f_Scribe_writeIndex_152
    rw [c_l (G9 hC.1) (by decide), bs, if_neg (nI_ge hi64 (by decide)), c_aN (G9 hC.1) (Or.inl rfl) (by decide) hi64, bs, (hCt.2.1.2.1 _ hi64).2.2.1]
    cases hob : isOb fs i with
    | false =>
      rw [obL_f hob] at go
      exact z_wi168n (by omega) hC hi64 hob hI.1.1 (go τ hI)
    | true =>
      obtain ⟨o, n', b', eo, eV⟩ := isOb_t hob
      rw [obL_t hob, sum_1] at go
      have p1 : pl1 fs i = sumT (pkLb b') (pkM (oM b')) := by unfold pl1; rw [eV]
      rw [p1, ← Nat.add_assoc] at go
      obtain ⟨m1, m2, m3⟩ := pkM_1 (oM b')
      have hMx := z_M hC eo
      have z0 : sumT (pkLb b') 1 = 0 := rfl
      refine zp_wi168 (cc := cc + ((obL fs i).map (pl1 fs)).sum) (by omega) hF hC eo hr go (pkM (oM b') - 1) 1 F τ (by omega) (Nat.le_refl _) (by omega) ?_
      rw [z0]
      exact hI
theorem zp_index {N Lt : Nat} (hF : 65540 < F) (hC : CV sk L own τ0 fs gs ws n b a Y) (hr : TRw r (r + 1) 65536) (eN' : ((obL fs 64).map (pn1 fs)).sum = N) (eL' : ((obL fs 64).map (pl1 fs)).sum = Lt) (hv : 4 + 4 * N + Lt ≤ 99999) (hI : SZP none sk L τ0 r 65536 8 τ) : Sf sk L (SZP none sk L τ0 r 65536 (68 + (4 + 4 * N + Lt + (4 + 4 * N + Lt) % 2))) Any (f_Scribe_writeIndex F c 1713 r 9 (nI N) (nI Lt) (cH sk L τ)) := by
  have orr := (SI_row hI.1.1 hr).1
  have em : nI 4 * nI N = nI (4 * N) := (Int32.ofNat_mul 4 N).symm
  unfold f_Scribe_writeIndex
  rw [em, nI_add, nI_add, c_o orr, bs]
  refine sz_x (sp_put hF hr (by decide) hI) (fun _ τ1 _ i1 => ?_)
  rw [C10g1 orr, bs, (i1.1.2.1.1 (by decide)).1, show nI (8 + 1) - nI 1 = nI 8 from rfl]
  refine sz_x (sp_ahead (k := 1) (p := 8) (by decide) hF hr (by decide) (by decide) (by decide) hv (fun _ => rfl) i1) (fun _ τ2 _ i2 => ?_)
  rw [c_o orr, bs]
  refine sz_x (sp_high hF hr i2) (fun _ τ3 _ i3 => ?_)
  rw [C10g1 orr, bs]
  have o0 : ((obL fs 0).map (pn1 fs)).sum = 0 := rfl
  have o1 : ((obL fs 0).map (pl1 fs)).sum = 0 := rfl
  refine zp_wi54 (cc := 72) (by decide) hF hC hr (fun τ4 i4 => ?_) 64 0 F _ τ3 rfl (by omega) (by rw [o0]; exact i3)
  unfold f_Scribe_writeIndex_149
  rw [eN'] at i4
  have w := zp_wi152 (cc := 72 + 4 * N) (v := 4 + 4 * N + Lt) (c := c) (by omega) hF (by omega) hC hr 64 0 F τ4 rfl (by omega) (by rw [o1]; exact i4)
  rw [eL', show 72 + 4 * N + Lt + (4 + 4 * N + Lt) % 2 = 68 + (4 + 4 * N + Lt + (4 + 4 * N + Lt) % 2) by omega] at w
  exact w
theorem zp_wo5 (hc : 0 < cc) (hF : 65540 < F) (hC : CV sk L own τ0 fs gs ws n b a Y) (hr : TRw r (r + 1) 65536) : ∀ (d i f : Nat) (a3 : Int32) (τ : px_TT), i + d = 64 → d < f → SZP none sk L τ0 r 65536 (cc + ((obL fs i).map (pz1 fs)).sum) τ → Sf sk L (SZP none sk L τ0 r 65536 (cc + ((obL fs 64).map (pz1 fs)).sum)) Any (f_Scribe_writeObjects_5 F c f 1713 r 9 a3 (nI i) (cH sk L τ)) := by
  have h0 := (CV_S4 hC).1.1.1
  have o13 := G1713 hC.1
  intro d
  induction d with
  | zero =>
    intro i f a3 τ hi hf hI
    obtain ⟨f, rfl⟩ : ∃ y, f = y + 1 := ⟨f - 1, by omega⟩
    obtain rfl : i = 64 := by omega
    unfold f_Scribe_writeObjects_5 f_Scribe_writeObjects_118
    rw [c_l (G9 hC.1) (by decide), bs, if_pos (nI_le (Nat.le_refl _) (by decide))]
    exact sf_r any hI
  | succ d ih =>
    intro i f a3 τ hi hf hI
    obtain ⟨f, rfl⟩ : ∃ y, f = y + 1 := ⟨f - 1, by omega⟩
    have hi64 : i < 64 := by omega
    have hCt := CV_SI hC hI.1.1
    have go := fun a3 τ hI => ih (i + 1) f a3 τ (by omega) (by omega) hI
    have orr := (SI_row hI.1.1 hr).1
    unfold f_Scribe_writeObjects_5 f_Scribe_writeObjects_109 f_Scribe_writeObjects_112
    rw [c_l (G9 hC.1) (by decide), bs, if_neg (nI_ge hi64 (by decide)), c_aN (G9 hC.1) (Or.inl rfl) (by decide) hi64, bs, (hCt.2.1.2.1 _ hi64).2.2.1, z_isO hC hi64 hI.1.1, xb_mk]
    cases hob : isOb fs i with
    | false =>
      rw [obL_f hob] at go
      rw [if_pos (show bI false = 0 from rfl), nI_add i 1]
      exact go a3 τ hI
    | true =>
      obtain ⟨o, n', b', eo, eV⟩ := isOb_t hob
      rw [obL_t hob, sum_1] at go
      have p1 : pz1 fs i = 60 + n' + n' % 2 := by unfold pz1; rw [eV]; rfl
      rw [p1] at go
      have hsz := (SI_row hI.1.1 hr).2.2.2.2.1
      generalize hcc : cc + ((obL fs i).map (pz1 fs)).sum = c0 at *
      have go' : ∀ (a3 : Int32) (τ : px_TT), SZP none sk L τ0 r 65536 (c0 + 60 + n' + n' % 2) τ → Sf sk L (SZP none sk L τ0 r 65536 (cc + ((obL fs 64).map (pz1 fs)).sum)) Any (f_Scribe_writeObjects_5 F c f 1713 r 9 a3 (nI (i + 1)) (cH sk L τ)) := fun a3 τ w => go a3 τ (by rw [← Nat.add_assoc, hcc, ← Nat.add_assoc, ← Nat.add_assoc]; exact w)
      obtain ⟨z, hz, ez⟩ := hsz
      rw [if_neg (show ¬ bI true = 0 by decide), C10g1 orr, bs, c_o orr, bs]
      refine sz_x (sp_put hF hr (by decide) hI) (fun _ τ1 _ i1 => ?_)
      rw [c_o orr, bs]
      refine sz_x (sp_put hF hr (by decide) i1) (fun _ τ2 _ i2 => ?_)
      rw [c_o orr, bs]
      refine sz_x (sp_put hF hr (by decide) i2) (fun _ τ3 _ i3 => ?_)
      obtain ⟨_, q1, _, q6, q9, _, _⟩ := z_ob56 hC eo i3.1.1
      rw [bs, C7g6 q1, bs, q6, ez]
      refine sz_x (sp_ahead (k := 3) (p := z) (by omega) hF hr (by decide) (by decide) hz (by omega) (fun w => by have e := rz_z hI.1.2.1 (Nat.le_refl _) hz ez (by omega); omega) i3) (fun _ τ4 _ i4 => ?_)
      obtain ⟨_, _, s5, s6, _, s8, _⟩ := z_ob56 hC eo i4.1.1
      have hR4 : GR τ4 := GR_Z h0.2.1 i4.1.1.1
      rw [C11r2 o13 (GR_r (v := 7) hR4 (by decide)), bs, C10r0 (G7 hC.1) (R7_0 hR4), bs, C7g5 q1, bs, s5, C7g6 q1, bs, s6, c_o orr, bs]
      refine sz_x (sp_copy hr (G8 hC.1) (Nat.le_refl _) s8 q9 i4) (fun _ τ5 _ i5 => ?_)
      obtain ⟨_, _, _, s6', _, _, _⟩ := z_ob56 hC eo i5.1.1
      rw [show c0 + 1 + 1 + 1 + (60 - 3) + n' = c0 + 60 + n' by omega] at i5
      rw [C7g6 q1, bs, s6', nI_od n' (by omega)]
      by_cases c2 : n' % 2 = 1
      · rw [if_pos (by rw [c2]), c_o orr, bs]
        refine sz_x (sp_put hF hr (by decide) i5) (fun _ τ6 _ i6 => ?_)
        rw [nI_add i 1]
        exact go' _ τ6 (by rw [c2]; exact i6)
      · rw [if_neg (fun w => c2 ((nI_eq (by omega) (by decide)).mp w)), nI_add i 1]
        exact go' _ τ5 (by rw [show n' % 2 = 0 by omega]; exact i5)
end CPVP
section BPKP
variable {F : Nat} {c : px_CT} {sk : Nat → Nat × Nat × Nat} {L : Nat} {own : Nat → Nat × Nat} {τ0 τ : px_TT} {fs : List (Nat × (Nat → Nat))} {gs : List (List Nat × Int64)} {ws : List (List Nat)} {n : Nat} {b : Nat → Nat} {a : Int32} {Y : px_Y} {q r A : Nat}
theorem zp_wp111 (hK : KT c) (hF : 65540 < F) (hC : CV sk L own τ0 fs gs ws n b a Y) (hr : TRw r (r + 1) 65536) (hI : SI none sk L τ0 τ) (hN : ∀ k, fN τ 0 k = fN τ0 0 k) : Sf sk L (fun τ => SI none sk L τ0 τ ∧ (∀ k, fN τ 0 k = fN τ0 0 k) ∧ (pkO fs = true → fI τ r 1 = nI (pkT fs) ∧ BOK r (r + 1) τ)) (fun v => v = bI (pkO fs)) (f_Scribe_writePacked_111 F c 1713 r 9 (nI (obL fs 64).length) (nI ((obL fs 64).map (pn1 fs)).sum) (nI ((obL fs 64).map (pl1 fs)).sum) (cH sk L τ)) := by
  have orr := (SI_row hI hr).1
  have o13 := G1713 hC.1
  have hlen := obL_len fs 64
  unfold f_Scribe_writePacked_111 f_Scribe_writePacked_167 f_Scribe_writePacked_168
  by_cases c7 : (obL fs 64).length ≤ 7
  · rw [if_pos (nI_le c7 (by decide)), c_o orr, bs]
    refine sz_x (sp_clear hI hN hr) (fun _ τ1 _ i1 => ?_)
    rw [c_o orr, bs]
    refine sz_x (sp_putAr hK hF hr i1) (fun _ τ2 _ i2 => ?_)
    rw [c_o o13, bs]
    refine sz_x (zp_index hF hC hr rfl rfl (z_pv c hF hC c7) i2) (fun _ τ3 _ i3 => ?_)
    rw [c_o o13, bs]
    have o1 : ((obL fs 0).map (pz1 fs)).sum = 0 := rfl
    unfold f_Scribe_writeObjects
    refine sz_x (zp_wo5 (cc := 68 + (4 + 4 * ((obL fs 64).map (pn1 fs)).sum + ((obL fs 64).map (pl1 fs)).sum + (4 + 4 * ((obL fs 64).map (pn1 fs)).sum + ((obL fs 64).map (pl1 fs)).sum) % 2)) (by omega) hF hC hr 64 0 F (nI 0) τ3 rfl (by omega) (by rw [o1]; exact i3)) (fun _ τ4 _ i4 => ?_)
    have eT : 68 + (4 + 4 * ((obL fs 64).map (pn1 fs)).sum + ((obL fs 64).map (pl1 fs)).sum + (4 + 4 * ((obL fs 64).map (pn1 fs)).sum + ((obL fs 64).map (pl1 fs)).sum) % 2) + ((obL fs 64).map (pz1 fs)).sum = pkT fs := by unfold pkT; omega
    have i4 : SZP none sk L τ0 r 65536 (pkT fs) τ4 := by rw [← eT]; exact i4
    have eO : pkO fs = decide (pkT fs ≤ 8192) := by unfold pkO; rw [decide_eq_true c7, Bool.true_and]
    rw [eO, C10g2 orr, bs]
    by_cases cT : pkT fs ≤ 65536
    · obtain ⟨s1, s2⟩ := i4.1.2.1.1 cT
      rw [s2, if_pos (show bI false = 0 from rfl), C10g1 orr, bs, s1]
      by_cases c8 : pkT fs ≤ 8192
      · rw [if_neg (fun w => by have := (nI_ltI (by omega) (by omega)).mp w; omega), decide_eq_true c8]
        exact ⟨_, τ4, xz_b true _, rfl, i4.1.1, i4.1.2.2, fun _ => ⟨s1, i4.2.1 (by rw [← eT]; omega)⟩⟩
      · rw [if_pos ((nI_ltI (by omega) (by omega)).mpr (by omega)), decide_eq_false c8]
        exact ⟨_, τ4, xz_b false _, rfl, i4.1.1, i4.1.2.2, fun w => by cases w⟩
    · rw [i4.1.2.1.2 (by omega), if_neg (show ¬ bI true = 0 by decide), decide_eq_false (by omega)]
      exact ⟨_, τ4, xz_b false _, rfl, i4.1.1, i4.1.2.2, fun w => by cases w⟩
  · have eO : pkO fs = false := by unfold pkO; rw [decide_eq_false c7, Bool.false_and]
    rw [if_neg (nI_ge (a := 7) (by omega) (by omega)), eO]
    exact ⟨_, τ, rfl, rfl, hI, hN, fun w => by cases w⟩
end BPKP
section BLCP
variable {F : Nat} {c : px_CT} {sk : Nat → Nat × Nat × Nat} {L : Nat} {own : Nat → Nat × Nat} {τ0 τ : px_TT} {fs : List (Nat × (Nat → Nat))} {gs : List (List Nat × Int64)} {ws : List (List Nat)} {n : Nat} {b : Nat → Nat} {a : Int32} {Y : px_Y} {q o n' r A : Nat} {b' : Nat → Nat}
/-- what the class reads of a symbol that is listed -/
theorem zp_list_59 {j cc : Nat} {J : px_TT → Prop} {k6 : Nat → Nat → Option Nat → Int32 → px_H → Option (Unit × px_H)} (hc : 0 < cc) (hF : 65540 < F) (hC : CV sk L own τ0 fs gs ws n b a Y) (hob : obAt fs q = some (o, n', b', false)) (hr : TRw r (r + 1) 65536) (hj1 : 1 ≤ j) (hj : j < oM b') (hB : yB b' j ≠ 0) (hK : ∀ τ, SZP none sk L τ0 r 65536 (cc + (4 + yL b' j)) τ → Sf sk L J Any (k6 1713 r (some (10 + 2 * q)) (nI (j + 1)) (cH sk L τ))) (hI : SZP none sk L τ0 r 65536 cc τ) : Sf sk L J Any (f_Scribe_writeList_59 F c k6 1713 r (some (10 + 2 * q)) (nI j) (cH sk L τ)) := by
  have h0 := (CV_S4 hC).1.1.1
  obtain ⟨h64, _⟩ := CF_ob hC.2.2.2.1 hob
  have hq : OBq (10 + 2 * q) := ⟨q, h64, rfl⟩
  have orr : ob sk L 10 r := (SI_row hI.1.1 hr).1
  have o13 := G1713 hC.1
  have o47 := G147 hC.1
  have o95 : ob sk L 5 1695 := GS_o hC.1 (by decide) (by decide)
  have hrne : r ≠ 1695 := by
    unfold TRw at hr
    omega
  unfold f_Scribe_writeList_59 f_Scribe_writeList_124
  rw [c_o orr, bs]
  refine sz_x (sp_put hF hr (by decide) hI) (fun _ τ1 _ i1 => ?_)
  refine sz_x (J := SZP none sk L τ0 r 65536 (cc + 1)) (W := Any) ?_ (fun t2 τ2 _ i2 => ?_)
  · exact sg_letter h0 hF hq i1.1.1 i1
  rw [c_o orr, bs]
  refine sz_x (sp_put hF hr (by decide) i2) (fun _ τ3 _ i3 => ?_)
  rw [c_o orr, bs]
  refine sz_x (sp_put hF hr (by decide) i3) (fun _ τ4 _ i4 => ?_)
  have hR4 : GR τ4 := GR_Z h0.2.1 i4.1.1.1
  obtain ⟨o1, _, _, _, _, P, e4, hn⟩ := z_sym (F := F) (c := c) hF hC hob hj1 hj i4.1.1
  obtain ⟨⟨y1, y2⟩, τ5, e5, f5, l5⟩ := hn hB
  have i5 : SZP none sk L τ0 r 65536 (cc + 1 + 1 + 1) τ5 := SZP_N i4 ⟨SI_N i4.1.1 f5 (Or.inr rfl), rz_fr i4.1.2.1 (fun k => f5.1 r k (Or.inl hrne)), fun k => (f5.2.2.1 0 k).trans (i4.1.2.2 k)⟩ f5 hrne
  have hR5 : GR τ5 := GR_Z h0.2.1 i5.1.1.1
  rw [C11r0 o13 (GR_r (v := 147) hR4 (by decide)), bs, C3r11 o47 (GR_r (v := 1695) hR4 (by decide)), bs, C11r2 o13 (GR_r (v := 7) hR4 (by decide)), bs, bs, c_o o1, bs, e4, xb_mk, c_o o95, bs, e5, xb_mk, C11r0 o13 (GR_r (v := 147) hR5 (by decide)), bs, C3r11 o47 (GR_r (v := 1695) hR5 (by decide)), bs, c_o o95, bs]
  refine sz_x (sp_wto hF hr o95 (Ne.symm hrne) (show yL b' j ≤ 24 by omega) l5 i5) (fun _ τ6 _ i6 => ?_)
  rw [c_o orr, bs]
  refine sz_x (sp_put hF hr (by decide) i6) (fun _ τ7 _ i7 => ?_)
  rw [nI_add]
  refine hK τ7 ?_
  rw [show cc + (4 + yL b' j) = cc + 1 + 1 + 1 + yL b' j + 1 by omega]
  exact i7
theorem zp_list_6 (hF : 65540 < F) (hC : CV sk L own τ0 fs gs ws n b a Y) (hob : obAt fs q = some (o, n', b', false)) (hr : TRw r (r + 1) 65536) : ∀ (d j f : Nat) (τ : px_TT) (cc : Nat), 1 ≤ j → (j + d = oM b' ∨ (oM b' ≤ j ∧ d = 0)) → j ≤ 64 → d < f → SZP none sk L τ0 r 65536 cc τ → Sf sk L (SZP none sk L τ0 r 65536 (cc + lsz (yB b') (yL b') d j)) Any (f_Scribe_writeList_6 F c f 1713 r (some (10 + 2 * q)) (nI j) (cH sk L τ)) := by
  have hM64 : oM b' ≤ 64 := by
    obtain ⟨_, _, e5, _, _, hd⟩ := CF_ob hC.2.2.2.1 hob
    have w := (hd rfl).2.2
    rw [e5] at w
    exact w2_M (eObj_0 w).1
  intro d
  induction d with
  | zero =>
    intro j f τ cc hj1 hj h64 hf hI
    obtain ⟨f, rfl⟩ : ∃ y, f = y + 1 := ⟨f - 1, by omega⟩
    have hCt := CV_SI hC hI.1.1
    obtain ⟨_, _, e5, _, _, hd⟩ := CF_ob hCt.2.2.2.1 hob
    have hs := (hd rfl).1
    have k5 := hs.2.1.2.1
    rw [e5] at k5
    unfold f_Scribe_writeList_6 f_Scribe_writeList_130
    rw [bs, C7g11 hs.1.1.1.1, bs, k5, if_pos (nI_le (by omega) (by omega))]
    exact sf_r any hI
  | succ d ih =>
    intro j f τ cc hj1 hj h64 hf hI
    obtain ⟨f, rfl⟩ : ∃ y, f = y + 1 := ⟨f - 1, by omega⟩
    have hjM : j < oM b' := by omega
    obtain ⟨o1, k5, k1, ⟨W, k2⟩, ⟨V, k3⟩, _⟩ := z_sym (F := F) (c := c) hF hC hob hj1 hjM hI.1.1
    have orr := (SI_row hI.1.1 hr).1
    unfold f_Scribe_writeList_6 f_Scribe_writeList_130 lsz
    rw [bs, C7g11 o1, bs, k5, if_neg (nI_ge (by omega) (by omega)), c_o o1, bs, k1, xb_mk]
    by_cases hB : yB b' j = 0
    · rw [if_pos hB, if_pos (by rw [hB]; rfl), Nat.zero_add]
      unfold f_Scribe_writeList_124
      rw [nI_add]
      exact ih _ _ _ _ (by omega) (by omega) (by omega) (by omega) hI
    · have he : eObj b' n' = 0 := by
        obtain ⟨_, _, e5, _, _, hd⟩ := CF_ob hC.2.2.2.1 hob
        have w := (hd rfl).2.2
        rw [e5] at w
        exact w
      have hB2 := (yOK_n ((eObj_0 he).2.1 j hj1 hjM) hB).1
      have ecc : cc + (20 + yL b' j + lsz (yB b') (yL b') d (j + 1)) = cc + 16 + (4 + yL b' j) + lsz (yB b') (yL b') d (j + 1) := by omega
      rw [if_neg hB, if_neg (nI_nz (by omega) hB), c_o o1, bs, k2, xb_mk, ecc]
      have tail : ∀ τ, SZP none sk L τ0 r 65536 (cc + 16) τ → Sf sk L (SZP none sk L τ0 r 65536 (cc + 16 + (4 + yL b' j) + lsz (yB b') (yL b') d (j + 1))) Any (f_Scribe_writeList_59 F c (f_Scribe_writeList_6 F c f) 1713 r (some (10 + 2 * q)) (nI j) (cH sk L τ)) := fun τ hi => zp_list_59 (by omega) hF hC hob hr hj1 hjM hB (fun τ hi => ih _ _ _ _ (by omega) (by omega) (by omega) (by omega) hi) hi
      refine sf_i (fun _ => ?_) (fun _ => ?_)
      · rw [C10g1 orr, bs, c_o orr, bs]
        exact sz_x (sp_fill hF hr (by decide) (by decide) hI) (fun _ τ1 _ i1 => tail τ1 i1)
      · rw [c_o o1, bs, k3, xb_mk, c_o orr, bs]
        exact sz_x (sp_hex hF hr hI) (fun _ τ1 _ i1 => tail τ1 i1)
theorem zp_list (hF : 65540 < F) (hC : CV sk L own τ0 fs gs ws n b a Y) (hob : obAt fs q = some (o, n', b', false)) (hr : TRw r (r + 1) 65536) (hI : SI none sk L τ0 τ) (hN : ∀ k, fN τ 0 k = fN τ0 0 k) : Sf sk L (SZP none sk L τ0 r 65536 (lsz (yB b') (yL b') (oM b' - 1) 1)) Any (f_Scribe_writeList F c 1713 r (some (10 + 2 * q)) (cH sk L τ)) := by
  have hM64 : oM b' ≤ 64 := by
    obtain ⟨_, _, e5, _, _, hd⟩ := CF_ob hC.2.2.2.1 hob
    have w := (hd rfl).2.2
    rw [e5] at w
    exact w2_M (eObj_0 w).1
  unfold f_Scribe_writeList
  rw [c_o (SI_row hI hr).1, bs]
  refine sz_x (sp_clear hI hN hr) (fun _ τ1 _ i1 => ?_)
  have w := zp_list_6 (F := F) (c := c) hF hC hob hr (oM b' - 1) 1 F τ1 0 (Nat.le_refl _) (by omega) (by omega) (by omega) i1
  rw [Nat.zero_add] at w
  exact w
end BLCP
section CMPP
variable {F : Nat} {c : px_CT} {sk : Nat → Nat × Nat × Nat} {L : Nat} {own : Nat → Nat × Nat} {τ0 τ : px_TT} {fs : List (Nat × (Nat → Nat))} {gs : List (List Nat × Int64)} {ws : List (List Nat)} {n : Nat} {b : Nat → Nat} {a : Int32} {Y : px_Y} {r A : Nat}
theorem zp_mp6 {J : px_TT → Prop} {V : Int32 → Prop} (hF : 65540 < F) (hC : CV sk L own τ0 fs gs ws n b a Y) (ha : a = 0) (hr : TRw r (r + 1) 65536) (hT : ∀ τ, SZP none sk L τ0 r 65536 (mpS Y) τ → Sf sk L J V (f_Scribe_writeMap_128 F c 1713 r (cH sk L τ))) : ∀ (d i f : Nat) (τ : px_TT), i + d = Y.2.2.1.length → d < f → SZP none sk L τ0 r 65536 (sumT (fun p => 25 + wdN (mpZ Y p) + wdN (mpU Y p)) i) τ → Sf sk L J V (f_Scribe_writeMap_6 F c f 1713 r (nI i) (cH sk L τ)) := by
  have h0 := (CV_S4 hC).1.1.1
  have o13 := G1713 hC.1
  have o17 : ob sk L 2 1700 := GS_o hC.1 (by decide) (by decide)
  obtain ⟨⟨_, hlen, hps⟩, _⟩ := (CV_X hC).2 ha
  intro d
  induction d with
  | zero =>
    intro i f τ hi hf hI
    obtain ⟨f, rfl⟩ : ∃ y, f = y + 1 := ⟨f - 1, by omega⟩
    have ei : i = Y.2.2.1.length := by omega
    have hR := GR_Z h0.2.1 hI.1.1.1
    have e11 := ((CV_X (CV_SI hC hI.1.1)).2 ha).1.1
    unfold f_Scribe_writeMap_6
    rw [C11r1 o13 (GR_r (v := 1700) hR (by decide)), bs, C2g11 o17, bs, e11, if_pos (nI_le (by omega) (by omega))]
    refine hT τ ?_
    rw [ei] at hI
    exact hI
  | succ d ih =>
    intro i f τ hi hf hI
    obtain ⟨f, rfl⟩ : ∃ y, f = y + 1 := ⟨f - 1, by omega⟩
    have hp : Y.2.2.1[i]? = some Y.2.2.1[i] := List.getElem?_eq_getElem (by omega)
    have hbd := (hps i _ hp).1
    obtain ⟨em1, em2⟩ := mpZ_at hp
    obtain ⟨x, x1, hx⟩ := z_parts (F := F) (c := c) hC ha hp
    have oP := G_part hC.1 x1
    have hR := GR_Z h0.2.1 hI.1.1.1
    have e11 := ((CV_X (CV_SI hC hI.1.1)).2 ha).1.1
    have orr := (SI_row hI.1.1 hr).1
    have es : sumT (fun p => 25 + wdN (mpZ Y p) + wdN (mpU Y p)) (i + 1) = sumT (fun p => 25 + wdN (mpZ Y p) + wdN (mpU Y p)) i + (25 + wdN (mpZ Y i) + wdN (mpU Y i)) := rfl
    have go := fun τ hI => ih (i + 1) f τ (by omega) (by omega) hI
    rw [es, em1, em2] at go
    generalize sumT (fun p => 25 + wdN (mpZ Y p) + wdN (mpU Y p)) i = S at *
    generalize Y.2.2.1[i] = p at *
    unfold f_Scribe_writeMap_6
    rw [C11r1 o13 (GR_r (v := 1700) hR (by decide)), bs, C2g11 o17, bs, e11, if_neg (nI_ge (by omega) (by omega)), bs, c_o o17, bs, (hx τ hI.1.1).1, xb_mk, bs, C8g11 oP, bs, c_o orr, bs]
    refine sz_x (sp_hex hF hr hI) (fun _ τ1 _ i1 => ?_)
    rw [c_o orr, bs]
    refine sz_x (sp_put hF hr (by decide) i1) (fun _ τ2 _ i2 => ?_)
    rw [C8g5 oP, bs, (hx τ2 i2.1.1).2.2.2.2.2, c_o orr, bs]
    refine sz_x (sp_dec hF hr (by omega) i2) (fun _ τ3 _ i3 => ?_)
    rw [c_o orr, bs]
    refine sz_x (sp_put hF hr (by decide) i3) (fun _ τ4 _ i4 => ?_)
    rw [C8g4 oP, bs, (hx τ4 i4.1.1).2.2.2.2.1, c_o orr, bs]
    refine sz_x (sp_dec hF hr (by omega) i4) (fun _ τ5 _ i5 => ?_)
    rw [c_o orr, bs]
    refine sz_x (sp_put hF hr (by decide) i5) (fun _ τ6 _ i6 => ?_)
    rw [C8g1 oP, bs, (hx τ6 i6.1.1).2.1, c_o orr, bs]
    refine sz_x (sp_dec hF hr (by omega) i6) (fun _ τ7 _ i7 => ?_)
    rw [c_o orr, bs]
    refine sz_x (sp_put hF hr (by decide) i7) (fun _ τ8 _ i8 => ?_)
    rw [C8g2 oP, bs, (hx τ8 i8.1.1).2.2.1, c_o orr, bs]
    refine sz_x (sp_dec hF hr (by omega) i8) (fun _ τ9 _ i9 => ?_)
    rw [c_o orr, bs]
    refine sz_x (sp_put hF hr (by decide) i9) (fun _ τa _ ia => ?_)
    rw [C8g3 oP, bs, (hx τa ia.1.1).2.2.2.1, c_o orr, bs]
    refine sz_x (sp_dec hF hr (by omega) ia) (fun _ τb _ ib => ?_)
    rw [c_o orr, bs]
    refine sz_x (sp_put hF hr (by decide) ib) (fun _ τc _ ic => ?_)
    rw [wdN_1 hbd.1, wdN_1 hbd.2.1, wdN_1 hbd.2.2.2.1] at ic
    rw [nI_add]
    refine go τc ?_
    rw [show S + (25 + wdN p.2.2.2.2.1 + wdN p.2.2.1) = S + 16 + 1 + wdN p.2.2.2.2.1 + 1 + 1 + 1 + 1 + 1 + 1 + 1 + wdN p.2.2.1 + 1 by omega]
    exact ic
theorem zp_mp130 (hF : 65540 < F) (hC : CV sk L own τ0 fs gs ws n b a Y) (ha : a = 0) (hr : TRw r (r + 1) 65536) (hod : Y.2.2.2.2.length ≤ 4096) : ∀ (d i f : Nat) (τ : px_TT), i + d = Y.2.2.2.2.length → d < f → SZP none sk L τ0 r 65536 (mpS Y + sumT (fun i => 18 + mpL Y i) i) τ → Sf sk L (SZP none sk L τ0 r 65536 (mpT Y)) (fun v => v = bI (decide (mpT Y ≤ 65536))) (f_Scribe_writeMap_130 F c f 1713 r (nI i) (cH sk L τ)) := by
  have h0 := (CV_S4 hC).1.1.1
  have o13 := G1713 hC.1
  have o47 := G147 hC.1
  intro d
  induction d with
  | zero =>
    intro i f τ hi hf hI
    obtain ⟨f, rfl⟩ : ∃ y, f = y + 1 := ⟨f - 1, by omega⟩
    have ei : i = Y.2.2.2.2.length := by omega
    have hR := GR_Z h0.2.1 hI.1.1.1
    obtain ⟨_, _, e15, _⟩ := ((CV_X (CV_SI hC hI.1.1)).2 ha).2
    have orr := (SI_row hI.1.1 hr).1
    rw [ei] at hI
    have hI : SZP none sk L τ0 r 65536 (mpT Y) τ := hI
    unfold f_Scribe_writeMap_130 f_Scribe_writeMap_185 f_Scribe_writeMap_197
    rw [C11r0 o13 (GR_r (v := 147) hR (by decide)), bs, C3g15 o47, bs, e15, if_pos (nI_le (by omega) (by omega)), C10g2 orr, bs]
    by_cases cT : mpT Y ≤ 65536
    · rw [(hI.1.2.1.1 cT).2, if_pos (show bI false = 0 from rfl), decide_eq_true cT]
      exact ⟨_, τ, xz_b true _, rfl, hI⟩
    · rw [hI.1.2.1.2 (by omega), if_neg (show ¬ bI true = 0 by decide), decide_eq_false cT]
      exact ⟨_, τ, xz_b false _, rfl, hI⟩
  | succ d ih =>
    intro i f τ hi hf hI
    obtain ⟨f, rfl⟩ : ∃ y, f = y + 1 := ⟨f - 1, by omega⟩
    have hR := GR_Z h0.2.1 hI.1.1.1
    have hCt := CV_SI hC hI.1.1
    obtain ⟨⟨hns, hnt⟩, hna, e15, hod2⟩ := ((CV_X hCt).2 ha).2
    obtain ⟨dd, hd⟩ : ∃ dd, Y.2.2.2.2[i]? = some dd := ⟨_, List.getElem?_eq_getElem (by omega)⟩
    obtain ⟨d1, d2⟩ := hod2 i dd hd
    have hx : Y.2.2.2.1[dd]? = some Y.2.2.2.1[dd] := List.getElem?_eq_getElem d1
    have hxw : (Y.2.2.2.1.map Prod.fst)[dd]? = some Y.2.2.2.1[dd].1 := by rw [List.getElem?_map, hx]; rfl
    obtain ⟨_, n2, op, nm⟩ := hns.2.2.2.2.2.2 dd _ hxw
    have hge := (hCt.2.2.1 149 dd _ (Or.inr (Or.inr rfl)) n2).1
    have hw20 := (hnt _ (List.mem_of_getElem? hxw)).2.1
    have eL : mpL Y i = Y.2.2.2.1[dd].1.length := by
      unfold mpL
      rw [List.getD_eq_getElem?_getD, List.getD_eq_getElem?_getD, hd]
      show (Y.2.2.2.1[dd]?.getD ([], 0)).1.length = _
      rw [hx]
      rfl
    have orr := (SI_row hI.1.1 hr).1
    have hrp : r < 1815 := by unfold TRw at hr; omega
    have es : sumT (fun i => 18 + mpL Y i) (i + 1) = sumT (fun i => 18 + mpL Y i) i + (18 + mpL Y i) := rfl
    have go := fun τ hI => ih (i + 1) f τ (by omega) (by omega) hI
    rw [es, eL] at go
    have eD : f_Link_definedAt F c 147 (nI i) (cH sk L τ) = some (some (pN τ 149 dd), cH sk L τ) := by
      unfold f_Link_definedAt f_Link_definedAt_31 f_Link_definedAt_47
      rw [if_neg (nI_n0 (by omega)), C3g15 o47, bs, e15, if_neg (nI_ge (by omega) (by omega)), C3r9 o47 (GR_r (v := 1693) hR (by decide)), bs, c_l (G1693 hC.1) (by decide), bs, if_neg (nI_ge (by omega) (by decide)), bs, c_aN (G1693 hC.1) (Or.inr (Or.inl rfl)) (by decide) (by omega), bs, d2]
    generalize sumT (fun i => 18 + mpL Y i) i = S at *
    unfold f_Scribe_writeMap_130
    rw [C11r0 o13 (GR_r (v := 147) hR (by decide)), bs, C3g15 o47, bs, e15, if_neg (nI_ge (by omega) (by omega)), bs, c_o o47, bs, eD, xb_mk, bs, C5g14 op, bs, c_o orr, bs]
    refine sz_x (sp_hex hF hr hI) (fun _ τ1 _ i1 => ?_)
    rw [c_o orr, bs]
    refine sz_x (sp_put hF hr (by decide) i1) (fun _ τ2 _ i2 => ?_)
    have e3 : fI τ2 (pN τ 149 dd) 3 = nI Y.2.2.2.1[dd].1.length := by
      have w1' := i2.1.1.1.1 (pN τ 149 dd) 3 (Zc_no (by omega)) (by omega) (by omega) (by omega) (by omega)
      have w2' := hI.1.1.1.1 (pN τ 149 dd) 3 (Zc_no (by omega)) (by omega) (by omega) (by omega) (by omega)
      rw [w1', ← w2']
      exact nm.2.2.2
    rw [c_o op, bs]
    refine sz_x (sp_wto hF hr op (by omega) (by omega) e3 i2) (fun _ τ3 _ i3 => ?_)
    rw [c_o orr, bs]
    refine sz_x (sp_put hF hr (by decide) i3) (fun _ τ4 _ i4 => ?_)
    rw [nI_add]
    refine go τ4 ?_
    rw [show mpS Y + (S + (18 + Y.2.2.2.1[dd].1.length)) = mpS Y + S + 16 + 1 + Y.2.2.2.1[dd].1.length + 1 by omega]
    exact i4
theorem zp_map (hF : 65540 < F) (hC : CV sk L own τ0 fs gs ws n b a Y) (ha : a = 0) (hr : TRw r (r + 1) 65536) (hod : Y.2.2.2.2.length ≤ 4096) (hI : SI none sk L τ0 τ) (hN : ∀ k, fN τ 0 k = fN τ0 0 k) : Sf sk L (SZP none sk L τ0 r 65536 (mpT Y)) (fun v => v = bI (decide (mpT Y ≤ 65536))) (f_Scribe_writeMap F c 1713 r (cH sk L τ)) := by
  have hlen := ((CV_X hC).2 ha).1.2.1
  unfold f_Scribe_writeMap
  rw [c_o (SI_row hI hr).1, bs]
  refine sz_x (sp_clear hI hN hr) (fun _ τ1 _ i1 => ?_)
  refine zp_mp6 hF hC ha hr (fun τ2 i2 => ?_) Y.2.2.1.length 0 F τ1 (Nat.zero_add _) (by omega) i1
  unfold f_Scribe_writeMap_128
  exact zp_mp130 hF hC ha hr hod Y.2.2.2.2.length 0 F τ2 (Nat.zero_add _) (by omega) i2
end CMPP
end
section
/-! the reference's lists, maps and archives are no executables (made by a program out of fn, fy, f0, f3, fp, fq) -/
/-- the first byte of OUT is none of an executable -/
def Z0r (σ : px_S) : Prop := b8 (gA σ 3 0) ≠ 127
/-- as OWx, and the first byte is none of an executable -/
def OWy (σ0 σ : px_S) (c : Nat) : Prop := OWx σ0 σ c ∧ Z0r σ
/-- .. where there is one -/
def OWz (σ0 σ : px_S) (c : Nat) : Prop := OWx σ0 σ c ∧ (0 < c → Z0r σ)
def OWze (σ0 σ : px_S) : Prop := ∃ c, c ≤ 65536 ∧ OWz σ0 σ c
def OWj (σ0 σ : px_S) (c : Nat) : Prop := OWi σ0 σ c ∧ Z0r σ
theorem hexd : ∀ d, d < 16 → b8 ((nI 48 + nI d).toInt8.toInt32.toInt8.toInt32) ≠ 127 ∧ b8 ((nI 97 + nI d - nI 10).toInt8.toInt32.toInt8.toInt32) ≠ 127 := by decide +kernel
theorem and15 (v : Int64) : ∃ d, d < 16 ∧ (v &&& (15 : Int64)).toInt32 = nI d := by
  obtain ⟨n, hn, rfl⟩ := wb_of v
  refine ⟨n % 2 ^ 4, Nat.mod_lt _ (by decide), ?_⟩
  have e : lN n &&& (15 : Int64) = lN (n % 2 ^ 4) := wb_mask (k := 4) hn (by decide)
  rw [e]
  exact lN_i _
section BYM
variable {F m : Nat} {h : px_H} {σ0 σ : px_S} {fs : px_FS} {c : Nat}
theorem Z0_w {p : Nat} {v : Int32} (hp : 1 ≤ p) (h0 : Z0r σ) : Z0r (sA σ 3 (upd (gA σ 3) p v)) := by
  unfold Z0r
  rw [gA_sA, if_pos rfl, upd_ne (by omega)]
  exact h0
theorem Z0_n {p : Nat} {v : Int32} (hp : p = 0) (hv : b8 v ≠ 127) : Z0r (sA σ 3 (upd (gA σ 3) p v)) := by
  unfold Z0r
  rw [gA_sA, if_pos rfl, hp, upd_eq]
  exact hv
theorem Z0_I {k : Nat} {v : Int32} (h0 : Z0r σ) : Z0r (sI σ k v) := h0
theorem qy_w3 {I : px_S → Prop} {α : Type} {V : α → Prop} {f : px_H → Option (α × px_H)} {p : Nat} {v : Int32} (hm : m ≤ h.length) (hI : OWy σ0 σ c) (h1 : 1 ≤ p) (hp : p < 65536) (g : ∀ σ, OWy σ0 σ c → Sm m h I V (f (mh m h σ))) : Sm m h I V ((xsI (mh m h σ) 0 (m + 2) (nI p) v.toInt8.toInt32).bind f) := by
  rw [Ms3 hm hp, bs]; exact g _ ⟨OWx_w hI.1, Z0_w h1 hI.2⟩
theorem qy_p4 {I : px_S → Prop} {α : Type} {V : α → Prop} {f : px_H → Option (α × px_H)} {c' : Nat} (hm : m ≤ h.length) (hI : OWy σ0 σ c) (g : ∀ σ, OWy σ0 σ c' → Sm m h I V (f (mh m h σ))) : Sm m h I V ((xpI (mh m h σ) 12 4 m (nI c')).bind f) := by
  rw [Mp4 hm, bs]; exact g _ ⟨OWx_p hI.1, Z0_I hI.2⟩
theorem qy_16_3 {x : Int64} {p : Nat} (hm : m ≤ h.length) (hp : p + 16 ≤ 65536) : ∀ (d j f : Nat) (σ : px_S), j + d = 16 → d < f → OWx σ0 σ c → (0 < p + j → Z0r σ) → Sm m h (fun σ' => OWy σ0 σ' c) Any (f_M_sixteen_3 F f m (nI p) x (nI j) (mh m h σ)) := by
  intro d
  induction d with
  | zero =>
    intro j f σ hj hf hI h0
    obtain ⟨f, rfl⟩ : ∃ y, f = y + 1 := ⟨f - 1, by omega⟩
    unfold f_M_sixteen_3 f_M_sixteen_65
    rw [if_pos (nI_le (by omega) (by omega))]
    exact sm_r any ⟨hI, h0 (by omega)⟩
  | succ d ih =>
    intro j f σ hj hf hI h0
    obtain ⟨f, rfl⟩ : ∃ y, f = y + 1 := ⟨f - 1, by omega⟩
    have zw : ∀ v : Int32, b8 v ≠ 127 → Z0r (sA σ 3 (upd (gA σ 3) (p + j) v)) := fun v hv => by
      by_cases c0 : p + j = 0
      · exact Z0_n c0 hv
      · exact Z0_w (by omega) (h0 (by omega))
    obtain ⟨dg, hd, ed⟩ := and15 ((x.toUInt64 >>> (((nI 60) - ((nI 4) * (nI j))).toInt64.toUInt64 &&& Int64.toUInt64 63)).toInt64)
    unfold f_M_sixteen_3 f_M_sixteen_57
    rw [if_neg (nI_ge (by omega) (by omega)), nI_add, nI_add, ed]
    refine sm_gR hm (c := 2) rfl (sm_i (fun _ => ?_) (fun _ => ?_))
    · rw [Ms3 hm (by omega), bs]
      exact ih _ _ _ (by omega) (by omega) (OWx_w hI) (fun _ => zw _ (hexd dg hd).2)
    · rw [Ms3 hm (by omega), bs]
      exact ih _ _ _ (by omega) (by omega) (OWx_w hI) (fun _ => zw _ (hexd dg hd).1)
end BYM
section MPV
variable {F m : Nat} {h : px_H}
/-- byte j of a long, as the reference writes it -/
def bRv (v : Int64) (j : Nat) : Int32 := ((v >>> ((nI 8 * nI j).toInt64 &&& 63)).toInt32.toInt8.toInt32).toInt8.toInt32
theorem q_putV_3 {at0 n : Nat} {v : Int64} (hm : m ≤ h.length) (ha : at0 + n ≤ 65536) : ∀ (c k g : Nat) (σ : px_S), k + c = n → c < g → (∀ k, isB (gA σ 3 k)) → ∃ σ', f_M_put_3 F g m (nI at0) v (nI n) (nI k) (mh m h σ) = some ((), mh m h σ') ∧ WRo σ σ' ∧ ∀ i, gA σ' 3 i = if at0 + k ≤ i ∧ i < at0 + n then bRv v (i - at0) else gA σ 3 i := by
  intro c
  induction c with
  | zero =>
    intro k g σ hk hg h3
    obtain ⟨g, rfl⟩ : ∃ x, g = x + 1 := ⟨g - 1, by omega⟩
    unfold f_M_put_3 f_M_put_34
    rw [if_pos (nI_le (by omega) (by omega))]
    exact ⟨σ, rfl, ⟨FR_refl σ, h3⟩, fun i => by rw [if_neg (by omega)]⟩
  | succ c ih =>
    intro k g σ hk hg h3
    obtain ⟨g, rfl⟩ : ∃ x, g = x + 1 := ⟨g - 1, by omega⟩
    unfold f_M_put_3
    rw [if_neg (nI_ge (by omega) (by omega)), Mr3 hm, bs, nI_add, Ms3 hm (by omega), bs, nI_add]
    have w := WRo_set (i := at0 + k) h3 (isB_8 ((v >>> ((nI 8 * nI k).toInt64 &&& 63)).toInt32.toInt8.toInt32))
    obtain ⟨σ2, j1, j2, j3⟩ := ih (k + 1) g _ (by omega) (by omega) w.2
    refine ⟨σ2, j1, WRo_tr w j2, fun i => ?_⟩
    rw [j3 i, gA_sA, if_pos rfl]
    by_cases c1 : i = at0 + k
    · rw [if_neg (by omega), c1, upd_eq, if_pos (by omega), Nat.add_sub_cancel_left]
      rfl
    · rw [upd_ne c1]
      by_cases c2 : at0 + (k + 1) ≤ i ∧ i < at0 + n
      · rw [if_pos c2, if_pos (by omega)]
      · rw [if_neg c2, if_neg (by omega)]
theorem q_putV {σ : px_S} {at0 n : Nat} {v : Int64} (hm : m ≤ h.length) (hF : 65536 < F) (ha : at0 + n ≤ 65536) (h3 : ∀ k, isB (gA σ 3 k)) : ∃ σ', f_M_put F m (nI at0) v (nI n) (mh m h σ) = some ((), mh m h σ') ∧ FR [] [] [3] [] σ σ' ∧ (∀ k, isB (gA σ' 3 k)) ∧ ∀ i, gA σ' 3 i = if at0 ≤ i ∧ i < at0 + n then bRv v (i - at0) else gA σ 3 i := by
  obtain ⟨σ', e1, e2, e3⟩ := q_putV_3 (F := F) (v := v) hm ha n 0 F σ (by omega) (by omega) h3
  exact ⟨σ', e1, e2.1, e2.2, e3⟩
/-- byte j of a number -/
def nB (x j : Nat) : Int32 := (nI (x / 256 ^ j)).toInt8.toInt32
theorem bRv_n {x j : Nat} (hx : x < 2 ^ 64) (hj : j < 8) : bRv (lN x) j = nB x j := by
  unfold bRv nB
  rw [show nI 8 * nI j = nI (8 * j) from (Int32.ofNat_mul 8 j).symm, sshr_byte hx hj, show 2 ^ (8 * j) = 256 ^ j by rw [Nat.pow_mul]]
  exact isB_c (isB_8 _)
theorem bV_n {x j : Nat} (hx : x < 2 ^ 64) (hj : j < 8) : bV (lN x) j = nB x j := by
  unfold bV nB
  rw [show nI 8 * nI j = nI (8 * j) from (Int32.ofNat_mul 8 j).symm, shr_byte hx hj]
  exact isB_c (isB_8 _)
theorem nB_b (x j : Nat) : b8 (nB x j) = x / 256 ^ j % 256 := by
  unfold nB
  generalize x / 256 ^ j = y
  have e : (nI y).toInt8 = (nI (y % 256)).toInt8 := by
    apply Int8.toBitVec_inj.mp
    apply BitVec.eq_of_toNat_eq
    rw [Int32.toBitVec_toInt8, Int32.toBitVec_toInt8, BitVec.signExtend_eq_setWidth_of_le _ (by decide), BitVec.signExtend_eq_setWidth_of_le _ (by decide), BitVec.toNat_setWidth, BitVec.toNat_setWidth]
    show (y % 2 ^ 32) % 2 ^ 8 = (y % 256 % 2 ^ 32) % 2 ^ 8
    omega
  rw [e]
  exact b8_n _ (Nat.mod_lt _ (by decide))
theorem le_w {b : Nat → Nat} {p x : Nat} : ∀ k, (∀ j, j < k → b (p + j) = x / 256 ^ j % 256) → le b p k = x % 256 ^ k := by
  intro k
  induction k with
  | zero => intro _; rw [Nat.pow_zero, Nat.mod_one]; rfl
  | succ k ih =>
    intro hb
    have e1 := ih (fun j hj => hb j (by omega))
    have e2 := hb k (by omega)
    show b (p + k) * 256 ^ k + le b p k = x % 256 ^ (k + 1)
    rw [e1, e2, Nat.pow_succ, Nat.mod_mul, Nat.mul_comm, Nat.add_comm]
end MPV
section BYN
variable {F m : Nat} {h : px_H} {σ0 σ : px_S} {fs : px_FS} {c : Nat}
theorem qy_li_273 {J : px_S → Prop} {V : Int32 → Prop} {k110 : Nat → Int32 → Int32 → px_H → Option (Int32 × px_H)} {o k P c0 Y : Nat} (hm : m ≤ h.length) (hY : Y ≤ 20) (hP : P + Y < 65536) (hq : ∀ σ c, OWi σ0 σ c → f_M_nameEnd F m (nI o) (nI k) (mh m h σ) = some (nI (P + Y), mh m h σ)) (hc0 : c0 + 40 ≤ 65536) (hc1 : 1 ≤ c0) (hK : ∀ σ, OWy σ0 σ (c0 + Y + 1) → Sm m h J V (k110 m (nI o) (nI (k + 1)) (mh m h σ))) : ∀ (d t f : Nat) (σ : px_S), t + d = Y → d < f → OWy σ0 σ (c0 + t) → Sm m h J V (f_M_list_273 F k110 f m (nI o) (nI k) (nI (P + t)) (mh m h σ)) := by
  intro d
  induction d with
  | zero =>
    intro t f σ hj hf hI
    obtain ⟨f, rfl⟩ : ∃ y, f = y + 1 := ⟨f - 1, by omega⟩
    obtain rfl : t = Y := by omega
    unfold f_M_list_273 f_M_list_318 f_M_list_339
    rw [e_o hm, bs, hq σ _ hI.1.1, xb_mk, if_pos (nI_le (by omega) (by omega)), Mr3 hm, bs, Mg4 hm, bs, hI.1.1.2.1, nI_add]
    refine qy_w3 hm hI (by omega) (by omega) (fun σ hi => ?_)
    rw [Mg4 hm, bs, hi.1.1.2.1, nI_add]
    exact qy_p4 hm hi (fun σ hi => hK _ hi)
  | succ d ih =>
    intro t f σ hj hf hI
    obtain ⟨f, rfl⟩ : ∃ y, f = y + 1 := ⟨f - 1, by omega⟩
    unfold f_M_list_273
    rw [e_o hm, bs, hq σ _ hI.1.1, xb_mk, if_neg (nI_ge (by omega) (by omega)), Mr3 hm, bs, Mg4 hm, bs, hI.1.1.2.1, Mr6 hm, bs, Ma6 hm (by omega), bs, nI_add, Nat.add_assoc P t 1]
    refine qy_w3 hm hI (by omega) (by omega) (fun σ hi => ?_)
    rw [Mg4 hm, bs, hi.1.1.2.1, nI_add, Nat.add_assoc c0 t 1]
    exact qy_p4 hm hi (fun σ hi => ih (t + 1) f σ (by omega) (by omega) hi)
theorem qy_li_203 {J : px_S → Prop} {V : Int32 → Prop} {k110 : Nat → Int32 → Int32 → px_H → Option (Int32 × px_H)} {o k c0 P Y : Nat} (hm : m ≤ h.length) (hF : 24 < F) (hY : Y ≤ 20) (hP : P + Y < 65536) (hl : ∀ σ c, OWi σ0 σ c → (∃ v, f_M_letterOf F m (nI o) (nI k) (mh m h σ) = some (v, mh m h σ)) ∧ f_M_nameAt F m (nI o) (nI k) (mh m h σ) = some (nI P, mh m h σ) ∧ f_M_nameEnd F m (nI o) (nI k) (mh m h σ) = some (nI (P + Y), mh m h σ)) (hc0 : c0 + 64 ≤ 65536) (hK : ∀ σ, OWy σ0 σ (c0 + (20 + Y)) → Sm m h J V (k110 m (nI o) (nI (k + 1)) (mh m h σ))) (hI : OWy σ0 σ c0) : Sm m h J V (f_M_list_203 F k110 m (nI o) (nI k) (mh m h σ)) := by
  unfold f_M_list_203
  rw [Mr3 hm, bs, Mg4 hm, bs, hI.1.1.2.1, nI_add]
  refine qy_w3 hm hI (by omega) (by omega) (fun σ hi => ?_)
  obtain ⟨⟨v, ev⟩, _, _⟩ := hl σ _ hi.1.1
  rw [Mr3 hm, bs, Mg4 hm, bs, hi.1.1.2.1, e_o hm, bs, ev, xb_mk, nI_add]
  refine qy_w3 hm hi (by omega) (by omega) (fun σ hi => ?_)
  rw [Mr3 hm, bs, Mg4 hm, bs, hi.1.1.2.1, nI_add]
  refine qy_w3 hm hi (by omega) (by omega) (fun σ hi => ?_)
  rw [Mg4 hm, bs, hi.1.1.2.1, nI_add]
  refine qy_p4 hm hi (fun σ hi => ?_)
  obtain ⟨_, e2, _⟩ := hl σ _ hi.1.1
  rw [e_o hm, bs, e2, xb_mk]
  refine qy_li_273 (c0 := c0 + 19) (P := P) (Y := Y) hm hY hP (fun σ c hi => (hl σ c hi).2.2) (by omega) (by omega) (fun σ hi => hK σ ?_) Y 0 F σ (Nat.zero_add _) (by omega) hi
  rw [show c0 + (20 + Y) = c0 + 19 + Y + 1 by omega]
  exact hi
theorem qy_li_165 {J : px_S → Prop} {V : Int32 → Prop} {k110 : Nat → Int32 → Int32 → px_H → Option (Int32 × px_H)} {o k c0 W : Nat} (hm : m ≤ h.length) (hc0 : c0 + 64 ≤ 65536) (hwh : ∀ σ c, OWi σ0 σ c → f_M_where F m (nI o) (nI k) (mh m h σ) = some (nI W, mh m h σ)) (h203 : ∀ σ, OWy σ0 σ c0 → Sm m h J V (f_M_list_203 F k110 m (nI o) (nI k) (mh m h σ))) : ∀ (d j f : Nat) (σ : px_S), j + d = 16 → d < f → OWx σ0 σ c0 → (0 < j ∨ 0 < c0 ∨ ¬ nI W = 0 → Z0r σ) → Sm m h J V (f_M_list_165 F k110 f m (nI o) (nI k) (nI j) (mh m h σ)) := by
  intro d
  induction d with
  | zero =>
    intro j f σ hj hf hI h0
    obtain ⟨f, rfl⟩ : ∃ y, f = y + 1 := ⟨f - 1, by omega⟩
    unfold f_M_list_165
    rw [if_pos (nI_le (by omega) (by omega))]
    exact h203 σ ⟨hI, h0 (Or.inl (by omega))⟩
  | succ d ih =>
    intro j f σ hj hf hI h0
    obtain ⟨f, rfl⟩ : ∃ y, f = y + 1 := ⟨f - 1, by omega⟩
    have zw : ∀ v : Int32, b8 v ≠ 127 → Z0r (sA σ 3 (upd (gA σ 3) (c0 + j) v)) := fun v hv => by
      by_cases c1 : c0 + j = 0
      · exact Z0_n c1 hv
      · exact Z0_w (by omega) (h0 (by omega))
    unfold f_M_list_165
    rw [if_neg (nI_ge (by omega) (by omega)), e_o hm, bs, hwh σ _ hI.1, xb_mk]
    refine sm_i (fun _ => ?_) (fun cw => h203 σ ⟨hI, h0 (Or.inr (Or.inr cw))⟩)
    rw [Mr3 hm, bs, Mg4 hm, bs, hI.1.2.1, nI_add, nI_add, Ms3 hm (by omega), bs]
    exact ih _ _ _ (by omega) (by omega) (OWx_w hI) (fun _ => zw _ (by decide +kernel))
theorem qy_li_110 {Bf Yf : Nat → Nat} {o M : Nat} (hm : m ≤ h.length) (hF : 24 < F) (hM : M ≤ 64) (hmany : ∀ σ c, OWi σ0 σ c → f_M_symbolMany F m (nI o) (mh m h σ) = some (nI M, mh m h σ)) (hsym : ∀ k, 1 ≤ k → k < M → (nI (Bf k) = 0 → Bf k = 0) ∧ ∃ W V P, (Bf k ≠ 0 → Yf k ≤ 20 ∧ P + Yf k < 65536) ∧ ∀ σ c, OWi σ0 σ c → f_M_bind F m (nI o) (nI k) (mh m h σ) = some (nI (Bf k), mh m h σ) ∧ f_M_where F m (nI o) (nI k) (mh m h σ) = some (nI W, mh m h σ) ∧ f_M_value F m (nI o) (nI k) (mh m h σ) = some (V, mh m h σ) ∧ (Bf k ≠ 0 → (∃ v, f_M_letterOf F m (nI o) (nI k) (mh m h σ) = some (v, mh m h σ)) ∧ f_M_nameAt F m (nI o) (nI k) (mh m h σ) = some (nI P, mh m h σ) ∧ f_M_nameEnd F m (nI o) (nI k) (mh m h σ) = some (nI (P + Yf k), mh m h σ))) : ∀ (d k f c : Nat) (σ : px_S), 1 ≤ k → (k + d = M ∨ (M ≤ k ∧ d = 0)) → k ≤ 64 → d < f → c + 40 ≤ 40 * k → OWz σ0 σ c → Sm m h (fun σ' => OWz σ0 σ' (c + lsz Bf Yf d k)) (fun v => v = nI (c + lsz Bf Yf d k)) (f_M_list_110 F f m (nI o) (nI k) (mh m h σ)) := by
  intro d
  induction d with
  | zero =>
    intro k f c σ hk1 hk h64 hf hc hI
    obtain ⟨f, rfl⟩ : ∃ y, f = y + 1 := ⟨f - 1, by omega⟩
    unfold f_M_list_110 f_M_list_345
    rw [e_o hm, bs, hmany σ _ hI.1.1, xb_mk, if_pos (nI_le (by omega) (by omega)), Mg4 hm, bs]
    exact sm_r hI.1.1.2.1 hI
  | succ d ih =>
    intro k f c σ hk1 hk h64 hf hc hI
    obtain ⟨f, rfl⟩ : ∃ y, f = y + 1 := ⟨f - 1, by omega⟩
    have hkM : k < M := by omega
    obtain ⟨hB0, W, V, P, hPY, hs⟩ := hsym k hk1 hkM
    obtain ⟨s1, s2, s3, s4⟩ := hs σ _ hI.1.1
    unfold f_M_list_110 f_M_list_345 f_M_list_339 f_M_list_162 lsz
    rw [e_o hm, bs, hmany σ _ hI.1.1, xb_mk, if_neg (nI_ge (by omega) (by omega)), e_o hm, bs, s1, xb_mk, nI_add]
    by_cases hB : Bf k = 0
    · rw [if_pos hB, if_pos (by rw [hB]; rfl), Nat.zero_add]
      exact ih _ _ _ _ (by omega) (by omega) (by omega) (by omega) (by omega) hI
    · rw [if_neg hB, if_neg (fun e => hB (hB0 e))]
      obtain ⟨hY, hP⟩ := hPY hB
      have hl := fun σ c hi => (hs σ c hi).2.2.2 hB
      rw [← Nat.add_assoc c (20 + Yf k)]
      have h203 : ∀ σ, OWy σ0 σ c → Sm m h (fun σ' => OWz σ0 σ' (c + (20 + Yf k) + lsz Bf Yf d (k + 1))) (fun v => v = nI (c + (20 + Yf k) + lsz Bf Yf d (k + 1))) (f_M_list_203 F (f_M_list_110 F f) m (nI o) (nI k) (mh m h σ)) := fun σ hi => qy_li_203 hm hF hY hP hl (by omega) (fun σ hi => ih _ _ _ _ (by omega) (by omega) (by omega) (by omega) (by omega) ⟨hi.1, fun _ => hi.2⟩) hi
      rw [e_o hm, bs, s2, xb_mk]
      refine sm_i (fun cw => qy_li_165 hm (by omega) (fun σ c hi => (hs σ c hi).2.1) h203 16 0 F σ rfl (by omega) hI.1 (fun w => w.elim (fun w => absurd w (by decide)) (fun w => w.elim hI.2 (fun w => absurd cw w)))) (fun _ => ?_)
      rw [Mg4 hm, bs, e_o hm, bs, s3, xb_mk, e_o hm, bs, hI.1.1.2.1]
      refine sm_x (qy_16_3 (F := F) (x := V) (p := c) hm (by omega) 16 0 F σ rfl (by omega) hI.1 (fun w => hI.2 (by omega))) (fun v σ hv hi => ?_)
      exact qy_li_165 hm (by omega) (fun σ c hi => (hs σ c hi).2.1) h203 16 0 F σ rfl (by omega) hi.1 (fun _ => hi.2)
/-- the reference's list -/
theorem qy_list {a1 a2 : Int32} (hm : m ≤ h.length) (hF : 65540 < F) (hr : RF σ fs) (ho : OUo σ) : (∀ q o n b, MBR fs a1 a2 q o n b false → Sm m h (fun σ' => OWz (sI σ 0 (nI 0)) σ' (lsz (yB b) (yL b) (oM b - 1) 1)) (fun v => v = nI (lsz (yB b) (yL b) (oM b - 1) 1)) (f_M_list F m a1 a2 (mh m h σ))) ∧ ((∀ q o n b, ¬ MBR fs a1 a2 q o n b false) → f_M_list F m a1 a2 (mh m h σ) = some (nI 0, mh m h (sI σ 0 (nI 1)))) := by
  have h8 := hr.2.1
  have th1 : f_M_throwing F m (nI 1) (nI 0) (mh m h σ) = some (nI 1, mh m h (sI σ 0 (nI 1))) := q_throwing hm true false
  have th0 : f_M_throwing F m (nI 0) (nI 0) (mh m h σ) = some (nI 0, mh m h (sI σ 0 (nI 0))) := q_throwing hm false false
  have bad2 : f_M_list_80 F m a1 a2 m (nI 1) (mh m h σ) = some (nI 0, mh m h (sI σ 0 (nI 1))) := by
    unfold f_M_list_80
    rw [e_o hm, bs, th1, xb_mk, if_neg (by decide)]
  have bad : f_M_list_47 F m a1 a2 (nI 1) (mh m h σ) = some (nI 0, mh m h (sI σ 0 (nI 1))) := by
    unfold f_M_list_47 f_M_list_75
    rw [if_neg (by decide)]
    exact bad2
  have no : (∀ q o n b, ¬ MBR fs a1 a2 q o n b false) → f_M_list F m a1 a2 (mh m h σ) = some (nI 0, mh m h (sI σ 0 (nI 1))) → (∀ q o n b, MBR fs a1 a2 q o n b false → Sm m h (fun σ' => OWz (sI σ 0 (nI 0)) σ' (lsz (yB b) (yL b) (oM b - 1) 1)) (fun v => v = nI (lsz (yB b) (yL b) (oM b - 1) 1)) (f_M_list F m a1 a2 (mh m h σ))) ∧ ((∀ q o n b, ¬ MBR fs a1 a2 q o n b false) → f_M_list F m a1 a2 (mh m h σ) = some (nI 0, mh m h (sI σ 0 (nI 1)))) := fun hM e => ⟨fun q o n b h => absurd h (hM q o n b), fun _ => e⟩
  by_cases c1 : a1 < 0
  · refine no (fun q o n b ⟨i', k', q1, q2, q3, _⟩ => ?_) ?_
    · rw [q3] at c1
      exact nI_n0 (by omega) c1
    · unfold f_M_list f_M_list_42
      rw [if_pos c1, bad]
  by_cases c2 : nI fs.length ≤ a1
  · refine no (fun q o n b ⟨i', k', q1, q2, q3, _⟩ => ?_) ?_
    · rw [q3] at c2
      exact nI_ge (by omega) (by omega) c2
    · unfold f_M_list f_M_list_42
      rw [if_neg c1, Mg5 hm, bs, hr.1, if_pos c2, bad]
  obtain ⟨i, hi, rfl⟩ := ixG c1 c2 (Nat.le_refl _)
  by_cases c3 : a2 < 0
  · refine no (fun q o n b ⟨i', k', q1, q2, q3, q4, _⟩ => ?_) ?_
    · rw [q4] at c3
      exact nI_n0 (by omega) c3
    · unfold f_M_list f_M_list_42
      rw [if_neg c1, Mg5 hm, bs, hr.1, if_neg c2, if_pos c3, bad]
  obtain ⟨x, hx⟩ : ∃ x, fs[i]? = some x := ⟨_, List.getElem?_eq_getElem hi⟩
  obtain ⟨_, _, _, _, l, hl, _⟩ := hr.2.2.2 i x hx
  obtain ⟨y1, y2, y3, _⟩ := RF_row hr hx hl
  obtain ⟨k, hk, rfl⟩ := nI_of c3
  have a8 : xaI (mh m h σ) 1 (m + 5) (nI i) = some (gA σ 8 i) := e_aI (k := 8) hm rfl (show i < 8 by omega)
  have head : f_M_list F m (nI i) (nI k) (mh m h σ) = if nI k < nI l.length then f_M_list_47 F m (nI i) (nI k) (nI 0) (mh m h σ) else f_M_list_47 F m (nI i) (nI k) (nI 1) (mh m h σ) := by
    unfold f_M_list f_M_list_38 f_M_list_42
    rw [if_neg c1, Mg5 hm, bs, hr.1, if_neg c2, if_neg c3, Mr8 hm, bs, if_neg c1, bs, if_neg c2, a8, bs, y1]
  by_cases c4 : nI k < nI l.length
  · rw [if_pos c4] at head
    have hkl : k < l.length := Nat.lt_of_not_le (fun w => absurd c4 (nI_nlt w hk))
    have eob := obAt_none hr hx hl (show k < 8 by omega)
    rw [List.getElem?_eq_getElem hkl] at eob
    obtain ⟨o, n, b, sk, hob⟩ : ∃ o n b sk, obAt fs (8 * i + k) = some (o, n, b, sk) := ⟨_, _, _, _, eob⟩
    have hM : MBR fs (nI i) (nI k) (8 * i + k) o n b sk := ⟨i, k, hi, by omega, rfl, rfl, rfl, hob⟩
    obtain ⟨q1, q2, q3, q4, q5, q6, q7⟩ := RF_ob hr hob
    have a12 : xaI (mh m h σ) 3 (m + 9) (nI (8 * i + k)) = some (gA σ 12 (8 * i + k)) := e_aI (k := 12) hm rfl q1
    have head2 : f_M_list F m (nI i) (nI k) (mh m h σ) = if bI sk = 0 then f_M_list_80 F m (nI i) (nI k) m (nI 0) (mh m h σ) else f_M_list_80 F m (nI i) (nI k) m (nI 1) (mh m h σ) := by
      rw [head]
      unfold f_M_list_47 f_M_list_71 f_M_list_75
      rw [if_pos (show (nI 0 : Int32) = 0 from rfl), Mr12 hm, bs, if_pos (show (nI 0 : Int32) = 0 from rfl), ix8, a12, bs, q4]
    rw [bad2] at head2
    cases sk with
    | true =>
      refine no (fun q o n b h2 => ?_) ?_
      · have e5 := (MBR_u h8 hM h2).2.2.2.2
        cases e5
      · rw [head2, if_neg (by decide)]
    | false =>
      rw [if_pos (show bI false = 0 from rfl)] at head2
      refine ⟨fun q' o' n' b' h2 => ?_, fun w => absurd hM (w _ _ _ _)⟩
      obtain ⟨_, _, _, e5, _⟩ := MBR_u h8 hM h2
      subst e5
      have he := q7 rfl
      have q5' : cb (gA (sI σ 0 (nI 0)) 6) o n = b := q5
      have hO : OBl (sI σ 0 (nI 0)) o n := ⟨hr.2.2.1, q6, by rw [q5']; exact he⟩
      have hw := (eObj_0 he).1
      have a9 : xaI (mh m h (sI σ 0 (nI 0))) 1 (m + 6) (nI (8 * i + k)) = some (gA (sI σ 0 (nI 0)) 9 (8 * i + k)) := e_aI (k := 9) hm rfl q1
      have hI0 : OWx (sI σ 0 (nI 0)) (sI (sI σ 0 (nI 0)) 4 (nI 0)) 0 := by
        refine ⟨⟨FR_mono (FR_I _ _ _) (by decide) (by decide) (by decide) (by decide), by rw [gI_sI, if_pos rfl], ho.2⟩, ?_⟩
        rw [gI_sI, if_neg (by decide), gI_sI, if_pos rfl]
      rw [head2]
      unfold f_M_list_80
      rw [e_o hm, bs, th0, xb_mk, if_pos (show (nI 0 : Int32) = 0 from rfl), Mr9 hm, bs, ix8, a9, bs, show gA (sI σ 0 (nI 0)) 9 (8 * i + k) = nI o from q2, Mp4 hm, bs]
      have hM64 := w2_M hw
      have hmany : ∀ σ2 c, OWi (sI σ 0 (nI 0)) σ2 c → f_M_symbolMany F m (nI o) (mh m h σ2) = some (nI (oM b), mh m h σ2) := fun σ2 c hI => by
        have e := OWi_6 hI
        have hb : mb (mh m h σ2) m (gA (sI σ 0 (nI 0)) 6) := by rw [← e]; exact Mmb hm (by rw [e]; exact hO.1)
        have w := q_symbolMany (F := F) (o := o) (n := n) hb (by omega) (w1_rk (by rw [q5']; exact hw.1) q6) (by rw [q5']; exact hw.1.2.1.1) (fun hY => by rw [q5'] at hY ⊢; have := (hw.2 hY).2.1; omega)
        rw [q5'] at w
        exact w
      have hsym := fun (k2 : Nat) (hk1 : 1 ≤ k2) (hk : k2 < oM b) => li_symx (F := F) (m := m) (h := h) (σ0 := sI σ 0 (nI 0)) (o := o) (n := n) (k := k2) hm (by omega) hO hk1 (by rw [q5']; exact hk)
      rw [q5'] at hsym
      have w := qy_li_110 (F := F) (m := m) (h := h) (σ0 := sI σ 0 (nI 0)) (Bf := yB b) (Yf := yL b) (o := o) (M := oM b) hm (by omega) hM64 hmany hsym (oM b - 1) 1 F 0 _ (Nat.le_refl _) (by omega) (by omega) (by omega) (Nat.le_refl _) ⟨hI0, fun w => absurd w (by decide)⟩
      rw [Nat.zero_add] at w
      exact w
  · rw [if_neg c4, bad] at head
    refine no (fun q o n b ⟨i', k', q1, q2, q3, q4, q5, q6⟩ => ?_) head
    have e2 : i = i' := (nI_eq (by omega) (by omega)).mp q3
    have e3 : k = k' := (nI_eq (by omega) (by omega)).mp q4
    have hkl : ¬ k < l.length := fun w => c4 (nI_lt w (by omega))
    have eob := obAt_none hr hx hl (show k < 8 by omega)
    rw [List.getElem?_eq_none (by omega), e2, e3, ← q5, q6] at eob
    cases eob
end BYN
section MDY
variable {F m : Nat} {h : px_H} {σ0 σ : px_S} {c : Nat}
theorem qy_dg_21 {v : Int32} (hm : m ≤ h.length) : ∀ (k f p : Nat) (σ : px_S), k ≤ 5 → k < f → p + k ≤ 65536 → 1 ≤ p → OWy σ0 σ c → Sm m h (fun σ' => OWy σ0 σ' c) Any (f_M_digits_21 F f m v (nI (10 ^ k / 10)) (nI p) (mh m h σ)) := by
  intro k
  induction k with
  | zero =>
    intro f p σ hk hf hp h1p hI
    obtain ⟨f, rfl⟩ : ∃ y, f = y + 1 := ⟨f - 1, by omega⟩
    unfold f_M_digits_21 f_M_digits_53
    rw [if_pos (by decide)]
    exact sm_r any hI
  | succ k ih =>
    intro f p σ hk hf hp h1p hI
    obtain ⟨f, rfl⟩ : ∃ y, f = y + 1 := ⟨f - 1, by omega⟩
    have e10 : 10 ^ (k + 1) / 10 = 10 ^ k := by rw [Nat.pow_succ, Nat.mul_div_cancel _ (by decide)]
    have hb : 10 ^ k ≤ 10 ^ 4 := Nat.pow_le_pow_right (by decide) (by omega)
    have h1 : 1 ≤ 10 ^ k := Nat.pos_of_ne_zero (by simp)
    rw [e10]
    have hn : ¬ nI (10 ^ k) ≤ 0 := fun w => absurd w (nI_ge (a := 0) (b := 10 ^ k) (by omega) (by omega))
    have hx : xnzI (nI (10 ^ k)) = some () := by
      unfold xnzI
      rw [if_neg (fun w => hn (by rw [w]; decide))]
    unfold f_M_digits_21
    rw [if_neg hn, Mr3 hm, bs, hx, bs, nI_divG (by omega) (by decide), nI_add]
    exact qy_w3 hm hI (by omega) (by omega) (fun σ hi => ih f (p + 1) σ (by omega) (by omega) (by omega) (by omega) hi)
theorem qy_dg_2 {v p : Nat} (hm : m ≤ h.length) (hF : 65540 < F) (hv : v ≤ 99999) (hp : p + wdN v ≤ 65536) (h1p : 1 ≤ p) (hI : OWy σ0 σ c) : ∀ (d k f : Nat), k + d = 4 → d < f → 10 ^ k ≤ v ∨ k = 0 → Sm m h (fun σ' => OWy σ0 σ' c) Any (f_M_digits_2 F f m (nI p) (nI v) (nI (10 ^ k)) (mh m h σ)) := by
  have stop : ∀ k, k ≤ 4 → (10 ^ k ≤ v ∨ k = 0) → v < 10 ^ (k + 1) → Sm m h (fun σ' => OWy σ0 σ' c) Any (f_M_digits_18 F m (nI p) (nI v) (nI (10 ^ k)) (mh m h σ)) := fun k hk h1 h2 => by
    have e10 : 10 ^ k = 10 ^ (k + 1) / 10 := by rw [Nat.pow_succ, Nat.mul_div_cancel _ (by decide)]
    have hw : wdN v = k + 1 := by
      have : k = 0 ∨ k = 1 ∨ k = 2 ∨ k = 3 ∨ k = 4 := by omega
      unfold wdN
      rcases this with rfl | rfl | rfl | rfl | rfl
      · rw [if_pos (by omega)]
      · rw [if_neg (by omega), if_pos (by omega)]
      · rw [if_neg (by omega), if_neg (by omega), if_pos (by omega)]
      · rw [if_neg (by omega), if_neg (by omega), if_neg (by omega), if_pos (by omega)]
      · rw [if_neg (by omega), if_neg (by omega), if_neg (by omega), if_neg (by omega)]
    unfold f_M_digits_18
    rw [e10]
    exact qy_dg_21 hm (k + 1) F p σ (by omega) (by omega) (by omega) h1p hI
  have nz : ∀ k, k ≤ 4 → xnzI (nI (10 ^ k)) = some () := fun k hk => by
    have : k = 0 ∨ k = 1 ∨ k = 2 ∨ k = 3 ∨ k = 4 := by omega
    rcases this with rfl | rfl | rfl | rfl | rfl <;> decide
  have bd : ∀ k, k ≤ 4 → 1 ≤ 10 ^ k ∧ 10 ^ k ≤ 10000 := fun k hk => ⟨Nat.pos_of_ne_zero (by simp), (Nat.pow_le_pow_right (by decide) hk : 10 ^ k ≤ 10 ^ 4)⟩
  have dv : ∀ k, k ≤ 4 → (v / 10 ^ k ≤ 9 ↔ v < 10 ^ (k + 1)) := fun k hk => by
    rw [Nat.pow_succ, Nat.mul_comm, ← Nat.div_lt_iff_lt_mul (bd k hk).1]; omega
  intro d
  induction d with
  | zero =>
    intro k f hk hf h1
    obtain ⟨f, rfl⟩ : ∃ y, f = y + 1 := ⟨f - 1, by omega⟩
    obtain rfl : k = 4 := by omega
    unfold f_M_digits_2
    rw [nz 4 (by decide), bs, nI_divG (by omega) (by decide), if_pos (nI_le ((dv 4 (by decide)).mpr (by omega)) (by decide))]
    exact stop 4 (by decide) h1 (by omega)
  | succ d ih =>
    intro k f hk hf h1
    obtain ⟨f, rfl⟩ : ∃ y, f = y + 1 := ⟨f - 1, by omega⟩
    have hb := bd k (by omega)
    unfold f_M_digits_2
    rw [nz k (by omega), bs, nI_divG (by omega) (by omega)]
    by_cases c9 : v / 10 ^ k ≤ 9
    · rw [if_pos (nI_le c9 (by decide))]
      exact stop k (by omega) h1 ((dv k (by omega)).mp c9)
    · have hd : v / 10 ^ k ≤ v := Nat.div_le_self _ _
      rw [if_neg (nI_ge (by omega) (by omega)), show nI 10 * nI (10 ^ k) = nI (10 * 10 ^ k) from (Int32.ofNat_mul 10 (10 ^ k)).symm, Nat.mul_comm 10 (10 ^ k), ← Nat.pow_succ]
      exact ih (k + 1) f (by omega) (by omega) (Or.inl (Nat.le_of_not_lt (fun w => c9 ((dv k (by omega)).mpr w))))
theorem qy_sayN {v : Nat} {w : Int32} (hm : m ≤ h.length) (hF : 65540 < F) (hv : v ≤ 99999) (hc : c + wdN v + 1 ≤ 65536) (hc1 : 1 ≤ c) (hI : OWy σ0 σ c) : Sm m h (fun σ' => OWy σ0 σ' (c + wdN v + 1)) Any (f_M_sayNumber F m (nI v) w (mh m h σ)) := by
  unfold f_M_sayNumber f_M_digits
  rw [Mg4 hm, bs, hI.1.1.2.1]
  refine sm_o hm (fun _ => sm_x (qy_dg_2 hm hF hv (by omega) hc1 hI 4 0 F rfl (by omega) (Or.inr rfl)) (fun _ σ _ hi => ?_))
  rw [Mg4 hm, bs, hi.1.1.2.1, q_wide (by omega), xb_mk, nI_add]
  refine qy_p4 hm hi (fun σ hi => ?_)
  rw [Mr3 hm, bs, Mg4 hm, bs, hi.1.1.2.1]
  refine qy_w3 hm hi (by omega) (by omega) (fun σ hi => ?_)
  rw [Mg4 hm, bs, hi.1.1.2.1, nI_add]
  exact qy_p4 hm hi (fun σ hi => sm_r any hi)
end MDY
section MMY
variable {F m : Nat} {h : px_H} {σ0 σ : px_S} {c nS nD : Nat} {zf uf gf ff mf lf df : Nat → Nat}
theorem qy_mp_291 {V : Int32 → Prop} {k234 : Nat → Int32 → px_H → Option (Int32 × px_H)} {i d l c0 : Nat} (hm : m ≤ h.length) (hd : d < 4096) (hl : l ≤ 20) (e22 : gA σ0 22 d = nI l) (hc : c0 + l + 1 ≤ 65536) (hc1 : 1 ≤ c0) (hK : ∀ σ, OWy σ0 σ (c0 + l + 1) → Sm m h (OWze σ0) V (k234 m (nI (i + 1)) (mh m h σ))) : ∀ (e j f : Nat) (σ : px_S), j + e = l → e < f → OWy σ0 σ (c0 + j) → Sm m h (OWze σ0) V (f_M_map_291 F k234 f m (nI i) (nI d) (nI j) (mh m h σ)) := by
  intro e
  induction e with
  | zero =>
    intro j f σ hj hf hI
    obtain ⟨f, rfl⟩ : ∃ y, f = y + 1 := ⟨f - 1, by omega⟩
    obtain rfl : j = l := by omega
    have g22 : gA σ 22 = gA σ0 22 := hI.1.1.1.2.2.1 22 (by decide)
    unfold f_M_map_291 f_M_map_339
    rw [Mr22 hm, bs, Ma22 hm hd, bs, g22, e22, if_pos (nI_le (by omega) (by omega)), Mr3 hm, bs, Mg4 hm, bs, hI.1.1.2.1, nI_add]
    refine qy_w3 hm hI (by omega) (by omega) (fun σ hi => ?_)
    rw [Mg4 hm, bs, hi.1.1.2.1, nI_add]
    exact qy_p4 hm hi (fun σ hi => hK σ hi)
  | succ e ih =>
    intro j f σ hj hf hI
    obtain ⟨f, rfl⟩ : ∃ y, f = y + 1 := ⟨f - 1, by omega⟩
    have g22 : gA σ 22 = gA σ0 22 := hI.1.1.1.2.2.1 22 (by decide)
    unfold f_M_map_291
    rw [Mr22 hm, bs, Ma22 hm hd, bs, g22, e22, if_neg (nI_ge (by omega) (by omega)), Mr3 hm, bs, Mg4 hm, bs, hI.1.1.2.1, Mr21 hm, bs, show nI 20 * nI d = nI (20 * d) from (Int32.ofNat_mul 20 d).symm, nI_add, Ma21 hm (by omega), bs, nI_add]
    refine qy_w3 hm hI (by omega) (by omega) (fun σ hi => ?_)
    rw [Mg4 hm, bs, hi.1.1.2.1, nI_add, Nat.add_assoc]
    exact qy_p4 hm hi (fun σ hi => ih (j + 1) f σ (by omega) (by omega) hi)
theorem qy_mp_234 {T : Nat} (hm : m ≤ h.length) (hF : 65540 < F) (hM : MPs σ0 nS nD zf uf gf ff mf lf df) (hT : T + sumT (fun i => 18 + lf i) nD ≤ 65536) : ∀ (d j f : Nat) (σ : px_S), j + d = nD → d < f → OWz σ0 σ (T + sumT (fun i => 18 + lf i) j) → Sm m h (OWze σ0) (fun v => v = nI (T + sumT (fun i => 18 + lf i) nD)) (f_M_map_234 F f m (nI j) (mh m h σ)) := by
  have hN := hM.2.1
  intro d
  induction d with
  | zero =>
    intro j f σ hj hf hI
    obtain ⟨f, rfl⟩ : ∃ y, f = y + 1 := ⟨f - 1, by omega⟩
    obtain rfl : j = nD := by omega
    unfold f_M_map_234 f_M_map_366
    rw [Mg48 hm, bs, (MPs_O hM hI.1.1).2.2.1, if_pos (nI_le (by omega) (by omega)), Mg4 hm, bs, hI.1.1.2.1]
    exact sm_r rfl ⟨_, hT, hI⟩
  | succ d ih =>
    intro j f σ hj hf hI
    obtain ⟨f, rfl⟩ : ∃ y, f = y + 1 := ⟨f - 1, by omega⟩
    obtain ⟨e49, hd, e22, hl⟩ := hM.2.2.2 j (by omega)
    have g49 : gA σ 49 = gA σ0 49 := hI.1.1.1.2.2.1 49 (by decide)
    have hle := sumT_le (f := fun i => 18 + lf i) (show j + 1 ≤ nD by omega)
    have es : sumT (fun i => 18 + lf i) (j + 1) = sumT (fun i => 18 + lf i) j + (18 + lf j) := rfl
    unfold f_M_map_234
    rw [Mg48 hm, bs, (MPs_O hM hI.1.1).2.2.1, if_neg (nI_ge (by omega) (by omega)), Mr49 hm, bs, Ma49 hm (by omega), bs, g49, e49, Mg4 hm, bs, hI.1.1.2.1, Mr29 hm, bs, Ma29 hm hd, bs]
    generalize sumT (fun i => 18 + lf i) j = S at *
    refine sm_o hm (fun _ => sm_x (qy_16_3 (F := F) (p := T + S) hm (by omega) 16 0 F σ rfl (by omega) hI.1 (fun w => hI.2 (by omega))) (fun _ σ _ hi => ?_))
    rw [Mr3 hm, bs, Mg4 hm, bs, hi.1.1.2.1, nI_add]
    refine qy_w3 hm hi (by omega) (by omega) (fun σ hi => ?_)
    rw [Mg4 hm, bs, hi.1.1.2.1, nI_add]
    refine qy_p4 hm hi (fun σ hi => ?_)
    exact qy_mp_291 (c0 := T + S + 17) (l := lf j) hm hd hl e22 (by omega) (by omega) (fun σ hi => ih (j + 1) f σ (by omega) (by omega) (by rw [es]; rw [show T + (S + (18 + lf j)) = T + S + 17 + lf j + 1 by omega]; exact ⟨hi.1, fun _ => hi.2⟩)) (lf j) 0 F σ (Nat.zero_add _) (by omega) hi
theorem qy_mp_119 (hm : m ≤ h.length) (hF : 65540 < F) (hM : MPs σ0 nS nD zf uf gf ff mf lf df) (hT : sumT (fun p => 25 + wdN (zf p) + wdN (uf p)) nS + sumT (fun i => 18 + lf i) nD ≤ 65536) : ∀ (d j f : Nat) (σ : px_S), j + d = nS → d < f → OWz σ0 σ (sumT (fun p => 25 + wdN (zf p) + wdN (uf p)) j) → Sm m h (OWze σ0) (fun v => v = nI (sumT (fun p => 25 + wdN (zf p) + wdN (uf p)) nS + sumT (fun i => 18 + lf i) nD)) (f_M_map_119 F f m (nI j) (mh m h σ)) := by
  have hN := hM.1.1
  have hN2 := hM.2.1
  intro d
  induction d with
  | zero =>
    intro j f σ hj hf hI
    obtain ⟨f, rfl⟩ : ∃ y, f = y + 1 := ⟨f - 1, by omega⟩
    obtain rfl : j = nS := by omega
    unfold f_M_map_119 f_M_map_232
    rw [Mg50 hm, bs, (MPs_O hM hI.1.1).1.2.1, if_pos (nI_le (by omega) (by omega))]
    exact qy_mp_234 hm hF hM hT nD 0 F σ (Nat.zero_add _) (by omega) hI
  | succ d ih =>
    intro j f σ hj hf hI
    obtain ⟨f, rfl⟩ : ∃ y, f = y + 1 := ⟨f - 1, by omega⟩
    have hj1 : j < 1536 := by omega
    have hle := sumT_le (f := fun p => 25 + wdN (zf p) + wdN (uf p)) (show j + 1 ≤ nS by omega)
    have es : sumT (fun p => 25 + wdN (zf p) + wdN (uf p)) (j + 1) = sumT (fun p => 25 + wdN (zf p) + wdN (uf p)) j + (25 + wdN (zf j) + wdN (uf j)) := rfl
    unfold f_M_map_119
    rw [Mg50 hm, bs, (MPs_O hM hI.1.1).1.2.1, if_neg (nI_ge (by omega) (by omega)), Mg4 hm, bs, hI.1.1.2.1, Mr57 hm, bs, Ma57 hm hj1, bs, nI_add]
    generalize sumT (fun p => 25 + wdN (zf p) + wdN (uf p)) j = S at *
    generalize sumT (fun p => 25 + wdN (zf p) + wdN (uf p)) nS = SS at *
    have wz := wdN_b (zf j)
    have wu := wdN_b (uf j)
    refine sm_o hm (fun _ => sm_x (qy_16_3 (F := F) (p := S) hm (by omega) 16 0 F σ rfl (by omega) hI.1 (fun w => hI.2 (by omega))) (fun _ σ _ hi => ?_))
    rw [Mr3 hm, bs, Mg4 hm, bs, hi.1.1.2.1, nI_add]
    refine qy_w3 hm hi (by omega) (by omega) (fun σ hi => ?_)
    rw [Mg4 hm, bs, hi.1.1.2.1, nI_add]
    refine qy_p4 hm hi (fun σ hi => ?_)
    obtain ⟨z1, z2, _⟩ := (MPs_O hM hi.1.1).1.2.2 j (by omega)
    rw [Mr56 hm, bs, Ma56 hm hj1, bs, z1]
    refine sm_o hm (fun _ => sm_x (qy_sayN hm hF z2 (by omega) (by omega) hi) (fun _ σ _ hi => ?_))
    obtain ⟨_, _, _, _, g1, g2, _⟩ := (MPs_O hM hi.1.1).1.2.2 j (by omega)
    rw [Mr55 hm, bs, Ma55 hm hj1, bs, g1]
    refine sm_o hm (fun _ => sm_x (qy_sayN hm hF (by omega) (by rw [wdN_1 g2]; omega) (by omega) hi) (fun _ σ _ hi => ?_))
    obtain ⟨_, _, _, _, _, _, f1, f2, _⟩ := (MPs_O hM hi.1.1).1.2.2 j (by omega)
    rw [wdN_1 g2] at hi
    rw [Mr52 hm, bs, Ma52 hm hj1, bs, f1]
    refine sm_o hm (fun _ => sm_x (qy_sayN hm hF (by omega) (by rw [wdN_1 f2]; omega) (by omega) hi) (fun _ σ _ hi => ?_))
    obtain ⟨_, _, _, _, _, _, _, _, m1, m2⟩ := (MPs_O hM hi.1.1).1.2.2 j (by omega)
    rw [wdN_1 f2] at hi
    rw [Mr53 hm, bs, Ma53 hm hj1, bs, m1]
    refine sm_o hm (fun _ => sm_x (qy_sayN hm hF (by omega) (by rw [wdN_1 m2]; omega) (by omega) hi) (fun _ σ _ hi => ?_))
    obtain ⟨_, _, u1, u2, _⟩ := (MPs_O hM hi.1.1).1.2.2 j (by omega)
    rw [wdN_1 m2] at hi
    rw [Mr54 hm, bs, Ma54 hm hj1, bs, u1]
    refine sm_o hm (fun _ => sm_x (qy_sayN hm hF u2 (by omega) (by omega) hi) (fun _ σ _ hi => ?_))
    refine ih (j + 1) f σ (by omega) (by omega) ?_
    rw [es, show S + (25 + wdN (zf j) + wdN (uf j)) = S + 17 + wdN (zf j) + 1 + 1 + 1 + 1 + 1 + 1 + 1 + wdN (uf j) + 1 by omega]
    exact ⟨hi.1, fun _ => hi.2⟩
theorem qy_mp_73 {T : Nat} (hm : m ≤ h.length) (hF : 65540 < F) (ho : OUo σ0) (hM : MPs σ0 nS nD zf uf gf ff mf lf df) (eT : T = sumT (fun p => 25 + wdN (zf p) + wdN (uf p)) nS) (hTb : T ≤ 53760) (hf0 : FR [0] [] [] [] σ0 σ) (h00 : gI σ 0 = nI 0) : ∀ (d j f : Nat), j + d = nD → d < f → Sm m h (fun σ' => (65536 < T + sumT (fun i => 18 + lf i) nD ∧ FR [0] [] [] [] σ0 σ') ∨ (T + sumT (fun i => 18 + lf i) nD ≤ 65536 ∧ OWze σ0 σ')) (fun v => v = mpA (T + sumT (fun i => 18 + lf i) nD)) (f_M_map_73 F f m (nI (T + sumT (fun i => 18 + lf i) j)) (nI j) (mh m h σ)) := by
  have hN := hM.1.1
  have hN2 := hM.2.1
  obtain ⟨co, hco, hO⟩ := OWe_0 ho hf0
  have hMs := MPs_O hM hO
  intro d
  induction d with
  | zero =>
    intro j f hj hf
    obtain ⟨f, rfl⟩ : ∃ y, f = y + 1 := ⟨f - 1, by omega⟩
    obtain rfl : j = nD := by omega
    unfold f_M_map_73 f_M_map_104
    rw [Mg48 hm, bs, hMs.2.2.1, if_pos (nI_le (by omega) (by omega))]
    have hB := sumT_b' (f := fun i => 18 + lf i) (k := 38) (n := j) (fun i hi => by have := (hM.2.2.2 i hi).2.2.2; show 18 + lf i ≤ 38; omega)
    by_cases hle : T + sumT (fun i => 18 + lf i) j ≤ 65536
    · rw [if_pos (show nI (T + sumT (fun i => 18 + lf i) j) ≤ (65536 : Int32) from nI_le hle (by decide)), Mp4 hm, bs]
      have w := qy_mp_119 hm hF hM (by rw [← eT]; exact hle) nS 0 F _ (Nat.zero_add _) (by omega) ⟨OWx_p ⟨hO, h00⟩, fun w => absurd (show 0 < 0 from w) (Nat.lt_irrefl 0)⟩
      rw [← eT] at w
      have eA : mpA (T + sumT (fun i => 18 + lf i) j) = nI (T + sumT (fun i => 18 + lf i) j) := if_pos hle
      rw [eA]
      exact sm_wI w (fun σ2 w => Or.inr ⟨hle, w⟩)
    · rw [if_neg (show ¬ nI (T + sumT (fun i => 18 + lf i) j) ≤ (65536 : Int32) from nI_ge (a := 65536) (by omega) (by omega))]
      exact sm_r (if_neg hle).symm (Or.inl ⟨by omega, hf0⟩)
  | succ d ih =>
    intro j f hj hf
    obtain ⟨f, rfl⟩ : ∃ y, f = y + 1 := ⟨f - 1, by omega⟩
    obtain ⟨e49, hd, e22, hl⟩ := hMs.2.2.2 j (by omega)
    have es : sumT (fun i => 18 + lf i) (j + 1) = sumT (fun i => 18 + lf i) j + (18 + lf j) := rfl
    have go := ih (j + 1) f (by omega) (by omega)
    unfold f_M_map_73
    rw [Mg48 hm, bs, hMs.2.2.1, if_neg (nI_ge (by omega) (by omega)), Mr22 hm, bs, Mr49 hm, bs, Ma49 hm (by omega), bs, e49, Ma22 hm hd, bs, e22, nI_add, nI_add, nI_add, Nat.add_assoc, ← es]
    exact go
theorem qy_mp_26 (hm : m ≤ h.length) (hF : 65540 < F) (ho : OUo σ0) (hM : MPs σ0 nS nD zf uf gf ff mf lf df) (hf0 : FR [0] [] [] [] σ0 σ) (h00 : gI σ 0 = nI 0) : ∀ (d j f : Nat), j + d = nS → d < f → Sm m h (fun σ' => (65536 < sumT (fun p => 25 + wdN (zf p) + wdN (uf p)) nS + sumT (fun i => 18 + lf i) nD ∧ FR [0] [] [] [] σ0 σ') ∨ (sumT (fun p => 25 + wdN (zf p) + wdN (uf p)) nS + sumT (fun i => 18 + lf i) nD ≤ 65536 ∧ OWze σ0 σ')) (fun v => v = mpA (sumT (fun p => 25 + wdN (zf p) + wdN (uf p)) nS + sumT (fun i => 18 + lf i) nD)) (f_M_map_26 F f m (nI (sumT (fun p => 25 + wdN (zf p) + wdN (uf p)) j)) (nI j) (mh m h σ)) := by
  have hN := hM.1.1
  have hN2 := hM.2.1
  obtain ⟨co, hco, hO⟩ := OWe_0 ho hf0
  have hMs := MPs_O hM hO
  intro d
  induction d with
  | zero =>
    intro j f hj hf
    obtain ⟨f, rfl⟩ : ∃ y, f = y + 1 := ⟨f - 1, by omega⟩
    obtain rfl : j = nS := by omega
    have hB := sumT_b' (f := fun p => 25 + wdN (zf p) + wdN (uf p)) (k := 35) (n := j) (fun i hi => by have w1 := (wdN_b (zf i)).2; have w2 := (wdN_b (uf i)).2; show 25 + wdN (zf i) + wdN (uf i) ≤ 35; omega)
    unfold f_M_map_26 f_M_map_71
    rw [Mg50 hm, bs, hMs.1.2.1, if_pos (nI_le (by omega) (by omega))]
    exact qy_mp_73 hm hF ho hM rfl (by omega) hf0 h00 nD 0 F (Nat.zero_add _) (by omega)
  | succ d ih =>
    intro j f hj hf
    obtain ⟨f, rfl⟩ : ∃ y, f = y + 1 := ⟨f - 1, by omega⟩
    obtain ⟨z1, z2, u1, u2, _⟩ := hMs.1.2.2 j (by omega)
    have es : sumT (fun p => 25 + wdN (zf p) + wdN (uf p)) (j + 1) = sumT (fun p => 25 + wdN (zf p) + wdN (uf p)) j + (25 + wdN (zf j) + wdN (uf j)) := rfl
    have go := ih (j + 1) f (by omega) (by omega)
    rw [es, show 25 + wdN (zf j) + wdN (uf j) = 22 + wdN (zf j) + wdN (uf j) + 1 + 1 + 1 by omega] at go
    unfold f_M_map_26
    rw [Mg50 hm, bs, hMs.1.2.1, if_neg (nI_ge (by omega) (by omega)), Mr56 hm, bs, Ma56 hm (by omega), bs, z1, q_wide (by omega), xb_mk, Mr54 hm, bs, Ma54 hm (by omega), bs, u1, q_wide (by omega), xb_mk, nI_add, nI_add, nI_add, nI_add, nI_add, nI_add, nI_add]
    exact go
theorem qy_map (hm : m ≤ h.length) (hF : 65540 < F) (ho : OUo σ) : (¬ gI σ 13 = 0 → f_M_map F m (mh m h σ) = some (nI 0, mh m h (sI σ 0 (nI 1)))) ∧ (gI σ 13 = 0 → MPs σ nS nD zf uf gf ff mf lf df → Sm m h (fun σ' => (65536 < sumT (fun p => 25 + wdN (zf p) + wdN (uf p)) nS + sumT (fun i => 18 + lf i) nD ∧ FR [0] [] [] [] σ σ') ∨ (sumT (fun p => 25 + wdN (zf p) + wdN (uf p)) nS + sumT (fun i => 18 + lf i) nD ≤ 65536 ∧ OWze σ σ')) (fun v => v = mpA (sumT (fun p => 25 + wdN (zf p) + wdN (uf p)) nS + sumT (fun i => 18 + lf i) nD)) (f_M_map F m (mh m h σ))) := by
  have th1 : f_M_throwing F m (nI 1) (nI 0) (mh m h σ) = some (nI 1, mh m h (sI σ 0 (nI 1))) := q_throwing hm true false
  have th0 : f_M_throwing F m (nI 0) (nI 0) (mh m h σ) = some (nI 0, mh m h (sI σ 0 (nI 0))) := q_throwing hm false false
  refine ⟨fun h13 => ?_, fun h13 hM => ?_⟩
  · unfold f_M_map f_M_map_13
    rw [Mg13 hm, bs, if_neg h13, e_o hm, bs, th1, xb_mk, if_neg (by decide)]
  · unfold f_M_map f_M_map_13
    rw [Mg13 hm, bs, if_pos h13, e_o hm, bs, th0, xb_mk, if_pos (show (nI 0 : Int32) = 0 from rfl)]
    have hN := hM.1.1
    exact qy_mp_26 hm hF ho hM (FR_I _ _ _) (by rw [gI_sI, if_pos rfl]) nS 0 F (Nat.zero_add _) (by omega)
end MMY
section MPJ
variable {F m : Nat} {h : px_H} {σ0 σ : px_S} {c : Nat}
theorem sj_w3 {I : px_S → Prop} {α : Type} {V : α → Prop} {f : px_H → Option (α × px_H)} {p : Nat} {v : Int32} (hm : m ≤ h.length) (hI : OWj σ0 σ c) (h1 : 1 ≤ p) (hp : p < 65536) (g : ∀ σ, OWj σ0 σ c → Sm m h I V (f (mh m h σ))) : Sm m h I V ((xsI (mh m h σ) 0 (m + 2) (nI p) v.toInt8.toInt32).bind f) := by
  rw [Ms3 hm hp, bs]; exact g _ ⟨OWi_w hI.1, Z0_w h1 hI.2⟩
theorem sj_dg_21 {v : Int32} (hm : m ≤ h.length) : ∀ (k f p : Nat) (σ : px_S), k ≤ 5 → k < f → p + k ≤ 65536 → 1 ≤ p → OWj σ0 σ c → Sm m h (fun σ' => OWj σ0 σ' c) Any (f_M_digits_21 F f m v (nI (10 ^ k / 10)) (nI p) (mh m h σ)) := by
  intro k
  induction k with
  | zero =>
    intro f p σ hk hf hp h1p hI
    obtain ⟨f, rfl⟩ : ∃ y, f = y + 1 := ⟨f - 1, by omega⟩
    unfold f_M_digits_21 f_M_digits_53
    rw [if_pos (by decide)]
    exact sm_r any hI
  | succ k ih =>
    intro f p σ hk hf hp h1p hI
    obtain ⟨f, rfl⟩ : ∃ y, f = y + 1 := ⟨f - 1, by omega⟩
    have e10 : 10 ^ (k + 1) / 10 = 10 ^ k := by rw [Nat.pow_succ, Nat.mul_div_cancel _ (by decide)]
    have hb : 10 ^ k ≤ 10 ^ 4 := Nat.pow_le_pow_right (by decide) (by omega)
    have h1 : 1 ≤ 10 ^ k := Nat.pos_of_ne_zero (by simp)
    rw [e10]
    have hn : ¬ nI (10 ^ k) ≤ 0 := fun w => absurd w (nI_ge (a := 0) (b := 10 ^ k) (by omega) (by omega))
    have hx : xnzI (nI (10 ^ k)) = some () := by
      unfold xnzI
      rw [if_neg (fun w => hn (by rw [w]; decide))]
    unfold f_M_digits_21
    rw [if_neg hn, Mr3 hm, bs, hx, bs, nI_divG (by omega) (by decide), nI_add]
    exact sj_w3 hm hI (by omega) (by omega) (fun σ hi => ih f (p + 1) σ (by omega) (by omega) (by omega) (by omega) hi)
theorem sj_dg_2 {v p : Nat} (hm : m ≤ h.length) (hF : 65540 < F) (hv : v ≤ 99999) (hp : p + wdN v ≤ 65536) (h1p : 1 ≤ p) (hI : OWj σ0 σ c) : ∀ (d k f : Nat), k + d = 4 → d < f → 10 ^ k ≤ v ∨ k = 0 → Sm m h (fun σ' => OWj σ0 σ' c) Any (f_M_digits_2 F f m (nI p) (nI v) (nI (10 ^ k)) (mh m h σ)) := by
  have stop : ∀ k, k ≤ 4 → (10 ^ k ≤ v ∨ k = 0) → v < 10 ^ (k + 1) → Sm m h (fun σ' => OWj σ0 σ' c) Any (f_M_digits_18 F m (nI p) (nI v) (nI (10 ^ k)) (mh m h σ)) := fun k hk h1 h2 => by
    have e10 : 10 ^ k = 10 ^ (k + 1) / 10 := by rw [Nat.pow_succ, Nat.mul_div_cancel _ (by decide)]
    have hw : wdN v = k + 1 := by
      have : k = 0 ∨ k = 1 ∨ k = 2 ∨ k = 3 ∨ k = 4 := by omega
      unfold wdN
      rcases this with rfl | rfl | rfl | rfl | rfl
      · rw [if_pos (by omega)]
      · rw [if_neg (by omega), if_pos (by omega)]
      · rw [if_neg (by omega), if_neg (by omega), if_pos (by omega)]
      · rw [if_neg (by omega), if_neg (by omega), if_neg (by omega), if_pos (by omega)]
      · rw [if_neg (by omega), if_neg (by omega), if_neg (by omega), if_neg (by omega)]
    unfold f_M_digits_18
    rw [e10]
    exact sj_dg_21 hm (k + 1) F p σ (by omega) (by omega) (by omega) h1p hI
  have nz : ∀ k, k ≤ 4 → xnzI (nI (10 ^ k)) = some () := fun k hk => by
    have : k = 0 ∨ k = 1 ∨ k = 2 ∨ k = 3 ∨ k = 4 := by omega
    rcases this with rfl | rfl | rfl | rfl | rfl <;> decide
  have bd : ∀ k, k ≤ 4 → 1 ≤ 10 ^ k ∧ 10 ^ k ≤ 10000 := fun k hk => ⟨Nat.pos_of_ne_zero (by simp), (Nat.pow_le_pow_right (by decide) hk : 10 ^ k ≤ 10 ^ 4)⟩
  have dv : ∀ k, k ≤ 4 → (v / 10 ^ k ≤ 9 ↔ v < 10 ^ (k + 1)) := fun k hk => by
    rw [Nat.pow_succ, Nat.mul_comm, ← Nat.div_lt_iff_lt_mul (bd k hk).1]; omega
  intro d
  induction d with
  | zero =>
    intro k f hk hf h1
    obtain ⟨f, rfl⟩ : ∃ y, f = y + 1 := ⟨f - 1, by omega⟩
    obtain rfl : k = 4 := by omega
    unfold f_M_digits_2
    rw [nz 4 (by decide), bs, nI_divG (by omega) (by decide), if_pos (nI_le ((dv 4 (by decide)).mpr (by omega)) (by decide))]
    exact stop 4 (by decide) h1 (by omega)
  | succ d ih =>
    intro k f hk hf h1
    obtain ⟨f, rfl⟩ : ∃ y, f = y + 1 := ⟨f - 1, by omega⟩
    have hb := bd k (by omega)
    unfold f_M_digits_2
    rw [nz k (by omega), bs, nI_divG (by omega) (by omega)]
    by_cases c9 : v / 10 ^ k ≤ 9
    · rw [if_pos (nI_le c9 (by decide))]
      exact stop k (by omega) h1 ((dv k (by omega)).mp c9)
    · have hd : v / 10 ^ k ≤ v := Nat.div_le_self _ _
      rw [if_neg (nI_ge (by omega) (by omega)), show nI 10 * nI (10 ^ k) = nI (10 * 10 ^ k) from (Int32.ofNat_mul 10 (10 ^ k)).symm, Nat.mul_comm 10 (10 ^ k), ← Nat.pow_succ]
      exact ih (k + 1) f (by omega) (by omega) (Or.inl (Nat.le_of_not_lt (fun w => c9 ((dv k (by omega)).mpr w))))
theorem sj_high {p : Nat} {v : Int32} (hm : m ≤ h.length) (hp : p + 4 ≤ 65536) (h1p : 1 ≤ p) : ∀ (d j f : Nat) (σ : px_S), j + d = 4 → d < f → OWj σ0 σ c → Sm m h (fun σ' => OWj σ0 σ' c) Any (f_M_highFirst_2 F f m (nI p) v (nI j) (mh m h σ)) := by
  intro d
  induction d with
  | zero =>
    intro j f σ hj hf hI
    obtain ⟨f, rfl⟩ : ∃ y, f = y + 1 := ⟨f - 1, by omega⟩
    unfold f_M_highFirst_2 f_M_highFirst_31
    rw [if_pos (nI_le (by omega) (by omega))]
    exact sm_r any hI
  | succ d ih =>
    intro j f σ hj hf hI
    obtain ⟨f, rfl⟩ : ∃ y, f = y + 1 := ⟨f - 1, by omega⟩
    unfold f_M_highFirst_2
    rw [if_neg (nI_ge (by omega) (by omega)), Mr3 hm, bs, nI_add, nI_add]
    exact sj_w3 hm hI (by omega) (by omega) (fun σ hi => ih _ _ _ (by omega) (by omega) hi)
theorem sj_ahead_2 {p v : Nat} (hm : m ≤ h.length) (hF : 65540 < F) (hv : v ≤ 99999) (hp : p + 60 ≤ 65536) (h1p : 1 ≤ p) : ∀ (d j f : Nat) (σ : px_S), j + d = 58 → d < f → OWj σ0 σ c → Sm m h (fun σ' => OWj σ0 σ' c) Any (f_M_ahead_2 F f m (nI p) (nI v) (nI j) (mh m h σ)) := by
  have hw := wdN_b v
  intro d
  induction d with
  | zero =>
    intro j f σ hj hf hI
    obtain ⟨f, rfl⟩ : ∃ y, f = y + 1 := ⟨f - 1, by omega⟩
    unfold f_M_ahead_2 f_M_ahead_24 f_M_digits
    rw [if_pos (nI_le (by omega) (by omega)), nI_add, nI_add, nI_add]
    refine sm_o hm (fun _ => sm_x (sj_dg_2 (F := F) (p := p + 48) (v := v) hm hF hv (by omega) (by omega) hI 4 0 F rfl (by omega) (Or.inr rfl)) (fun _ σ _ hi => ?_))
    rw [Mr3 hm, bs]
    refine sj_w3 hm hi (by omega) (by omega) (fun σ hi => ?_)
    rw [Mr3 hm, bs]
    exact sj_w3 hm hi (by omega) (by omega) (fun σ hi => sm_r any hi)
  | succ d ih =>
    intro j f σ hj hf hI
    obtain ⟨f, rfl⟩ : ∃ y, f = y + 1 := ⟨f - 1, by omega⟩
    unfold f_M_ahead_2
    rw [if_neg (nI_ge (by omega) (by omega)), Mr3 hm, bs, nI_add, nI_add]
    exact sj_w3 hm hI (by omega) (by omega) (fun σ hi => ih _ _ _ (by omega) (by omega) hi)
end MPJ
section QPJ
variable {F m : Nat} {h : px_H} {σ0 σ : px_S} {c o n M T i : Nat} {D : Nat → Bool} {A E : Nat → Nat} {I : px_S → Prop} {V : Int32 → Prop}
theorem qj_pk339 {k272 : Nat → Int32 → Int32 → Int32 → Int32 → Int32 → px_H → Option (Int32 × px_H)} {k293 : Nat → Int32 → Int32 → Int32 → Int32 → Int32 → Int32 → Int32 → px_H → Option (Int32 × px_H)} {k p5 p7 q6 : Nat} (hm : m ≤ h.length) (hP : PKo F m h (gA σ0 6) o n M D A E) (h1 : 1 ≤ k) (hk : k < M) (hD : D k = true) (hq : q6 ≤ 65536) (hK : ∀ σ, OWj σ0 σ c → Sm m h I V (k293 m (nI T) (nI p5) (nI q6) (nI p7) (nI i) (nI o) (nI (k + 1)) (mh m h σ))) : ∀ (d j f p6 : Nat) (σ : px_S), j + d = E k → d < f → p6 + d + 1 = q6 → 1 ≤ p6 → OWj σ0 σ c → Sm m h I V (f_M_pack_339 F k272 k293 f m (nI T) (nI p5) (nI p6) (nI p7) (nI i) (nI o) (nI k) (nI j) (mh m h σ)) := by
  obtain ⟨e1, e2, e3⟩ := (hP.2.2.2 k h1 hk).2 hD
  intro d
  induction d with
  | zero =>
    intro j f p6 σ hj hf hp h1p hI
    obtain ⟨f, rfl⟩ : ∃ y, f = y + 1 := ⟨f - 1, by omega⟩
    unfold f_M_pack_339 f_M_pack_375 f_M_pack_378
    rw [e_o hm, bs, (e3 σ (OWi_6 hI.1)).2, xb_mk, if_pos (nI_le (by omega) (by omega)), nI_add, nI_add]
    obtain rfl : p6 + 1 = q6 := by omega
    exact hK σ hI
  | succ d ih =>
    intro j f p6 σ hj hf hp h1p hI
    obtain ⟨f, rfl⟩ : ∃ y, f = y + 1 := ⟨f - 1, by omega⟩
    unfold f_M_pack_339
    rw [e_o hm, bs, (e3 σ (OWi_6 hI.1)).2, xb_mk, if_neg (nI_ge (by omega) (by omega)), Mr3 hm, bs, Mr6 hm, bs, Ma6 hm (by omega), bs, nI_add, nI_add]
    exact sj_w3 hm hI (by omega) (by omega) (fun σ hi => ih (j + 1) f (p6 + 1) σ (by omega) (by omega) (by omega) (by omega) hi)
theorem qj_pk293 {k272 : Nat → Int32 → Int32 → Int32 → Int32 → Int32 → px_H → Option (Int32 × px_H)} {P5 P6 p7 : Nat} (hm : m ≤ h.length) (hF : 65540 < F) (hP : PKo F m h (gA σ0 6) o n M D A E) (hq5 : P5 + 4 * sumT (pkN D) (pkM M) ≤ 65536) (hq6 : P6 + sumT (pkL D A E) (pkM M) ≤ 65536) (h15 : 1 ≤ P5) (h16 : 1 ≤ P6) (hK : ∀ σ, OWj σ0 σ c → Sm m h I V (f_M_pack_384 F k272 m (nI T) (nI (P5 + 4 * sumT (pkN D) (pkM M))) (nI (P6 + sumT (pkL D A E) (pkM M))) (nI p7) (nI i) (nI o) (mh m h σ))) : ∀ (d k f : Nat) (σ : px_S), k + d = pkM M → 1 ≤ k → d < f → OWj σ0 σ c → Sm m h I V (f_M_pack_293 F k272 f m (nI T) (nI (P5 + 4 * sumT (pkN D) k)) (nI (P6 + sumT (pkL D A E) k)) (nI p7) (nI i) (nI o) (nI k) (mh m h σ)) := by
  obtain ⟨m1, m2, m3⟩ := pkM_1 M
  have hM := hP.1
  have hMx : pkM M ≤ 64 := by unfold pkM; split <;> omega
  intro d
  induction d with
  | zero =>
    intro k f σ hk h1 hf hI
    obtain ⟨f, rfl⟩ : ∃ y, f = y + 1 := ⟨f - 1, by omega⟩
    obtain rfl : k = pkM M := by omega
    unfold f_M_pack_293
    rw [e_o hm, bs, hP.2.2.1 σ (OWi_6 hI.1), xb_mk, if_pos (nI_le (by omega) (by omega))]
    exact hK σ hI
  | succ d ih =>
    intro k f σ hk h1 hf hI
    obtain ⟨f, rfl⟩ : ∃ y, f = y + 1 := ⟨f - 1, by omega⟩
    have hkM := m3 k h1 (by omega)
    obtain ⟨r1, r2⟩ := hP.2.2.2 k h1 hkM
    have s5 := sumT_le (f := pkN D) (show k + 1 ≤ pkM M by omega)
    have s6 := sumT_le (f := pkL D A E) (show k + 1 ≤ pkM M by omega)
    have e5 : sumT (pkN D) (k + 1) = sumT (pkN D) k + pkN D k := rfl
    have e6 : sumT (pkL D A E) (k + 1) = sumT (pkL D A E) k + pkL D A E k := rfl
    have go := fun σ hi => ih (k + 1) f σ (by omega) (by omega) (by omega) hi
    rw [e5, e6] at go
    rw [e5] at s5
    rw [e6] at s6
    unfold f_M_pack_293
    rw [e_o hm, bs, hP.2.2.1 σ (OWi_6 hI.1), xb_mk, if_neg (nI_ge (by omega) (by omega)), e_o hm, bs, r1 σ (OWi_6 hI.1), xb_mk]
    cases hD : D k with
    | false =>
      rw [if_pos (show bI false = 0 from rfl)]
      unfold f_M_pack_378
      rw [nI_add]
      rw [pkN_f hD, pkL_f hD] at go
      exact go σ hI
    | true =>
      rw [if_neg (show ¬ bI true = 0 by decide)]
      obtain ⟨a1, a2, a3⟩ := r2 hD
      rw [pkN_t h1 hD, pkL_t h1 hD] at go
      rw [pkN_t h1 hD] at s5
      rw [pkL_t h1 hD] at s6
      generalize sumT (pkN D) k = S5 at *
      generalize sumT (pkL D A E) k = S6 at *
      generalize sumT (pkN D) (pkM M) = U5 at *
      generalize sumT (pkL D A E) (pkM M) = U6 at *
      unfold f_M_highFirst
      refine sm_o hm (fun _ => sm_x (sj_high (F := F) (p := P5 + 4 * S5) hm (by omega) (by omega) 4 0 F σ rfl (by omega) hI) (fun _ σ _ hi => ?_))
      rw [e_o hm, bs, (a3 σ (OWi_6 hi.1)).1, xb_mk, nI_add]
      refine qj_pk339 (k := k) (q6 := P6 + (S6 + (E k - A k + 1))) hm hP h1 hkM hD (by omega) ?_ (E k - A k) (A k) F (P6 + S6) σ (by omega) (by omega) (by omega) (by omega) hi
      rw [show P5 + 4 * S5 + 4 = P5 + 4 * (S5 + 1) by omega]
      exact go
theorem qj_pk435 {k272 : Nat → Int32 → Int32 → Int32 → Int32 → Int32 → px_H → Option (Int32 × px_H)} {p5 p6 p7 : Nat} (hm : m ≤ h.length) (hF : 65540 < F) (hi7 : i < 64) (e129 : gA σ0 129 i = nI n) (hon : o + n ≤ 65536) (hp : p7 + pkZ n ≤ 65536) (h1p : 1 ≤ p7) (hK : ∀ σ, OWj σ0 σ c → Sm m h I V (k272 m (nI T) (nI p5) (nI p6) (nI (p7 + pkZ n)) (nI (i + 1)) (mh m h σ))) : ∀ (d j f : Nat) (σ : px_S), j + d = n → d < f → OWj σ0 σ c → Sm m h I V (f_M_pack_435 F k272 f m (nI T) (nI p5) (nI p6) (nI p7) (nI i) (nI o) (nI j) (mh m h σ)) := by
  have hz : pkZ n = 60 + n + n % 2 := rfl
  rw [hz] at hp hK
  intro d
  induction d with
  | zero =>
    intro j f σ hj hf hI
    obtain ⟨f, rfl⟩ : ∃ y, f = y + 1 := ⟨f - 1, by omega⟩
    have g : gA σ 129 i = nI n := by rw [hI.1.1.2.2.1 129 (by decide)]; exact e129
    unfold f_M_pack_435 f_M_pack_476 f_M_pack_525
    rw [Mr129 hm, bs, Ma129 hm (by omega), bs, g, if_pos (nI_le (by omega) (by omega)), bs, Ma129 hm (by omega), bs, bs, Ma129 hm (by omega), bs, bs, Ma129 hm (by omega), bs, g, nI_m2 (by omega), nI_add, nI_add, nI_add, nI_add]
    refine sm_i (fun _ => ?_) (fun _ => hK σ hI)
    rw [Mr3 hm, bs, pk_sub (by omega)]
    exact sj_w3 hm hI (by omega) (by omega) hK
  | succ d ih =>
    intro j f σ hj hf hI
    obtain ⟨f, rfl⟩ : ∃ y, f = y + 1 := ⟨f - 1, by omega⟩
    have g : gA σ 129 i = nI n := by rw [hI.1.1.2.2.1 129 (by decide)]; exact e129
    unfold f_M_pack_435
    rw [Mr129 hm, bs, Ma129 hm (by omega), bs, g, if_neg (nI_ge (by omega) (by omega)), Mr3 hm, bs, Mr6 hm, bs, nI_add, Ma6 hm (by omega), bs, nI_add, nI_add, nI_add]
    exact sj_w3 hm hI (by omega) (by omega) (fun σ hi => ih _ _ _ (by omega) (by omega) hi)
theorem qj_pk384 {k272 : Nat → Int32 → Int32 → Int32 → Int32 → Int32 → px_H → Option (Int32 × px_H)} {p5 p6 p7 : Nat} (hm : m ≤ h.length) (hF : 65540 < F) (hi7 : i < 64) (e129 : gA σ0 129 i = nI n) (hon : o + n ≤ 65536) (hp : p7 + pkZ n ≤ 65536) (h1p : 1 ≤ p7) (hK : ∀ σ, OWj σ0 σ c → Sm m h I V (k272 m (nI T) (nI p5) (nI p6) (nI (p7 + pkZ n)) (nI (i + 1)) (mh m h σ))) (hI : OWj σ0 σ c) : Sm m h I V (f_M_pack_384 F k272 m (nI T) (nI p5) (nI p6) (nI p7) (nI i) (nI o) (mh m h σ)) := by
  have hz : pkZ n = 60 + n + n % 2 := rfl
  have g : gA σ 129 i = nI n := by rw [hI.1.1.2.2.1 129 (by decide)]; exact e129
  unfold f_M_pack_384 f_M_ahead
  rw [Mr129 hm, bs, Ma129 hm (by omega), bs, g]
  refine sm_o hm (fun _ => sm_x (sj_ahead_2 (F := F) (p := p7) (v := n) hm hF (by omega) (by omega) (by omega) 58 0 F σ rfl (by omega) hI) (fun _ σ _ hi => ?_))
  rw [Mr3 hm, bs]
  refine sj_w3 hm hi (by omega) (by omega) (fun σ hi => ?_)
  rw [Mr3 hm, bs, nI_add]
  refine sj_w3 hm hi (by omega) (by omega) (fun σ hi => ?_)
  rw [Mr3 hm, bs, nI_add]
  refine sj_w3 hm hi (by omega) (by omega) (fun σ hi => ?_)
  exact qj_pk435 hm hF hi7 e129 hon hp h1p hK n 0 F σ (Nat.zero_add _) (by omega) hi
end QPJ
section QPK
variable {F m : Nat} {h : px_H} {σ0 σ : px_S} {cc c T : Nat} {of nf Mf : Nat → Nat} {Df : Nat → Nat → Bool} {Af Ef : Nat → Nat → Nat}
/-- an archive was written -/
def OWje (σ0 σ : px_S) (T : Nat) : Prop := OWj σ0 σ T
theorem qj_pk272 {P5 P6 P7 : Nat} (hm : m ≤ h.length) (hF : 65540 < F) (hP : PKs F m h σ0 c of nf Mf Df Af Ef) (hcc : cc ≤ 65536) (h5 : P5 + 4 * sumT (pkNN Mf Df) c ≤ 65536) (h6 : P6 + sumT (pkLL Mf Df Af Ef) c ≤ 65536) (h7 : P7 + sumT (pkZZ nf) c ≤ 65536) (g5 : 1 ≤ P5) (g6 : 1 ≤ P6) (g7 : 1 ≤ P7) : ∀ (d i f : Nat) (σ : px_S), i + d = c → d < f → OWj σ0 σ cc → Sm m h (fun σ' => OWj σ0 σ' cc) (fun v => v = nI T) (f_M_pack_272 F f m (nI T) (nI (P5 + 4 * sumT (pkNN Mf Df) i)) (nI (P6 + sumT (pkLL Mf Df Af Ef) i)) (nI (P7 + sumT (pkZZ nf) i)) (nI i) (mh m h σ)) := by
  obtain ⟨hc7, e127, hO⟩ := hP
  intro d
  induction d with
  | zero =>
    intro i f σ hi hf hI
    obtain ⟨f, rfl⟩ : ∃ y, f = y + 1 := ⟨f - 1, by omega⟩
    unfold f_M_pack_272 f_M_pack_531
    rw [Mg127 hm, bs, hI.1.1.1 127 (by decide), e127, if_pos (nI_le (by omega) (by omega))]
    exact sm_r rfl hI
  | succ d ih =>
    intro i f σ hi hf hI
    obtain ⟨f, rfl⟩ : ∃ y, f = y + 1 := ⟨f - 1, by omega⟩
    obtain ⟨e128, e129, hPo⟩ := hO i (by omega)
    have s5 := sumT_le (f := pkNN Mf Df) (show i + 1 ≤ c by omega)
    have s6 := sumT_le (f := pkLL Mf Df Af Ef) (show i + 1 ≤ c by omega)
    have s7 := sumT_le (f := pkZZ nf) (show i + 1 ≤ c by omega)
    have e5 : sumT (pkNN Mf Df) (i + 1) = sumT (pkNN Mf Df) i + sumT (pkN (Df i)) (pkM (Mf i)) := rfl
    have e6 : sumT (pkLL Mf Df Af Ef) (i + 1) = sumT (pkLL Mf Df Af Ef) i + sumT (pkL (Df i) (Af i) (Ef i)) (pkM (Mf i)) := rfl
    have e7 : sumT (pkZZ nf) (i + 1) = sumT (pkZZ nf) i + pkZ (nf i) := rfl
    have go := fun σ hi => ih (i + 1) f σ (by omega) (by omega) hi
    rw [e5, e6, e7] at go
    rw [e5] at s5
    rw [e6] at s6
    rw [e7] at s7
    unfold f_M_pack_272
    rw [Mg127 hm, bs, hI.1.1.1 127 (by decide), e127, if_neg (nI_ge (by omega) (by omega)), Mr128 hm, bs, Ma128 hm (by omega), bs, hI.1.1.2.2.1 128 (by decide), e128]
    generalize sumT (pkNN Mf Df) i = S5 at *
    generalize sumT (pkLL Mf Df Af Ef) i = S6 at *
    generalize sumT (pkZZ nf) i = S7 at *
    generalize sumT (pkNN Mf Df) c = U5 at *
    generalize sumT (pkLL Mf Df Af Ef) c = U6 at *
    generalize sumT (pkZZ nf) c = U7 at *
    have hM := hPo.1
    obtain ⟨m1, m2, m3⟩ := pkM_1 (Mf i)
    have hMx : pkM (Mf i) ≤ 64 := by unfold pkM; split <;> omega
    have z0 : sumT (pkN (Df i)) 1 = 0 := rfl
    have z1 : sumT (pkL (Df i) (Af i) (Ef i)) 1 = 0 := rfl
    have w := qj_pk293 (σ0 := σ0) (c := cc) (T := T) (i := i) (I := fun σ' => OWj σ0 σ' cc) (V := fun v => v = nI T) (k272 := f_M_pack_272 F f) (P5 := P5 + 4 * S5) (P6 := P6 + S6) (p7 := P7 + S7) hm hF hPo (by omega) (by omega) (by omega) (by omega) (fun σ hi => qj_pk384 hm hF (by omega) e129 hPo.2.1 (by omega) (by omega) (fun σ hi => by
      have g := go σ hi
      rw [show P5 + 4 * (S5 + sumT (pkN (Df i)) (pkM (Mf i))) = P5 + 4 * S5 + 4 * sumT (pkN (Df i)) (pkM (Mf i)) by omega, ← Nat.add_assoc P6, ← Nat.add_assoc P7] at g
      exact g) hi) (pkM (Mf i) - 1) 1 F σ (by omega) (by omega) (by omega) hI
    rw [z0, z1] at w
    exact w
theorem qj_pk269 {N L Z a4 : Nat} (hm : m ≤ h.length) (hF : 65540 < F) (hP : PKs F m h σ0 c of nf Mf Df Af Ef) (hcc : cc ≤ 65536) (eN : N = sumT (pkNN Mf Df) c) (eL : L = sumT (pkLL Mf Df Af Ef) c) (eZ : Z = sumT (pkZZ nf) c) (e4 : a4 = 4 + 4 * N + L) (hT : 68 + Z + (a4 + a4 % 2) ≤ 8192) (hI : OWj σ0 σ cc) : Sm m h (fun σ' => OWj σ0 σ' cc) (fun v => v = nI T) (f_M_pack_269 F m (nI T) (nI 72) (nI (72 + 4 * N)) (nI (68 + a4 + a4 % 2)) (mh m h σ)) := by
  have hc := hP.1
  unfold f_M_pack_269
  exact qj_pk272 (P5 := 72) (P6 := 72 + 4 * N) (P7 := 68 + a4 + a4 % 2) hm hF hP hcc (by rw [← eN]; omega) (by rw [← eL]; omega) (by rw [← eZ]; omega) (by decide) (by omega) (by omega) c 0 F σ (Nat.zero_add _) (by omega) hI
theorem qj_pk187 {N L Z a4 : Nat} (hm : m ≤ h.length) (hF : 65540 < F) (hP : PKs F m h σ0 c of nf Mf Df Af Ef) (eN : N = sumT (pkNN Mf Df) c) (eL : L = sumT (pkLL Mf Df Af Ef) c) (eZ : Z = sumT (pkZZ nf) c) (e4 : a4 = 4 + 4 * N + L) (eT : T = 68 + Z + (a4 + a4 % 2)) (hT : T ≤ 8192) (hI : OWi σ0 σ cc) : Sm m h (fun σ' => OWj σ0 σ' T) (fun v => v = nI T) (f_M_pack_187 F m (nI N) (nI T) (nI a4) (mh m h σ)) := by
  have fin : ∀ σ, OWj σ0 σ T → Sm m h (fun σ' => OWj σ0 σ' T) (fun v => v = nI T) (f_M_pack_269 F m (nI T) (nI 72) (nI (72 + 4 * N)) (nI (68 + a4 + a4 % 2)) (mh m h σ)) := fun σ hi => qj_pk269 hm hF hP (by omega) eN eL eZ e4 (by omega) hi
  unfold f_M_pack_187
  refine sm_p4 hm hI (fun σ hi => ?_)
  obtain ⟨σ', e, w1, w2, w3⟩ := q_putV (F := F) (σ := σ) (at0 := 0) (n := 8) (v := (738142165265366049 : Int64)) hm (by omega) (by decide) hi.2.2
  have z0 : Z0r σ' := by
    unfold Z0r
    rw [w3 0, if_pos ⟨Nat.le_refl _, by decide⟩]
    decide +kernel
  have hi' : OWj σ0 σ' T := ⟨⟨FR_trans hi.1 (FR_mono w1 (by decide) (by decide) (by decide) (by decide)), (w1.1 4 List.not_mem_nil).trans hi.2.1, w2⟩, z0⟩
  refine sm_o hm (fun _ => ?_)
  rw [e, xb_mk]
  unfold f_M_ahead f_M_highFirst
  refine sm_o hm (fun _ => sm_x (sj_ahead_2 (F := F) (p := 8) (v := a4) hm hF (by omega) (by omega) (by decide) 58 0 F σ' rfl (by omega) hi') (fun _ σ _ hi => ?_))
  rw [Mr3 hm, bs]
  refine sj_w3 hm hi (by omega) (by omega) (fun σ hi => ?_)
  refine sm_o hm (fun _ => sm_x (sj_high (F := F) (p := 68) hm (by omega) (by decide) 4 0 F σ rfl (by omega) hi) (fun _ σ _ hi => ?_))
  rw [nI_m2 (by omega), nI_add, nI_add, show nI 4 * nI N = nI (4 * N) from (Int32.ofNat_mul _ _).symm, nI_add]
  refine sm_i (fun _ => ?_) (fun _ => fin σ hi)
  rw [Mr3 hm, bs, pk_sub (by omega)]
  exact sj_w3 hm hi (by omega) (by omega) fin
theorem qj_pk167 {N L Z a4 : Nat} (hm : m ≤ h.length) (hF : 65540 < F) (hP : PKs F m h σ0 c of nf Mf Df Af Ef) (eN : N = sumT (pkNN Mf Df) c) (eL : L = sumT (pkLL Mf Df Af Ef) c) (eZ : Z = sumT (pkZZ nf) c) (e4 : a4 = 4 + 4 * N + L) (eT : T = 68 + Z + (a4 + a4 % 2)) (hT : T ≤ 8192) : ∀ (d j f : Nat) (σ : px_S), j + d = T → d < f → OWi σ0 σ cc → Sm m h (fun σ' => OWj σ0 σ' T) (fun v => v = nI T) (f_M_pack_167 F f m (nI N) (nI T) (nI a4) (nI j) (mh m h σ)) := by
  intro d
  induction d with
  | zero =>
    intro j f σ hj hf hI
    obtain ⟨f, rfl⟩ : ∃ y, f = y + 1 := ⟨f - 1, by omega⟩
    unfold f_M_pack_167
    rw [if_pos (nI_le (by omega) (by omega))]
    exact qj_pk187 hm hF hP eN eL eZ e4 eT hT hI
  | succ d ih =>
    intro j f σ hj hf hI
    obtain ⟨f, rfl⟩ : ∃ y, f = y + 1 := ⟨f - 1, by omega⟩
    unfold f_M_pack_167
    rw [if_neg (nI_ge (by omega) (by omega)), Mr3 hm, bs, nI_add]
    exact sm_w3 hm hI (by omega) (fun σ hi => ih _ _ _ (by omega) (by omega) hi)
theorem qj_pk136 (hm : m ≤ h.length) (hF : 65540 < F) (hP : PKs F m h σ0 c of nf Mf Df Af Ef) (hI : OWi σ0 σ cc) : Sm m h (fun σ' => (8192 < 68 + (sumT (pkZZ nf) c) + (4 + 4 * (sumT (pkNN Mf Df) c) + (sumT (pkLL Mf Df Af Ef) c) + (4 + 4 * (sumT (pkNN Mf Df) c) + (sumT (pkLL Mf Df Af Ef) c)) % 2) ∧ σ' = σ) ∨ (68 + (sumT (pkZZ nf) c) + (4 + 4 * (sumT (pkNN Mf Df) c) + (sumT (pkLL Mf Df Af Ef) c) + (4 + 4 * (sumT (pkNN Mf Df) c) + (sumT (pkLL Mf Df Af Ef) c)) % 2) ≤ 8192 ∧ OWj σ0 σ' (68 + (sumT (pkZZ nf) c) + (4 + 4 * (sumT (pkNN Mf Df) c) + (sumT (pkLL Mf Df Af Ef) c) + (4 + 4 * (sumT (pkNN Mf Df) c) + (sumT (pkLL Mf Df Af Ef) c)) % 2)))) (fun v => v = pkA (sumT (pkNN Mf Df) c) (sumT (pkLL Mf Df Af Ef) c) (sumT (pkZZ nf) c)) (f_M_pack_136 F m (nI (sumT (pkNN Mf Df) c)) (nI (sumT (pkLL Mf Df Af Ef) c)) (nI (68 + sumT (pkZZ nf) c)) (mh m h σ)) := by
  obtain ⟨b1, b2, b3⟩ := pk_bnd hP
  have key : ∀ N L Z, N = sumT (pkNN Mf Df) c → L = sumT (pkLL Mf Df Af Ef) c → Z = sumT (pkZZ nf) c → Sm m h (fun σ' => (8192 < 68 + Z + (4 + 4 * N + L + (4 + 4 * N + L) % 2) ∧ σ' = σ) ∨ (68 + Z + (4 + 4 * N + L + (4 + 4 * N + L) % 2) ≤ 8192 ∧ OWj σ0 σ' (68 + Z + (4 + 4 * N + L + (4 + 4 * N + L) % 2)))) (fun v => v = pkA N L Z) (f_M_pack_136 F m (nI N) (nI L) (nI (68 + Z)) (mh m h σ)) := fun N L Z eN eL eZ => by
    rw [← eN] at b1
    rw [← eL] at b2
    rw [← eZ] at b3
    unfold f_M_pack_136 pkA
    rw [show nI 4 * nI N = nI (4 * N) from (Int32.ofNat_mul _ _).symm, nI_add, nI_add, nI_m2 (by omega), nI_add, nI_add]
    by_cases hT : 68 + Z + (4 + 4 * N + L + (4 + 4 * N + L) % 2) ≤ 8192
    · rw [if_pos (nI_le hT (by decide)), if_pos hT]
      exact sm_wI (qj_pk167 hm hF hP eN eL eZ rfl rfl hT _ 0 F σ (Nat.zero_add _) (by omega) hI) (fun σ2 w => Or.inr ⟨hT, w⟩)
    · rw [if_neg (nI_ge (a := 8192) (by omega) (by omega)), if_neg hT]
      exact sm_r rfl (Or.inl ⟨by omega, rfl⟩)
  exact key _ _ _ rfl rfl rfl
end QPK
section QPL
variable {F m : Nat} {h : px_H} {σ0 σ : px_S} {cc c T i o n M : Nat} {of nf Mf : Nat → Nat} {Df : Nat → Nat → Bool} {Af Ef : Nat → Nat → Nat} {D : Nat → Bool} {A E : Nat → Nat} {I : px_S → Prop} {V : Int32 → Prop} {fs : px_FS}
theorem qj_pk30 (hm : m ≤ h.length) (hF : 65540 < F) (hP : PKs F m h σ c of nf Mf Df Af Ef) (ho : OUo σ) : ∀ (d i f : Nat), i + d = c → d < f → Sm m h (fun σ' => (8192 < 68 + (sumT (pkZZ nf) c) + (4 + 4 * (sumT (pkNN Mf Df) c) + (sumT (pkLL Mf Df Af Ef) c) + (4 + 4 * (sumT (pkNN Mf Df) c) + (sumT (pkLL Mf Df Af Ef) c)) % 2) ∧ σ' = σ) ∨ (68 + (sumT (pkZZ nf) c) + (4 + 4 * (sumT (pkNN Mf Df) c) + (sumT (pkLL Mf Df Af Ef) c) + (4 + 4 * (sumT (pkNN Mf Df) c) + (sumT (pkLL Mf Df Af Ef) c)) % 2) ≤ 8192 ∧ OWj σ σ' (68 + (sumT (pkZZ nf) c) + (4 + 4 * (sumT (pkNN Mf Df) c) + (sumT (pkLL Mf Df Af Ef) c) + (4 + 4 * (sumT (pkNN Mf Df) c) + (sumT (pkLL Mf Df Af Ef) c)) % 2)))) (fun v => v = pkA (sumT (pkNN Mf Df) c) (sumT (pkLL Mf Df Af Ef) c) (sumT (pkZZ nf) c)) (f_M_pack_30 F f m (nI (sumT (pkNN Mf Df) i)) (nI (sumT (pkLL Mf Df Af Ef) i)) (nI (68 + sumT (pkZZ nf) i)) (nI i) (mh m h σ)) := by
  have hP' := hP
  obtain ⟨hc7, e127, hO⟩ := hP
  intro d
  induction d with
  | zero =>
    intro i f hi hf
    obtain ⟨f, rfl⟩ : ∃ y, f = y + 1 := ⟨f - 1, by omega⟩
    obtain rfl : i = c := by omega
    obtain ⟨cc, hcc, hI⟩ := OWe_0 ho (FR_refl σ)
    unfold f_M_pack_30
    rw [Mg127 hm, bs, e127, if_pos (nI_le (by omega) (by omega))]
    exact qj_pk136 hm hF hP' hI
  | succ d ih =>
    intro i f hi hf
    obtain ⟨f, rfl⟩ : ∃ y, f = y + 1 := ⟨f - 1, by omega⟩
    obtain ⟨e128, e129, hPo⟩ := hO i (by omega)
    have e5 : sumT (pkNN Mf Df) (i + 1) = sumT (pkNN Mf Df) i + sumT (pkN (Df i)) (pkM (Mf i)) := rfl
    have e6 : sumT (pkLL Mf Df Af Ef) (i + 1) = sumT (pkLL Mf Df Af Ef) i + sumT (pkL (Df i) (Af i) (Ef i)) (pkM (Mf i)) := rfl
    have e7 : sumT (pkZZ nf) (i + 1) = sumT (pkZZ nf) i + pkZ (nf i) := rfl
    have go := ih (i + 1) f (by omega) (by omega)
    rw [e5, e6, e7, show 68 + (sumT (pkZZ nf) i + pkZ (nf i)) = 68 + sumT (pkZZ nf) i + pkZ (nf i) by omega] at go
    unfold f_M_pack_30
    rw [Mg127 hm, bs, e127, if_neg (nI_ge (by omega) (by omega)), Mr128 hm, bs, Ma128 hm (by omega), bs, e128]
    have hM := hPo.1
    obtain ⟨m1, m2, m3⟩ := pkM_1 (Mf i)
    have hMx : pkM (Mf i) ≤ 64 := by unfold pkM; split <;> omega
    have z0 : sumT (pkN (Df i)) 1 = 0 := rfl
    have z1 : sumT (pkL (Df i) (Af i) (Ef i)) 1 = 0 := rfl
    have w := qx_pk51 (i := i) (k30 := f_M_pack_30 F f) (N := sumT (pkNN Mf Df) i) (L := sumT (pkLL Mf Df Af Ef) i) (S := 68 + sumT (pkZZ nf) i) hm hPo (by omega) e129 go (pkM (Mf i) - 1) 1 F (by omega) (by omega) (by omega)
    rw [z0, z1] at w
    exact w
theorem qj_pack (hm : m ≤ h.length) (hF : 65540 < F) (hr : RF σ fs) (ho : OUo σ) : Sm m h (fun σ' => (pkR fs = Int32.ofInt (-1) ∧ FR [0, 127] [] [128, 129] [] σ σ') ∨ (∃ T, T ≤ 8192 ∧ pkR fs = nI T ∧ FR [0, 4, 127] [] [3, 128, 129] [] σ σ' ∧ gI σ' 4 = nI T ∧ Z0r σ')) (fun v => v = pkR fs) (f_M_pack F m (mh m h σ)) := by
  have hr1 : RF (sI σ 0 (nI 0)) fs := RF_0 hr (FR_I _ _ _)
  unfold f_M_pack
  rw [Mp0 hm, bs, e_o hm, bs]
  refine sm_x (qx_fo hm hF hr1) (fun _ σ1 _ hI => ?_)
  have ho1 : OUo σ1 := OUo_FR (OUo_FR ho (FR_I σ 0 (nI 0)) (by decide) (by decide)) hI.1 (by decide) (by decide)
  have fr1 : FR [0, 127] [] [128, 129] [] σ σ1 := FR_trans (FR_mono (FR_I σ 0 (nI 0)) (by decide) (by decide) (by decide) (by decide)) (FR_mono hI.1 (by decide) (by decide) (by decide) (by decide))
  have hlen := obL_len fs 64
  have hob := obL_ob fs 64
  rw [Mg127 hm, bs, hI.2.1]
  have eR : pkR fs = if (obL fs 64).length ≤ 7 then pkA ((obL fs 64).map (pn1 fs)).sum ((obL fs 64).map (pl1 fs)).sum ((obL fs 64).map (pz1 fs)).sum else Int32.ofInt (-1) := rfl
  rw [eR]
  clear eR
  generalize hqs : obL fs 64 = qs at *
  by_cases c7 : qs.length ≤ 7
  · rw [if_pos (nI_le c7 (by decide)), if_pos c7]
    generalize hN : (qs.map (pn1 fs)).sum = N
    generalize hL : (qs.map (pl1 fs)).sum = Lt
    generalize hZ : (qs.map (pz1 fs)).sum = Z
    have hR := FOx_R hr1 hI
    have hP : PKs F m h σ1 qs.length (fun i => (obV fs (qs.getD i 0)).1) (fun i => (obV fs (qs.getD i 0)).2.1) (fun i => oM (obV fs (qs.getD i 0)).2.2.1) (fun i => pkD (obV fs (qs.getD i 0)).2.2.1) (fun i k => (obV fs (qs.getD i 0)).1 + (oP (obV fs (qs.getD i 0)).2.2.1 (oX (obV fs (qs.getD i 0)).2.2.1) + yN (obV fs (qs.getD i 0)).2.2.1 k)) (fun i k => (obV fs (qs.getD i 0)).1 + (oP (obV fs (qs.getD i 0)).2.2.1 (oX (obV fs (qs.getD i 0)).2.2.1) + yN (obV fs (qs.getD i 0)).2.2.1 k) + yL (obV fs (qs.getD i 0)).2.2.1 k) := by
      refine ⟨c7, hI.2.1, fun i hi => ?_⟩
      have hq : qs[i]? = some qs[i] := List.getElem?_eq_getElem hi
      have e2 : qs.getD i 0 = qs[i] := by
        rw [List.getD_eq_getElem?_getD, hq]
        rfl
      dsimp only
      rw [e2]
      obtain ⟨g1, g2⟩ := hI.2.2 i qs[i] hq
      obtain ⟨o, n, b, eo, eV⟩ := isOb_t (hob i qs[i] hq).1
      obtain ⟨_, _, _, _, q5, q6, q7⟩ := RF_ob hR eo
      rw [eV] at g1 g2 ⊢
      exact ⟨g1, g2, PKo_of hm (by omega) hR.2.2.1 q5 q6 (q7 rfl)⟩
    have w := qj_pk30 hm hF hP ho1 qs.length 0 F (Nat.zero_add _) (by omega)
    have s1 : sumT (pkNN (fun i => oM (obV fs (qs.getD i 0)).2.2.1) (fun i => pkD (obV fs (qs.getD i 0)).2.2.1)) qs.length = (qs.map (pn1 fs)).sum := sumT_map (pn1 fs) qs
    have s2 : sumT (pkLL (fun i => oM (obV fs (qs.getD i 0)).2.2.1) (fun i => pkD (obV fs (qs.getD i 0)).2.2.1) (fun i k => (obV fs (qs.getD i 0)).1 + (oP (obV fs (qs.getD i 0)).2.2.1 (oX (obV fs (qs.getD i 0)).2.2.1) + yN (obV fs (qs.getD i 0)).2.2.1 k)) (fun i k => (obV fs (qs.getD i 0)).1 + (oP (obV fs (qs.getD i 0)).2.2.1 (oX (obV fs (qs.getD i 0)).2.2.1) + yN (obV fs (qs.getD i 0)).2.2.1 k) + yL (obV fs (qs.getD i 0)).2.2.1 k)) qs.length = (qs.map (pl1 fs)).sum := by
      rw [← sumT_map (pl1 fs) qs]
      congr 1
      funext i
      unfold pkLL pl1
      rw [pkLb_e]
    have s3 : sumT (pkZZ (fun i => (obV fs (qs.getD i 0)).2.1)) qs.length = (qs.map (pz1 fs)).sum := sumT_map (pz1 fs) qs
    rw [s1, s2, s3, hN, hL, hZ] at w
    refine sm_wI w (fun σ2 w => ?_)
    rcases w with ⟨w1, rfl⟩ | ⟨w1, w2⟩
    · exact Or.inl ⟨by unfold pkA; rw [if_neg (by omega)], fr1⟩
    · refine Or.inr ⟨_, w1, by unfold pkA; rw [if_pos w1], FR_trans (FR_mono fr1 (by decide) (by decide) (by decide) (by decide)) (FR_mono w2.1.1 (by decide) (by decide) (by decide) (by decide)), w2.1.2.1, w2.2⟩
  · rw [if_neg (nI_ge (a := 7) (by omega) (by omega)), if_neg c7]
    exact sm_r rfl (Or.inl ⟨rfl, fr1⟩)
end QPL
end
