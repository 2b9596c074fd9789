/-! the class's symbols: readers, names -/
def cS (sk : Nat → Nat × Nat × Nat) (L : Nat) (τ : px_TT) (q g base n : Nat) (S : Nat → Int32) : Prop := cG sk L τ q g base n S ∧ cY τ q base n S ∧ w2 (cb S base n) n
section CSZ
variable {F : Nat} {c : px_CT} {sk : Nat → Nat × Nat × Nat} {L q g base n : Nat} {τ : px_TT} {S : Nat → Int32}
theorem k_rowAt {r a i ss N : Nat} {S : Nat → Int32} (h1 : ob sk L 10 r) (h2 : fN τ r 0 = some a) (h3 : ar sk L 0 N a) (h4 : eI τ a = S) (h5 : fI τ r 1 = nI ss) (hss : ss ≤ N) (hN : N < 2 ^ 31) (hi : i < 2 ^ 31) : f_Row_at F c r (nI i) (cH sk L τ) = some (nI (if i < ss then b8 (S i) else 0), cH sk L τ) := by
  unfold f_Row_at f_Row_at_25 f_Row_at_26
  rw [if_neg (nI_pos hi), C10g1 h1, bs, h5]
  by_cases c1 : i < ss
  · rw [if_neg (nI_ge c1 (by omega)), C10r0 h1 h2, bs, c_aI h3 (Or.inl rfl) hN (by omega), bs, h4, pk_and _ 8 (by decide), if_pos c1]
    rfl
  · rw [if_pos (nI_le (by omega) hi), if_neg c1]
theorem k_nameLength_2 {r a ss N p e : Nat} {S : Nat → Int32} (h1 : ob sk L 10 r) (h2 : fN τ r 0 = some a) (h3 : ar sk L 0 N a) (h4 : eI τ a = S) (h5 : fI τ r 1 = nI ss) (hss : ss ≤ N) (hN : N < 2 ^ 30) (he : e ≤ ss) (hp : p < 2 ^ 30) : ∀ (k i f : Nat), i + k = 21 → k < f → f_Row_nameLength_2 F c f r (nI p) (nI e) (nI i) (cH sk L τ) = some (nI (if i + run (fun x => b8 (S x)) (p + i) k ≤ 20 ∧ p + (i + run (fun x => b8 (S x)) (p + i) k) < e then i + run (fun x => b8 (S x)) (p + i) k else 0), cH sk L τ) := by
  intro k
  induction k with
  | zero =>
    intro i f hi hf
    obtain ⟨f, rfl⟩ : ∃ g, f = g + 1 := ⟨f - 1, by omega⟩
    unfold f_Row_nameLength_2
    rw [if_pos (nI_lt (by omega) (by omega)), show run (fun x => b8 (S x)) (p + i) 0 = 0 from rfl, if_neg (by omega)]
    rfl
  | succ k ih =>
    intro i f hi hf
    obtain ⟨f, rfl⟩ : ∃ g, f = g + 1 := ⟨f - 1, by omega⟩
    unfold f_Row_nameLength_2
    rw [if_neg (nI_nlt (by omega) (by omega)), nI_add]
    by_cases c1 : e ≤ p + i
    · rw [if_pos (nI_le c1 (by omega)), if_neg (by omega)]
      rfl
    · rw [if_neg (nI_ge (by omega) (by omega)), c_o h1, bs, k_rowAt h1 h2 h3 h4 h5 hss (by omega) (by omega), xb_mk, if_pos (show p + i < ss by omega), show (0 : Int32) = nI 0 from rfl, nI_add]
      have hb := b8_lt (S (p + i))
      simp only [nI_eq (show b8 (S (p + i)) < 2 ^ 31 by omega) (show 0 < 2 ^ 31 by decide)]
      rw [show run (fun x => b8 (S x)) (p + i) (k + 1) = if b8 (S (p + i)) = 0 then 0 else run (fun x => b8 (S x)) (p + i + 1) k + 1 from rfl]
      by_cases c2 : b8 (S (p + i)) = 0
      · rw [if_pos c2, if_pos c2, Nat.add_zero, if_pos (by omega)]
        rfl
      · rw [if_neg c2, if_neg c2, ih (i + 1) f (by omega) (by omega), show p + (i + 1) = p + i + 1 by omega]
        generalize run (fun x => b8 (S x)) (p + i + 1) k = r
        rw [show i + 1 + r = i + (r + 1) by omega]
/-- of a name that ends ahead of e it is all the same what is behind -/
theorem run_lt {b b' : Nat → Nat} {p p' e : Nat} : ∀ (k : Nat), (∀ i, i < e → b (p + i) = b' (p' + i)) → ∀ (i : Nat), i + k = 21 → (run b (p + i) k < e - i ∨ run b' (p' + i) k < e - i) → i ≤ e → run b (p + i) k = run b' (p' + i) k
  | 0, _, _, _, _, _ => rfl
  | k + 1, h, i, hi, hl, he => by
    have e1 : run b (p + i) (k + 1) = if b (p + i) = 0 then 0 else run b (p + i + 1) k + 1 := rfl
    have e2 : run b' (p' + i) (k + 1) = if b' (p' + i) = 0 then 0 else run b' (p' + i + 1) k + 1 := rfl
    by_cases c : i < e
    · rw [e1, e2] at hl ⊢
      rw [h i c] at hl ⊢
      by_cases c2 : b' (p' + i) = 0
      · rw [if_pos c2, if_pos c2]
      · rw [if_neg c2, if_neg c2] at hl ⊢
        have := run_lt k h (i + 1) (by omega) (by rw [show p + (i + 1) = p + i + 1 by omega, show p' + (i + 1) = p' + i + 1 by omega]; omega) (by omega)
        rw [show p + (i + 1) = p + i + 1 by omega, show p' + (i + 1) = p' + i + 1 by omega] at this
        rw [this]
    · omega
theorem run_eq {b b' : Nat → Nat} {p p' e : Nat} (h : ∀ i, i < e → b (p + i) = b' (p' + i)) (hl : run b p 21 < e ∨ run b' p' 21 < e) : run b p 21 = run b' p' 21 := run_lt 21 h 0 rfl hl (Nat.zero_le _)
theorem le_1 (b : Nat → Nat) (p : Nat) : le b p 1 = b p := by
  show b (p + 0) * 256 ^ 0 + 0 = b p
  rw [Nat.pow_zero, Nat.mul_one, Nat.add_zero, Nat.add_zero]
section GETS
variable {j : Nat}
theorem cS_rk (hs : cS sk L τ q g base n S) : rk S base n := hs.1.1.2.1
theorem cS_y (hs : cS sk L τ q g base n S) (hj : j < oM (cb S base n)) : fI τ q 10 = nI (oP (cb S base n) (oY (cb S base n))) ∧ yP (cb S base n) j + 24 ≤ n ∧ yP (cb S base n) j < 2 ^ 29 := by
  have h1 := w2_y hs.2.2 hj
  have h2 := (cS_rk hs).1.2
  refine ⟨(hs.2.1.2.2 (w2_M0 hj)).1, h1, ?_⟩
  generalize yP (cb S base n) j = y at *
  omega
theorem k_bindOf (hs : cS sk L τ q g base n S) (hF : 8 < F) (h1 : 1 ≤ j) (hj : j < oM (cb S base n)) : f_ObjectFile_bindOf F c q (nI j) (cH sk L τ) = some (nI (yB (cb S base n) j), cH sk L τ) := by
  obtain ⟨e1, e2, e3⟩ := cS_y hs hj
  have hM := w2_M hs.2.2
  have hb := cb_lt S base n (yP (cb S base n) j + 4)
  unfold f_ObjectFile_bindOf f_ObjectFile_bindOf_35
  rw [show (0 : Int32) = nI 0 from rfl, if_neg (nI_ge (by omega) (by omega)), C7g11 hs.1.1.1.1, bs, hs.2.1.2.1, if_pos (nI_lt hj (by omega)), C7g10 hs.1.1.1.1, bs, c_o hs.1.1.1.1, bs, e1, pk_mul, nI_add, nI_add, show oP (cb S base n) (oY (cb S base n)) + 24 * j = yP (cb S base n) j from rfl, k_num hs.1.1.1 hF (by decide) (by omega), nm_in (by omega), xb_mk, le_1, lN_i, pk_shrN (by omega) _ 4 (by decide), show (2 : Nat) ^ 4 = 16 from rfl]
  simp only [yB]
theorem k_bindOf0 (hs : cS sk L τ q g base n S) (hj : j = 0 ∨ oM (cb S base n) ≤ j) (hj2 : j < 2 ^ 31) : f_ObjectFile_bindOf F c q (nI j) (cH sk L τ) = some (nI 0, cH sk L τ) := by
  have hM := w2_M hs.2.2
  unfold f_ObjectFile_bindOf f_ObjectFile_bindOf_12 f_ObjectFile_bindOf_35
  rw [show (0 : Int32) = nI 0 from rfl]
  by_cases c1 : j ≤ 0
  · rw [if_pos (nI_le c1 (by decide))]
  · rw [if_neg (nI_ge (by omega) hj2), C7g11 hs.1.1.1.1, bs, hs.2.1.2.1, if_neg (nI_nlt (by omega) hj2)]
theorem k_whereOf (hs : cS sk L τ q g base n S) (hF : 8 < F) (hj : j < oM (cb S base n)) : f_ObjectFile_whereOf F c q (nI j) (cH sk L τ) = some (nI (yW (cb S base n) j), cH sk L τ) := by
  obtain ⟨e1, e2, e3⟩ := cS_y hs hj
  unfold f_ObjectFile_whereOf
  rw [C7g10 hs.1.1.1.1, bs, c_o hs.1.1.1.1, bs, e1, pk_mul, nI_add, nI_add, show oP (cb S base n) (oY (cb S base n)) + 24 * j = yP (cb S base n) j from rfl, k_num hs.1.1.1 hF (by decide) (by omega), nm_in (by omega), xb_mk, lN_i]
  simp only [yW]
theorem k_valueOf (hs : cS sk L τ q g base n S) (hF : 8 < F) (hj : j < oM (cb S base n)) : f_ObjectFile_valueOf F c q (nI j) (cH sk L τ) = some (lN (yV (cb S base n) j), cH sk L τ) := by
  obtain ⟨e1, e2, e3⟩ := cS_y hs hj
  unfold f_ObjectFile_valueOf
  rw [C7g10 hs.1.1.1.1, bs, c_o hs.1.1.1.1, bs, e1, pk_mul, nI_add, nI_add, show oP (cb S base n) (oY (cb S base n)) + 24 * j = yP (cb S base n) j from rfl, k_num hs.1.1.1 hF (by decide) (by omega), nm_in (by omega), xb_mk]
  simp only [yV]
theorem ar_16' {y n : Nat} (h : y + 24 ≤ n) : y + 16 + 8 ≤ n := by omega
theorem k_ysize (hs : cS sk L τ q g base n S) (hF : 8 < F) (hj : j < oM (cb S base n)) : f_ObjectFile_num F c q (nI (yP (cb S base n) j + 16)) (nI 8) (cH sk L τ) = some (lN (yZ (cb S base n) j), cH sk L τ) := by
  obtain ⟨e1, e2, e3⟩ := cS_y hs hj
  rw [k_num hs.1.1.1 hF (by decide) (by omega), nm_in (ar_16' e2)]
  simp only [yZ]
theorem k_yname (hs : cS sk L τ q g base n S) (hF : 8 < F) (hj : j < oM (cb S base n)) : f_ObjectFile_num F c q (nI (yP (cb S base n) j)) (nI 4) (cH sk L τ) = some (lN (yN (cb S base n) j), cH sk L τ) := by
  obtain ⟨e1, e2, e3⟩ := cS_y hs hj
  rw [k_num hs.1.1.1 hF (by decide) (by omega), nm_in (by omega)]
  simp only [yN]
theorem k_nameStart (hs : cS sk L τ q g base n S) (hF : 8 < F) (hj : j < oM (cb S base n)) : f_ObjectFile_nameStart F c q (nI j) (cH sk L τ) = some (nI (base + oP (cb S base n) (oX (cb S base n)) + yN (cb S base n) j), cH sk L τ) := by
  obtain ⟨e1, e2, e3⟩ := cS_y hs hj
  have h12 := (hs.2.1.2.2 (w2_M0 hj)).2.1
  unfold f_ObjectFile_nameStart
  rw [C7g5 hs.1.1.1.1, bs, hs.1.1.1.2.2.2.2.2.2.1, C7g12 hs.1.1.1.1, bs, h12, C7g10 hs.1.1.1.1, bs, e1, c_o hs.1.1.1.1, bs, pk_mul, nI_add, nI_add, show oP (cb S base n) (oY (cb S base n)) + 24 * j = yP (cb S base n) j from rfl, k_yname hs hF hj, xb_mk, lN_i, nI_add]
end GETS
theorem k_isNameGood {j ss : Nat} (hs : cS sk L τ q g base n S) (hF : 24 < F) (hj : j < oM (cb S base n)) (h71 : fI τ 7 1 = nI ss) (hss : base + n ≤ ss) (hss2 : ss ≤ 65536) : f_ObjectFile_isNameGood F c q (nI j) (cH sk L τ) = some (bI (yG (cb S base n) j), cH sk L τ) := by
  obtain ⟨e1, e2, e3⟩ := cS_y hs hj
  obtain ⟨f1, f2, f3⟩ := hs.2.1.2.2 (w2_M0 hj)
  obtain ⟨o1, o2, o3, o4, o5, o6, o7, o8, o9, o10⟩ := hs.1.1.1
  have hx := w2_x hs.2.2 (w2_M0 hj)
  have hN := yN_lt (cb_lt S base n) j
  have hZ : oZ (cb S base n) (oX (cb S base n)) ≤ 65536 := by
    generalize oZ (cb S base n) (oX (cb S base n)) = z at *
    generalize oP (cb S base n) (oX (cb S base n)) = y at *
    omega
  unfold f_ObjectFile_isNameGood
  rw [C7g10 o1, bs, c_o o1, bs, e1, pk_mul, nI_add, show oP (cb S base n) (oY (cb S base n)) + 24 * j = yP (cb S base n) j from rfl, k_yname hs (by omega) hj, xb_mk, C7g5 o1, bs, o7, C7g12 o1, bs, f2, C7g13 o1, bs, f3, nI_l (by omega)]
  simp only [pk_lLE (show oZ (cb S base n) (oX (cb S base n)) < 2 ^ 63 by omega) (show yN (cb S base n) j < 2 ^ 63 by omega), f_ObjectFile_isNameGood_62, f_ObjectFile_isNameGood_63, xz_0, xz_1]
  unfold yG
  by_cases c1 : oZ (cb S base n) (oX (cb S base n)) ≤ yN (cb S base n) j
  · rw [if_pos c1, decide_eq_false (fun e => by have := e.1; omega)]
  · rw [if_neg c1, C7r0 o1 o2, bs, bs, c_o o3, bs, lN_i, nI_add, nI_add, nI_add]
    have hpb : oP (cb S base n) (oX (cb S base n)) + yN (cb S base n) j < n := by
      generalize oZ (cb S base n) (oX (cb S base n)) = z at *
      generalize oP (cb S base n) (oX (cb S base n)) = y at *
      generalize yN (cb S base n) j = w at *
      omega
    have e4 := k_nameLength_2 (F := F) (c := c) (p := base + oP (cb S base n) (oX (cb S base n)) + yN (cb S base n) j) (e := base + oP (cb S base n) (oX (cb S base n)) + oZ (cb S base n) (oX (cb S base n))) o3 o4 o5 o6 h71 hss2 (by decide) (by
      generalize oZ (cb S base n) (oX (cb S base n)) = z at *
      generalize oP (cb S base n) (oX (cb S base n)) = y at *
      omega) (by
      generalize oP (cb S base n) (oX (cb S base n)) = y at *
      generalize yN (cb S base n) j = w at *
      omega) 21 0 F rfl (by omega)
    unfold f_Row_nameLength
    rw [show nI 0 = nI 0 from rfl, e4, xb_mk, Nat.add_zero, Nat.zero_add]
    have hrun : ∀ r, r = run (cb S base n) (oP (cb S base n) (oX (cb S base n)) + yN (cb S base n) j) 21 → ∀ r', r' = run (fun x => b8 (S x)) (base + oP (cb S base n) (oX (cb S base n)) + yN (cb S base n) j) 21 → (r < oZ (cb S base n) (oX (cb S base n)) - yN (cb S base n) j ∨ r' < oZ (cb S base n) (oX (cb S base n)) - yN (cb S base n) j) → r = r' := by
      intro r hr r' hr' hl
      rw [hr, hr'] at hl ⊢
      refine run_eq (e := oZ (cb S base n) (oX (cb S base n)) - yN (cb S base n) j) ?_ hl
      intro i hi
      rw [cb_at (by
        generalize oZ (cb S base n) (oX (cb S base n)) = z at *
        generalize oP (cb S base n) (oX (cb S base n)) = y at *
        generalize yN (cb S base n) j = w at *
        omega)]
      congr 2
      generalize oP (cb S base n) (oX (cb S base n)) = y
      generalize yN (cb S base n) j = w
      omega
    have hrun2 := hrun _ rfl _ rfl
    rw [show yL (cb S base n) j = run (cb S base n) (oP (cb S base n) (oX (cb S base n)) + yN (cb S base n) j) 21 from rfl]
    generalize run (cb S base n) (oP (cb S base n) (oX (cb S base n)) + yN (cb S base n) j) 21 = r at hrun2 ⊢
    generalize run (fun x => b8 (S x)) (base + oP (cb S base n) (oX (cb S base n)) + yN (cb S base n) j) 21 = r' at hrun2 ⊢
    clear e4 hrun
    generalize oZ (cb S base n) (oX (cb S base n)) = z at *
    generalize oP (cb S base n) (oX (cb S base n)) = y at *
    generalize yN (cb S base n) j = w at *
    rw [show (0 : Int32) = nI 0 from rfl]
    by_cases d1 : r' ≤ 20 ∧ base + y + w + r' < base + y + z
    · have hrr : r = r' := hrun2 (Or.inr (by omega))
      rw [if_pos d1]
      by_cases d2 : r' ≤ 0
      · rw [if_pos (nI_le d2 (by decide)), decide_eq_false (by omega)]
      · rw [if_neg (nI_ge (by omega) (by omega)), decide_eq_true (by omega)]
    · rw [if_neg d1, if_pos (show nI 0 ≤ nI 0 by decide), decide_eq_false (fun e => by
        have hrr : r = r' := hrun2 (Or.inl (by omega))
        omega)]
end CSZ
