/-! the class's files: rows, members' heads -/
theorem isB_fits {x : Int32} (h : isB x) : fits .byte (.int x) = true := by
  have h1 : ∀ n, n < 256 → fits .byte (.int (nI n).toInt8.toInt32) = true := by decide +kernel
  have h2 := h1 _ (b8_lt x)
  rw [← h] at h2
  exact h2
theorem xfit_B {f : Nat → Int32} (h : ∀ k, isB (f k)) (sp : Nat) : ∀ k, xfit f sp k = true
  | 0 => rfl
  | k + 1 => by
    unfold xfit
    rw [xfit_B h sp k, isB_fits (h _)]
    rfl
theorem cpy_put (f g : Nat → Int32) (dp n : Nat) : va_cpy f g 0 dp n = put g f dp n := by
  funext x
  unfold va_cpy put
  by_cases c : dp ≤ x ∧ x < dp + n
  · rw [if_pos c, if_pos c, Nat.zero_add]
  · rw [if_neg c, if_neg c]
/-- the tape, as the class has it -/
def CTp (τ : px_TT) (n : Nat) (b : Nat → Nat) : Prop := fI τ 1 1 = nI n ∧ n ≤ 8192 ∧ (∀ k, isB (eI τ 2 k)) ∧ cb (eI τ 2) 0 n = b
section CFI
variable {F : Nat} {c : px_CT} {sk : Nat → Nat × Nat × Nat} {L : Nat} {τ : px_TT} {n : Nat} {b : Nat → Nat}
theorem k_copy {ss : Nat} (hS : GS sk L) (hR : GR τ) (ht : CTp τ n b) (h7 : fI τ 7 1 = nI ss) (hss : ss + n ≤ 65536) : f_Row_copy F c 7 2 (nI 0) (nI n) (cH sk L τ) = some ((), cH sk L (tI (vI τ 8 (put (eI τ 8) (eI τ 2) ss n)) 7 1 (nI (ss + n)))) := by
  obtain ⟨t1, t2, t3, t4⟩ := ht
  unfold f_Row_copy
  rw [if_neg (show ¬ nI 0 < 0 by decide), if_neg (nI_pos (by omega)), c_l (G2 hS) (by decide), bs, show nI 8192 - nI 0 = nI 8192 by decide, if_pos (nI_le t2 (by decide)), C10r0 (G7 hS) (R7_0 hR), bs, c_l (G8 hS) (by decide), bs, C10g1 (G7 hS), bs, h7, pk_sub (by omega), if_pos (nI_le (by omega) (by omega)), bs, bs]
  have e : xcpy (cH sk L τ) 2 (nI 0) 8 (nI ss) (nI n) = some (cH sk L (vI τ 8 (put (eI τ 8) (eI τ 2) ss n))) := by
    unfold xcpy
    rw [c_A (G2 hS) (Or.inl rfl), bs, c_A (G8 hS) (Or.inl rfl), bs]
    rw [show (nI 0).toNatClampNeg = 0 from rfl, nI_clamp (show ss < 2 ^ 31 by omega), nI_clamp (show n < 2 ^ 31 by omega)]
    rw [if_pos ⟨⟨by decide, nI_pos (by omega), nI_pos (by omega)⟩, by show 0 + n ≤ 8192; omega, hss, xfit_B t3 0 n⟩]
    congr 1
    refine cH_set _ ?_ ?_
    · unfold cell
      rw [(G8 hS).1, show eI (vI τ 8 (put (eI τ 8) (eI τ 2) ss n)) 8 = put (eI τ 8) (eI τ 2) ss n from (u1_eq : u1 τ.2.2.2.1 8 (put (eI τ 8) (eI τ 2) ss n) 8 = _)]
      show _ = (Sum.inl (0, 65536, Sum.inl (va_cpy (eI τ 2) (eI τ 8) 0 ss n)) : px_PE)
      rw [cpy_put]
      rfl
    · intro x hx
      exact cell_eq (fun _ => rfl) (fun _ => rfl) (fun _ => rfl) (u1_ne hx) rfl rfl
  rw [e, bs, C10g1 (G7 hS), bs, show fI (vI τ 8 (put (eI τ 8) (eI τ 2) ss n)) 7 1 = nI ss from h7, nI_add, C10p1 (G7 hS), bs]
theorem k_tapeAt {i : Nat} (hS : GS sk L) (hR : GR τ) (ht : CTp τ n b) (hi : i < 2 ^ 31) : f_Row_at F c 1 (nI i) (cH sk L τ) = some (nI (b i), cH sk L τ) := by
  obtain ⟨t1, t2, t3, t4⟩ := ht
  rw [k_rowAt (G1 hS) (R1_0 hR) (G2 hS) rfl t1 t2 (by decide) hi, ← t4]
  unfold cb
  rw [Nat.zero_add]
theorem k_begins_2 (hc : KT c) (hS : GS sk L) (hR : GR τ) (ht : CTp τ n b) : ∀ (k i f : Nat), i + k = 8 → k < f → f_Row_begins_2 F c f 1 1 (nI i) (cH sk L τ) = some (bI (al (fun i => decide (b i = [33, 60, 97, 114, 99, 104, 62, 10].getD i 0)) i k), cH sk L τ) := by
  have hE := hc.1
  have hb : ∀ k, b k < 256 := by
    intro k
    rw [← ht.2.2.2]
    exact cb_lt _ _ _ _
  intro k
  induction k with
  | zero =>
    intro i f hi hf
    obtain ⟨f, rfl⟩ : ∃ g, f = g + 1 := ⟨f - 1, by omega⟩
    unfold f_Row_begins_2
    rw [xkl_at hE.2 (by decide), bs, if_pos (nI_le (by show 8 ≤ i; omega) (by omega))]
    rfl
  | succ k ih =>
    intro i f hi hf
    obtain ⟨f, rfl⟩ : ∃ g, f = g + 1 := ⟨f - 1, by omega⟩
    have h1 := hb i
    have h2 : [33, 60, 97, 114, 99, 104, 62, 10].getD i 0 < 256 := by
      have : ∀ j, j < 8 → [33, 60, 97, 114, 99, 104, 62, 10].getD j 0 < 256 := by decide
      exact this i (by omega)
    unfold f_Row_begins_2
    rw [xkl_at hE.2 (by decide), bs, if_neg (nI_ge (by show i < 8; omega) (by show 8 < 2 ^ 31; decide)), c_o (G1 hS), bs, k_tapeAt hS hR ht (by omega), xb_mk, xkB_at hE.2 (by decide) hE.1 (by decide) (by show i < 8; omega), bs, nI_add, al_s]
    simp only [nI_eq (show b i < 2 ^ 31 by omega) (show [33, 60, 97, 114, 99, 104, 62, 10].getD i 0 < 2 ^ 31 from Nat.lt_trans h2 (by decide))]
    by_cases e : b i = [33, 60, 97, 114, 99, 104, 62, 10].getD i 0
    · rw [if_pos e, decide_eq_true e, Bool.true_and]
      exact ih (i + 1) f (by omega) (by omega)
    · rw [if_neg e, decide_eq_false e, Bool.false_and]
      rfl
theorem le_8 {b : Nat → Nat} (hb : ∀ k, b k < 256) : le b 0 8 = 738142165265366049 ↔ al (fun i => decide (b i = [33, 60, 97, 114, 99, 104, 62, 10].getD i 0)) 0 8 = true := by
  have e : le b 0 8 = b 7 * 256 ^ 7 + (b 6 * 256 ^ 6 + (b 5 * 256 ^ 5 + (b 4 * 256 ^ 4 + (b 3 * 256 ^ 3 + (b 2 * 256 ^ 2 + (b 1 * 256 ^ 1 + (b 0 * 256 ^ 0 + 0))))))) := by
    simp only [le, Nat.zero_add]
  have h0 := hb 0
  have h1 := hb 1
  have h2 := hb 2
  have h3 := hb 3
  have h4 := hb 4
  have h5 := hb 5
  have h6 := hb 6
  have h7 := hb 7
  have key : (al (fun i => decide (b i = [33, 60, 97, 114, 99, 104, 62, 10].getD i 0)) 0 8 = true) ↔ (b 0 = 33 ∧ b 1 = 60 ∧ b 2 = 97 ∧ b 3 = 114 ∧ b 4 = 99 ∧ b 5 = 104 ∧ b 6 = 62 ∧ b 7 = 10) := by
    rw [al_iff]
    constructor
    · intro h
      exact ⟨of_decide_eq_true (h 0 (by decide) (by decide)), of_decide_eq_true (h 1 (by decide) (by decide)), of_decide_eq_true (h 2 (by decide) (by decide)), of_decide_eq_true (h 3 (by decide) (by decide)), of_decide_eq_true (h 4 (by decide) (by decide)), of_decide_eq_true (h 5 (by decide) (by decide)), of_decide_eq_true (h 6 (by decide) (by decide)), of_decide_eq_true (h 7 (by decide) (by decide))⟩
    · intro h x _ hx
      apply decide_eq_true
      rcases (by omega : x = 0 ∨ x = 1 ∨ x = 2 ∨ x = 3 ∨ x = 4 ∨ x = 5 ∨ x = 6 ∨ x = 7) with rfl | rfl | rfl | rfl | rfl | rfl | rfl | rfl
      · exact h.1
      · exact h.2.1
      · exact h.2.2.1
      · exact h.2.2.2.1
      · exact h.2.2.2.2.1
      · exact h.2.2.2.2.2.1
      · exact h.2.2.2.2.2.2.1
      · exact h.2.2.2.2.2.2.2
  rw [key, e]
  generalize b 0 = x0 at *
  generalize b 1 = x1 at *
  generalize b 2 = x2 at *
  generalize b 3 = x3 at *
  generalize b 4 = x4 at *
  generalize b 5 = x5 at *
  generalize b 6 = x6 at *
  generalize b 7 = x7 at *
  clear key e
  omega
/-- an object file opened -/
def opn (τ : px_TT) (q kind base n : Nat) : px_TT := tI (tI (tI (tI (tI (tI (tI (tI τ q 4 (nI kind)) q 5 (nI base)) q 6 (nI n)) q 8 (nI 0)) q 9 (Int32.ofInt (-1))) q 11 (nI 0)) q 15 (bI false)) q 16 (nI 0)
theorem k_open {q kind base m : Nat} (hq : ob sk L 7 q) : f_ObjectFile_open F c q (nI kind) (nI base) (nI m) (cH sk L τ) = some ((), cH sk L (opn τ q kind base m)) := by
  unfold f_ObjectFile_open
  rw [C7p4 hq, bs, C7p5 hq, bs, C7p6 hq, bs, C7p8 hq, bs, C7p9 hq, bs, C7p11 hq, bs, show nI 0 = bI false from rfl, C7z15 hq, bs, C7p16 hq, bs]
  rfl
theorem opn_ne {q kind base m a k : Nat} (h : a ≠ q ∨ k < 4 ∨ k = 7 ∨ k = 10 ∨ (12 ≤ k ∧ k ≤ 14) ∨ 16 < k) : fI (opn τ q kind base m) a k = fI τ a k := by
  unfold opn
  show u2 (u2 (u2 (u2 (u2 (u2 (u2 (u2 τ.1 q 4 (nI kind)) q 5 (nI base)) q 6 (nI m)) q 8 (nI 0)) q 9 (Int32.ofInt (-1))) q 11 (nI 0)) q 15 (bI false)) q 16 (nI 0) a k = τ.1 a k
  rw [u2_ne (by omega), u2_ne (by omega), u2_ne (by omega), u2_ne (by omega), u2_ne (by omega), u2_ne (by omega), u2_ne (by omega), u2_ne (by omega)]
theorem opn_at {q kind base m : Nat} : fI (opn τ q kind base m) q 4 = nI kind ∧ fI (opn τ q kind base m) q 5 = nI base ∧ fI (opn τ q kind base m) q 6 = nI m ∧ fI (opn τ q kind base m) q 9 = Int32.ofInt (-1) ∧ fI (opn τ q kind base m) q 11 = nI 0 ∧ fI (opn τ q kind base m) q 15 = bI false ∧ fI (opn τ q kind base m) q 16 = nI 0 := by
  have e : ∀ k, fI (opn τ q kind base m) q k = if k = 16 then nI 0 else if k = 15 then bI false else if k = 11 then nI 0 else if k = 9 then Int32.ofInt (-1) else if k = 8 then nI 0 else if k = 6 then nI m else if k = 5 then nI base else if k = 4 then nI kind else fI τ q k := by
    intro k
    unfold opn
    show u2 (u2 (u2 (u2 (u2 (u2 (u2 (u2 τ.1 q 4 (nI kind)) q 5 (nI base)) q 6 (nI m)) q 8 (nI 0)) q 9 (Int32.ofInt (-1))) q 11 (nI 0)) q 15 (bI false)) q 16 (nI 0) q k = _
    simp only [u2, true_and]
    rfl
  rw [e, e, e, e, e, e, e]
  exact ⟨rfl, rfl, rfl, rfl, rfl, rfl, rfl⟩
theorem k_rnum_loop {r a ss N p : Nat} {S : Nat → Int32} (h1 : ob sk L 10 r) (h2 : fN τ r 0 = some a) (h3 : ar sk L 0 N a) (h4 : eI τ a = S) (h5 : fI τ r 1 = nI ss) (hss : ss ≤ N) (hN : N < 2 ^ 30) (hp : p < 2 ^ 30) : ∀ (k x f : Nat), k < f → k ≤ 8 → (x + 1) * 256 ^ k ≤ 2 ^ 64 → f_Row_num_7 F c f r (nI p) (lN x) (nI k - nI 1) (cH sk L τ) = some (lN (x * 256 ^ k + le (fun i => if i < ss then b8 (S i) else 0) p k), cH sk L τ) := by
  intro k
  induction k with
  | zero =>
    intro x f hf hk hx
    obtain ⟨f, rfl⟩ : ∃ g, f = g + 1 := ⟨f - 1, by omega⟩
    unfold f_Row_num_7
    rw [if_pos (by decide)]
    show some (lN x, cH sk L τ) = _
    rw [Nat.pow_zero, Nat.mul_one]
    rfl
  | succ k ih =>
    intro x f hf hk hx
    obtain ⟨f, rfl⟩ : ∃ g, f = g + 1 := ⟨f - 1, by omega⟩
    have e1 : nI (k + 1) - nI 1 = nI k := nI_pred k
    have e2 : (x + 1) * 256 ^ (k + 1) = (x + 1) * 256 * 256 ^ k := by rw [Nat.pow_succ, Nat.mul_comm (256 ^ k), Nat.mul_assoc]
    have e3 : 1 ≤ 256 ^ k := Nat.one_le_pow _ _ (by decide)
    have e4 : (x + 1) * 256 ≤ 2 ^ 64 := by
      have : (x + 1) * 256 * 1 ≤ (x + 1) * 256 * 256 ^ k := Nat.mul_le_mul_left _ e3
      omega
    have e5 : (if p + k < ss then b8 (S (p + k)) else 0) < 256 := by
      split
      · exact b8_lt _
      · decide
    have e8 : ∀ y, y < 256 → ((lN x <<< ((nI 8).toInt64 &&& 63)) ||| (nI y).toInt64) = lN (x * 256 + y) := by
      intro y hy
      rw [wb_shl x (by decide), nI_l (by omega)]
      exact g_or (k := 8) rfl hy (by omega)
    unfold f_Row_num_7
    rw [e1, if_neg (nI_pos (by omega)), c_o h1, bs, nI_add, k_rowAt h1 h2 h3 h4 h5 hss (by omega) (by omega), xb_mk, e8 _ e5, nI_back]
    have e6 : (x * 256 + (if p + k < ss then b8 (S (p + k)) else 0) + 1) * 256 ^ k ≤ 2 ^ 64 := by
      have : (x * 256 + (if p + k < ss then b8 (S (p + k)) else 0) + 1) * 256 ^ k ≤ (x + 1) * 256 * 256 ^ k := Nat.mul_le_mul_right _ (by omega)
      omega
    rw [ih _ f (by omega) (by omega) e6]
    have e7 : (x * 256 + (if p + k < ss then b8 (S (p + k)) else 0)) * 256 ^ k + le (fun i => if i < ss then b8 (S i) else 0) p k = x * 256 ^ (k + 1) + le (fun i => if i < ss then b8 (S i) else 0) p (k + 1) := by
      show _ = x * 256 ^ (k + 1) + ((if p + k < ss then b8 (S (p + k)) else 0) * 256 ^ k + le (fun i => if i < ss then b8 (S i) else 0) p k)
      rw [Nat.add_mul, Nat.mul_assoc, Nat.mul_comm 256, ← Nat.pow_succ, Nat.add_assoc]
    rw [e7]
theorem k_tapeNum {p k : Nat} (hS : GS sk L) (hR : GR τ) (ht : CTp τ n b) (hF : 8 < F) (hk : k ≤ 8) (hp : p < 2 ^ 30) : f_Row_num F c 1 (nI p) (nI k) (cH sk L τ) = some (lN (le b p k), cH sk L τ) := by
  obtain ⟨t1, t2, t3, t4⟩ := ht
  have e : (0 + 1) * 256 ^ k ≤ 2 ^ 64 := by
    rw [Nat.zero_add, Nat.one_mul]
    exact Nat.pow_le_pow_right (n := 256) (by decide) hk
  unfold f_Row_num
  rw [show lN 0 = lN 0 from rfl, k_rnum_loop (G1 hS) (R1_0 hR) (G2 hS) rfl t1 t2 (by decide) hp k 0 F (by omega) hk e, Nat.zero_mul, Nat.zero_add]
  have : (fun i => if i < n then b8 (eI τ 2 i) else 0) = b := by
    rw [← t4]
    funext i
    unfold cb
    rw [Nat.zero_add]
  rw [this]
end CFI
