section
/-! the class's files: rows, members' heads -/
theorem isB_fits {x : Int32} (h : isB x) : fits .byte (.int x) = true := by
  have h1 : ∀ n, n < 256 → fits .byte (.int (nI n).toInt8.toInt32) = true := by decide +kernel
  have h2 := h1 _ (b8_lt x)
  rw [← h] at h2
  exact h2
theorem xfit_B {f : Nat → Int32} (h : ∀ k, isB (f k)) (sp : Nat) : ∀ k, xfit f sp k = true
  | 0 => rfl
  | k + 1 => by
    unfold xfit
    rw [xfit_B h sp k, isB_fits (h _)]
    rfl
theorem cpy_put (f g : Nat → Int32) (dp n : Nat) : va_cpy f g 0 dp n = put g f dp n := by
  funext x
  unfold va_cpy put
  by_cases c : dp ≤ x ∧ x < dp + n
  · rw [if_pos c, if_pos c, Nat.zero_add]
  · rw [if_neg c, if_neg c]
/-- the tape, as the class has it -/
def CTp (τ : px_TT) (n : Nat) (b : Nat → Nat) : Prop := fI τ 1 1 = nI n ∧ n ≤ 8192 ∧ (∀ k, isB (eI τ 2 k)) ∧ cb (eI τ 2) 0 n = b
section CFI
variable {F : Nat} {c : px_CT} {sk : Nat → Nat × Nat × Nat} {L : Nat} {τ : px_TT} {n : Nat} {b : Nat → Nat}
theorem k_copy {ss : Nat} (hS : GS sk L) (hR : GR τ) (ht : CTp τ n b) (h7 : fI τ 7 1 = nI ss) (hss : ss + n ≤ 65536) : f_Row_copy F c 7 2 (nI 0) (nI n) (cH sk L τ) = some ((), cH sk L (tI (vI τ 8 (put (eI τ 8) (eI τ 2) ss n)) 7 1 (nI (ss + n)))) := by
  obtain ⟨t1, t2, t3, t4⟩ := ht
  unfold f_Row_copy
  rw [if_neg (show ¬ nI 0 < 0 by decide), if_neg (nI_pos (by omega)), c_l (G2 hS) (by decide), bs, show nI 8192 - nI 0 = nI 8192 by decide, if_pos (nI_le t2 (by decide)), C10r0 (G7 hS) (R7_0 hR), bs, c_l (G8 hS) (by decide), bs, C10g1 (G7 hS), bs, h7, pk_sub (by omega), if_pos (nI_le (by omega) (by omega)), bs, bs]
  have e : xcpy (cH sk L τ) 2 (nI 0) 8 (nI ss) (nI n) = some (cH sk L (vI τ 8 (put (eI τ 8) (eI τ 2) ss n))) := by
    unfold xcpy
    rw [c_A (G2 hS) (Or.inl rfl), bs, c_A (G8 hS) (Or.inl rfl), bs]
    rw [show (nI 0).toNatClampNeg = 0 from rfl, nI_clamp (show ss < 2 ^ 31 by omega), nI_clamp (show n < 2 ^ 31 by omega)]
    rw [if_pos ⟨⟨by decide, nI_pos (by omega), nI_pos (by omega)⟩, by show 0 + n ≤ 8192; omega, hss, xfit_B t3 0 n⟩]
    congr 1
    refine cH_set _ ?_ ?_
    · unfold cell
      rw [(G8 hS).1, show eI (vI τ 8 (put (eI τ 8) (eI τ 2) ss n)) 8 = put (eI τ 8) (eI τ 2) ss n from (u1_eq : u1 τ.2.2.2.1 8 (put (eI τ 8) (eI τ 2) ss n) 8 = _)]
      show _ = (Sum.inl (0, 65536, Sum.inl (va_cpy (eI τ 2) (eI τ 8) 0 ss n)) : px_PE)
      rw [cpy_put]
      rfl
    · intro x hx
      exact cell_eq (fun _ => rfl) (fun _ => rfl) (fun _ => rfl) (u1_ne hx) rfl rfl
  rw [e, bs, C10g1 (G7 hS), bs, show fI (vI τ 8 (put (eI τ 8) (eI τ 2) ss n)) 7 1 = nI ss from h7, nI_add, C10p1 (G7 hS), bs]
theorem k_tapeAt {i : Nat} (hS : GS sk L) (hR : GR τ) (ht : CTp τ n b) (hi : i < 2 ^ 31) : f_Row_at F c 1 (nI i) (cH sk L τ) = some (nI (b i), cH sk L τ) := by
  obtain ⟨t1, t2, t3, t4⟩ := ht
  rw [k_rowAt (G1 hS) (R1_0 hR) (G2 hS) rfl t1 t2 (by decide) hi, ← t4]
  unfold cb
  rw [Nat.zero_add]
theorem k_begins_2 (hc : KT c) (hS : GS sk L) (hR : GR τ) (ht : CTp τ n b) : ∀ (k i f : Nat), i + k = 8 → k < f → f_Row_begins_2 F c f 1 1 (nI i) (cH sk L τ) = some (bI (al (fun i => decide (b i = [33, 60, 97, 114, 99, 104, 62, 10].getD i 0)) i k), cH sk L τ) := by
  have hE := hc.1
  have hb : ∀ k, b k < 256 := by
    intro k
    rw [← ht.2.2.2]
    exact cb_lt _ _ _ _
  intro k
  induction k with
  | zero =>
    intro i f hi hf
    obtain ⟨f, rfl⟩ : ∃ g, f = g + 1 := ⟨f - 1, by omega⟩
    unfold f_Row_begins_2
    rw [xkl_at hE.2 (by decide), bs, if_pos (nI_le (by show 8 ≤ i; omega) (by omega))]
    rfl
  | succ k ih =>
    intro i f hi hf
    obtain ⟨f, rfl⟩ : ∃ g, f = g + 1 := ⟨f - 1, by omega⟩
    have h1 := hb i
    have h2 : [33, 60, 97, 114, 99, 104, 62, 10].getD i 0 < 256 := by
      have : ∀ j, j < 8 → [33, 60, 97, 114, 99, 104, 62, 10].getD j 0 < 256 := by decide
      exact this i (by omega)
    unfold f_Row_begins_2
    rw [xkl_at hE.2 (by decide), bs, if_neg (nI_ge (by show i < 8; omega) (by show 8 < 2 ^ 31; decide)), c_o (G1 hS), bs, k_tapeAt hS hR ht (by omega), xb_mk, xkB_at hE.2 (by decide) hE.1 (by decide) (by show i < 8; omega), bs, nI_add, al_s]
    simp only [nI_eq (show b i < 2 ^ 31 by omega) (show [33, 60, 97, 114, 99, 104, 62, 10].getD i 0 < 2 ^ 31 from Nat.lt_trans h2 (by decide))]
    by_cases e : b i = [33, 60, 97, 114, 99, 104, 62, 10].getD i 0
    · rw [if_pos e, decide_eq_true e, Bool.true_and]
      exact ih (i + 1) f (by omega) (by omega)
    · rw [if_neg e, decide_eq_false e, Bool.false_and]
      rfl
theorem le_8 {b : Nat → Nat} (hb : ∀ k, b k < 256) : le b 0 8 = 738142165265366049 ↔ al (fun i => decide (b i = [33, 60, 97, 114, 99, 104, 62, 10].getD i 0)) 0 8 = true := by
  have e : le b 0 8 = b 7 * 256 ^ 7 + (b 6 * 256 ^ 6 + (b 5 * 256 ^ 5 + (b 4 * 256 ^ 4 + (b 3 * 256 ^ 3 + (b 2 * 256 ^ 2 + (b 1 * 256 ^ 1 + (b 0 * 256 ^ 0 + 0))))))) := by
    simp only [le, Nat.zero_add]
  have h0 := hb 0
  have h1 := hb 1
  have h2 := hb 2
  have h3 := hb 3
  have h4 := hb 4
  have h5 := hb 5
  have h6 := hb 6
  have h7 := hb 7
  have key : (al (fun i => decide (b i = [33, 60, 97, 114, 99, 104, 62, 10].getD i 0)) 0 8 = true) ↔ (b 0 = 33 ∧ b 1 = 60 ∧ b 2 = 97 ∧ b 3 = 114 ∧ b 4 = 99 ∧ b 5 = 104 ∧ b 6 = 62 ∧ b 7 = 10) := by
    rw [al_iff]
    constructor
    · intro h
      exact ⟨of_decide_eq_true (h 0 (by decide) (by decide)), of_decide_eq_true (h 1 (by decide) (by decide)), of_decide_eq_true (h 2 (by decide) (by decide)), of_decide_eq_true (h 3 (by decide) (by decide)), of_decide_eq_true (h 4 (by decide) (by decide)), of_decide_eq_true (h 5 (by decide) (by decide)), of_decide_eq_true (h 6 (by decide) (by decide)), of_decide_eq_true (h 7 (by decide) (by decide))⟩
    · intro h x _ hx
      apply decide_eq_true
      rcases (by omega : x = 0 ∨ x = 1 ∨ x = 2 ∨ x = 3 ∨ x = 4 ∨ x = 5 ∨ x = 6 ∨ x = 7) with rfl | rfl | rfl | rfl | rfl | rfl | rfl | rfl
      · exact h.1
      · exact h.2.1
      · exact h.2.2.1
      · exact h.2.2.2.1
      · exact h.2.2.2.2.1
      · exact h.2.2.2.2.2.1
      · exact h.2.2.2.2.2.2.1
      · exact h.2.2.2.2.2.2.2
  rw [key, e]
  generalize b 0 = x0 at *
  generalize b 1 = x1 at *
  generalize b 2 = x2 at *
  generalize b 3 = x3 at *
  generalize b 4 = x4 at *
  generalize b 5 = x5 at *
  generalize b 6 = x6 at *
  generalize b 7 = x7 at *
  clear key e
  omega
/-- an object file opened -/
def opn (τ : px_TT) (q kind base n : Nat) : px_TT := tI (tI (tI (tI (tI (tI (tI (tI τ q 4 (nI kind)) q 5 (nI base)) q 6 (nI n)) q 8 (nI 0)) q 9 (Int32.ofInt (-1))) q 11 (nI 0)) q 15 (bI false)) q 16 (nI 0)
theorem k_open {q kind base m : Nat} (hq : ob sk L 7 q) : f_ObjectFile_open F c q (nI kind) (nI base) (nI m) (cH sk L τ) = some ((), cH sk L (opn τ q kind base m)) := by
  unfold f_ObjectFile_open
  rw [C7p4 hq, bs, C7p5 hq, bs, C7p6 hq, bs, C7p8 hq, bs, C7p9 hq, bs, C7p11 hq, bs, show nI 0 = bI false from rfl, C7z15 hq, bs, C7p16 hq, bs]
  rfl
theorem opn_ne {q kind base m a k : Nat} (h : a ≠ q ∨ k < 4 ∨ k = 7 ∨ k = 10 ∨ (12 ≤ k ∧ k ≤ 14) ∨ 16 < k) : fI (opn τ q kind base m) a k = fI τ a k := by
  unfold opn
  show u2 (u2 (u2 (u2 (u2 (u2 (u2 (u2 τ.1 q 4 (nI kind)) q 5 (nI base)) q 6 (nI m)) q 8 (nI 0)) q 9 (Int32.ofInt (-1))) q 11 (nI 0)) q 15 (bI false)) q 16 (nI 0) a k = τ.1 a k
  rw [u2_ne (by omega), u2_ne (by omega), u2_ne (by omega), u2_ne (by omega), u2_ne (by omega), u2_ne (by omega), u2_ne (by omega), u2_ne (by omega)]
theorem opn_at {q kind base m : Nat} : fI (opn τ q kind base m) q 4 = nI kind ∧ fI (opn τ q kind base m) q 5 = nI base ∧ fI (opn τ q kind base m) q 6 = nI m ∧ fI (opn τ q kind base m) q 9 = Int32.ofInt (-1) ∧ fI (opn τ q kind base m) q 11 = nI 0 ∧ fI (opn τ q kind base m) q 15 = bI false ∧ fI (opn τ q kind base m) q 16 = nI 0 := by
  have e : ∀ k, fI (opn τ q kind base m) q k = if k = 16 then nI 0 else if k = 15 then bI false else if k = 11 then nI 0 else if k = 9 then Int32.ofInt (-1) else if k = 8 then nI 0 else if k = 6 then nI m else if k = 5 then nI base else if k = 4 then nI kind else fI τ q k := by
    intro k
    unfold opn
    show u2 (u2 (u2 (u2 (u2 (u2 (u2 (u2 τ.1 q 4 (nI kind)) q 5 (nI base)) q 6 (nI m)) q 8 (nI 0)) q 9 (Int32.ofInt (-1))) q 11 (nI 0)) q 15 (bI false)) q 16 (nI 0) q k = _
    simp only [u2, true_and]
    rfl
  rw [e, e, e, e, e, e, e]
  exact ⟨rfl, rfl, rfl, rfl, rfl, rfl, rfl⟩
theorem k_rnum_loop {r a ss N p : Nat} {S : Nat → Int32} (h1 : ob sk L 10 r) (h2 : fN τ r 0 = some a) (h3 : ar sk L 0 N a) (h4 : eI τ a = S) (h5 : fI τ r 1 = nI ss) (hss : ss ≤ N) (hN : N < 2 ^ 30) (hp : p < 2 ^ 30) : ∀ (k x f : Nat), k < f → k ≤ 8 → (x + 1) * 256 ^ k ≤ 2 ^ 64 → f_Row_num_7 F c f r (nI p) (lN x) (nI k - nI 1) (cH sk L τ) = some (lN (x * 256 ^ k + le (fun i => if i < ss then b8 (S i) else 0) p k), cH sk L τ) := by
  intro k
  induction k with
  | zero =>
    intro x f hf hk hx
    obtain ⟨f, rfl⟩ : ∃ g, f = g + 1 := ⟨f - 1, by omega⟩
    unfold f_Row_num_7
    rw [if_pos (by decide)]
    show some (lN x, cH sk L τ) = _
    rw [Nat.pow_zero, Nat.mul_one]
    rfl
  | succ k ih =>
    intro x f hf hk hx
    obtain ⟨f, rfl⟩ : ∃ g, f = g + 1 := ⟨f - 1, by omega⟩
    have e1 : nI (k + 1) - nI 1 = nI k := nI_pred k
    have e2 : (x + 1) * 256 ^ (k + 1) = (x + 1) * 256 * 256 ^ k := by rw [Nat.pow_succ, Nat.mul_comm (256 ^ k), Nat.mul_assoc]
    have e3 : 1 ≤ 256 ^ k := Nat.one_le_pow _ _ (by decide)
    have e4 : (x + 1) * 256 ≤ 2 ^ 64 := by
      have : (x + 1) * 256 * 1 ≤ (x + 1) * 256 * 256 ^ k := Nat.mul_le_mul_left _ e3
      omega
    have e5 : (if p + k < ss then b8 (S (p + k)) else 0) < 256 := by
      split
      · exact b8_lt _
      · decide
    have e8 : ∀ y, y < 256 → ((lN x <<< ((nI 8).toInt64 &&& 63)) ||| (nI y).toInt64) = lN (x * 256 + y) := by
      intro y hy
      rw [wb_shl x (by decide), nI_l (by omega)]
      exact g_or (k := 8) rfl hy (by omega)
    unfold f_Row_num_7
    rw [e1, if_neg (nI_pos (by omega)), c_o h1, bs, nI_add, k_rowAt h1 h2 h3 h4 h5 hss (by omega) (by omega), xb_mk, e8 _ e5, nI_back]
    have e6 : (x * 256 + (if p + k < ss then b8 (S (p + k)) else 0) + 1) * 256 ^ k ≤ 2 ^ 64 := by
      have : (x * 256 + (if p + k < ss then b8 (S (p + k)) else 0) + 1) * 256 ^ k ≤ (x + 1) * 256 * 256 ^ k := Nat.mul_le_mul_right _ (by omega)
      omega
    rw [ih _ f (by omega) (by omega) e6]
    have e7 : (x * 256 + (if p + k < ss then b8 (S (p + k)) else 0)) * 256 ^ k + le (fun i => if i < ss then b8 (S i) else 0) p k = x * 256 ^ (k + 1) + le (fun i => if i < ss then b8 (S i) else 0) p (k + 1) := by
      show _ = x * 256 ^ (k + 1) + ((if p + k < ss then b8 (S (p + k)) else 0) * 256 ^ k + le (fun i => if i < ss then b8 (S i) else 0) p k)
      rw [Nat.add_mul, Nat.mul_assoc, Nat.mul_comm 256, ← Nat.pow_succ, Nat.add_assoc]
    rw [e7]
theorem k_tapeNum {p k : Nat} (hS : GS sk L) (hR : GR τ) (ht : CTp τ n b) (hF : 8 < F) (hk : k ≤ 8) (hp : p < 2 ^ 30) : f_Row_num F c 1 (nI p) (nI k) (cH sk L τ) = some (lN (le b p k), cH sk L τ) := by
  obtain ⟨t1, t2, t3, t4⟩ := ht
  have e : (0 + 1) * 256 ^ k ≤ 2 ^ 64 := by
    rw [Nat.zero_add, Nat.one_mul]
    exact Nat.pow_le_pow_right (n := 256) (by decide) hk
  unfold f_Row_num
  rw [show lN 0 = lN 0 from rfl, k_rnum_loop (G1 hS) (R1_0 hR) (G2 hS) rfl t1 t2 (by decide) hp k 0 F (by omega) hk e, Nat.zero_mul, Nat.zero_add]
  have : (fun i => if i < n then b8 (eI τ 2 i) else 0) = b := by
    rw [← t4]
    funext i
    unfold cb
    rw [Nat.zero_add]
  rw [this]
end CFI
end
section
/-! the class's memberSize -/
section CME
variable {F : Nat} {c : px_CT} {sk : Nat → Nat × Nat × Nat} {L : Nat} {τ : px_TT} {n p : Nat} {b : Nat → Nat}
theorem ct_lt {τ : px_TT} {n : Nat} {b : Nat → Nat} (ht : CTp τ n b) (k : Nat) : b k < 256 := by
  rw [← ht.2.2.2]
  exact cb_lt _ _ _ _
theorem k_mS_43b {v dg : Nat} (hS : GS sk L) (hR : GR τ) (ht : CTp τ n b) (hp : p < 2 ^ 20) : ∀ (d k f : Nat), k + d = 10 → dg < k → d < f → f_H_memberSize_43 F c f 0 (nI p) (lN v) (nI dg) (nI k) (cH sk L τ) = if al (fun x => decide (b x = 32)) (p + 48 + k) d = true then f_H_memberSize_122 F c 0 (nI p) (lN v) (nI dg) (cH sk L τ) else some (Int32.ofInt (-1), cH sk L τ) := by
  intro d
  induction d with
  | zero =>
    intro k f hk hd hf
    obtain ⟨f, rfl⟩ : ∃ g, f = g + 1 := ⟨f - 1, by omega⟩
    unfold f_H_memberSize_43
    rw [if_pos (nI_le (by omega) (by omega))]
    rfl
  | succ d ih =>
    intro k f hk hd hf
    obtain ⟨f, rfl⟩ : ∃ g, f = g + 1 := ⟨f - 1, by omega⟩
    have hb := ct_lt ht (p + 48 + k)
    have e : ¬ (nI dg = nI k) := by rw [nI_eq (by omega) (by omega)]; omega
    unfold f_H_memberSize_43
    rw [if_neg (nI_ge (by omega) (by omega)), C0r0 (G0 hS) (R0_0 hR), bs, c_o (G1 hS), bs, nI_add, nI_add, k_tapeAt hS hR ht (by omega), xb_mk, if_neg e, ite_self, ite_self, f_H_memberSize_107, f_H_memberSize_116, nI_add, al_s]
    simp only [nI_eq (show b (p + 48 + k) < 2 ^ 31 by omega) (show 32 < 2 ^ 31 by decide)]
    by_cases c1 : b (p + 48 + k) = 32
    · rw [if_pos c1, decide_eq_true c1, Bool.true_and]
      exact ih (k + 1) f (by omega) (by omega) (by omega)
    · rw [if_neg c1, decide_eq_false c1, Bool.false_and]
      rfl
theorem k_mS_43a (hS : GS sk L) (hR : GR τ) (ht : CTp τ n b) (hp : p < 2 ^ 20) : ∀ (d k f v : Nat), k + d = 10 → d < f → (v + 1) * 10 ^ d ≤ 10 ^ 10 → f_H_memberSize_43 F c f 0 (nI p) (lN v) (nI k) (nI k) (cH sk L τ) = if al (fun x => decide (b x = 32)) (p + 48 + k + dr b (p + 48 + k) d) (d - dr b (p + 48 + k) d) = true then f_H_memberSize_122 F c 0 (nI p) (lN (dv b (p + 48 + k) (dr b (p + 48 + k) d) v)) (nI (k + dr b (p + 48 + k) d)) (cH sk L τ) else some (Int32.ofInt (-1), cH sk L τ) := by
  intro d
  induction d with
  | zero =>
    intro k f v hk hf hv
    obtain ⟨f, rfl⟩ : ∃ g, f = g + 1 := ⟨f - 1, by omega⟩
    unfold f_H_memberSize_43
    rw [if_pos (nI_le (by omega) (by omega))]
    rfl
  | succ d ih =>
    intro k f v hk hf hv
    obtain ⟨f, rfl⟩ : ∃ g, f = g + 1 := ⟨f - 1, by omega⟩
    have hb := ct_lt ht (p + 48 + k)
    have e3 : (v + 1) * 10 ^ (d + 1) = (v + 1) * 10 * 10 ^ d := by rw [Nat.pow_succ, Nat.mul_comm (10 ^ d), Nat.mul_assoc]
    have e4 : 1 ≤ 10 ^ d := Nat.one_le_pow _ _ (by decide)
    have e5 : (v + 1) * 10 ≤ 10 ^ 10 := by
      have : (v + 1) * 10 * 1 ≤ (v + 1) * 10 * 10 ^ d := Nat.mul_le_mul_left _ e4
      omega
    unfold f_H_memberSize_43
    rw [if_neg (nI_ge (by omega) (by omega)), C0r0 (G0 hS) (R0_0 hR), bs, c_o (G1 hS), bs, nI_add, nI_add, k_tapeAt hS hR ht (by omega), xb_mk, if_pos rfl, dr_s]
    simp only [nI_ltI (show b (p + 48 + k) < 2 ^ 31 by omega) (show 48 < 2 ^ 31 by decide), nI_ltI (show 57 < 2 ^ 31 by decide) (show b (p + 48 + k) < 2 ^ 31 by omega), f_H_memberSize_107, f_H_memberSize_116, f_H_memberSize_114, nI_add, nI_eq (show b (p + 48 + k) < 2 ^ 31 by omega) (show 32 < 2 ^ 31 by decide)]
    by_cases c1 : isDg (b (p + 48 + k)) = true
    · have c2 := of_decide_eq_true c1
      rw [if_pos c1, if_neg (by omega), if_neg (by omega), dv_s, show (10 : Int64) = lN 10 from rfl, show (48 : Int64) = lN 48 from rfl, lN_mul, nI_l (by omega), lN_add, lN_sub (by omega), ih (k + 1) f _ (by omega) (by omega) (by
        refine Nat.le_trans (Nat.mul_le_mul_right _ (?_ : _ ≤ (v + 1) * 10)) (by rw [← e3]; exact hv)
        omega)]
      rw [show p + 48 + (k + 1) = p + 48 + k + 1 by omega, show 10 * v + b (p + 48 + k) - 48 = 10 * v + (b (p + 48 + k) - 48) by omega]
      generalize dr b (p + 48 + k + 1) d = r
      rw [show p + 48 + k + 1 + r = p + 48 + k + (r + 1) by omega, show d - r = d + 1 - (r + 1) by omega, show k + 1 + r = k + (r + 1) by omega]
    · have c2 : ¬ (48 ≤ b (p + 48 + k) ∧ b (p + 48 + k) ≤ 57) := fun e => c1 (decide_eq_true e)
      have e6 : ∀ (X Y : Option (Int32 × px_H)), (if b (p + 48 + k) < 48 then X else if 57 < b (p + 48 + k) then X else Y) = X := by
        intro X Y
        by_cases d1 : b (p + 48 + k) < 48
        · rw [if_pos d1]
        · rw [if_neg d1, if_pos (by omega)]
      rw [if_neg c1, e6, Nat.add_zero (p + 48 + k), Nat.sub_zero, Nat.add_zero k, al_s, k_mS_43b hS hR ht hp d (k + 1) f (by omega) (by omega) (by omega)]
      by_cases c3 : b (p + 48 + k) = 32
      · rw [if_pos c3, decide_eq_true c3, Bool.true_and]
        rfl
      · rw [if_neg c3, decide_eq_false c3, Bool.false_and]
        rfl
theorem le_2 (b : Nat → Nat) (p : Nat) : le b p 2 = b (p + 1) * 256 + b p := by
  simp only [le, Nat.pow_one, Nat.pow_zero, Nat.mul_one, Nat.add_zero]
theorem k_memberSize (hS : GS sk L) (hR : GR τ) (ht : CTp τ n b) (hF : 10 < F) (hp : p ≤ n) : f_H_memberSize F c 0 (nI p) (cH sk L τ) = some (if aOK b n p = true then nI (aV b p) else Int32.ofInt (-1), cH sk L τ) := by
  have hn := ht.2.1
  have h11 := ht.1
  unfold f_H_memberSize
  rw [C0r0 (G0 hS) (R0_0 hR), bs, C10g1 (G1 hS), bs, h11, pk_sub hp]
  have bad : aOK b n p = false → (some (Int32.ofInt (-1), cH sk L τ) : Option (Int32 × px_H)) = some (if aOK b n p = true then nI (aV b p) else Int32.ofInt (-1), cH sk L τ) := by
    intro h
    rw [h]
    rfl
  by_cases c1 : n - p < 60
  · rw [if_pos (nI_lt c1 (by decide))]
    exact bad (aOK_not (fun e => by have := e.1; omega))
  · have hb8 := ct_lt ht (p + 58)
    have hb9 := ct_lt ht (p + 59)
    rw [if_neg (nI_nlt (by omega) (by omega)), bs, c_o (G1 hS), bs, nI_add, k_tapeNum hS hR ht (by omega) (by decide) (by omega), xb_mk, le_2, show p + 58 + 1 = p + 59 by omega, show (2656 : Int64) = lN 2656 from rfl]
    simp only [lEQ (show b (p + 59) * 256 + b (p + 58) < 2 ^ 64 by omega) (show 2656 < 2 ^ 64 by decide)]
    by_cases c2 : b (p + 59) * 256 + b (p + 58) = 2656
    · have c3 : b (p + 58) = 96 ∧ b (p + 59) = 10 := by omega
      have hK : aK b p ≤ 10 := dr_le _ _ _
      have hV : aV b p < 10 ^ 10 := aV_lt (ct_lt ht) p
      have hVe : dv b (p + 48) (aK b p) 0 = aV b p := rfl
      rw [if_pos c2, k_mS_43a (c := c) hS hR ht (by omega) 10 0 F 0 rfl (by omega) (by decide), Nat.add_zero, Nat.zero_add, show dr b (p + 48) 10 = aK b p from rfl, hVe]
      by_cases c4 : al (fun x => decide (b x = 32)) (p + 48 + aK b p) (10 - aK b p) = true
      · rw [if_pos c4]
        unfold f_H_memberSize_122
        rw [C0r0 (G0 hS) (R0_0 hR), bs, C10g1 (G1 hS), bs, h11, pk_sub hp, pk_sub (by omega), nI_l (by omega), bs, c_o (G1 hS), bs, lN_i, nI_add, nI_add, show (0 : Int32) = nI 0 from rfl]
        simp only [nI_eq (show aK b p < 2 ^ 31 by omega) (show 0 < 2 ^ 31 by decide), pk_lLE (show aV b p < 2 ^ 63 by omega) (show n - p - 60 < 2 ^ 63 by omega), f_H_memberSize_149, f_H_memberSize_185, f_H_memberSize_187, lN_i]
        by_cases c5 : aK b p = 0
        · rw [if_pos c5]
          exact bad (aOK_not (fun e => by have := e.2.2.2.1; omega))
        · rw [if_neg c5]
          by_cases c6 : aV b p ≤ n - p - 60
          · have e1 : lN (aV b p) &&& lN 1 = lN (aV b p % 2) := g_and1 (by omega)
            have hb60 := ct_lt ht (p + 60 + aV b p)
            rw [if_pos c6, e1, k_tapeAt hS hR ht (by omega), xb_mk]
            simp only [lEQ (show aV b p % 2 < 2 ^ 64 by omega) (show 1 < 2 ^ 64 by decide), lEQ (show aV b p < 2 ^ 64 by omega) (show n - p - 60 < 2 ^ 64 by omega), nI_eq (show b (p + 60 + aV b p) < 2 ^ 31 by omega) (show 10 < 2 ^ 31 by decide)]
            have good : (aV b p % 2 = 0 ∨ p + 60 + aV b p < n ∧ b (p + 60 + aV b p) = 10) → (some (nI (aV b p), cH sk L τ) : Option (Int32 × px_H)) = some (if aOK b n p = true then nI (aV b p) else Int32.ofInt (-1), cH sk L τ) := by
              intro h
              rw [if_pos (aOK_yes ⟨by omega, c3.1, c3.2, by omega, c4, by omega, h⟩)]
            by_cases c7 : aV b p % 2 = 1
            · rw [if_pos c7]
              by_cases c8 : aV b p = n - p - 60
              · rw [if_pos c8]
                exact bad (aOK_not (fun e => by rcases e.2.2.2.2.2.2 with d | d <;> omega))
              · rw [if_neg c8]
                by_cases c9 : b (p + 60 + aV b p) = 10
                · rw [if_pos c9]
                  exact good (Or.inr ⟨by omega, c9⟩)
                · rw [if_neg c9]
                  exact bad (aOK_not (fun e => by
                    rcases e.2.2.2.2.2.2 with d | d
                    · omega
                    · exact c9 d.2))
            · rw [if_neg c7]
              exact good (Or.inl (by omega))
          · rw [if_neg c6]
            exact bad (aOK_not (fun e => by have := e.2.2.2.2.2.1; omega))
      · rw [if_neg c4]
        exact bad (aOK_not (fun e => c4 e.2.2.2.2.1))
    · rw [if_neg c2]
      exact bad (aOK_not (fun e => c2 (by have h1 := e.2.1; have h2 := e.2.2.1; omega)))
end CME
end
section
/-! the class's archives -/
/-- a boolean -/
def isZ (v : Int32) : Prop := ∃ b, v = bI b
/-- as it was, or 0 -/
def zKl (τ τ' : px_TT) (a k : Nat) : Prop := fI τ' a k = fI τ a k ∨ fI τ' a k = nI 0
theorem zK_t {τ τ' τ'' : px_TT} {a k : Nat} (h1 : zKl τ τ' a k) (h2 : zKl τ' τ'' a k) : zKl τ τ'' a k := by
  rcases h2 with e | e
  · rcases h1 with d | d
    · exact Or.inl (e.trans d)
    · exact Or.inr (e.trans d)
  · exact Or.inr e
theorem zK_e {τ τ' : px_TT} {a k : Nat} (h : fI τ' a k = fI τ a k) : zKl τ τ' a k := Or.inl h
theorem zK_z {τ τ' : px_TT} {a : Nat} (h : zKl τ τ' a 15) (hz : isZ (fI τ a 15)) : isZ (fI τ' a 15) := by
  rcases h with e | e
  · rw [e]; exact hz
  · exact ⟨false, e⟩
def frF (f : Nat) (τ τ' : px_TT) : Prop := (∀ a k, (∀ j, j < 8 → a ≠ 10 + 2 * (8 * f + j)) → fI τ' a k = fI τ a k) ∧ (∀ a k, k < 4 → fI τ' a k = fI τ a k) ∧ (∀ a k, fJ τ' a k = fJ τ a k) ∧ (∀ a k, fN τ' a k = fN τ a k) ∧ (∀ a, (∀ j, j < 8 → a ≠ 11 + 2 * (8 * f + j)) → a ≠ 139 → eI τ' a = eI τ a) ∧ (∀ a, eJ τ' a = eJ τ a) ∧ (∀ a, eN τ' a = eN τ a) ∧ ∀ a, zKl τ τ' a 15 ∧ zKl τ τ' a 16
theorem frF_refl (f : Nat) (τ : px_TT) : frF f τ τ := ⟨fun _ _ _ => rfl, fun _ _ _ => rfl, fun _ _ => rfl, fun _ _ => rfl, fun _ _ _ => rfl, fun _ => rfl, fun _ => rfl, fun _ => ⟨Or.inl rfl, Or.inl rfl⟩⟩
theorem frF_trans {f : Nat} {τ τ' τ'' : px_TT} (h1 : frF f τ τ') (h2 : frF f τ' τ'') : frF f τ τ'' := ⟨fun a k h => (h2.1 a k h).trans (h1.1 a k h), fun a k h => (h2.2.1 a k h).trans (h1.2.1 a k h), fun a k => (h2.2.2.1 a k).trans (h1.2.2.1 a k), fun a k => (h2.2.2.2.1 a k).trans (h1.2.2.2.1 a k), fun a h h' => (h2.2.2.2.2.1 a h h').trans (h1.2.2.2.2.1 a h h'), fun a => (h2.2.2.2.2.2.1 a).trans (h1.2.2.2.2.2.1 a), fun a => (h2.2.2.2.2.2.2.1 a).trans (h1.2.2.2.2.2.2.1 a), fun a => ⟨zK_t (h1.2.2.2.2.2.2.2 a).1 (h2.2.2.2.2.2.2.2 a).1, zK_t (h1.2.2.2.2.2.2.2 a).2 (h2.2.2.2.2.2.2.2 a).2⟩⟩
theorem frO_F {f k : Nat} {τ τ' : px_TT} (hk : k < 8) (h : frO (10 + 2 * (8 * f + k)) (11 + 2 * (8 * f + k)) τ τ') : frF f τ τ' := ⟨fun a j ha => h.1 a j (Or.inl (ha k hk)), fun a j hj => h.1 a j (by omega), h.2.1, h.2.2.1, fun a ha h139 => h.2.2.2.1 a (ha k hk) h139, h.2.2.2.2.1, h.2.2.2.2.2, fun a => ⟨Or.inl (h.1 a 15 (by omega)), Or.inl (h.1 a 16 (by omega))⟩⟩
theorem opn_F {f k kind base m : Nat} {τ : px_TT} (hk : k < 8) : frF f τ (opn τ (10 + 2 * (8 * f + k)) kind base m) := ⟨fun a j ha => opn_ne (Or.inl (ha k hk)), fun a j hj => opn_ne (by omega), fun _ _ => rfl, fun _ _ => rfl, fun _ _ _ => rfl, fun _ => rfl, fun _ => rfl, fun a => by
    by_cases e : a = 10 + 2 * (8 * f + k)
    · rw [e]
      exact ⟨Or.inr opn_at.2.2.2.2.2.1, Or.inr opn_at.2.2.2.2.2.2⟩
    · exact ⟨Or.inl (opn_ne (Or.inl e)), Or.inl (opn_ne (Or.inl e))⟩⟩
theorem GR_F {f : Nat} {τ τ' : px_TT} (h : GR τ) (hf : frF f τ τ') : GR τ' := ⟨fun x hx => (hf.2.2.2.1 _ _).trans (h.1 x hx), fun i hi => ⟨(hf.2.2.2.1 _ _).trans (h.2.1 i hi).1, (hf.2.2.2.1 _ _).trans (h.2.1 i hi).2.1, by rw [hf.2.2.2.2.2.2.1]; exact (h.2.1 i hi).2.2.1, (hf.2.1 _ _ (by decide)).trans (h.2.1 i hi).2.2.2.1, (hf.2.1 _ _ (by decide)).trans (h.2.1 i hi).2.2.2.2⟩, fun i hi => by rw [hf.2.2.2.2.2.2.1]; exact h.2.2 i hi⟩
theorem CTp_F {f n : Nat} {b : Nat → Nat} {τ τ' : px_TT} (h : CTp τ n b) (hf : frF f τ τ') : CTp τ' n b := by
  have e : eI τ' 2 = eI τ 2 := hf.2.2.2.2.1 2 (by omega) (by decide)
  refine ⟨(hf.1 1 1 (by omega)).trans h.1, h.2.1, ?_, ?_⟩ <;> rw [e]
  · exact h.2.2.1
  · exact h.2.2.2
/-- the kind of a member -/
def mkd (ar z : Bool) : Nat := if ar = true then (if z = true then 3 else 2) else 1
/-- members k .. of file f have been opened -/
def mO (τ : px_TT) (f base : Nat) (ar : Bool) : Nat → List (Nat × Nat × Bool) → Prop
  | _, [] => True
  | k, x :: l => (fI τ (10 + 2 * (8 * f + k)) 4 = nI (mkd ar x.2.2) ∧ fI τ (10 + 2 * (8 * f + k)) 5 = nI (base + x.1) ∧ fI τ (10 + 2 * (8 * f + k)) 6 = nI x.2.1 ∧ fI τ (10 + 2 * (8 * f + k)) 9 = Int32.ofInt (-1) ∧ fI τ (10 + 2 * (8 * f + k)) 11 = nI 0 ∧ fI τ (10 + 2 * (8 * f + k)) 15 = bI false ∧ fI τ (10 + 2 * (8 * f + k)) 16 = nI 0) ∧ mO τ f base ar (k + 1) l
theorem mO_eq {τ τ' : px_TT} {f base : Nat} {ar : Bool} : ∀ (l : List (Nat × Nat × Bool)) (k : Nat), (∀ j, k ≤ j → j < k + l.length → ∀ i, fI τ' (10 + 2 * (8 * f + j)) i = fI τ (10 + 2 * (8 * f + j)) i) → mO τ f base ar k l → mO τ' f base ar k l
  | [], _, _, _ => trivial
  | x :: l, k, he, h => by
    rw [List.length_cons] at he
    unfold mO at h ⊢
    have e := he k (Nat.le_refl _) (by omega)
    rw [e, e, e, e, e, e, e]
    exact ⟨h.1, mO_eq l (k + 1) (fun j h1 h2 => he j (by omega) (by omega)) h.2⟩
section CAR
variable {F : Nat} {c : px_CT} {sk : Nat → Nat × Nat × Nat} {L : Nat} {n fl base : Nat} {b : Nat → Nat}
theorem k_rA_8 (hS : GS sk L) (hF : 10 < F) (hfl : fl < 8) (hbase : base + n ≤ 65536) : ∀ (d k p f : Nat) (τ : px_TT), GR τ → CTp τ n b → d + k = 8 → p ≤ n → d < f → ∃ τ', frF fl τ τ' ∧ f_H_readArchive_8 F c f 0 (nI (8 * fl)) (nI base) (nI p) (nI k) (cH sk L τ) = (if (ams b n d p).isSome = true then f_H_readArchive_122 F c F 0 (nI (8 * fl)) (nI 0) (nI 0) (cH sk L τ') else some (nI 8, cH sk L τ')) ∧ ∀ l, ams b n d p = some l → mO τ' fl base true k l ∧ ∀ j, (j < k ∨ k + l.length ≤ j) → j < 8 → ∀ i, fI τ' (10 + 2 * (8 * fl + j)) i = fI τ (10 + 2 * (8 * fl + j)) i := by
  intro d
  induction d with
  | zero =>
    intro k p f τ hR ht hk hp hf
    obtain ⟨f, rfl⟩ : ∃ g, f = g + 1 := ⟨f - 1, by omega⟩
    have hn := ht.2.1
    refine ⟨τ, frF_refl _ _, ?_, ?_⟩
    · unfold f_H_readArchive_8 f_H_readArchive_102
      rw [if_pos (nI_le (by omega) (by omega)), C0r0 (G0 hS) (R0_0 hR), bs, C10g1 (G1 hS), bs, ht.1]
      simp only [nI_eq (show p < 2 ^ 31 by omega) (show n < 2 ^ 31 by omega)]
      by_cases c1 : n ≤ p
      · rw [show ams b n 0 p = some [] from if_pos c1, if_pos (show p = n by omega)]
        rfl
      · rw [show ams b n 0 p = none from if_neg c1, if_neg (show ¬ p = n by omega)]
        rfl
    · intro l hl
      by_cases c1 : n ≤ p
      · rw [show ams b n 0 p = some [] from if_pos c1] at hl
        cases hl
        exact ⟨trivial, fun _ _ _ _ => rfl⟩
      · rw [show ams b n 0 p = none from if_neg c1] at hl
        cases hl
  | succ d ih =>
    intro k p f τ hR ht hk hp hf
    obtain ⟨f, rfl⟩ : ∃ g, f = g + 1 := ⟨f - 1, by omega⟩
    have hn := ht.2.1
    unfold f_H_readArchive_8
    rw [if_neg (nI_ge (by omega) (by omega)), C0r0 (G0 hS) (R0_0 hR), bs, C10g1 (G1 hS), bs, ht.1]
    by_cases c1 : n ≤ p
    · have e : ams b n (d + 1) p = some [] := if_pos c1
      refine ⟨τ, frF_refl _ _, ?_, ?_⟩
      · rw [e, if_pos (nI_le c1 (by omega))]
        unfold f_H_readArchive_102
        rw [C0r0 (G0 hS) (R0_0 hR), bs, C10g1 (G1 hS), bs, ht.1, if_pos (show nI p = nI n by rw [show p = n by omega])]
        rfl
      · intro l hl
        rw [e] at hl
        cases hl
        exact ⟨trivial, fun _ _ _ _ => rfl⟩
    · rw [if_neg (nI_ge (by omega) (by omega)), c_o (G0 hS), bs, k_memberSize hS hR ht hF hp, xb_mk]
      by_cases c2 : aOK b n p = true
      · have hV := (aOK_p c2).2.2.2.2.1
        have hV2 := (aOK_p c2).2.2.2.2.2
        have hX : aX b p ≤ n := by unfold aX; omega
        have hq := G_of hS (show 8 * fl + k < 64 by omega)
        have e9 : eN τ 9 (8 * fl + k) = some (10 + 2 * (8 * fl + k)) := (hR.2.1 (8 * fl + k) (by omega)).2.2.1
        have hb := ct_lt ht p
        rw [if_pos c2, if_pos (show (0 : Int32) ≤ nI (aV b p) from nI_pos' (by omega)), C0r0 (G0 hS) (R0_0 hR), bs, c_o (G1 hS), bs, k_tapeAt hS hR ht (by omega), xb_mk]
        have hkd : ∀ (G : Int32 → Option (Int32 × px_H)), (if nI (b p) = nI 47 then G (nI 3) else G (nI 2)) = G (nI (mkd true (decide (b p = 47)))) := by
          intro G
          by_cases e : b p = 47
          · rw [if_pos (by rw [e]), decide_eq_true e]; rfl
          · rw [if_neg (by rw [nI_eq (by omega) (by decide)]; exact e), decide_eq_false e]; rfl
        rw [hkd (fun z => f_H_readArchive_59 F c (f_H_readArchive_8 F c f) 0 (nI (8 * fl)) (nI base) (nI p) (nI k) (nI (aV b p)) z (cH sk L τ))]
        unfold f_H_readArchive_59
        rw [C0r4 (G0 hS) (R0_4 hR), bs, nI_add, c_aN (G9 hS) (Or.inl rfl) (by decide) (by omega), bs, e9, bs, c_o hq, bs, nI_add, nI_add, k_open hq, xb_mk, nI_add, show nI (aV b p) &&& nI 1 = nI (aV b p % 2) from pk_andN (by omega) 1 (by decide), nI_add, nI_add, nI_add]
        have eX : p + (60 + aV b p + aV b p % 2) = aX b p := by unfold aX; omega
        rw [eX]
        have frq : frF fl τ (opn τ (10 + 2 * (8 * fl + k)) (mkd true (decide (b p = 47))) (base + p + 60) (aV b p)) := opn_F (by omega)
        obtain ⟨τ', h1, h2, h3⟩ := ih (k + 1) (aX b p) f _ (GR_F hR frq) (CTp_F ht frq) (by omega) hX (by omega)
        have eA : ams b n (d + 1) p = (ams b n d (aX b p)).map (fun l => (p + 60, aV b p, decide (b p = 47)) :: l) := by rw [ams_s, if_neg c1, if_pos c2]
        refine ⟨τ', frF_trans frq h1, ?_, ?_⟩
        · rw [h2, eA, Option.isSome_map]
        · intro l hl
          rw [eA] at hl
          obtain ⟨l', e1, e2⟩ := Option.map_eq_some_iff.mp hl
          subst e2
          obtain ⟨h4, h5⟩ := h3 l' e1
          rw [List.length_cons]
          refine ⟨⟨?_, h4⟩, ?_⟩
          · have e := h5 k (Or.inl (by omega)) (by omega)
            rw [e, e, e, e, e, e, e]
            have o := opn_at (τ := τ) (q := 10 + 2 * (8 * fl + k)) (kind := mkd true (decide (b p = 47))) (base := base + p + 60) (m := aV b p)
            refine ⟨o.1, ?_, o.2.2.1, o.2.2.2.1, o.2.2.2.2.1, o.2.2.2.2.2.1, o.2.2.2.2.2.2⟩
            rw [o.2.1]
            rw [Nat.add_assoc]
          · intro j hj hj8 i
            rw [h5 j (by omega) hj8 i]
            exact opn_ne (Or.inl (by omega))
      · have e : ams b n (d + 1) p = none := by rw [ams_s, if_neg c1, if_neg c2]
        refine ⟨τ, frF_refl _ _, ?_, ?_⟩
        · rw [if_neg c2, if_neg (show ¬ (0 : Int32) ≤ Int32.ofInt (-1) by decide), e]
          rfl
        · intro l hl
          rw [e] at hl
          cases hl
theorem cD_eq {τ τ' : px_TT} {q g o m : Nat} {S S' : Nat → Int32} (h : cD sk L τ q g o m S) (hI : ∀ i, i ≠ 4 → i ≠ 15 → i ≠ 16 → fI τ' q i = fI τ q i) (hN : ∀ a k, fN τ' a k = fN τ a k) (hg : eI τ' g = eI τ g) (h8 : eI τ' 8 = S') (hc : cb S' o m = cb S o m) (hB : ∀ k, isB (S' k)) : cD sk L τ' q g o m S' := by
  obtain ⟨⟨⟨⟨⟨o1, o2, o3, o4, o5, o6, o7, o8, o9, o10⟩, r2, r3, r4, r5⟩, g2, g3, g4, g5⟩, ⟨y1, y2, y3⟩, w⟩, st, er⟩ := h
  refine ⟨⟨⟨⟨⟨o1, (hN q 0).trans o2, o3, (hN 7 0).trans o4, o5, h8, (hI 5 (by decide) (by decide) (by decide)).trans o7, (hI 6 (by decide) (by decide) (by decide)).trans o8, o9, hB⟩, ?_, ?_, ?_, ?_⟩, (hN q 3).trans g2, g3, g4, ?_⟩, ⟨?_, ?_, ?_⟩, ?_⟩, ?_, ?_⟩
  · unfold rk at r2 ⊢
    rw [hc]; exact r2
  · rw [hc]; exact r3
  · rw [hc, hI 7 (by decide) (by decide) (by decide)]; exact r4
  · rw [hc, hI 8 (by decide) (by decide) (by decide)]; exact r5
  · rw [hc, hg]; exact g5
  · rw [hc, hI 9 (by decide) (by decide) (by decide)]; exact y1
  · rw [hc, hI 11 (by decide) (by decide) (by decide)]; exact y2
  · rw [hc, hI 10 (by decide) (by decide) (by decide), hI 12 (by decide) (by decide) (by decide), hI 13 (by decide) (by decide) (by decide)]; exact y3
  · rw [hc]; exact w
  · rw [hc, hI 14 (by decide) (by decide) (by decide)]; exact st
  · rw [hc]; exact er
/-- members k .. of file f have been read -/
def mD (sk : Nat → Nat × Nat × Nat) (L : Nat) (τ : px_TT) (f base : Nat) (ar : Bool) (S : Nat → Int32) : Nat → List (Nat × Nat × Bool) → Prop
  | k, [] => ∀ j, k ≤ j → j < 8 → fI τ (10 + 2 * (8 * f + j)) 4 = nI 0
  | k, x :: l => (fI τ (10 + 2 * (8 * f + k)) 4 = nI (mkd ar x.2.2) ∧ fI τ (10 + 2 * (8 * f + k)) 5 = nI (base + x.1) ∧ fI τ (10 + 2 * (8 * f + k)) 6 = nI x.2.1 ∧ (x.2.2 = false → cD sk L τ (10 + 2 * (8 * f + k)) (11 + 2 * (8 * f + k)) (base + x.1) x.2.1 S)) ∧ mD sk L τ f base ar S (k + 1) l
theorem k_rA_122 {S : Nat → Int32} {ss : Nat} (hc : KT c) (hS : GS sk L) (hF : 65536 < F) (hfl : fl < 8) (hn : n ≤ 8192) (hB : ∀ k, isB (S k)) (hcb : cb S base n = b) (hss : base + n ≤ ss) (hss2 : ss ≤ 65536) : ∀ (l : List (Nat × Nat × Bool)) (k f : Nat) (τ : px_TT), GR τ → eI τ 8 = S → fI τ 7 1 = nI ss → k + l.length ≤ 8 → mO τ fl base true k l → (∀ j, k + l.length ≤ j → j < 8 → fI τ (10 + 2 * (8 * fl + j)) 4 = nI 0) → (∀ x, x ∈ l → x.1 + x.2.1 ≤ n) → 8 - k + 1 < f → ∃ τ', frF fl τ τ' ∧ f_H_readArchive_122 F c f 0 (nI (8 * fl)) (nI 0) (nI k) (cH sk L τ) = some (nI (eMem b l), cH sk L τ') ∧ (∀ j, j < k → (∀ i, fI τ' (10 + 2 * (8 * fl + j)) i = fI τ (10 + 2 * (8 * fl + j)) i) ∧ eI τ' (11 + 2 * (8 * fl + j)) = eI τ (11 + 2 * (8 * fl + j))) ∧ (eMem b l = 0 → mD sk L τ' fl base true S k l) := by
  intro l
  induction l with
  | nil =>
    intro k f τ hR h8 h7 hk hO hz hx hf
    rw [List.length_nil, Nat.add_zero] at hk hz
    have key : ∀ (d j g : Nat), d + j = 8 → k ≤ j → d < g → f_H_readArchive_122 F c g 0 (nI (8 * fl)) (nI 0) (nI j) (cH sk L τ) = some (nI 0, cH sk L τ) := by
      intro d
      induction d with
      | zero =>
        intro j g hj hkj hg
        obtain ⟨g, rfl⟩ : ∃ x, g = x + 1 := ⟨g - 1, by omega⟩
        unfold f_H_readArchive_122
        rw [if_pos (nI_le (by omega) (by omega))]
        rfl
      | succ d ih =>
        intro j g hj hkj hg
        obtain ⟨g, rfl⟩ : ∃ x, g = x + 1 := ⟨g - 1, by omega⟩
        have e9 : eN τ 9 (8 * fl + j) = some (10 + 2 * (8 * fl + j)) := (hR.2.1 (8 * fl + j) (by omega)).2.2.1
        unfold f_H_readArchive_122
        rw [if_neg (nI_ge (by omega) (by omega)), if_pos (show nI 0 = 0 from rfl), C0r4 (G0 hS) (R0_4 hR), bs, nI_add, c_aN (G9 hS) (Or.inl rfl) (by decide) (by omega), bs, e9, bs, C7g4 (G_of hS (by omega)), bs, hz j hkj (by omega), if_neg (show ¬ nI 0 = nI 2 by decide), f_H_readArchive_167, nI_add]
        exact ih (j + 1) g (by omega) (by omega) (by omega)
    refine ⟨τ, frF_refl _ _, key (8 - k) k f (by omega) (Nat.le_refl _) (by omega), fun _ _ => ⟨fun _ => rfl, rfl⟩, fun _ => hz⟩
  | cons x l ih =>
    intro k f τ hR h8 h7 hk hO hz hx hf
    rw [List.length_cons] at hk hz
    obtain ⟨f, rfl⟩ : ∃ g, f = g + 1 := ⟨f - 1, by omega⟩
    unfold mO at hO
    obtain ⟨⟨m4, m5, m6, m9, m11, m15, m16⟩, hO'⟩ := hO
    have hx1 := hx x (List.mem_cons_self ..)
    have e9 : eN τ 9 (8 * fl + k) = some (10 + 2 * (8 * fl + k)) := (hR.2.1 (8 * fl + k) (by omega)).2.2.1
    have hq := G_of hS (show 8 * fl + k < 64 by omega)
    have hgq := G_og hS (show 8 * fl + k < 64 by omega)
    unfold f_H_readArchive_122
    rw [if_neg (nI_ge (by omega) (by omega)), if_pos (show nI 0 = 0 from rfl), C0r4 (G0 hS) (R0_4 hR), bs, nI_add, c_aN (G9 hS) (Or.inl rfl) (by decide) (by omega), bs, e9, bs, C7g4 hq, bs, m4, eMem_s]
    by_cases c1 : x.2.2 = false
    · have hkd : mkd true x.2.2 = 2 := by rw [c1]; rfl
      have hcO : cO sk L τ (10 + 2 * (8 * fl + k)) (base + x.1) x.2.1 S := ⟨hq, (hR.2.1 _ (by omega)).1, G7 hS, R7_0 hR, G8 hS, h8, m5, m6, by omega, hB⟩
      obtain ⟨τ1, f1, f2, f3⟩ := k_readError (c := c) (ss := ss) hc hF hcO (hR.2.1 _ (by omega)).2.1 hgq (by omega) (by omega) (G139 hS) (by omega) m9 m11 (by omega) h7 (by omega) hss2
      have hcs : cb S (base + x.1) x.2.1 = sub b x.1 x.2.1 := by rw [cb_sub hx1, hcb]
      rw [hkd, if_pos rfl, C0r7 (G0 hS) (R0_7 hR), bs, c_o hq, bs, f2, xb_mk, f_H_readArchive_167, nI_add, hcs]
      rw [hcs] at f3
      have fr1 : frF fl τ τ1 := frO_F (show k < 8 by omega) f1
      have hR1 := GR_F hR fr1
      have oth : ∀ j, j ≠ k → j < 8 → (∀ i, fI τ1 (10 + 2 * (8 * fl + j)) i = fI τ (10 + 2 * (8 * fl + j)) i) ∧ eI τ1 (11 + 2 * (8 * fl + j)) = eI τ (11 + 2 * (8 * fl + j)) := fun j hj hj8 => ⟨fun i => f1.1 _ _ (Or.inl (by omega)), f1.2.2.2.1 _ (by omega) (by omega)⟩
      by_cases c2 : eObj (sub b x.1 x.2.1) x.2.1 = 0
      · rw [c2, if_neg (fun e => e.2 rfl)]
        obtain ⟨τ', g1, g2, g3, g4⟩ := ih (k + 1) f τ1 hR1 ((fr1.2.2.2.2.1 8 (by omega) (by decide)).trans h8) ((fr1.1 7 1 (by omega)).trans h7) (by omega) (mO_eq l (k + 1) (fun j h1 h2 => (oth j (by omega) (by omega)).1) hO') (fun j h1 h2 => by rw [(oth j (by omega) h2).1]; exact hz j (by omega) h2) (fun y hy => hx y (List.mem_cons_of_mem _ hy)) (by omega)
        refine ⟨τ', frF_trans fr1 g1, g2, ?_, ?_⟩
        · intro j hj
          have h1 := g3 j (by omega)
          have h2 := oth j (by omega) (by omega)
          exact ⟨fun i => (h1.1 i).trans (h2.1 i), h1.2.trans h2.2⟩
        · intro h0
          have hk' := g3 k (by omega)
          have f1' : ∀ i, (i < 7 ∨ 14 < i) → fI τ' (10 + 2 * (8 * fl + k)) i = fI τ (10 + 2 * (8 * fl + k)) i := fun i hi => (hk'.1 i).trans (f1.1 _ _ (by omega))
          refine ⟨⟨(f1' 4 (by decide)).trans (by rw [m4]), (f1' 5 (by decide)).trans m5, (f1' 6 (by decide)).trans m6, fun _ => ?_⟩, g4 h0⟩
          exact cD_eq (f3 c2) (fun i _ _ _ => hk'.1 i) (fun a i => g1.2.2.2.1 a i) hk'.2 ((g1.2.2.2.2.1 8 (by omega) (by decide)).trans ((fr1.2.2.2.2.1 8 (by omega) (by decide)).trans h8)) rfl hB
      · have h9 := eObj_le (sub b x.1 x.2.1) x.2.1
        rw [if_pos ⟨c1, c2⟩]
        obtain ⟨f, rfl⟩ : ∃ g, f = g + 1 := ⟨f - 1, by omega⟩
        refine ⟨τ1, fr1, ?_, fun j hj => oth j (by omega) (by omega), fun e => absurd e c2⟩
        unfold f_H_readArchive_122
        rw [if_neg (show ¬ nI (eObj (sub b x.1 x.2.1) x.2.1) = 0 from nI_ne0 (by omega) (by omega)), ite_self]
        rfl
    · have c1' : x.2.2 = true := by cases hq : x.2.2 <;> simp_all
      have hkd : mkd true x.2.2 = 3 := by rw [c1']; rfl
      rw [hkd, if_neg (show ¬ nI 3 = nI 2 by decide), f_H_readArchive_167, nI_add, if_neg (fun e => c1 e.1)]
      obtain ⟨τ', g1, g2, g3, g4⟩ := ih (k + 1) f τ hR h8 h7 (by omega) hO' (fun j h1 h2 => hz j (by omega) h2) (fun y hy => hx y (List.mem_cons_of_mem _ hy)) (by omega)
      refine ⟨τ', g1, g2, fun j hj => g3 j (by omega), fun h0 => ?_⟩
      have hk' := g3 k (by omega)
      exact ⟨⟨(hk'.1 4).trans m4, (hk'.1 5).trans m5, (hk'.1 6).trans m6, fun e => absurd e c1⟩, g4 h0⟩
end CAR
end
section
/-! the class's readFile, clearFile, add -/
section CAD
variable {F : Nat} {c : px_CT} {sk : Nat → Nat × Nat × Nat} {L : Nat} {τ : px_TT} {n fl ss : Nat} {b : Nat → Nat}
/-- behind the copy of the tape into the store -/
def cpd (τ : px_TT) (ss n : Nat) : px_TT := tI (vI τ 8 (put (eI τ 8) (eI τ 2) ss n)) 7 1 (nI (ss + n))
theorem cpd_I {a k : Nat} (h : a ≠ 7 ∨ k ≠ 1) : fI (cpd τ ss n) a k = fI τ a k := u2_ne h
theorem cpd_7 : fI (cpd τ ss n) 7 1 = nI (ss + n) := (u2_eq : u2 τ.1 7 1 (nI (ss + n)) 7 1 = _)
theorem cpd_8 : eI (cpd τ ss n) 8 = put (eI τ 8) (eI τ 2) ss n := (u1_eq : u1 τ.2.2.2.1 8 (put (eI τ 8) (eI τ 2) ss n) 8 = _)
theorem cpd_e {a : Nat} (h : a ≠ 8) : eI (cpd τ ss n) a = eI τ a := u1_ne h
theorem GR_c (h : GR τ) : GR (cpd τ ss n) := ⟨h.1, fun i hi => ⟨(h.2.1 i hi).1, (h.2.1 i hi).2.1, (h.2.1 i hi).2.2.1, (cpd_I (Or.inl (by omega))).trans (h.2.1 i hi).2.2.2.1, (cpd_I (Or.inl (by omega))).trans (h.2.1 i hi).2.2.2.2⟩, h.2.2⟩
theorem CTp_c (h : CTp τ n b) : CTp (cpd τ ss n) n b := ⟨(cpd_I (Or.inl (by decide))).trans h.1, h.2.1, by rw [cpd_e (by decide)]; exact h.2.2.1, by rw [cpd_e (by decide)]; exact h.2.2.2⟩
theorem k_readFile (hc : KT c) (hS : GS sk L) (hR : GR τ) (hF : 65536 < F) (hfl : fl < 8) (ht : CTp τ n b) (h7 : fI τ 7 1 = nI ss) (hss : ss + n ≤ 65536) (hB : ∀ k, isB (eI τ 8 k)) (hz : ∀ j, j < 8 → fI τ (10 + 2 * (8 * fl + j)) 4 = nI 0) : ∃ τ', f_H_readFile F c 0 (nI (8 * fl)) (cH sk L τ) = some (nI (eFil b n), cH sk L τ') ∧ frF fl (cpd τ ss n) τ' ∧ (eFil b n = 0 → ∃ l, fMem b n = some l ∧ mD sk L τ' fl ss (isAr b n) (put (eI τ 8) (eI τ 2) ss n) 0 l) := by
  have hn := ht.2.1
  have hR0 := GR_c (ss := ss) (n := n) hR
  have ht0 := CTp_c (ss := ss) ht
  have hS' : ∀ k, isB (put (eI τ 8) (eI τ 2) ss n k) := put_B hB ht.2.2.1
  have hcb : cb (put (eI τ 8) (eI τ 2) ss n) ss n = b := by rw [put_same]; exact ht.2.2.2
  have hb := ct_lt ht
  unfold f_H_readFile
  rw [C0r3 (G0 hS) (R0_3 hR), bs, C10g1 (G7 hS), bs, h7, bs, C0r0 (G0 hS) (R0_0 hR), bs, C10r0 (G1 hS) (R1_0 hR), bs, bs, C10g1 (G1 hS), bs, ht.1, c_o (G7 hS), bs, k_copy hS hR ht h7 hss, xb_mk, show tI (vI τ 8 (put (eI τ 8) (eI τ 2) ss n)) 7 1 (nI (ss + n)) = cpd τ ss n from rfl, C0r0 (G0 hS) (R0_0 hR0), bs, C10g1 (G1 hS), bs, ht0.1, xkl_at hc.1.2 (by decide), bs, bs, c_o (G1 hS), bs]
  -- an object
  have obj : isAr b n = false → ∃ τ', f_H_readFile_64 F c 0 (nI (8 * fl)) (nI ss) (cH sk L (cpd τ ss n)) = some (nI (eFil b n), cH sk L τ') ∧ frF fl (cpd τ ss n) τ' ∧ (eFil b n = 0 → ∃ l, fMem b n = some l ∧ mD sk L τ' fl ss (isAr b n) (put (eI τ 8) (eI τ 2) ss n) 0 l) := by
    intro har
    have hq := G_of hS (show 8 * fl < 64 by omega)
    have hgq := G_og hS (show 8 * fl < 64 by omega)
    have e9 : eN (cpd τ ss n) 9 (8 * fl) = some (10 + 2 * (8 * fl)) := (hR0.2.1 (8 * fl) (by omega)).2.2.1
    have fro : frF fl (cpd τ ss n) (opn (cpd τ ss n) (10 + 2 * (8 * fl)) 1 ss n) := opn_F (k := 0) (by decide)
    have hR1 := GR_F hR0 fro
    have e9' : eN (opn (cpd τ ss n) (10 + 2 * (8 * fl)) 1 ss n) 9 (8 * fl) = some (10 + 2 * (8 * fl)) := e9
    have o := opn_at (τ := cpd τ ss n) (q := 10 + 2 * (8 * fl)) (kind := 1) (base := ss) (m := n)
    have hcO : cO sk L (opn (cpd τ ss n) (10 + 2 * (8 * fl)) 1 ss n) (10 + 2 * (8 * fl)) ss n (put (eI τ 8) (eI τ 2) ss n) := ⟨hq, (hR1.2.1 _ (by omega)).1, G7 hS, R7_0 hR1, G8 hS, cpd_8, o.2.1, o.2.2.1, hss, hS'⟩
    obtain ⟨τ1, f1, f2, f3⟩ := k_readError (c := c) (ss := ss + n) hc hF hcO (hR1.2.1 _ (by omega)).2.1 hgq (by omega) (by omega) (G139 hS) hn o.2.2.2.1 o.2.2.2.2.1 (by omega) ((opn_ne (Or.inl (by omega))).trans cpd_7) (Nat.le_refl _) hss
    rw [hcb] at f2 f3
    have hM : fMem b n = some [(0, n, false)] := if_neg (by rw [har]; decide)
    have hE : eFil b n = eObj b n := by
      unfold eFil
      rw [hM]
      show eMem b [(0, n, false)] = _
      rw [eMem_s]
      have e0 : sub b (0, n, false).1 (0, n, false).2.1 = b := by
        rw [← ht.2.2.2]
        exact sub_0
      rw [e0]
      show (if false = false ∧ eObj b n ≠ 0 then eObj b n else 0) = _
      by_cases d : eObj b n = 0
      · rw [if_neg (fun q => q.2 d), d]
      · rw [if_pos ⟨rfl, d⟩]
    have f1' : frF fl (opn (cpd τ ss n) (10 + 2 * (8 * fl)) 1 ss n) τ1 := frO_F (k := 0) (by decide) f1
    refine ⟨τ1, ?_, frF_trans fro f1', ?_⟩
    · unfold f_H_readFile_64
      rw [C0r4 (G0 hS) (R0_4 hR0), bs, c_aN (G9 hS) (Or.inl rfl) (by decide) (by omega), bs, e9, C0r0 (G0 hS) (R0_0 hR0), bs, C10g1 (G1 hS), bs, ht0.1, bs, c_o hq, bs, k_open hq, xb_mk, C0r4 (G0 hS) (R0_4 hR1), bs, c_aN (G9 hS) (Or.inl rfl) (by decide) (by omega), bs, e9', C0r7 (G0 hS) (R0_7 hR1), bs, bs, c_o hq, bs, f2, xb_mk, hE]
    · intro h0
      rw [hE] at h0
      refine ⟨_, hM, ⟨⟨?_, ?_, ?_, fun _ => ?_⟩, ?_⟩⟩
      · rw [har]
        exact (f1.1 _ _ (by omega)).trans o.1
      · exact (f1.1 _ _ (by omega)).trans o.2.1
      · exact (f1.1 _ _ (by omega)).trans o.2.2.1
      · exact f3 h0
      · intro j hj hj8
        have hj1 : 1 ≤ j := hj
        rw [f1.1 _ _ (Or.inl (by omega)), opn_ne (Or.inl (by omega)), cpd_I (Or.inl (by omega))]
        exact hz j hj8
  by_cases c1 : n < 8
  · rw [if_pos (show nI n < nI [33, 60, 97, 114, 99, 104, 62, 10].length from nI_lt c1 (by decide))]
    exact obj (decide_eq_false (fun e => by have := e.1; omega))
  · have e8 := k_begins_2 (F := F) (c := c) hc hS hR0 ht0 8 0 F rfl (by omega)
    rw [if_neg (show ¬ nI n < nI [33, 60, 97, 114, 99, 104, 62, 10].length from nI_nlt (show 8 ≤ n by omega) (by omega)), f_Row_begins, e8, xb_mk]
    by_cases c2 : al (fun i => decide (b i = [33, 60, 97, 114, 99, 104, 62, 10].getD i 0)) 0 8 = true
    · have har : isAr b n = true := decide_eq_true ⟨by omega, (le_8 hb).mpr c2⟩
      have hM : fMem b n = ams b n 8 8 := if_pos har
      rw [c2, if_neg (show ¬ bI true = 0 by decide), c_o (G0 hS), bs]
      unfold f_H_readArchive
      rw [xkl_at hc.1.2 (by decide), bs]
      obtain ⟨τ1, h1, h2, h3⟩ := k_rA_8 (F := F) (c := c) (fl := fl) (base := ss) (b := b) hS (by omega) hfl hss 8 0 8 F (cpd τ ss n) hR0 ht0 rfl (by omega) (by omega)
      rw [show nI [33, 60, 97, 114, 99, 104, 62, 10].length = nI 8 from rfl, h2]
      unfold eFil
      rw [hM]
      cases hq : ams b n 8 8 with
      | none =>
        refine ⟨τ1, ?_, h1, fun e => absurd e (show ¬ (8 : Nat) = 0 by decide)⟩
        rw [show (none : Option (List (Nat × Nat × Bool))).isSome = false from rfl, if_neg (show ¬ false = true by decide), xb_mk]
      | some l =>
        obtain ⟨h4, h5⟩ := h3 l hq
        have h6 := ams_le hq
        obtain ⟨τ2, g1, g2, g3, g4⟩ := k_rA_122 (F := F) (c := c) (fl := fl) (base := ss) (n := n) (b := b) (S := put (eI τ 8) (eI τ 2) ss n) (ss := ss + n) hc hS hF hfl hn hS' hcb (Nat.le_refl _) hss l 0 F τ1 (GR_F hR0 h1) ((h1.2.2.2.2.1 8 (by omega) (by decide)).trans cpd_8) ((h1.1 7 1 (by omega)).trans cpd_7) (by omega) h4 (fun j hj hj8 => by rw [h5 j (Or.inr hj) hj8, cpd_I (Or.inl (by omega))]; exact hz j hj8) h6.2 (by omega)
        refine ⟨τ2, ?_, frF_trans h1 g1, fun e => ⟨l, rfl, by rw [har]; exact g4 e⟩⟩
        rw [show (some l).isSome = true from rfl, if_pos rfl, g2, xb_mk]
    · have c3 := Bool.eq_false_iff.mpr c2
      rw [c3, if_pos (show bI false = 0 from rfl)]
      exact obj (decide_eq_false (fun e => c2 ((le_8 hb).mp e.2)))
/-- a member that is closed -/
def clF (τ : px_TT) (a : Nat) : Prop := fI τ a 4 = nI 0 ∧ fI τ a 15 = nI 0 ∧ fI τ a 16 = nI 0
theorem k_clearFile_2 (hS : GS sk L) (hfl : fl < 8) : ∀ (d k f : Nat) (τ : px_TT), GR τ → k + d = 8 → d < f → (∀ j, j < k → clF τ (10 + 2 * (8 * fl + j))) → ∃ τ', frF fl τ τ' ∧ f_H_clearFile_2 F c f 0 (nI fl) (nI k) (cH sk L τ) = f_H_clearFile_31 F c 0 (nI fl) (cH sk L τ') ∧ (∀ j, j < 8 → clF τ' (10 + 2 * (8 * fl + j))) := by
  intro d
  induction d with
  | zero =>
    intro k f τ hR hk hf hz
    obtain ⟨f, rfl⟩ : ∃ g, f = g + 1 := ⟨f - 1, by omega⟩
    refine ⟨τ, frF_refl _ _, ?_, fun j hj => hz j (by omega)⟩
    unfold f_H_clearFile_2
    rw [if_pos (nI_le (by omega) (by omega))]
  | succ d ih =>
    intro k f τ hR hk hf hz
    obtain ⟨f, rfl⟩ : ∃ g, f = g + 1 := ⟨f - 1, by omega⟩
    have hq := G_of hS (show 8 * fl + k < 64 by omega)
    have e9 : eN τ 9 (8 * fl + k) = some (10 + 2 * (8 * fl + k)) := (hR.2.1 (8 * fl + k) (by omega)).2.2.1
    unfold f_H_clearFile_2
    rw [if_neg (nI_ge (by omega) (by omega)), C0r4 (G0 hS) (R0_4 hR), bs, pk_mul, nI_add, Nat.mul_comm fl 8, c_aN (G9 hS) (Or.inl rfl) (by decide) (by omega), bs, e9, bs, c_o hq, bs, k_open hq, xb_mk, nI_add]
    have fr : frF fl τ (opn τ (10 + 2 * (8 * fl + k)) 0 0 0) := opn_F (by omega)
    obtain ⟨τ', h1, h2, h3⟩ := ih (k + 1) f _ (GR_F hR fr) (by omega) (by omega) (by
      intro j hj
      by_cases e : j = k
      · rw [e]; exact ⟨opn_at.1, opn_at.2.2.2.2.2.1, opn_at.2.2.2.2.2.2⟩
      · unfold clF; rw [opn_ne (Or.inl (by omega)), opn_ne (Or.inl (by omega)), opn_ne (Or.inl (by omega))]; exact hz j (by omega))
    exact ⟨τ', frF_trans fr h1, h2, h3⟩
theorem k_clearFile {v : Int32} (hS : GS sk L) (hR : GR τ) (hF : 8 < F) (hfl : fl < 8) (he : eI τ 138 fl = v) : ∃ τ', f_H_clearFile F c 0 (nI fl) (cH sk L τ) = some ((), cH sk L (tI τ' 7 1 v)) ∧ frF fl τ τ' ∧ (∀ j, j < 8 → clF τ' (10 + 2 * (8 * fl + j))) := by
  obtain ⟨τ', h1, h2, h3⟩ := k_clearFile_2 (F := F) (c := c) hS hfl 8 0 F τ hR rfl (by omega) (fun j h => absurd h (Nat.not_lt_zero j))
  have hR' := GR_F hR h1
  have he' : eI τ' 138 fl = v := by rw [h1.2.2.2.2.1 138 (by omega) (by decide)]; exact he
  refine ⟨τ', ?_, h1, h3⟩
  unfold f_H_clearFile
  rw [h2]
  unfold f_H_clearFile_31
  rw [C0r3 (G0 hS) (R0_3 hR'), bs, C0r5 (G0 hS) (R0_5 hR'), bs, c_aI (G138 hS) (Or.inr (Or.inl rfl)) (by decide) (by omega), bs, he', C10p1 (G7 hS), bs]
/-- where file k begins in the store -/
def off (fs : List (Nat × (Nat → Nat))) (k : Nat) : Nat := ((fs.take k).map (fun x => x.1)).sum
/-- file f, as the class has it -/
def CF1 (sk : Nat → Nat × Nat × Nat) (L : Nat) (τ : px_TT) (f base n : Nat) (b : Nat → Nat) : Prop := n ≤ 8192 ∧ cb (eI τ 8) base n = b ∧ eFil b n = 0 ∧ ∃ l, fMem b n = some l ∧ mD sk L τ f base (isAr b n) (eI τ 8) 0 l
/-- the files, as the class has them -/
def CF (sk : Nat → Nat × Nat × Nat) (L : Nat) (τ : px_TT) (fs : List (Nat × (Nat → Nat))) : Prop := fI τ 0 6 = nI fs.length ∧ fs.length ≤ 8 ∧ (∀ k, isB (eI τ 8 k)) ∧ fI τ 7 1 = nI (off fs fs.length) ∧ (∀ k, k ≤ fs.length → eI τ 138 k = nI (off fs k)) ∧ (∀ f x, fs[f]? = some x → CF1 sk L τ f (off fs f) x.1 x.2) ∧ (∀ f j, fs.length ≤ f → f < 8 → j < 8 → fI τ (10 + 2 * (8 * f + j)) 4 = nI 0)
theorem off_le {fs : List (Nat × (Nat → Nat))} (h : ∀ (f : Nat) (x : Nat × (Nat → Nat)), fs[f]? = some x → x.1 ≤ 8192) : ∀ k, k ≤ fs.length → off fs k ≤ 8192 * k := by
  intro k
  induction k with
  | zero => intro _; unfold off; rw [List.take_zero]; exact Nat.le_refl _
  | succ k ih =>
    intro hk
    have h1 := ih (by omega)
    have h2 := h k fs[k] (List.getElem?_eq_getElem (by omega))
    unfold off at h1 ⊢
    rw [List.take_succ_eq_append_getElem (by omega), List.map_append, List.sum_append]
    show _ + (fs[k].1 + 0) ≤ _
    omega
theorem off_s {fs : List (Nat × (Nat → Nat))} {f : Nat} {x : Nat × (Nat → Nat)} (h : fs[f]? = some x) : off fs (f + 1) = off fs f + x.1 := by
  obtain ⟨hl, hx⟩ := List.getElem?_eq_some_iff.mp h
  unfold off
  rw [List.take_succ_eq_append_getElem hl, List.map_append, List.sum_append, hx]
  show _ + (x.1 + 0) = _
  rw [Nat.add_zero]
theorem off_mono {fs : List (Nat × (Nat → Nat))} : ∀ (d f : Nat), f + d ≤ fs.length → off fs f ≤ off fs (f + d)
  | 0, _, _ => Nat.le_refl _
  | d + 1, f, h => by
    have h1 := off_mono (fs := fs) d f (by omega)
    have h2 := off_s (fs := fs) (f := f + d) (x := fs[f + d]) (List.getElem?_eq_getElem (by omega))
    rw [show f + (d + 1) = f + d + 1 by omega, h2]
    omega
theorem off_app {fs : List (Nat × (Nat → Nat))} {x : Nat × (Nat → Nat)} {k : Nat} (hk : k ≤ fs.length) : off (fs ++ [x]) k = off fs k := by
  unfold off
  rw [List.take_append_of_le_length hk]
theorem off_top {fs : List (Nat × (Nat → Nat))} {x : Nat × (Nat → Nat)} : off (fs ++ [x]) (fs.length + 1) = off fs fs.length + x.1 := by
  have h : (fs ++ [x])[fs.length]? = some x := by rw [List.getElem?_append_right (Nat.le_refl _), Nat.sub_self]; rfl
  rw [off_s h, off_app (Nat.le_refl _)]
theorem mD_eq {τ τ' : px_TT} {f o : Nat} {ar : Bool} {S S' : Nat → Int32} (hN : ∀ a k, fN τ' a k = fN τ a k) (h8 : eI τ' 8 = S') (hB : ∀ k, isB (S' k)) : ∀ (l : List (Nat × Nat × Bool)) (k : Nat), (∀ j, k ≤ j → j < 8 → (∀ i, i ≠ 15 → i ≠ 16 → fI τ' (10 + 2 * (8 * f + j)) i = fI τ (10 + 2 * (8 * f + j)) i) ∧ eI τ' (11 + 2 * (8 * f + j)) = eI τ (11 + 2 * (8 * f + j))) → k + l.length ≤ 8 → (∀ x, x ∈ l → cb S' (o + x.1) x.2.1 = cb S (o + x.1) x.2.1) → mD sk L τ f o ar S k l → mD sk L τ' f o ar S' k l
  | [], k, hI, hk, hc, h => fun j h1 h2 => by rw [(hI j h1 h2).1 4 (by decide) (by decide)]; exact h j h1 h2
  | x :: l, k, hI, hk, hc, h => by
    rw [List.length_cons] at hk
    unfold mD at h ⊢
    have e := hI k (Nat.le_refl _) (by omega)
    refine ⟨⟨(e.1 4 (by decide) (by decide)).trans h.1.1, (e.1 5 (by decide) (by decide)).trans h.1.2.1, (e.1 6 (by decide) (by decide)).trans h.1.2.2.1, fun hx => ?_⟩, mD_eq hN h8 hB l (k + 1) (fun j h1 h2 => hI j (by omega) h2) (by omega) (fun y hy => hc y (List.mem_cons_of_mem _ hy)) h.2⟩
    exact cD_eq (h.1.2.2.2 hx) (fun i _ h15 h16 => e.1 i h15 h16) hN e.2 h8 (hc x (List.mem_cons_self ..)) hB
theorem CF1_eq {τ τ' : px_TT} {f o m : Nat} {b' : Nat → Nat} (h : CF1 sk L τ f o m b') (hN : ∀ a k, fN τ' a k = fN τ a k) (hB : ∀ k, isB (eI τ' 8 k)) (hI : ∀ j, j < 8 → (∀ i, i ≠ 15 → i ≠ 16 → fI τ' (10 + 2 * (8 * f + j)) i = fI τ (10 + 2 * (8 * f + j)) i) ∧ eI τ' (11 + 2 * (8 * f + j)) = eI τ (11 + 2 * (8 * f + j))) (hc : ∀ k, k < m → eI τ' 8 (o + k) = eI τ 8 (o + k)) : CF1 sk L τ' f o m b' := by
  obtain ⟨h1, h2, h3, l, h4, h5⟩ := h
  have hl := fMem_le h4
  have e : ∀ a s, a + s ≤ m → cb (eI τ' 8) (o + a) s = cb (eI τ 8) (o + a) s := by
    intro a s has
    funext k
    unfold cb
    by_cases d : k < s
    · rw [if_pos d, if_pos d, Nat.add_assoc, hc (a + k) (by omega)]
    · rw [if_neg d, if_neg d]
  refine ⟨h1, ?_, h3, l, h4, mD_eq hN rfl hB l 0 (fun j _ hj => hI j hj) (by omega) (fun x hx => e x.1 x.2.1 (hl.2 x hx)) h5⟩
  have := e 0 m (by omega)
  rw [Nat.add_zero] at this
  rw [this]; exact h2
end CAD
end
section
/-! the class's add and drop -/
section CAE
variable {F : Nat} {c : px_CT} {sk : Nat → Nat × Nat × Nat} {L : Nat} {τ : px_TT} {n : Nat} {b : Nat → Nat} {fs : List (Nat × (Nat → Nat))}
theorem tI_ne {τ : px_TT} {a k x y : Nat} {v : Int32} (h : x ≠ a ∨ y ≠ k) : fI (tI τ a k v) x y = fI τ x y := u2_ne h
theorem tI_at {τ : px_TT} {a k : Nat} {v : Int32} : fI (tI τ a k v) a k = v := (u2_eq : u2 τ.1 a k v a k = v)
/-- nothing has changed but the tape's size, the files, and what belongs to files from f on -/
def frD (f : Nat) (τ τ' : px_TT) : Prop := (∀ a k, (a ≠ 0 ∨ k ≠ 6) → a ≠ 1 → (a ≠ 7 ∨ k ≠ 1) → (a < 10 + 16 * f ∨ 138 ≤ a) → fI τ' a k = fI τ a k) ∧ (∀ a k, fJ τ' a k = fJ τ a k) ∧ (∀ a k, fN τ' a k = fN τ a k) ∧ (∀ a, a ≠ 8 → a ≠ 138 → a ≠ 139 → (a < 10 + 16 * f ∨ 138 ≤ a) → eI τ' a = eI τ a) ∧ (∀ a, eJ τ' a = eJ τ a) ∧ (∀ a, eN τ' a = eN τ a) ∧ ∀ a, 10 ≤ a → zKl τ τ' a 15 ∧ zKl τ τ' a 16
theorem CF_n (h : CF sk L τ fs) {f : Nat} {x : Nat × (Nat → Nat)} (hx : fs[f]? = some x) : x.1 ≤ 8192 := (h.2.2.2.2.2.1 f x hx).1
theorem CF_off (h : CF sk L τ fs) {k : Nat} (hk : k ≤ fs.length) : off fs k ≤ 8192 * k := off_le (fun _ _ hx => CF_n h hx) k hk
theorem k_clear (hS : GS sk L) : f_Row_clear F c 1 (cH sk L τ) = some ((), cH sk L (tI (tI τ 1 1 (nI 0)) 1 2 (bI false))) := by
  unfold f_Row_clear
  rw [C10p1 (G1 hS), bs, show nI 0 = bI false from rfl, C10z2 (G1 hS), bs]
theorem clr_I {a k : Nat} (h : a ≠ 1) : fI (tI (tI τ 1 1 (nI 0)) 1 2 (bI false)) a k = fI τ a k := (u2_ne (Or.inl h)).trans (u2_ne (Or.inl h))
theorem clr_T (h : ∀ k, isB (eI τ 2 k)) : CTp (tI (tI τ 1 1 (nI 0)) 1 2 (bI false)) 0 (fun _ => 0) := by
  refine ⟨by rw [tI_ne (Or.inr (by decide)), tI_at], Nat.zero_le _, h, ?_⟩
  funext k
  exact if_neg (Nat.not_lt_zero k)
theorem GR_I {a k : Nat} {v : Int32} (h : GR τ) (ha : a < 10 ∨ 138 ≤ a ∨ 3 < k) : GR (tI τ a k v) := ⟨h.1, fun i hi => ⟨(h.2.1 i hi).1, (h.2.1 i hi).2.1, (h.2.1 i hi).2.2.1, (u2_ne (by omega)).trans (h.2.1 i hi).2.2.2.1, (u2_ne (by omega)).trans (h.2.1 i hi).2.2.2.2⟩, h.2.2⟩
theorem GR_vI {a : Nat} {f : Nat → Int32} (h : GR τ) : GR (vI τ a f) := h
/-- the files hold on where nothing of them changes -/
theorem CF_old {τ' : px_TT} {o : Nat} (h : CF sk L τ fs) (hN : ∀ a k, fN τ' a k = fN τ a k) (hB : ∀ k, isB (eI τ' 8 k)) (hI : ∀ q, q < 8 * o → (∀ i, i ≠ 15 → i ≠ 16 → fI τ' (10 + 2 * q) i = fI τ (10 + 2 * q) i) ∧ eI τ' (11 + 2 * q) = eI τ (11 + 2 * q)) (hc : ∀ k, k < off fs o → eI τ' 8 k = eI τ 8 k) (ho : o ≤ fs.length) : ∀ f x, f < o → fs[f]? = some x → CF1 sk L τ' f (off fs f) x.1 x.2 := by
  intro f x hf hx
  refine CF1_eq (h.2.2.2.2.2.1 f x hx) hN hB (fun j hj => hI (8 * f + j) (by omega)) ?_
  intro k hk
  apply hc
  have h1 := off_s hx
  have h2 := off_mono (fs := fs) (o - (f + 1)) (f + 1) (by omega)
  rw [show f + 1 + (o - (f + 1)) = o by omega] at h2
  omega
theorem k_add (hc : KT c) (hS : GS sk L) (hR : GR τ) (hF : 65536 < F) (ht : CTp τ n b) (hf : CF sk L τ fs) (hfl : fs.length < 8) : ∃ τ', f_H_add F c 0 (cH sk L τ) = some (nI (eFil b n), cH sk L τ') ∧ GR τ' ∧ CTp τ' 0 (fun _ => 0) ∧ CF sk L τ' (if eFil b n = 0 then fs ++ [(n, b)] else fs) ∧ frD fs.length τ τ' := by
  have hn := ht.2.1
  have hoff := CF_off hf (Nat.le_refl _)
  obtain ⟨c1, c2, c3, c4, c5, c6, c7⟩ := id hf
  obtain ⟨τ1, h1, h2, h3⟩ := k_readFile (c := c) (fl := fs.length) hc hS hR hF hfl ht c4 (by omega) c3 (fun j hj => c7 fs.length j (Nat.le_refl _) hfl hj)
  have hR1 : GR τ1 := GR_F (GR_c hR) h2
  have hI1 : ∀ a k, (a < 10 + 16 * fs.length ∨ 10 + 16 * (fs.length + 1) ≤ a) → (a ≠ 7 ∨ k ≠ 1) → fI τ1 a k = fI τ a k := fun a k ha h7 => (h2.1 a k (by omega)).trans (cpd_I h7)
  have hE1 : ∀ a, (a < 10 + 16 * fs.length ∨ 10 + 16 * (fs.length + 1) ≤ a) → a ≠ 8 → a ≠ 139 → eI τ1 a = eI τ a := fun a ha h8 h9 => (h2.2.2.2.2.1 a (by omega) h9).trans (cpd_e h8)
  have hN1 : ∀ a k, fN τ1 a k = fN τ a k := fun a k => h2.2.2.2.1 a k
  have h81 : eI τ1 8 = put (eI τ 8) (eI τ 2) (off fs fs.length) n := (h2.2.2.2.2.1 8 (by omega) (by decide)).trans cpd_8
  have h71 : fI τ1 7 1 = nI (off fs fs.length + n) := (h2.1 7 1 (by omega)).trans cpd_7
  have hB1 : ∀ k, isB (eI τ1 8 k) := by rw [h81]; exact put_B c3 ht.2.2.1
  have hc1 : ∀ k, k < off fs fs.length → eI τ1 8 k = eI τ 8 k := by
    intro k hk
    rw [h81]
    exact if_neg (by omega)
  have hT1 : ∀ k, isB (eI τ1 2 k) := by rw [hE1 2 (by omega) (by decide) (by decide)]; exact ht.2.2.1
  obtain ⟨τ2, hτ2⟩ : ∃ t, t = tI (tI τ1 1 1 (nI 0)) 1 2 (bI false) := ⟨_, rfl⟩
  have hI2 : ∀ a k, a ≠ 1 → fI τ2 a k = fI τ1 a k := fun a k ha => by rw [hτ2]; exact clr_I ha
  have hR2 : GR τ2 := by rw [hτ2]; exact GR_I (GR_I hR1 (by omega)) (by omega)
  have hT2 : CTp τ2 0 (fun _ => 0) := by rw [hτ2]; exact clr_T hT1
  have hE2 : ∀ a, eI τ2 a = eI τ1 a := fun a => by rw [hτ2]; rfl
  have hN2 : ∀ a k, fN τ2 a k = fN τ1 a k := fun a k => by rw [hτ2]; rfl
  have hJ2 : ∀ a k, fJ τ2 a k = fJ τ a k := fun a k => by rw [hτ2]; exact h2.2.2.1 a k
  have heJ2 : ∀ a, eJ τ2 a = eJ τ a := fun a => by rw [hτ2]; exact h2.2.2.2.2.2.1 a
  have heN2 : ∀ a, eN τ2 a = eN τ a := fun a => by rw [hτ2]; exact h2.2.2.2.2.2.2.1 a
  have h62 : fI τ2 0 6 = nI fs.length := (hI2 0 6 (by decide)).trans ((hI1 0 6 (by omega) (by decide)).trans c1)
  unfold f_H_add
  rw [C0g6 (G0 hS), bs, c1, if_pos (nI_lt hfl (by decide)), bs, c_o (G0 hS), bs, pk_mul, Nat.mul_comm fs.length 8, h1, xb_mk, C0r0 (G0 hS) (R0_0 hR1), bs, c_o (G1 hS), bs, k_clear hS, xb_mk, ← hτ2]
  have e9 := eFil_le b n
  by_cases d1 : eFil b n = 0
  · obtain ⟨l, hl, hm⟩ := h3 d1
    obtain ⟨τ4, hτ4⟩ : ∃ t, t = vI (tI τ2 0 6 (nI (fs.length + 1))) 138 (upd (eI τ2 138) (fs.length + 1) (nI (off fs fs.length + n))) := ⟨_, rfl⟩
    have hR3 : GR (tI τ2 0 6 (nI (fs.length + 1))) := GR_I hR2 (by omega)
    have hI4 : ∀ a k, (a ≠ 0 ∨ k ≠ 6) → fI τ4 a k = fI τ2 a k := fun a k h => by rw [hτ4]; exact u2_ne h
    have h64 : fI τ4 0 6 = nI (fs.length + 1) := by rw [hτ4]; exact (u2_eq : u2 τ2.1 0 6 (nI (fs.length + 1)) 0 6 = _)
    have hE4 : ∀ a, a ≠ 138 → eI τ4 a = eI τ2 a := fun a h => by rw [hτ4]; exact u1_ne h
    have h138 : eI τ4 138 = upd (eI τ2 138) (fs.length + 1) (nI (off fs fs.length + n)) := by rw [hτ4]; exact (u1_eq : u1 τ2.2.2.2.1 138 (upd (eI τ2 138) (fs.length + 1) (nI (off fs fs.length + n))) 138 = _)
    have hN4 : ∀ a k, fN τ4 a k = fN τ a k := fun a k => by rw [hτ4]; exact (hN2 a k).trans (hN1 a k)
    have h84 : eI τ4 8 = eI τ1 8 := (hE4 8 (by decide)).trans (hE2 8)
    refine ⟨τ4, ?_, ?_, ?_, ?_, ?_⟩
    · rw [d1, if_pos (show nI 0 = 0 from rfl), C0g6 (G0 hS), bs, h62, nI_add, C0p6 (G0 hS), bs, C0r5 (G0 hS) (R0_5 hR3), bs, C0g6 (G0 hS), bs, show fI (tI τ2 0 6 (nI (fs.length + 1))) 0 6 = nI (fs.length + 1) from (u2_eq : u2 τ2.1 0 6 (nI (fs.length + 1)) 0 6 = _), C0r3 (G0 hS) (R0_3 hR3), bs, C10g1 (G7 hS), bs, show fI (tI τ2 0 6 (nI (fs.length + 1))) 7 1 = nI (off fs fs.length + n) by rw [tI_ne (Or.inl (by decide)), hI2 7 1 (by decide), h71], c_sI (G138 hS) (Or.inr (Or.inl rfl)) (by decide) (by omega), bs, hτ4]
      rfl
    · rw [hτ4]; exact GR_vI hR3
    · have e2 : eI τ4 2 = eI τ2 2 := hE4 2 (by decide)
      exact ⟨(hI4 1 1 (by decide)).trans hT2.1, Nat.zero_le _, by rw [e2]; exact hT2.2.2.1, by rw [e2]; exact hT2.2.2.2⟩
    · rw [if_pos d1]
      have hlen : (fs ++ [(n, b)]).length = fs.length + 1 := by rw [List.length_append]; rfl
      refine ⟨by rw [hlen]; exact h64, by rw [hlen]; omega, by rw [h84]; exact hB1, ?_, ?_, ?_, ?_⟩
      · rw [hlen, off_top, hI4 7 1 (by decide), hI2 7 1 (by decide)]
        exact h71
      · intro k hk
        rw [hlen] at hk
        rw [h138]
        by_cases e : k = fs.length + 1
        · rw [e, upd_eq, off_top]
        · rw [upd_ne e, hE2 138, hE1 138 (by omega) (by decide) (by decide), off_app (by omega)]
          exact c5 k (by omega)
      · intro f x hx
        by_cases e : f < fs.length
        · rw [List.getElem?_append_left e] at hx
          rw [off_app (by omega)]
          refine CF_old (o := fs.length) hf hN4 (by rw [h84]; exact hB1) ?_ (by rw [h84]; exact hc1) (Nat.le_refl _) f x e hx
          intro q hq
          refine ⟨fun i _ _ => ?_, ?_⟩
          · rw [hI4 _ _ (Or.inl (by omega)), hI2 _ _ (by omega), hI1 _ _ (by omega) (Or.inl (by omega))]
          · rw [hE4 _ (by omega), hE2, hE1 _ (by omega) (by omega) (by omega)]
        · have hfe : f = fs.length := by
            have := (List.getElem?_eq_some_iff.mp hx).1
            rw [hlen] at this
            omega
          subst hfe
          rw [List.getElem?_append_right (Nat.le_refl _), Nat.sub_self] at hx
          have hx' : (n, b) = x := Option.some.inj hx
          rw [← hx', off_app (Nat.le_refl _)]
          refine ⟨hn, ?_, d1, l, hl, ?_⟩
          · rw [h84, h81, put_same]
            exact ht.2.2.2
          · rw [← h81] at hm
            show mD sk L τ4 fs.length (off fs fs.length) (isAr b n) (eI τ4 8) 0 l
            rw [h84]
            refine mD_eq (fun a k => (hN4 a k).trans (hN1 a k).symm) h84 hB1 l 0 ?_ (by have := (fMem_le hl).1; omega) (fun _ _ => rfl) hm
            intro j _ hj
            refine ⟨fun i _ _ => ?_, ?_⟩
            · rw [hI4 _ _ (Or.inl (by omega)), hI2 _ _ (by omega)]
            · rw [hE4 _ (by omega), hE2]
      · intro f j hf1 hf8 hj
        rw [hlen] at hf1
        rw [hI4 _ _ (Or.inl (by omega)), hI2 _ _ (by omega), hI1 _ _ (by omega) (Or.inl (by omega))]
        exact c7 f j (by omega) hf8 hj
    · refine ⟨?_, ?_, hN4, ?_, ?_, ?_, ?_⟩
      · intro a k h0 h1' h7 ha
        rw [hI4 _ _ h0, hI2 _ _ h1', hI1 _ _ (by omega) h7]
      · intro a k; rw [hτ4]; exact hJ2 a k
      · intro a h8 h138' h139 ha
        rw [hE4 _ h138', hE2, hE1 _ (by omega) h8 h139]
      · intro a; rw [hτ4]; exact heJ2 a
      · intro a; rw [hτ4]; exact heN2 a
      · intro a ha
        have w := h2.2.2.2.2.2.2.2 a
        exact ⟨zK_t (zK_t (zK_e (cpd_I (Or.inr (by decide)))) w.1) (zK_e ((hI4 a 15 (Or.inr (by decide))).trans (hI2 a 15 (by omega)))), zK_t (zK_t (zK_e (cpd_I (Or.inr (by decide)))) w.2) (zK_e ((hI4 a 16 (Or.inr (by decide))).trans (hI2 a 16 (by omega))))⟩
  · have h138 : eI τ2 138 fs.length = nI (off fs fs.length) := by
      rw [hE2, hE1 138 (by omega) (by decide) (by decide)]
      exact c5 _ (Nat.le_refl _)
    obtain ⟨τ5, g1, g2, g3⟩ := k_clearFile (F := F) (c := c) hS hR2 (by omega) hfl h138
    obtain ⟨τ6, hτ6⟩ : ∃ t, t = tI τ5 7 1 (nI (off fs fs.length)) := ⟨_, rfl⟩
    have hI6 : ∀ a k, (a ≠ 7 ∨ k ≠ 1) → fI τ6 a k = fI τ5 a k := fun a k h => by rw [hτ6]; exact u2_ne h
    have hE6 : ∀ a, eI τ6 a = eI τ5 a := fun a => by rw [hτ6]; rfl
    have hI5 : ∀ a k, (a < 10 + 16 * fs.length ∨ 10 + 16 * (fs.length + 1) ≤ a) → fI τ5 a k = fI τ2 a k := fun a k ha => g2.1 a k (by omega)
    have hE5 : ∀ a, (a < 10 + 16 * fs.length ∨ 10 + 16 * (fs.length + 1) ≤ a) → a ≠ 139 → eI τ5 a = eI τ2 a := fun a ha h9 => g2.2.2.2.2.1 a (by omega) h9
    have hN6 : ∀ a k, fN τ6 a k = fN τ a k := fun a k => by rw [hτ6]; exact (g2.2.2.2.1 a k).trans ((hN2 a k).trans (hN1 a k))
    have h86 : eI τ6 8 = eI τ1 8 := (hE6 8).trans ((hE5 8 (by omega) (by decide)).trans (hE2 8))
    have hR5 := GR_F hR2 g2
    refine ⟨τ6, ?_, ?_, ?_, ?_, ?_⟩
    · rw [if_neg (show ¬ nI (eFil b n) = 0 from nI_ne0 (by omega) (by omega)), C0g6 (G0 hS), bs, h62, c_o (G0 hS), bs, g1, xb_mk, hτ6]
      rfl
    · rw [hτ6]; exact GR_I hR5 (by omega)
    · have e2 : eI τ6 2 = eI τ2 2 := (hE6 2).trans (hE5 2 (by omega) (by decide))
      exact ⟨(hI6 1 1 (by decide)).trans ((hI5 1 1 (by omega)).trans hT2.1), Nat.zero_le _, by rw [e2]; exact hT2.2.2.1, by rw [e2]; exact hT2.2.2.2⟩
    · rw [if_neg d1]
      refine ⟨?_, by omega, by rw [h86]; exact hB1, ?_, ?_, ?_, ?_⟩
      · rw [hI6 0 6 (by decide), hI5 0 6 (by omega)]; exact h62
      · rw [hτ6]; exact (u2_eq : u2 τ5.1 7 1 (nI (off fs fs.length)) 7 1 = _)
      · intro k hk
        rw [hE6, hE5 138 (by omega) (by decide), hE2, hE1 138 (by omega) (by decide) (by decide)]
        exact c5 k hk
      · intro f x hx
        have e : f < fs.length := (List.getElem?_eq_some_iff.mp hx).1
        refine CF_old (o := fs.length) hf hN6 (by rw [h86]; exact hB1) ?_ (by rw [h86]; exact hc1) (Nat.le_refl _) f x e hx
        intro q hq
        refine ⟨fun i _ _ => ?_, ?_⟩
        · rw [hI6 _ _ (Or.inl (by omega)), hI5 _ _ (by omega), hI2 _ _ (by omega), hI1 _ _ (by omega) (Or.inl (by omega))]
        · rw [hE6, hE5 _ (by omega) (by omega), hE2, hE1 _ (by omega) (by omega) (by omega)]
      · intro f j hf1 hf8 hj
        rw [hI6 _ _ (Or.inl (by omega))]
        by_cases e : f = fs.length
        · rw [e]; exact (g3 j hj).1
        · rw [hI5 _ _ (by omega), hI2 _ _ (by omega), hI1 _ _ (by omega) (Or.inl (by omega))]
          exact c7 f j hf1 hf8 hj
    · refine ⟨?_, ?_, hN6, ?_, ?_, ?_, ?_⟩
      · intro a k h0 h1' h7 ha
        rw [hI6 _ _ h7, hI5 _ _ (by omega), hI2 _ _ h1', hI1 _ _ (by omega) h7]
      · intro a k; rw [hτ6]; exact (g2.2.2.1 a k).trans (hJ2 a k)
      · intro a h8 _ h139 ha
        rw [hE6, hE5 _ (by omega) h139, hE2, hE1 _ (by omega) h8 h139]
      · intro a; rw [hτ6]; exact (g2.2.2.2.2.2.1 a).trans (heJ2 a)
      · intro a; rw [hτ6]; exact (g2.2.2.2.2.2.2.1 a).trans (heN2 a)
      · intro a ha
        have w := h2.2.2.2.2.2.2.2 a
        have u := g2.2.2.2.2.2.2.2 a
        exact ⟨zK_t (zK_t (zK_t (zK_e (cpd_I (Or.inr (by decide)))) w.1) (zK_e (hI2 a 15 (by omega)))) (zK_t u.1 (zK_e (hI6 a 15 (Or.inr (by decide))))), zK_t (zK_t (zK_t (zK_e (cpd_I (Or.inr (by decide)))) w.2) (zK_e (hI2 a 16 (by omega)))) (zK_t u.2 (zK_e (hI6 a 16 (Or.inr (by decide)))))⟩
end CAE
end
section
/-! names, as the class has them: three words and a length -/
def ez : List Nat → Nat
  | [] => 0
  | x :: l => x + 256 * ez l
theorem ez_lt : ∀ (l : List Nat), (∀ x, x ∈ l → x < 256) → ez l < 256 ^ l.length
  | [], _ => by decide
  | x :: l, h => by
    have h1 := ez_lt l (fun y hy => h y (List.mem_cons_of_mem _ hy))
    have h2 := h x (List.mem_cons_self ..)
    rw [List.length_cons, Nat.pow_succ]
    show x + 256 * ez l < _
    generalize 256 ^ l.length = P at *
    omega
theorem ez_app : ∀ (l : List Nat) (x : Nat), ez (l ++ [x]) = ez l + x * 256 ^ l.length
  | [], x => by show x + 256 * 0 = 0 + x * 1; omega
  | y :: l, x => by
    show y + 256 * ez (l ++ [x]) = (y + 256 * ez l) + x * 256 ^ (l.length + 1)
    rw [ez_app l x, Nat.pow_succ, Nat.mul_add, Nat.mul_comm (256 ^ l.length) 256, ← Nat.mul_assoc x 256, Nat.mul_comm x 256, Nat.mul_assoc 256 x]
    omega
theorem ez_inj : ∀ (l l' : List Nat), (∀ x, x ∈ l → x < 256) → (∀ x, x ∈ l' → x < 256) → l.length = l'.length → ez l = ez l' → l = l'
  | [], [], _, _, _, _ => rfl
  | [], _ :: _, _, _, h, _ => by cases h
  | _ :: _, [], _, _, h, _ => by cases h
  | x :: l, y :: l', h1, h2, hl, he => by
    have a1 := h1 x (List.mem_cons_self ..)
    have a2 := h2 y (List.mem_cons_self ..)
    have he' : x + 256 * ez l = y + 256 * ez l' := he
    have e1 : x = y := by omega
    have e2 : ez l = ez l' := by omega
    rw [e1, ez_inj l l' (fun z hz => h1 z (List.mem_cons_of_mem _ hz)) (fun z hz => h2 z (List.mem_cons_of_mem _ hz)) (by simpa using hl) e2]
def nmL (w : List Nat) : Nat := ez (w.take 8)
def nmM (w : List Nat) : Nat := ez ((w.drop 8).take 8)
def nmH (w : List Nat) : Nat := ez (w.drop 16)
/-- the Name at a is w -/
def isNm (τ : px_TT) (a : Nat) (w : List Nat) : Prop := fJ τ a 0 = lN (nmL w) ∧ fJ τ a 1 = lN (nmM w) ∧ fJ τ a 2 = lN (nmH w) ∧ fI τ a 3 = nI w.length
/-- a name's bytes -/
def okN (w : List Nat) : Prop := w.length ≤ 20 ∧ ∀ x, x ∈ w → x < 256
theorem okN_b {w : List Nat} (h : okN w) : nmL w < 2 ^ 64 ∧ nmM w < 2 ^ 64 ∧ nmH w < 2 ^ 64 := by
  have h1 := ez_lt (w.take 8) (fun x hx => h.2 x (List.mem_of_mem_take hx))
  have h2 := ez_lt ((w.drop 8).take 8) (fun x hx => h.2 x (List.mem_of_mem_drop (List.mem_of_mem_take hx)))
  have h3 := ez_lt (w.drop 16) (fun x hx => h.2 x (List.mem_of_mem_drop hx))
  have l1 : (w.take 8).length ≤ 8 := by rw [List.length_take]; omega
  have l2 : ((w.drop 8).take 8).length ≤ 8 := by rw [List.length_take]; omega
  have l3 : (w.drop 16).length ≤ 8 := by rw [List.length_drop]; have := h.1; omega
  have p : ∀ k, k ≤ 8 → 256 ^ k ≤ 2 ^ 64 := fun k hk => Nat.le_trans (Nat.pow_le_pow_right (by decide) hk) (by decide)
  exact ⟨Nat.lt_of_lt_of_le h1 (p _ l1), Nat.lt_of_lt_of_le h2 (p _ l2), Nat.lt_of_lt_of_le h3 (p _ l3)⟩
theorem nm_inj {w w' : List Nat} (h : okN w) (h' : okN w') (e1 : nmL w = nmL w') (e2 : nmM w = nmM w') (e3 : nmH w = nmH w') (e4 : w.length = w'.length) : w = w' := by
  have a1 : w.take 8 = w'.take 8 := ez_inj _ _ (fun x hx => h.2 x (List.mem_of_mem_take hx)) (fun x hx => h'.2 x (List.mem_of_mem_take hx)) (by rw [List.length_take, List.length_take, e4]) e1
  have a2 : (w.drop 8).take 8 = (w'.drop 8).take 8 := ez_inj _ _ (fun x hx => h.2 x (List.mem_of_mem_drop (List.mem_of_mem_take hx))) (fun x hx => h'.2 x (List.mem_of_mem_drop (List.mem_of_mem_take hx))) (by rw [List.length_take, List.length_take, List.length_drop, List.length_drop, e4]) e2
  have a3 : w.drop 16 = w'.drop 16 := ez_inj _ _ (fun x hx => h.2 x (List.mem_of_mem_drop hx)) (fun x hx => h'.2 x (List.mem_of_mem_drop hx)) (by rw [List.length_drop, List.length_drop, e4]) e3
  have s : ∀ v : List Nat, v = v.take 8 ++ ((v.drop 8).take 8 ++ v.drop 16) := by
    intro v
    have e : v.drop 16 = (v.drop 8).drop 8 := by rw [List.drop_drop]
    rw [e, List.take_append_drop, List.take_append_drop]
  rw [s w, s w', a1, a2, a3]
theorem or_app {v x k : Nat} (hk : k < 8) (hv : v < 256 ^ k) (hx : x < 256) : lN v ||| ((nI x).toInt64 <<< ((nI (8 * k)).toInt64 &&& 63)) = lN (v + x * 256 ^ k) := by
  have e : 2 ^ (8 * k) = 256 ^ k := by rw [Nat.pow_mul]
  have h8 : v + x * 256 ^ k < 256 ^ (k + 1) := by
    rw [Nat.pow_succ]
    have : x * 256 ^ k ≤ 255 * 256 ^ k := Nat.mul_le_mul_right _ (by omega)
    generalize 256 ^ k = P at *
    omega
  have h64 : 256 ^ (k + 1) ≤ 2 ^ 64 := Nat.le_trans (Nat.pow_le_pow_right (by decide) (show k + 1 ≤ 8 by omega)) (by decide)
  rw [nI_l (by omega), wb_shl x (by omega), e]
  exact g_or' e hv (by omega)
section CNM
variable {F : Nat} {c : px_CT} {sk : Nat → Nat × Nat × Nat} {L a : Nat} {τ : px_TT} {w : List Nat}
/-- what is written of a Name when a text is written -/
def frN (a : Nat) (τ τ' : px_TT) : Prop := (∀ x k, (x ≠ a ∨ k ≠ 3) → fI τ' x k = fI τ x k) ∧ (∀ x k, (x ≠ a ∨ 2 < k) → fJ τ' x k = fJ τ x k) ∧ (∀ x k, fN τ' x k = fN τ x k) ∧ (∀ x, eI τ' x = eI τ x) ∧ (∀ x, eJ τ' x = eJ τ x) ∧ (∀ x, eN τ' x = eN τ x)
theorem frN_refl (a : Nat) (τ : px_TT) : frN a τ τ := ⟨fun _ _ _ => rfl, fun _ _ _ => rfl, fun _ _ => rfl, fun _ => rfl, fun _ => rfl, fun _ => rfl⟩
theorem frN_trans {τ' τ'' : px_TT} (h1 : frN a τ τ') (h2 : frN a τ' τ'') : frN a τ τ'' := ⟨fun x k h => (h2.1 x k h).trans (h1.1 x k h), fun x k h => (h2.2.1 x k h).trans (h1.2.1 x k h), fun x k => (h2.2.2.1 x k).trans (h1.2.2.1 x k), fun x => (h2.2.2.2.1 x).trans (h1.2.2.2.1 x), fun x => (h2.2.2.2.2.1 x).trans (h1.2.2.2.2.1 x), fun x => (h2.2.2.2.2.2 x).trans (h1.2.2.2.2.2 x)⟩
theorem tJ_ne {τ : px_TT} {a k x y : Nat} {v : Int64} (h : x ≠ a ∨ y ≠ k) : fJ (tJ τ a k v) x y = fJ τ x y := u2_ne h
theorem tJ_at {τ : px_TT} {a k : Nat} {v : Int64} : fJ (tJ τ a k v) a k = v := (u2_eq : u2 τ.2.1 a k v a k = v)
theorem k_wipe (ha : ob sk L 5 a) : ∃ τ', f_Name_wipe F c a (cH sk L τ) = some ((), cH sk L τ') ∧ frN a τ τ' ∧ isNm τ' a [] := by
  unfold f_Name_wipe
  rw [C5p0 ha, bs, C5p1 ha, bs, C5p2 ha, bs, C5p3 ha, bs]
  refine ⟨_, rfl, ⟨fun x k h => tI_ne h, fun x k h => ?_, fun _ _ => rfl, fun _ => rfl, fun _ => rfl, fun _ => rfl⟩, ?_, ?_, ?_, tI_at⟩
  · show fJ (tJ (tJ (tJ τ a 0 (lN 0)) a 1 (lN 0)) a 2 (lN 0)) x k = _
    rw [tJ_ne (by omega), tJ_ne (by omega), tJ_ne (by omega)]
  · show fJ (tJ (tJ (tJ τ a 0 (lN 0)) a 1 (lN 0)) a 2 (lN 0)) a 0 = _
    rw [tJ_ne (Or.inr (by decide)), tJ_ne (Or.inr (by decide)), tJ_at]; rfl
  · show fJ (tJ (tJ (tJ τ a 0 (lN 0)) a 1 (lN 0)) a 2 (lN 0)) a 1 = _
    rw [tJ_ne (Or.inr (by decide)), tJ_at]; rfl
  · show fJ (tJ (tJ (tJ τ a 0 (lN 0)) a 1 (lN 0)) a 2 (lN 0)) a 2 = _
    rw [tJ_at]; rfl
theorem k_append {x : Nat} (ha : ob sk L 5 a) (hw : isNm τ a w) (hl : w.length < 20) (hb : ∀ y, y ∈ w → y < 256) (hx : x < 256) : ∃ τ', f_Name_append F c a (nI x) (cH sk L τ) = some ((), cH sk L τ') ∧ frN a τ τ' ∧ isNm τ' a (w ++ [x]) := by
  obtain ⟨n0, n1, n2, n3⟩ := hw
  have hlen : (w ++ [x]).length = w.length + 1 := by rw [List.length_append]; rfl
  have e255 : nI x &&& nI 255 = nI x := by
    rw [show nI x &&& nI 255 = nI (x % 2 ^ 8) from pk_andN (by omega) 8 (by decide), Nat.mod_eq_of_lt (by omega)]
  have e7 : nI w.length &&& nI 7 = nI (w.length % 8) := pk_andN (by omega) 3 (by decide)
  unfold f_Name_append f_Name_append_72
  rw [C5g3 ha, bs, bs, n3, e255, e7, pk_mul]
  by_cases c1 : 8 ≤ w.length
  · rw [if_pos (nI_le c1 (by omega)), bs]
    by_cases c2 : 16 ≤ w.length
    · have em : w.length % 8 = w.length - 16 := by omega
      have e16 : (w ++ [x]).drop 16 = w.drop 16 ++ [x] := List.drop_append_of_le_length c2
      have ez16 := ez_lt (w.drop 16) (fun y hy => hb y (List.mem_of_mem_drop hy))
      rw [List.length_drop] at ez16
      have ev : nmH (w ++ [x]) = nmH w + x * 256 ^ (w.length - 16) := by
        unfold nmH
        rw [e16, ez_app, List.length_drop]
      rw [if_pos (nI_le c2 (by omega)), C5g2 ha, bs, n2, em, or_app (v := nmH w) (by omega) ez16 hx, C5p2 ha, bs, C5g3 ha, bs]
      refine ⟨tI (tJ τ a 2 (lN (nmH w + x * 256 ^ (w.length - 16)))) a 3 (nI (w.length + 1)), ?_, ?_, ?_, ?_, ?_, ?_⟩
      · rw [show fI (tJ τ a 2 (lN (nmH w + x * 256 ^ (w.length - 16)))) a 3 = nI w.length from n3, nI_add, C5p3 ha, bs]
      · exact ⟨fun y k h => tI_ne h, fun y k h => tJ_ne (by omega), fun _ _ => rfl, fun _ => rfl, fun _ => rfl, fun _ => rfl⟩
      · show fJ (tJ τ a 2 _) a 0 = _
        rw [tJ_ne (Or.inr (by decide)), n0]
        unfold nmL
        rw [List.take_append_of_le_length (by omega)]
      · show fJ (tJ τ a 2 _) a 1 = _
        rw [tJ_ne (Or.inr (by decide)), n1]
        unfold nmM
        rw [List.drop_append_of_le_length (by omega), List.take_append_of_le_length (by rw [List.length_drop]; omega)]
      · show fJ (tJ τ a 2 _) a 2 = _
        rw [tJ_at, ev]
      · rw [hlen]; exact tI_at
    · have em : w.length % 8 = w.length - 8 := by omega
      have ez8 := ez_lt ((w.drop 8).take 8) (fun y hy => hb y (List.mem_of_mem_drop (List.mem_of_mem_take hy)))
      have el : ((w.drop 8).take 8) = w.drop 8 := List.take_of_length_le (by rw [List.length_drop]; omega)
      rw [el, List.length_drop] at ez8
      have en : nmM w = ez (w.drop 8) := by unfold nmM; rw [el]
      have ev : nmM (w ++ [x]) = nmM w + x * 256 ^ (w.length - 8) := by
        rw [en]
        unfold nmM
        rw [List.drop_append_of_le_length c1, List.take_of_length_le (by rw [List.length_append, List.length_drop]; show w.length - 8 + 1 ≤ 8; omega), ez_app, List.length_drop]
      rw [if_neg (nI_ge (by omega) (by omega)), C5g1 ha, bs, n1, em, or_app (by omega) (by rw [en]; exact ez8) hx, C5p1 ha, bs, C5g3 ha, bs]
      refine ⟨tI (tJ τ a 1 (lN (nmM w + x * 256 ^ (w.length - 8)))) a 3 (nI (w.length + 1)), ?_, ?_, ?_, ?_, ?_, ?_⟩
      · rw [show fI (tJ τ a 1 (lN (nmM w + x * 256 ^ (w.length - 8)))) a 3 = nI w.length from n3, nI_add, C5p3 ha, bs]
      · exact ⟨fun y k h => tI_ne h, fun y k h => tJ_ne (by omega), fun _ _ => rfl, fun _ => rfl, fun _ => rfl, fun _ => rfl⟩
      · show fJ (tJ τ a 1 _) a 0 = _
        rw [tJ_ne (Or.inr (by decide)), n0]
        unfold nmL
        rw [List.take_append_of_le_length (by omega)]
      · show fJ (tJ τ a 1 _) a 1 = _
        rw [tJ_at, ev]
      · show fJ (tJ τ a 1 _) a 2 = _
        rw [tJ_ne (Or.inr (by decide)), n2]
        unfold nmH
        rw [List.drop_eq_nil_of_le (by omega), List.drop_eq_nil_of_le (by rw [hlen]; omega)]
      · rw [hlen]; exact tI_at
  · have em : w.length % 8 = w.length := by omega
    have el : w.take 8 = w := List.take_of_length_le (by omega)
    have ez0 := ez_lt w hb
    have en : nmL w = ez w := by unfold nmL; rw [el]
    have ev : nmL (w ++ [x]) = nmL w + x * 256 ^ w.length := by
      rw [en]
      unfold nmL
      rw [List.take_of_length_le (by rw [hlen]; omega), ez_app]
    rw [if_neg (nI_ge (by omega) (by omega)), C5g0 ha, bs, n0, em, or_app (by omega) (by rw [en]; exact ez0) hx, C5p0 ha, bs, C5g3 ha, bs]
    refine ⟨tI (tJ τ a 0 (lN (nmL w + x * 256 ^ w.length))) a 3 (nI (w.length + 1)), ?_, ?_, ?_, ?_, ?_, ?_⟩
    · rw [show fI (tJ τ a 0 (lN (nmL w + x * 256 ^ w.length))) a 3 = nI w.length from n3, nI_add, C5p3 ha, bs]
    · exact ⟨fun y k h => tI_ne h, fun y k h => tJ_ne (by omega), fun _ _ => rfl, fun _ => rfl, fun _ => rfl, fun _ => rfl⟩
    · show fJ (tJ τ a 0 _) a 0 = _
      rw [tJ_at, ev]
    · show fJ (tJ τ a 0 _) a 1 = _
      rw [tJ_ne (Or.inr (by decide)), n1]
      unfold nmM
      rw [List.drop_eq_nil_of_le (by omega), List.drop_eq_nil_of_le (by rw [hlen]; omega)]
    · show fJ (tJ τ a 0 _) a 2 = _
      rw [tJ_ne (Or.inr (by decide)), n2]
      unfold nmH
      rw [List.drop_eq_nil_of_le (by omega), List.drop_eq_nil_of_le (by rw [hlen]; omega)]
    · rw [hlen]; exact tI_at
/-- the bytes from p on, k of them -/
def tk (b : Nat → Nat) (p : Nat) : Nat → List Nat
  | 0 => []
  | k + 1 => tk b p k ++ [b (p + k)]
theorem tk_len (b : Nat → Nat) (p : Nat) : ∀ k, (tk b p k).length = k
  | 0 => rfl
  | k + 1 => by
    show (tk b p k ++ [b (p + k)]).length = _
    rw [List.length_append, tk_len b p k]
    rfl
theorem tk_lt {b : Nat → Nat} (hb : ∀ k, b k < 256) (p : Nat) : ∀ k x, x ∈ tk b p k → x < 256
  | 0, x, h => nomatch h
  | k + 1, x, h => by
    rcases List.mem_append.mp h with e | e
    · exact tk_lt hb p k x e
    · rw [List.mem_singleton.mp e]; exact hb _
theorem okN_tk {b : Nat → Nat} (hb : ∀ k, b k < 256) (p : Nat) {k : Nat} (hk : k ≤ 20) : okN (tk b p k) := ⟨by rw [tk_len]; exact hk, tk_lt hb p k⟩
/-- a name out of a row -/
theorem k_read_6 {r e ss N p : Nat} {S : Nat → Int32} (ha : ob sk L 5 a) (h1 : ob sk L 10 r) (h3 : ar sk L 0 N e) (hss : ss ≤ N) (hN : N < 2 ^ 30) (hp : p < 2 ^ 29) (har : a ≠ r) : ∀ (d k f : Nat) (τ : px_TT), fN τ r 0 = some e → eI τ e = S → fI τ r 1 = nI ss → k + d = 20 → d < f → isNm τ a (tk (fun i => if i < ss then b8 (S i) else 0) p k) → ∃ τ', f_Name_read_6 F c f a r (nI p) (nI k) (cH sk L τ) = some ((), cH sk L τ') ∧ frN a τ τ' ∧ isNm τ' a (tk (fun i => if i < ss then b8 (S i) else 0) p (k + run (fun i => if i < ss then b8 (S i) else 0) (p + k) d)) := by
  have hlt : ∀ i, (fun i => if i < ss then b8 (S i) else 0) i < 256 := by
    intro i
    show (if i < ss then b8 (S i) else 0) < 256
    split
    · exact b8_lt _
    · decide
  intro d
  induction d with
  | zero =>
    intro k f τ h2 h4 h5 hk hf hw
    obtain ⟨f, rfl⟩ : ∃ g, f = g + 1 := ⟨f - 1, by omega⟩
    refine ⟨τ, ?_, frN_refl _ _, hw⟩
    unfold f_Name_read_6
    rw [if_pos (nI_le (by omega) (by omega))]
    rfl
  | succ d ih =>
    intro k f τ h2 h4 h5 hk hf hw
    obtain ⟨f, rfl⟩ : ∃ g, f = g + 1 := ⟨f - 1, by omega⟩
    have hx := hlt (p + k)
    unfold f_Name_read_6
    rw [if_neg (nI_ge (by omega) (by omega)), c_o h1, bs, nI_add, k_rowAt h1 h2 h3 h4 h5 hss (by omega) (by omega), xb_mk, show (0 : Int32) = nI 0 from rfl]
    simp only [nI_eq (show (if p + k < ss then b8 (S (p + k)) else 0) < 2 ^ 31 from Nat.lt_trans hx (by decide)) (show 0 < 2 ^ 31 by decide)]
    rw [show run (fun i => if i < ss then b8 (S i) else 0) (p + k) (d + 1) = if (if p + k < ss then b8 (S (p + k)) else 0) = 0 then 0 else run (fun i => if i < ss then b8 (S i) else 0) (p + k + 1) d + 1 from rfl]
    by_cases c1 : (if p + k < ss then b8 (S (p + k)) else 0) = 0
    · rw [if_pos c1, if_pos c1, Nat.add_zero]
      exact ⟨τ, rfl, frN_refl _ _, hw⟩
    · rw [if_neg c1, if_neg c1, c_o h1, bs, k_rowAt h1 h2 h3 h4 h5 hss (by omega) (by omega), xb_mk, c_o ha, bs]
      obtain ⟨τ1, g1, g2, g3⟩ := k_append (F := F) (c := c) (x := if p + k < ss then b8 (S (p + k)) else 0) ha hw (by rw [tk_len]; omega) (tk_lt hlt p k) hx
      rw [g1, xb_mk, nI_add]
      obtain ⟨τ', i1, i2, i3⟩ := ih (k + 1) f τ1 ((g2.2.2.1 r 0).trans h2) ((g2.2.2.2.1 e).trans h4) ((g2.1 r 1 (Or.inr (by decide))).trans h5) (by omega) (by omega) g3
      refine ⟨τ', i1, frN_trans g2 i2, ?_⟩
      rw [show k + (run (fun i => if i < ss then b8 (S i) else 0) (p + k + 1) d + 1) = k + 1 + run (fun i => if i < ss then b8 (S i) else 0) (p + (k + 1)) d by rw [show p + (k + 1) = p + k + 1 by omega]; omega]
      exact i3
theorem k_nread {r e ss N p : Nat} {S : Nat → Int32} (ha : ob sk L 5 a) (h1 : ob sk L 10 r) (h3 : ar sk L 0 N e) (hss : ss ≤ N) (hN : N < 2 ^ 30) (hp : p < 2 ^ 29) (har : a ≠ r) (hF : 20 < F) (h2 : fN τ r 0 = some e) (h4 : eI τ e = S) (h5 : fI τ r 1 = nI ss) : ∃ τ', f_Name_read F c a r (nI p) (cH sk L τ) = some ((), cH sk L τ') ∧ frN a τ τ' ∧ isNm τ' a (tk (fun i => if i < ss then b8 (S i) else 0) p (run (fun i => if i < ss then b8 (S i) else 0) p 20)) := by
  obtain ⟨τ1, g1, g2, g3⟩ := k_wipe (F := F) (c := c) (τ := τ) ha
  obtain ⟨τ', i1, i2, i3⟩ := k_read_6 (F := F) (c := c) ha h1 h3 hss hN hp har 20 0 F τ1 ((g2.2.2.1 r 0).trans h2) ((g2.2.2.2.1 e).trans h4) ((g2.1 r 1 (Or.inr (by decide))).trans h5) rfl hF g3
  refine ⟨τ', ?_, frN_trans g2 i2, ?_⟩
  · unfold f_Name_read
    rw [c_o ha, bs, g1, xb_mk, i1]
  · rw [Nat.zero_add, Nat.add_zero] at i3
    exact i3
/-- a row of names (at N, its array A of length m) holds the list ws; where each stands: ps -/
def isNs (sk : Nat → Nat × Nat × Nat) (L : Nat) (τ : px_TT) (N A m : Nat) (ws : List (List Nat)) (ps : Nat → Nat) : Prop := ob sk L 6 N ∧ fN τ N 0 = some A ∧ ar sk L 5 m A ∧ ws.length ≤ m ∧ m < 2 ^ 30 ∧ fI τ N 2 = nI ws.length ∧ ∀ i w, ws[i]? = some w → okN w ∧ eN τ A i = some (ps i) ∧ ob sk L 5 (ps i) ∧ isNm τ (ps i) w
/-- the first place of w in ws, from i on -/
def idx (w : List Nat) : Nat → List (List Nat) → Option Nat
  | _, [] => none
  | i, v :: l => if v = w then some i else idx w (i + 1) l
theorem k_find_2 {N A m t : Nat} {ws : List (List Nat)} {ps : Nat → Nat} (hns : isNs sk L τ N A m ws ps) (ht : ob sk L 5 t) (hw : isNm τ t w) (hok : okN w) : ∀ (d i f : Nat), i + d = ws.length → d < f → f_Names_find_2 F c f N (some t) (nI i) (cH sk L τ) = some ((idx w i (ws.drop i)).map ps, cH sk L τ) := by
  obtain ⟨s1, s2, s3, s4, s5, s6, s7⟩ := hns
  have hwb := okN_b hok
  intro d
  induction d with
  | zero =>
    intro i f hi hf
    obtain ⟨f, rfl⟩ : ∃ g, f = g + 1 := ⟨f - 1, by omega⟩
    unfold f_Names_find_2
    rw [C6g2 s1, bs, s6, if_pos (nI_le (by omega) (by omega)), List.drop_eq_nil_of_le (by omega)]
    rfl
  | succ d ih =>
    intro i f hi hf
    obtain ⟨f, rfl⟩ : ∃ g, f = g + 1 := ⟨f - 1, by omega⟩
    have hil : i < ws.length := by omega
    obtain ⟨v1, v2, v3, v4⟩ := s7 i ws[i] (List.getElem?_eq_getElem hil)
    have hvb := okN_b v1
    have e1 : ws.drop i = ws[i] :: ws.drop (i + 1) := List.drop_eq_getElem_cons hil
    unfold f_Names_find_2
    rw [C6g2 s1, bs, s6, if_neg (nI_ge hil (by omega)), C6r0 s1 s2, bs, c_l s3 (by decide), bs, if_neg (nI_ge (by omega) (by omega)), bs, c_aN s3 (Or.inr (Or.inl rfl)) (by omega) (by omega), bs, v2, e1]
    show (xgJ (cH sk L τ) 5 0 (ps i)).bind _ = some ((if ws[i] = w then some i else idx w (i + 1) (ws.drop (i + 1))).map ps, cH sk L τ)
    rw [C5g0 v3, bs, v4.1]
    show (xgJ (cH sk L τ) 5 0 t).bind _ = _
    rw [C5g0 ht, bs, hw.1]
    simp only [f_Names_find_79, f_Names_find_77, nI_add, ih (i + 1) f (by omega) (by omega), C5g1 v3, C5g1 ht, C5g2 v3, C5g2 ht, C5g3 v3, C5g3 ht, bs, v4.2.1, hw.2.1, v4.2.2.1, hw.2.2.1, v4.2.2.2, hw.2.2.2, lEQ hvb.1 hwb.1, lEQ hvb.2.1 hwb.2.1, lEQ hvb.2.2 hwb.2.2, nI_eq (show ws[i].length < 2 ^ 31 from Nat.lt_of_le_of_lt v1.1 (by decide)) (show w.length < 2 ^ 31 from Nat.lt_of_le_of_lt hok.1 (by decide))]
    by_cases c1 : ws[i] = w
    · rw [if_pos c1]
      rw [c1, if_pos rfl, if_pos rfl, if_pos rfl, if_pos rfl]
      rfl
    · rw [if_neg c1]
      by_cases d1 : nmL ws[i] = nmL w
      · rw [if_pos d1]
        by_cases d2 : nmM ws[i] = nmM w
        · rw [if_pos d2]
          by_cases d3 : nmH ws[i] = nmH w
          · rw [if_pos d3]
            by_cases d4 : ws[i].length = w.length
            · exact absurd (nm_inj v1 hok d1 d2 d3 d4) c1
            · rw [if_neg d4]
          · rw [if_neg d3]
        · rw [if_neg d2]
      · rw [if_neg d1]
theorem k_find {N A m t : Nat} {ws : List (List Nat)} {ps : Nat → Nat} (hns : isNs sk L τ N A m ws ps) (ht : ob sk L 5 t) (hw : isNm τ t w) (hok : okN w) (hF : ws.length < F) : f_Names_find F c N (some t) (cH sk L τ) = some ((idx w 0 ws).map ps, cH sk L τ) := by
  unfold f_Names_find
  rw [k_find_2 hns ht hw hok ws.length 0 F (by omega) hF, List.drop_zero]
end CNM
end
section
/-! drop and feed, on both sides -/
section DRP
variable {F : Nat} {c : px_CT} {sk : Nat → Nat × Nat × Nat} {L : Nat} {τ : px_TT} {n : Nat} {b : Nat → Nat} {fs : List (Nat × (Nat → Nat))} {x : Nat × (Nat → Nat)}
theorem k_drop (hS : GS sk L) (hR : GR τ) (hF : 8 < F) (ht : CTp τ n b) (hf : CF sk L τ (fs ++ [x])) : ∃ τ', f_H_drop F c 0 (cH sk L τ) = some (nI fs.length, cH sk L τ') ∧ GR τ' ∧ CTp τ' n b ∧ CF sk L τ' fs ∧ frD fs.length τ τ' ∧ ∀ j, j < 8 → clF τ' (10 + 2 * (8 * fs.length + j)) := by
  have hlen : (fs ++ [x]).length = fs.length + 1 := by rw [List.length_append]; rfl
  obtain ⟨c1, c2, c3, c4, c5, c6, c7⟩ := id hf
  rw [hlen] at c1 c2 c5 c7
  have hfl : fs.length < 8 := by omega
  have hR1 : GR (tI τ 0 6 (nI fs.length)) := GR_I hR (by omega)
  have h138 : eI (tI τ 0 6 (nI fs.length)) 138 fs.length = nI (off fs fs.length) := by
    show eI τ 138 fs.length = _
    rw [c5 fs.length (by omega), off_app (Nat.le_refl _)]
  obtain ⟨τ5, g1, g2, g3⟩ := k_clearFile (F := F) (c := c) hS hR1 hF hfl h138
  obtain ⟨τ6, hτ6⟩ : ∃ t, t = tI τ5 7 1 (nI (off fs fs.length)) := ⟨_, rfl⟩
  have hI6 : ∀ a k, (a ≠ 7 ∨ k ≠ 1) → fI τ6 a k = fI τ5 a k := fun a k h => by rw [hτ6]; exact u2_ne h
  have hI5 : ∀ a k, (a < 10 + 16 * fs.length ∨ 10 + 16 * (fs.length + 1) ≤ a) → (a ≠ 0 ∨ k ≠ 6) → fI τ5 a k = fI τ a k := fun a k ha h0 => (g2.1 a k (by omega)).trans (tI_ne h0)
  have h65 : fI τ5 0 6 = nI fs.length := (g2.1 0 6 (by omega)).trans tI_at
  have hE6 : ∀ a, (a < 10 + 16 * fs.length ∨ 10 + 16 * (fs.length + 1) ≤ a) → a ≠ 139 → eI τ6 a = eI τ a := fun a ha h9 => by rw [hτ6]; exact g2.2.2.2.2.1 a (by omega) h9
  have hN6 : ∀ a k, fN τ6 a k = fN τ a k := fun a k => by rw [hτ6]; exact g2.2.2.2.1 a k
  have h86 : eI τ6 8 = eI τ 8 := hE6 8 (by omega) (by decide)
  refine ⟨τ6, ?_, ?_, ?_, ?_, ?_⟩
  · unfold f_H_drop
    rw [C0g6 (G0 hS), bs, c1, if_pos (show (0 : Int32) < nI (fs.length + 1) from nI_lt (a := 0) (by omega) (by omega)), bs, pk_sub (by omega), Nat.add_sub_cancel, C0p6 (G0 hS), bs, C0g6 (G0 hS), bs, tI_at, c_o (G0 hS), bs, g1, xb_mk, ← hτ6, C0g6 (G0 hS), bs, hI6 0 6 (by decide), h65]
  · rw [hτ6]; exact GR_I (GR_F hR1 g2) (by omega)
  · have e2 : eI τ6 2 = eI τ 2 := hE6 2 (by omega) (by decide)
    exact ⟨(hI6 1 1 (by decide)).trans ((hI5 1 1 (by omega) (by decide)).trans ht.1), ht.2.1, by rw [e2]; exact ht.2.2.1, by rw [e2]; exact ht.2.2.2⟩
  · refine ⟨?_, by omega, by rw [h86]; exact c3, ?_, ?_, ?_, ?_⟩
    · rw [hI6 0 6 (by decide)]; exact h65
    · rw [hτ6]; exact tI_at
    · intro k hk
      rw [hE6 138 (by omega) (by decide), c5 k (by omega), off_app hk]
    · intro f y hy
      have e : f < fs.length := (List.getElem?_eq_some_iff.mp hy).1
      have hy' : (fs ++ [x])[f]? = some y := by rw [List.getElem?_append_left e]; exact hy
      have := CF_old (τ' := τ6) (o := fs.length) hf hN6 (by rw [h86]; exact c3) (by
        intro q hq
        refine ⟨fun i _ _ => ?_, ?_⟩
        · rw [hI6 _ _ (Or.inl (by omega)), hI5 _ _ (by omega) (Or.inl (by omega))]
        · rw [hE6 _ (by omega) (by omega)]) (by rw [h86]; exact fun _ _ => rfl) (by rw [hlen]; omega) f y e hy'
      rw [off_app (by omega)] at this
      exact this
    · intro f j hf1 hf8 hj
      rw [hI6 _ _ (Or.inl (by omega))]
      by_cases e : f = fs.length
      · rw [e]; exact (g3 j hj).1
      · rw [hI5 _ _ (by omega) (Or.inl (by omega))]
        exact c7 f j (by omega) hf8 hj
  · refine ⟨⟨?_, ?_, hN6, ?_, ?_, ?_, ?_⟩, fun j hj => ?_⟩
    · intro a k h0 _ h7 ha
      rw [hI6 _ _ h7, hI5 _ _ (by omega) h0]
    · intro a k; rw [hτ6]; exact g2.2.2.1 a k
    · intro a _ _ h139 ha
      exact hE6 a (by omega) h139
    · intro a; rw [hτ6]; exact g2.2.2.2.2.2.1 a
    · intro a; rw [hτ6]; exact g2.2.2.2.2.2.2.1 a
    · intro a ha
      have u := g2.2.2.2.2.2.2.2 a
      exact ⟨zK_t (zK_t (zK_e (tI_ne (Or.inr (by decide)))) u.1) (zK_e (hI6 a 15 (Or.inr (by decide)))), zK_t (zK_t (zK_e (tI_ne (Or.inr (by decide)))) u.2) (zK_e (hI6 a 16 (Or.inr (by decide))))⟩
    · unfold clF
      rw [hI6 _ _ (Or.inl (by omega)), hI6 _ _ (Or.inl (by omega)), hI6 _ _ (Or.inl (by omega))]
      exact g3 j hj
/-- eight bytes of a long -/
def vb (v k : Nat) : Nat := v / 256 ^ k % 256
theorem b8_n : ∀ n, n < 256 → b8 (nI n).toInt8.toInt32 = n := by decide +kernel
theorem isB_n8 : ∀ n, n < 256 → isB (nI n).toInt8.toInt32 := by
  have : ∀ n, n < 256 → (nI n).toInt8.toInt32 = (nI (b8 (nI n).toInt8.toInt32)).toInt8.toInt32 := by decide +kernel
  exact this
theorem toInt8_mod (n : Nat) : (nI n).toInt8.toInt32 = (nI (n % 256)).toInt8.toInt32 := by
  have e : (nI n).toInt8 = (nI (n % 256)).toInt8 := by
    apply Int8.toBitVec_inj.mp
    apply BitVec.eq_of_toNat_eq
    rw [Int32.toBitVec_toInt8, Int32.toBitVec_toInt8, BitVec.signExtend_eq_setWidth_of_le _ (by decide), BitVec.signExtend_eq_setWidth_of_le _ (by decide), BitVec.toNat_setWidth, BitVec.toNat_setWidth]
    show (n % 2 ^ 32) % 2 ^ 8 = (n % 256 % 2 ^ 32) % 2 ^ 8
    omega
  rw [e]
/-- a byte of a long, shifted with its sign -/
theorem sshr_byte {v k : Nat} (hv : v < 2 ^ 64) (hk : k < 8) : (lN v >>> ((nI (8 * k)).toInt64 &&& 63)).toInt32.toInt8 = (nI (v / 2 ^ (8 * k))).toInt8 := by
  apply Int8.toBitVec_inj.mp
  apply BitVec.eq_of_getLsbD_eq
  intro i hi
  have e1 : ((nI (8 * k)).toInt64 &&& 63) = lN (8 * k) := wb_c (8 * k) (by omega)
  have e2 : (lN (8 * k)).toBitVec.smod 64 = BitVec.ofNat 64 (8 * k) := wb_sm (8 * k) (by omega)
  rw [e1, Int32.toBitVec_toInt8, Int32.toBitVec_toInt8, Int64.toBitVec_toInt32, Int64.toBitVec_shiftRight, BitVec.signExtend_eq_setWidth_of_le _ (by decide), BitVec.signExtend_eq_setWidth_of_le _ (by decide), BitVec.signExtend_eq_setWidth_of_le _ (by decide)]
  rw [e2]
  show (BitVec.setWidth 8 (BitVec.setWidth 32 ((lN v).toBitVec.sshiftRight (BitVec.ofNat 64 (8 * k)).toNat))).getLsbD i = _
  rw [show (BitVec.ofNat 64 (8 * k)).toNat = 8 * k from Nat.mod_eq_of_lt (by omega), BitVec.getLsbD_setWidth, BitVec.getLsbD_setWidth, BitVec.getLsbD_sshiftRight, BitVec.getLsbD_setWidth]
  have e3 : (lN v).toBitVec.getLsbD (8 * k + i) = v.testBit (8 * k + i) := by
    show (BitVec.ofNat 64 v).getLsbD (8 * k + i) = _
    rw [BitVec.getLsbD_ofNat]
    simp [show 8 * k + i < 64 by omega]
  have e4 : (nI (v / 2 ^ (8 * k))).toBitVec.getLsbD i = v.testBit (8 * k + i) := by
    show (BitVec.ofNat 32 (v / 2 ^ (8 * k))).getLsbD i = _
    rw [BitVec.getLsbD_ofNat, Nat.testBit_div_two_pow, Nat.add_comm i]
    simp [show i < 32 by omega]
  rw [e3, e4]
  simp [hi, show i < 32 by omega, show i < 64 by omega, show ¬ 64 ≤ i by omega, show 8 * k + i < 64 by omega]
/-- the tape with k bytes of v behind its n -/
def fdd (b : Nat → Nat) (n v k i : Nat) : Nat := if i < n then b i else if i < n + k then vb v (i - n) else 0
theorem fdd_s {B : Nat → Int32} {n v k : Nat} {b : Nat → Nat} (h : cb B 0 (n + k) = fdd b n v k) : cb (upd B (n + k) (nI (v / 256 ^ k)).toInt8.toInt32) 0 (n + (k + 1)) = fdd b n v (k + 1) := by
  funext i
  have h1 := congrFun h i
  unfold cb fdd at h1 ⊢
  rw [Nat.zero_add] at h1 ⊢
  by_cases c1 : i < n + k
  · rw [if_pos c1] at h1
    rw [if_pos (by omega), upd_ne (by omega), h1]
    by_cases c2 : i < n
    · rw [if_pos c2, if_pos c2]
    · rw [if_neg c2, if_neg c2, if_pos c1, if_pos (by omega)]
  · by_cases c2 : i = n + k
    · rw [c2, if_pos (by omega), upd_eq, if_neg (by omega), if_pos (by omega), toInt8_mod, b8_n _ (Nat.mod_lt _ (by decide)), Nat.add_sub_cancel_left]
      rfl
    · rw [if_neg (by omega), if_neg (by omega), if_neg (by omega)]
theorem q_feed_54 {h : px_H} {m v w : Nat} (hv : v < 2 ^ 64) (hw : w ≤ 8) (hm : m ≤ h.length) (hn : n + w ≤ 8192) : ∀ (d k f : Nat) (σ : px_S), k + d = w → d < f → gI σ 2 = nI (n + k) → (∀ i, isB (gA σ 1 i)) → cb (gA σ 1) 0 (n + k) = fdd b n v k → ∃ σ', f_M_feed_54 F f m (nI w) (lN v) (nI k) (mh m h σ) = some (nI (n + w), mh m h σ') ∧ RT σ' (n + w) (fdd b n v w) ∧ (∀ i, i ≠ 2 → gI σ' i = gI σ i) ∧ (∀ i, gJ σ' i = gJ σ i) ∧ (∀ i, i ≠ 1 → gA σ' i = gA σ i) ∧ (∀ i, gB σ' i = gB σ i) := by
  intro d
  induction d with
  | zero =>
    intro k f σ hk hf h2 hB hc
    obtain ⟨f, rfl⟩ : ∃ g, f = g + 1 := ⟨f - 1, by omega⟩
    have hkw : k = w := by omega
    subst hkw
    refine ⟨σ, ?_, ⟨h2, hn, hB, hc⟩, fun _ _ => rfl, fun _ => rfl, fun _ _ => rfl, fun _ => rfl⟩
    unfold f_M_feed_54 f_M_feed_94
    rw [if_pos (nI_le (Nat.le_refl _) (by omega)), Mg2 hm, bs, h2]
  | succ d ih =>
    intro k f σ hk hf h2 hB hc
    obtain ⟨f, rfl⟩ : ∃ g, f = g + 1 := ⟨f - 1, by omega⟩
    unfold f_M_feed_54
    rw [if_neg (nI_ge (by omega) (by omega)), Mr1 hm, bs, Mg2 hm, bs, h2, pk_mul, sshr_byte hv (by omega), show 2 ^ (8 * k) = 256 ^ k by rw [Nat.pow_mul], isB_n (show isB (nI (v / 256 ^ k)).toInt8.toInt32 by rw [toInt8_mod]; exact isB_n8 _ (Nat.mod_lt _ (by decide))), Ms1 hm (by omega), bs, Mg2 hm, bs, show gI (sA σ 1 (upd (gA σ 1) (n + k) (nI (v / 256 ^ k)).toInt8.toInt32)) 2 = nI (n + k) from h2, nI_add, Mp2 hm, bs, nI_add]
    obtain ⟨σ', i1, i2, i3, i4, i5, i6⟩ := ih (k + 1) f (sI (sA σ 1 (upd (gA σ 1) (n + k) (nI (v / 256 ^ k)).toInt8.toInt32)) 2 (nI (n + k + 1))) (by omega) (by omega) (by rw [gI_sI, if_pos rfl, Nat.add_assoc]) (by
      intro i
      show isB (upd (gA σ 1) (n + k) (nI (v / 256 ^ k)).toInt8.toInt32 i)
      by_cases e : i = n + k
      · rw [e, upd_eq, toInt8_mod]; exact isB_n8 _ (Nat.mod_lt _ (by decide))
      · rw [upd_ne e]; exact hB i) (fdd_s hc)
    refine ⟨σ', i1, i2, ?_, ?_, ?_, ?_⟩
    · intro i hi
      rw [i3 i hi, gI_sI, if_neg hi]
      rfl
    · intro i; rw [i4 i]; rfl
    · intro i hi
      rw [i5 i hi]
      show gA (sA σ 1 _) i = _
      rw [gA_sA, if_neg hi]
    · intro i; rw [i6 i]; rfl
end DRP
end
section
/-! feed, on both sides; drop of the reference -/
section FED
variable {F m : Nat} {h : px_H} {σ : px_S} {c : px_CT} {sk : Nat → Nat × Nat × Nat} {L : Nat} {τ : px_TT} {n v w : Nat} {b : Nat → Nat} {fs : List (Nat × (Nat → Nat))} {x : Nat × (Nat → Nat)}
theorem vI_at {τ : px_TT} {a : Nat} {f : Nat → Int32} : eI (vI τ a f) a = f := (u1_eq : u1 τ.2.2.2.1 a f a = f)
theorem fdd_0 {B : Nat → Int32} (hB : cb B 0 n = b) : cb B 0 (n + 0) = fdd b n v 0 := by
  rw [Nat.add_zero]
  funext i
  unfold fdd
  by_cases c1 : i < n
  · rw [if_pos c1, hB]
  · rw [if_neg c1, if_neg (by omega)]
    exact if_neg c1
/-- nothing has changed but what feed changes -/
def frE (σ σ' : px_S) : Prop := (∀ i, i ≠ 0 → i ≠ 2 → gI σ' i = gI σ i) ∧ (∀ i, gJ σ' i = gJ σ i) ∧ (∀ i, i ≠ 1 → gA σ' i = gA σ i) ∧ (∀ i, gB σ' i = gB σ i)
theorem q_feed (hm : m ≤ h.length) (hF : 8 < F) (hv : v < 2 ^ 64) (h1 : 1 ≤ w) (hw : w ≤ 8) (hn : n + w ≤ 8192) (ht : RT σ n b) : ∃ σ', f_M_feed F m (nI w) (lN v) (mh m h σ) = some (nI (n + w), mh m h σ') ∧ RT σ' (n + w) (fdd b n v w) ∧ gI σ' 0 = nI 0 ∧ frE σ σ' := by
  obtain ⟨t1, t2, t3, t4⟩ := ht
  obtain ⟨σ', i1, i2, i3, i4, i5, i6⟩ := q_feed_54 (F := F) (h := h) (m := m) hv hw hm hn w 0 F (sI σ 0 (nI (thr false false))) (by omega) (by omega) (by rw [gI_sI, if_neg (by decide), Nat.add_zero]; exact t1) t3 (fdd_0 t4)
  refine ⟨σ', ?_, i2, ?_, ?_, ?_, ?_, ?_⟩
  · unfold f_M_feed f_M_feed_16 f_M_feed_42 f_M_feed_43
    rw [if_neg (nI_nlt h1 (by omega)), if_pos (nI_le hw (by decide)), if_pos (show nI 0 = 0 from rfl), Mg2 hm, bs, t1, nI_add, if_pos (nI_le hn (by decide)), e_o hm, bs, show nI 0 = bI false from rfl, q_throwing hm false false, xb_mk, if_pos (show bI (false || false) = 0 from rfl)]
    exact i1
  · rw [i3 0 (by decide), gI_sI, if_pos rfl]; rfl
  · intro i h0 h2
    rw [i3 i h2, gI_sI, if_neg h0]
  · intro i; rw [i4 i]; rfl
  · intro i hi; rw [i5 i hi]; rfl
  · intro i; rw [i6 i]; rfl
theorem q_feed_w {y : Int32} {z : Int64} (hm : m ≤ h.length) (hy : y < nI 1 ∨ ¬ y ≤ nI 8) : f_M_feed F m y z (mh m h σ) = some (nI 0, mh m h (sI σ 0 (nI 1))) := by
  have e : f_M_feed_11 F m y z (mh m h σ) = some (nI 0, mh m h (sI σ 0 (nI 1))) := by
    unfold f_M_feed_11 f_M_feed_16 f_M_feed_42 f_M_feed_43
    rw [if_neg (show ¬ nI 1 = 0 by decide), e_o hm, bs, show nI 1 = bI true from rfl, show nI 0 = bI false from rfl, q_throwing hm true false, xb_mk, if_neg (show ¬ bI (true || false) = 0 by decide)]
    rfl
  unfold f_M_feed
  by_cases c1 : y < nI 1
  · rw [if_pos c1, e]
  · rw [if_neg c1, if_neg (hy.resolve_left c1), e]
theorem q_feed_n {z : Int64} (hm : m ≤ h.length) (h1 : 1 ≤ w) (hw : w ≤ 8) (hn : ¬ n + w ≤ 8192) (ht : RT σ n b) : f_M_feed F m (nI w) z (mh m h σ) = some (nI 0, mh m h (sI σ 0 (nI 2))) := by
  obtain ⟨t1, t2, t3, t4⟩ := ht
  unfold f_M_feed f_M_feed_16 f_M_feed_43
  rw [if_neg (nI_nlt h1 (by omega)), if_pos (nI_le hw (by decide)), if_pos (show nI 0 = 0 from rfl), Mg2 hm, bs, t1, nI_add, if_neg (nI_ge (by omega) (by omega)), e_o hm, bs, show nI 0 = bI false from rfl, show nI 1 = bI true from rfl, q_throwing hm false true, xb_mk, if_neg (show ¬ bI (false || true) = 0 by decide)]
  rfl
/-- nothing has changed but what drop changes -/
theorem q_drop (hm : m ≤ h.length) (hf : RF σ (fs ++ [x])) : ∃ σ', f_M_drop F m (mh m h σ) = some (nI fs.length, mh m h σ') ∧ RF σ' fs ∧ gI σ' 0 = nI 0 ∧ (∀ i, i ≠ 0 → i ≠ 5 → gI σ' i = gI σ i) ∧ (∀ i, gJ σ' i = gJ σ i) ∧ (∀ i, gA σ' i = gA σ i) ∧ (∀ i, gB σ' i = gB σ i) := by
  have hlen : (fs ++ [x]).length = fs.length + 1 := by rw [List.length_append]; rfl
  obtain ⟨r1, r2, r3, r4⟩ := hf
  rw [hlen] at r1 r2
  refine ⟨sI (sI σ 0 (nI 0)) 5 (nI fs.length), ?_, ⟨?_, by omega, r3, ?_⟩, rfl, ?_, fun _ => rfl, fun _ => rfl, fun _ => rfl⟩
  · unfold f_M_drop f_M_drop_13
    rw [Mg5 hm, bs, r1, if_neg (show ¬ nI (fs.length + 1) = 0 from fun q => absurd ((nI_eq (b := 0) (by omega) (by omega)).mp q) (by omega)), e_o hm, bs, show nI 0 = bI false from rfl, q_throwing hm false false, xb_mk, if_pos (show bI (false || false) = 0 from rfl), Mg5 hm, bs, show gI (sI σ 0 (nI (thr false false))) 5 = nI (fs.length + 1) from r1, pk_sub (by omega), Nat.add_sub_cancel, Mp5 hm, bs, Mg5 hm, bs]
    rfl
  · rw [gI_sI, if_pos rfl]
  · intro f y hy
    have e : f < fs.length := (List.getElem?_eq_some_iff.mp hy).1
    have hy' : (fs ++ [x])[f]? = some y := by rw [List.getElem?_append_left e]; exact hy
    exact RF1_eq (r4 f y hy') rfl rfl rfl (fun _ _ _ => ⟨rfl, rfl, rfl⟩)
  · intro i h0 h5
    rw [gI_sI, if_neg h5, gI_sI, if_neg h0]
theorem q_drop_n (hm : m ≤ h.length) (hf : RF σ []) : f_M_drop F m (mh m h σ) = some (nI 0, mh m h (sI σ 0 (nI 1))) := by
  obtain ⟨r1, r2, r3, r4⟩ := hf
  unfold f_M_drop f_M_drop_13
  rw [Mg5 hm, bs, r1, if_pos (show nI ([] : List (Nat × (Nat → Nat))).length = 0 from rfl), e_o hm, bs, show nI 1 = bI true from rfl, show nI 0 = bI false from rfl, q_throwing hm true false, xb_mk, if_neg (show ¬ bI (true || false) = 0 by decide)]
  rfl
/-- the class's feed -/
theorem shr_byte {k : Nat} (hv : v < 2 ^ 64) (hk : k < 8) : (((lN v).toUInt64 >>> ((nI (8 * k)).toInt64.toUInt64 &&& Int64.toUInt64 63)).toInt64).toInt32 = nI (v / 256 ^ k) := by
  rw [wb_shr hv (by omega), show 2 ^ (8 * k) = 256 ^ k by rw [Nat.pow_mul]]
  exact lN_i _
theorem k_put_3 (hS : GS sk L) (hv : v < 2 ^ 64) (hw : w ≤ 8) (hn : n + w ≤ 8192) : ∀ (d k f : Nat) (τ : px_TT), k + d = w → d < f → GR τ → CTp τ (n + k) (fdd b n v k) → ∃ τ', f_Row_put_3 F c f 1 (nI w) (lN v) (nI k) (cH sk L τ) = some ((), cH sk L τ') ∧ GR τ' ∧ CTp τ' (n + w) (fdd b n v w) ∧ (∀ a k, (a ≠ 1 ∨ k ≠ 1) → fI τ' a k = fI τ a k) ∧ (∀ a k, fJ τ' a k = fJ τ a k) ∧ (∀ a k, fN τ' a k = fN τ a k) ∧ (∀ a, a ≠ 2 → eI τ' a = eI τ a) ∧ (∀ a, eJ τ' a = eJ τ a) ∧ (∀ a, eN τ' a = eN τ a) := by
  intro d
  induction d with
  | zero =>
    intro k f τ hk hf hR ht
    obtain ⟨f, rfl⟩ : ∃ g, f = g + 1 := ⟨f - 1, by omega⟩
    have hkw : k = w := by omega
    subst hkw
    refine ⟨τ, ?_, hR, ht, fun _ _ _ => rfl, fun _ _ => rfl, fun _ _ => rfl, fun _ _ => rfl, fun _ => rfl, fun _ => rfl⟩
    unfold f_Row_put_3 f_Row_put_63
    rw [if_pos (nI_le (Nat.le_refl _) (by omega))]
  | succ d ih =>
    intro k f τ hk hf hR ht
    obtain ⟨f, rfl⟩ : ∃ g, f = g + 1 := ⟨f - 1, by omega⟩
    obtain ⟨t1, t2, t3, t4⟩ := ht
    obtain ⟨τ1, hτ1⟩ : ∃ t, t = tI (vI τ 2 (upd (eI τ 2) (n + k) (nI (v / 256 ^ k)).toInt8.toInt32)) 1 1 (nI (n + k + 1)) := ⟨_, rfl⟩
    have hI : ∀ a k, (a ≠ 1 ∨ k ≠ 1) → fI τ1 a k = fI τ a k := fun a k h => by rw [hτ1]; exact tI_ne h
    have hE : ∀ a, a ≠ 2 → eI τ1 a = eI τ a := fun a h => by rw [hτ1]; exact u1_ne h
    have hE2 : eI τ1 2 = upd (eI τ 2) (n + k) (nI (v / 256 ^ k)).toInt8.toInt32 := by rw [hτ1]; exact vI_at
    have hR1 : GR τ1 := by rw [hτ1]; exact GR_I (GR_vI hR) (by omega)
    obtain ⟨τ', i1, i2, i3, i4, i5, i6, i7, i8, i9⟩ := ih (k + 1) f τ1 (by omega) (by omega) hR1 (by
      refine ⟨?_, by omega, ?_, ?_⟩
      · rw [hτ1, ← Nat.add_assoc]; exact tI_at
      · intro i
        rw [hE2]
        by_cases e : i = n + k
        · rw [e, upd_eq, toInt8_mod]; exact isB_n8 _ (Nat.mod_lt _ (by decide))
        · rw [upd_ne e]; exact t3 i
      · rw [hE2]; exact fdd_s t4)
    refine ⟨τ', ?_, i2, i3, fun a k h => (i4 a k h).trans (hI a k h), fun a k => (i5 a k).trans (by rw [hτ1]; rfl), fun a k => (i6 a k).trans (by rw [hτ1]; rfl), fun a h => (i7 a h).trans (hE a h), fun a => (i8 a).trans (by rw [hτ1]; rfl), fun a => (i9 a).trans (by rw [hτ1]; rfl)⟩
    unfold f_Row_put_3 f_Row_put_57
    rw [if_neg (nI_ge (by omega) (by omega)), C10g1 (G1 hS), bs, C10r0 (G1 hS) (R1_0 hR), bs, c_l (G2 hS) (by decide), bs, t1, if_neg (nI_ge (by omega) (by omega)), bs, bs, pk_mul, shr_byte hv (by omega), isB_n (show isB (nI (v / 256 ^ k)).toInt8.toInt32 by rw [toInt8_mod]; exact isB_n8 _ (Nat.mod_lt _ (by decide))), c_sI (G2 hS) (by decide) (by decide) (by omega), bs, C10g1 (G1 hS), bs, show fI (vI τ 2 (upd (eI τ 2) (n + k) (nI (v / 256 ^ k)).toInt8.toInt32)) 1 1 = nI (n + k) from t1, nI_add, C10p1 (G1 hS), bs, nI_add, ← hτ1]
    exact i1
theorem k_feed (hS : GS sk L) (hR : GR τ) (hF : 8 < F) (hv : v < 2 ^ 64) (h1 : 1 ≤ w) (hw : w ≤ 8) (hn : n + w ≤ 8192) (ht : CTp τ n b) : ∃ τ', f_H_feed F c 0 (nI w) (lN v) (cH sk L τ) = some (nI (n + w), cH sk L τ') ∧ GR τ' ∧ CTp τ' (n + w) (fdd b n v w) ∧ (∀ a k, (a ≠ 1 ∨ k ≠ 1) → fI τ' a k = fI τ a k) ∧ (∀ a k, fJ τ' a k = fJ τ a k) ∧ (∀ a k, fN τ' a k = fN τ a k) ∧ (∀ a, a ≠ 2 → eI τ' a = eI τ a) ∧ (∀ a, eJ τ' a = eJ τ a) ∧ (∀ a, eN τ' a = eN τ a) := by
  obtain ⟨t1, t2, t3, t4⟩ := ht
  obtain ⟨τ', i1, i2, i3, i4⟩ := k_put_3 (F := F) (c := c) hS hv hw hn w 0 F τ (by omega) (by omega) hR ⟨by rw [Nat.add_zero]; exact t1, by omega, t3, fdd_0 t4⟩
  refine ⟨τ', ?_, i2, i3, i4⟩
  unfold f_H_feed f_Row_put
  rw [if_neg (nI_nlt h1 (by omega)), if_pos (nI_le hw (by decide)), C0r0 (G0 hS) (R0_0 hR), bs, C10g1 (G1 hS), bs, t1, nI_add, if_pos (nI_le hn (by decide)), bs, c_o (G1 hS), bs, i1, xb_mk, C0r0 (G0 hS) (R0_0 i2), bs, C10g1 (G1 hS), bs, i3.1]
end FED
end
section
/-! names told: give, wish, forget of the reference -/
def nzf (b : Nat → Nat) : Nat → Nat → Bool
  | _, 0 => true
  | k, d + 1 => decide (b k ≠ 0) && nzf b (k + 1) d
/-- the tape is a name -/
def tnm (b : Nat → Nat) (n : Nat) : Bool := decide (1 ≤ n) && decide (n ≤ 20) && nzf b 0 n
theorem isB_0 {x : Int32} (h : isB x) : x = 0 ↔ b8 x = 0 := by
  constructor
  · intro e; rw [e]; decide
  · intro e
    rw [h, e]; decide
theorem isB_inj {x : Nat} {y : Int32} (hy : isB y) (hx : x < 256) : (nI x).toInt8.toInt32 = y ↔ x = b8 y := by
  constructor
  · intro e; rw [← e, b8_n x hx]
  · intro e
    rw [hy, ← e]
theorem tk_get (b : Nat → Nat) (p : Nat) : ∀ (k j : Nat), j < k → (tk b p k)[j]? = some (b (p + j))
  | 0, j, h => absurd h (Nat.not_lt_zero _)
  | k + 1, j, h => by
    show (tk b p k ++ [b (p + k)])[j]? = _
    by_cases c : j < k
    · rw [List.getElem?_append_left (by rw [tk_len]; exact c)]
      exact tk_get b p k j c
    · rw [List.getElem?_append_right (by rw [tk_len]; omega), tk_len, show j = k by omega, Nat.sub_self]
      rfl
def eqb (A T : Nat → Int32) (o : Nat) : Nat → Nat → Bool
  | _, 0 => true
  | k, d + 1 => decide (A (o + k) = T k) && eqb A T o (k + 1) d
theorem eqb_iff {A T : Nat → Int32} {o : Nat} : ∀ (d k : Nat), eqb A T o k d = true ↔ ∀ j, k ≤ j → j < k + d → A (o + j) = T j
  | 0, k => by
    constructor
    · intro _ j h1 h2; omega
    · intro _; rfl
  | d + 1, k => by
    unfold eqb
    rw [Bool.and_eq_true, decide_eq_true_iff, eqb_iff d (k + 1)]
    constructor
    · intro h j h1 h2
      by_cases c : j = k
      · rw [c]; exact h.1
      · exact h.2 j (by omega) (by omega)
    · intro h
      exact ⟨h k (Nat.le_refl _) (by omega), fun j h1 h2 => h j (by omega) (by omega)⟩
/-- a list of names, as the reference has it -/
def RN (σ : px_S) (ka kb : Nat) (ws : List (List Nat)) : Prop := ws.length ≤ 16 ∧ ∀ i w, ws[i]? = some w → okN w ∧ gA σ kb i = nI w.length ∧ ∀ j x, w[j]? = some x → gA σ ka (20 * i + j) = (nI x).toInt8.toInt32
/-- the answer of toldAt -/
def tdA : Option Nat → Int32
  | none => Int32.ofInt (-1)
  | some j => nI j
section TLD
variable {F m : Nat} {h : px_H} {σ : px_S} {n : Nat} {b : Nat → Nat}
theorem q_iT_24 (hm : m ≤ h.length) (ht : RT σ n b) : ∀ (d k f : Nat) (g : Bool), k + d = n → d < f → f_M_isTapeName_24 F f m (bI g) (nI k) (mh m h σ) = some (bI (g && nzf b k d), mh m h σ) := by
  obtain ⟨t1, t2, t3, t4⟩ := ht
  intro d
  induction d with
  | zero =>
    intro k f g hk hf
    obtain ⟨f, rfl⟩ : ∃ x, f = x + 1 := ⟨f - 1, by omega⟩
    unfold f_M_isTapeName_24 f_M_isTapeName_57
    rw [Mg2 hm, bs, t1, if_pos (nI_le (by omega) (by omega)), xz_b]
    unfold nzf
    rw [Bool.and_true]
  | succ d ih =>
    intro k f g hk hf
    obtain ⟨f, rfl⟩ : ∃ x, f = x + 1 := ⟨f - 1, by omega⟩
    unfold f_M_isTapeName_24 f_M_isTapeName_57 f_M_isTapeName_50
    rw [Mg2 hm, bs, t1, if_neg (nI_ge (by omega) (by omega))]
    cases g with
    | false =>
      rw [if_pos (show bI false = 0 from rfl), xz_b, Bool.false_and]
    | true =>
      have e : b8 (gA σ 1 k) = b k := by
        rw [← t4]
        unfold cb
        rw [if_pos (by omega), Nat.zero_add]
      rw [if_neg (show ¬ bI true = 0 by decide), Mr1 hm, bs, Ma1 hm (by omega), bs, nI_add]
      unfold nzf
      by_cases c : b k = 0
      · rw [if_pos ((isB_0 (t3 k)).mpr (e.trans c)), show nI 0 = bI false from rfl, ih (k + 1) f false (by omega) (by omega), decide_eq_false (fun q => q c)]
        rfl
      · rw [if_neg (fun q => c (e.symm.trans ((isB_0 (t3 k)).mp q))), show nI 1 = bI true from rfl, ih (k + 1) f true (by omega) (by omega), decide_eq_true c, Bool.true_and, Bool.true_and]
theorem q_isTapeName (hm : m ≤ h.length) (ht : RT σ n b) (hF : 8192 < F) : f_M_isTapeName F m (mh m h σ) = some (bI (tnm b n), mh m h σ) := by
  have t1 := ht.1
  have t2 := ht.2.1
  unfold f_M_isTapeName f_M_isTapeName_20 f_M_isTapeName_21 tnm
  rw [Mg2 hm, bs, t1]
  by_cases c1 : 1 ≤ n
  · rw [if_neg (show ¬ nI n ≤ 0 from nI_nle c1 (by omega)), bs, decide_eq_true c1, Bool.true_and]
    by_cases c2 : n ≤ 20
    · rw [if_neg (nI_nlt c2 (by omega)), decide_eq_true c2, show nI 1 = bI true from rfl, q_iT_24 hm ht n 0 F true (by omega) (by omega)]
    · rw [if_pos (nI_lt (by omega) (by omega)), decide_eq_false c2, show nI 0 = bI false from rfl, show bI false = nI 0 from rfl]
      have := q_iT_24 (F := F) hm ht n 0 F false (by omega) (by omega)
      rw [Bool.false_and] at this ⊢
      exact this
  · rw [if_pos (show nI n ≤ 0 from nI_le (b := 0) (by omega) (by omega)), decide_eq_false c1]
    have := q_iT_24 (F := F) hm ht n 0 F false (by omega) (by omega)
    rw [Bool.false_and] at this ⊢
    exact this
variable {ka kb pa pb : Nat} {ws : List (List Nat)} {k3 : Nat → Nat → Nat → Int32 → Int32 → px_H → Option (Int32 × px_H)}
theorem q_tA_30f (hm : m ≤ h.length) (ht : RT σ n b) {i k f : Nat} {z : Int32} (hf : 0 < f) : f_M_toldAt_30 F k3 f m pa pb z (nI i) (bI false) (nI k) (mh m h σ) = k3 m pa pb z (nI i + nI 1) (mh m h σ) := by
  obtain ⟨f, rfl⟩ : ∃ x, f = x + 1 := ⟨f - 1, by omega⟩
  unfold f_M_toldAt_30 f_M_toldAt_77
  rw [Mg2 hm, bs, if_pos (show bI false = 0 from rfl)]
  split
  · rfl
  · rfl
theorem q_tA_30 (hm : m ≤ h.length) (ht : RT σ n b) (hn : n ≤ 20) (hA : ∀ i, i < 320 → xaI (mh m h σ) 0 pa (nI i) = some (gA σ ka i)) {i : Nat} {z : Int32} (hi : i < 16) : ∀ (d k f : Nat), k + d = n → d < f → f_M_toldAt_30 F k3 f m pa pb z (nI i) (bI true) (nI k) (mh m h σ) = (if eqb (gA σ ka) (gA σ 1) (20 * i) k d = true then some (nI i, mh m h σ) else k3 m pa pb z (nI (i + 1)) (mh m h σ)) := by
  intro d
  have t1 := ht.1
  induction d with
  | zero =>
    intro k f hk hf
    obtain ⟨f, rfl⟩ : ∃ x, f = x + 1 := ⟨f - 1, by omega⟩
    unfold f_M_toldAt_30 f_M_toldAt_77 f_M_toldAt_82 eqb
    rw [Mg2 hm, bs, t1, if_pos (nI_le (by omega) (by omega)), if_neg (show ¬ bI true = 0 by decide), if_pos rfl]
  | succ d ih =>
    intro k f hk hf
    obtain ⟨f, rfl⟩ : ∃ x, f = x + 1 := ⟨f - 1, by omega⟩
    unfold f_M_toldAt_30 f_M_toldAt_69 eqb
    rw [Mg2 hm, bs, t1, if_neg (nI_ge (by omega) (by omega)), if_neg (show ¬ bI true = 0 by decide), pk_mul, nI_add, hA _ (by omega), bs, Mr1 hm, bs, Ma1 hm (by omega), bs, nI_add]
    by_cases c : gA σ ka (20 * i + k) = gA σ 1 k
    · rw [if_pos c, show nI 1 = bI true from rfl, ih (k + 1) f (by omega) (by omega), decide_eq_true c, Bool.true_and]
    · rw [if_neg c, show nI 0 = bI false from rfl, q_tA_30f hm ht (by omega), decide_eq_false c, Bool.false_and, if_neg (by decide), nI_add]
theorem told_iff (ht : RT σ n b) (hr : RN σ ka kb ws) {i : Nat} {w : List Nat} (hw : ws[i]? = some w) : (w.length = n ∧ eqb (gA σ ka) (gA σ 1) (20 * i) 0 n = true) ↔ w = tk b 0 n := by
  obtain ⟨t1, t2, t3, t4⟩ := ht
  obtain ⟨ok, e1, e2⟩ := hr.2 i w hw
  have eb : ∀ j, j < n → b8 (gA σ 1 j) = b j := by
    intro j hj
    rw [← t4]
    unfold cb
    rw [if_pos hj, Nat.zero_add]
  rw [eqb_iff]
  constructor
  · intro hh
    apply List.ext_getElem?
    intro j
    by_cases c : j < n
    · rw [tk_get b 0 n j c, Nat.zero_add]
      obtain ⟨x, hx⟩ : ∃ x, w[j]? = some x := ⟨w[j]'(by omega), List.getElem?_eq_getElem (by omega)⟩
      rw [hx]
      have e3 := hh.2 j (by omega) (by omega)
      rw [e2 j x hx] at e3
      rw [(isB_inj (t3 j) (ok.2 x (List.mem_of_getElem? hx))).mp e3, eb j c]
    · rw [List.getElem?_eq_none (by omega), List.getElem?_eq_none (by rw [tk_len]; omega)]
  · intro hh
    have hl : w.length = n := by rw [hh, tk_len]
    refine ⟨hl, fun j _ hj => ?_⟩
    have hx : w[j]? = some (b j) := by
      rw [hh, tk_get b 0 n j (by omega), Nat.zero_add]
    rw [e2 j _ hx]
    exact (isB_inj (t3 j) (ok.2 _ (List.mem_of_getElem? hx))).mpr (eb j (by omega)).symm
theorem q_tA_3 (hm : m ≤ h.length) (ht : RT σ n b) (hn : n ≤ 20) (hF : 20 < F) (hr : RN σ ka kb ws) (hA : ∀ i, i < 320 → xaI (mh m h σ) 0 pa (nI i) = some (gA σ ka i)) (hB : ∀ i, i < 16 → xaI (mh m h σ) 1 pb (nI i) = some (gA σ kb i)) : ∀ (d i f : Nat), i + d = ws.length → d < f → f_M_toldAt_3 F f m pa pb (nI ws.length) (nI i) (mh m h σ) = some (tdA (idx (tk b 0 n) i (ws.drop i)), mh m h σ) := by
  have t1 := ht.1
  have hl := hr.1
  intro d
  induction d with
  | zero =>
    intro i f hi hf
    obtain ⟨f, rfl⟩ : ∃ x, f = x + 1 := ⟨f - 1, by omega⟩
    unfold f_M_toldAt_3 f_M_toldAt_91
    rw [if_pos (nI_le (by omega) (by omega)), List.drop_eq_nil_of_le (by omega)]
    rfl
  | succ d ih =>
    intro i f hi hf
    obtain ⟨f, rfl⟩ : ∃ x, f = x + 1 := ⟨f - 1, by omega⟩
    have hil : i < ws.length := by omega
    obtain ⟨w, hw⟩ : ∃ w, ws[i]? = some w := ⟨ws[i], List.getElem?_eq_getElem hil⟩
    have hd : ws.drop i = w :: ws.drop (i + 1) := by
      rw [List.drop_eq_getElem_cons hil]
      rw [List.getElem?_eq_getElem hil] at hw
      cases hw
      rfl
    obtain ⟨ok, e1, e2⟩ := hr.2 i w hw
    have key := told_iff ht hr hw
    unfold f_M_toldAt_3 f_M_toldAt_25
    rw [if_neg (nI_ge (by omega) (by omega)), hB i (by omega), bs, Mg2 hm, bs, t1, e1, hd]
    unfold idx
    have hok := ok.1
    by_cases c : w.length = n
    · rw [if_pos (by rw [c]), show nI 1 = bI true from rfl, q_tA_30 (i := i) hm ht hn hA (by omega) n 0 F (by omega) (by omega)]
      by_cases c2 : eqb (gA σ ka) (gA σ 1) (20 * i) 0 n = true
      · rw [if_pos c2, if_pos (key.mp ⟨c, c2⟩)]
        rfl
      · rw [if_neg c2, if_neg (fun q => c2 (key.mpr q).2), ih (i + 1) f (by omega) (by omega)]
    · rw [if_neg (fun q => c ((nI_eq (by omega) (by omega)).mp q)), show nI 0 = bI false from rfl, show bI false = nI 0 from rfl, if_neg (fun q => c (key.mpr q).1)]
      have := q_tA_30f (F := F) (pa := pa) (pb := pb) (k3 := f_M_toldAt_3 F f) (i := i) (k := 0) (z := nI ws.length) hm ht (f := F) (by omega)
      rw [show nI 0 = bI false from rfl]
      rw [show nI 0 = bI false from rfl] at this
      rw [this, nI_add, ih (i + 1) f (by omega) (by omega)]
theorem q_toldAt (hm : m ≤ h.length) (ht : RT σ n b) (hn : n ≤ 20) (hF : 20 < F) (hr : RN σ ka kb ws) (hA : ∀ i, i < 320 → xaI (mh m h σ) 0 pa (nI i) = some (gA σ ka i)) (hB : ∀ i, i < 16 → xaI (mh m h σ) 1 pb (nI i) = some (gA σ kb i)) : f_M_toldAt F m pa pb (nI ws.length) (mh m h σ) = some (tdA (idx (tk b 0 n) 0 ws), mh m h σ) := by
  have := hr.1
  unfold f_M_toldAt
  rw [q_tA_3 hm ht hn hF hr hA hB ws.length 0 F (by omega) (by omega), List.drop_zero]
end TLD
end
section
/-! give, wish, forget of the reference -/
/-- the names given -/
def RG (σ : px_S) (gs : List (List Nat × Int64)) : Prop := gI σ 31 = nI gs.length ∧ RN σ 33 35 (gs.map Prod.fst) ∧ ∀ i x, gs[i]? = some x → gB σ 37 i = x.2
/-- the names wished -/
def RW (σ : px_S) (ws : List (List Nat)) : Prop := gI σ 32 = nI ws.length ∧ RN σ 34 36 ws
/-- nothing has changed but what the telling of a name changes -/
def frG (σ σ' : px_S) : Prop := (∀ k, k ≠ 0 → k ≠ 2 → k ≠ 31 → k ≠ 32 → gI σ' k = gI σ k) ∧ (∀ k, gJ σ' k = gJ σ k) ∧ (∀ k, k ≠ 37 → gB σ' k = gB σ k) ∧ (∀ k, k ≠ 33 → k ≠ 34 → k ≠ 35 → k ≠ 36 → gA σ' k = gA σ k)
theorem RN_eq {σ σ' : px_S} {ka kb : Nat} {ws : List (List Nat)} (h : RN σ ka kb ws) (h1 : gA σ' ka = gA σ ka) (h2 : gA σ' kb = gA σ kb) : RN σ' ka kb ws := by
  unfold RN at h ⊢
  rw [h1, h2]; exact h
theorem RN_add {σ σ' : px_S} {ka kb n : Nat} {b : Nat → Nat} {ws : List (List Nat)} (h : RN σ ka kb ws) (hl : ws.length < 16) (hn : n ≤ 20) (hT : ∀ k, isB (gA σ 1 k)) (hb : cb (gA σ 1) 0 n = b) (h1 : gA σ' ka = put (gA σ ka) (gA σ 1) (20 * ws.length) n) (h2 : gA σ' kb = upd (gA σ kb) ws.length (nI n)) : RN σ' ka kb (ws ++ [tk b 0 n]) := by
  refine ⟨by rw [List.length_append]; exact hl, fun i w hw => ?_⟩
  by_cases c : i < ws.length
  · rw [List.getElem?_append_left c] at hw
    obtain ⟨a1, a2, a3⟩ := h.2 i w hw
    refine ⟨a1, ?_, fun j x hx => ?_⟩
    · rw [h2, upd_ne (by omega), a2]
    · have hj : j < w.length := (List.getElem?_eq_some_iff.mp hx).1
      have := a1.1
      rw [h1]
      unfold put
      rw [if_neg (by omega)]
      exact a3 j x hx
  · rw [List.getElem?_append_right (by omega)] at hw
    have hi : i - ws.length = 0 := by
      have := (List.getElem?_eq_some_iff.mp hw).1
      simp at this
      omega
    rw [hi] at hw
    have hi2 : i = ws.length := by omega
    have hw2 : w = tk b 0 n := (Option.some.inj hw).symm
    have hb8 : ∀ k, b k < 256 := fun k => by rw [← hb]; exact cb_lt _ _ _ _
    refine ⟨⟨by rw [hw2, tk_len]; exact hn, by rw [hw2]; exact tk_lt hb8 0 n⟩, ?_, fun j x hx => ?_⟩
    · rw [h2, hi2, upd_eq, hw2, tk_len]
    · have hj : j < n := by
        have := (List.getElem?_eq_some_iff.mp hx).1
        rw [hw2, tk_len] at this
        exact this
      rw [hw2, tk_get b 0 n j hj, Nat.zero_add] at hx
      have hx2 : b j = x := Option.some.inj hx
      rw [h1, hi2]
      unfold put
      rw [if_pos (by omega), Nat.add_sub_cancel_left, ← hx2, ← hb]
      unfold cb
      rw [if_pos hj, Nat.zero_add]
      exact hT j
theorem idx_lt {w : List Nat} : ∀ {l : List (List Nat)} {k i : Nat}, idx w k l = some i → k ≤ i ∧ i < k + l.length
  | [], k, i, h => nomatch h
  | v :: l, k, i, h => by
    unfold idx at h
    rw [List.length_cons]
    by_cases c : v = w
    · rw [if_pos c] at h
      cases h
      omega
    · rw [if_neg c] at h
      have := idx_lt h
      omega
section TLE
variable {F m : Nat} {h : px_H} {σ : px_S} {n : Nat} {b : Nat → Nat}
theorem q_give_78 (hm : m ≤ h.length) {l : Nat} {v : Int64} (hl : l < 16) (hn : n ≤ 20) : ∀ (c k g : Nat) (σ : px_S) (B : Nat → Int32), k + c = n → c < g → gI σ 31 = nI l → (∀ k, isB (gA σ 1 k)) → gA σ 33 = put B (gA σ 1) (20 * l) k → f_M_give_78 F g m v (nI n) (nI k) (mh m h σ) = f_M_give_113 F m v (nI n) (mh m h (sA σ 33 (put B (gA σ 1) (20 * l) n))) := by
  intro c
  induction c with
  | zero =>
    intro k g σ B hk hg h5 hB h6
    obtain ⟨g, rfl⟩ : ∃ x, g = x + 1 := ⟨g - 1, by omega⟩
    unfold f_M_give_78
    rw [if_pos (nI_le (by omega) (by omega)), show n = k by omega, ← h6, sA_self]
  | succ c ih =>
    intro k g σ B hk hg h5 hB h6
    obtain ⟨g, rfl⟩ : ∃ x, g = x + 1 := ⟨g - 1, by omega⟩
    unfold f_M_give_78
    rw [if_neg (nI_ge (by omega) (by omega)), Mr33 hm, bs, Mg31 hm, bs, h5, Mr1 hm, bs, Ma1 hm (by omega), bs, pk_mul, nI_add, isB_n (hB k), Ms33 hm (by omega), bs, h6, put_s, nI_add, ih (k + 1) g (sA σ 33 (put B (gA σ 1) (20 * l) (k + 1))) B (by omega) (by omega) h5 hB rfl, sA_sA]
    rfl
theorem q_wish_75 (hm : m ≤ h.length) {l : Nat} (hl : l < 16) (hn : n ≤ 20) : ∀ (c k g : Nat) (σ : px_S) (B : Nat → Int32), k + c = n → c < g → gI σ 32 = nI l → (∀ k, isB (gA σ 1 k)) → gA σ 34 = put B (gA σ 1) (20 * l) k → f_M_wish_75 F g m (nI n) (nI k) (mh m h σ) = f_M_wish_109 F m (nI n) (mh m h (sA σ 34 (put B (gA σ 1) (20 * l) n))) := by
  intro c
  induction c with
  | zero =>
    intro k g σ B hk hg h5 hB h6
    obtain ⟨g, rfl⟩ : ∃ x, g = x + 1 := ⟨g - 1, by omega⟩
    unfold f_M_wish_75
    rw [if_pos (nI_le (by omega) (by omega)), show n = k by omega, ← h6, sA_self]
  | succ c ih =>
    intro k g σ B hk hg h5 hB h6
    obtain ⟨g, rfl⟩ : ∃ x, g = x + 1 := ⟨g - 1, by omega⟩
    unfold f_M_wish_75
    rw [if_neg (nI_ge (by omega) (by omega)), Mr34 hm, bs, Mg32 hm, bs, h5, Mr1 hm, bs, Ma1 hm (by omega), bs, pk_mul, nI_add, isB_n (hB k), Ms34 hm (by omega), bs, h6, put_s, nI_add, ih (k + 1) g (sA σ 34 (put B (gA σ 1) (20 * l) (k + 1))) B (by omega) (by omega) h5 hB rfl, sA_sA]
    rfl
theorem RT_clr {σ' : px_S} (ht : RT σ n b) (h2 : gI σ' 2 = nI 0) (h1 : gA σ' 1 = gA σ 1) : RT σ' 0 (fun _ => 0) := by
  refine ⟨h2, by omega, by rw [h1]; exact ht.2.2.1, ?_⟩
  funext i
  exact if_neg (Nat.not_lt_zero _)
/-- what give says of its name: 0 taken, 1 no name, 2 told already, or 16 are -/
def gcd' (b : Nat → Nat) (n : Nat) (ws : List (List Nat)) : Nat := if tnm b n = true then (if ws.length = 16 ∨ (idx (tk b 0 n) 0 ws).isSome = true then 2 else 0) else 1
theorem tnm_n (h : tnm b n = true) : 1 ≤ n ∧ n ≤ 20 ∧ nzf b 0 n = true := by
  unfold tnm at h
  rw [Bool.and_eq_true, Bool.and_eq_true, decide_eq_true_iff, decide_eq_true_iff] at h
  exact ⟨h.1.1, h.1.2, h.2⟩
theorem m1_neg : Int32.ofInt (-1) < 0 := by decide
theorem q_give_no {v : Int64} (hm : m ≤ h.length) (ht : RT σ n b) (p q : Bool) (hpq : (p || q) = true) : f_M_give_50 F m v (bI p) (bI q) (mh m h σ) = some (nI 0, mh m h (sI (sI σ 2 (nI 0)) 0 (nI (thr p q)))) := by
  unfold f_M_give_50
  rw [Mg2 hm, bs, Mp2 hm, bs, e_o hm, bs, q_throwing hm p q, xb_mk, hpq, if_neg (show ¬ bI true = 0 by decide)]
theorem q_wish_no (hm : m ≤ h.length) (ht : RT σ n b) (p q : Bool) (hpq : (p || q) = true) : f_M_wish_50 F m (bI p) (bI q) (mh m h σ) = some (nI 0, mh m h (sI (sI σ 2 (nI 0)) 0 (nI (thr p q)))) := by
  unfold f_M_wish_50
  rw [Mg2 hm, bs, Mp2 hm, bs, e_o hm, bs, q_throwing hm p q, xb_mk, hpq, if_neg (show ¬ bI true = 0 by decide)]
theorem q_give {v : Int64} {gs : List (List Nat × Int64)} {ws : List (List Nat)} (hm : m ≤ h.length) (hF : 8192 < F) (ht : RT σ n b) (hg : RG σ gs) (hw : RW σ ws) : ∃ σ', f_M_give F m v (mh m h σ) = some (nI (if gcd' b n (gs.map Prod.fst) = 0 then gs.length + 1 else 0), mh m h σ') ∧ gI σ' 0 = nI (gcd' b n (gs.map Prod.fst)) ∧ frG σ σ' ∧ RT σ' 0 (fun _ => 0) ∧ RW σ' ws ∧ RG σ' (if gcd' b n (gs.map Prod.fst) = 0 then gs ++ [(tk b 0 n, v)] else gs) := by
  obtain ⟨g1, g2, g3⟩ := hg
  have hgl : gs.length ≤ 16 := by have := g2.1; rw [List.length_map] at this; exact this
  have fin : ∀ (p q : Bool), f_M_give F m v (mh m h σ) = some (nI 0, mh m h (sI (sI σ 2 (nI 0)) 0 (nI (thr p q)))) → gcd' b n (gs.map Prod.fst) = thr p q → (p || q) = true → ∃ σ', f_M_give F m v (mh m h σ) = some (nI (if gcd' b n (gs.map Prod.fst) = 0 then gs.length + 1 else 0), mh m h σ') ∧ gI σ' 0 = nI (gcd' b n (gs.map Prod.fst)) ∧ frG σ σ' ∧ RT σ' 0 (fun _ => 0) ∧ RW σ' ws ∧ RG σ' (if gcd' b n (gs.map Prod.fst) = 0 then gs ++ [(tk b 0 n, v)] else gs) := by
    intro p q h1 h2 h3
    have h0 : ¬ thr p q = 0 := by cases p <;> cases q <;> first | decide | cases h3
    rw [h2, if_neg h0, if_neg h0]
    refine ⟨_, h1, by rw [gI_sI, if_pos rfl], ⟨fun k a1 a2 _ _ => by rw [gI_sI, if_neg a1, gI_sI, if_neg a2], fun _ => rfl, fun _ _ => rfl, fun _ _ _ _ _ => rfl⟩, RT_clr ht rfl rfl, ⟨hw.1, RN_eq hw.2 rfl rfl⟩, ⟨g1, RN_eq g2 rfl rfl, g3⟩⟩
  unfold f_M_give f_M_give_12 f_M_give_45 f_M_give_49 at fin ⊢
  rw [e_o hm, bs, q_isTapeName hm ht hF, xb_mk] at fin ⊢
  by_cases c1 : tnm b n = true
  · obtain ⟨n1, n2, n3⟩ := tnm_n c1
    rw [if_neg (show ¬ bI (tnm b n) = 0 by rw [c1]; decide), if_pos (show nI 0 = 0 from rfl), Mg31 hm, bs, g1] at fin ⊢
    by_cases c2 : gs.length = 16
    · rw [if_pos (by rw [c2])] at fin ⊢
      refine fin false true (q_give_no hm ht false true rfl) ?_ rfl
      unfold gcd'
      rw [if_pos c1, if_pos (Or.inl (by rw [List.length_map]; exact c2))]
      rfl
    · have hA : ∀ i, i < 320 → xaI (mh m h σ) 0 (m + 23) (nI i) = some (gA σ 33 i) := fun i hi => Ma33 hm hi
      have hB : ∀ i, i < 16 → xaI (mh m h σ) 1 (m + 25) (nI i) = some (gA σ 35 i) := fun i hi => Ma35 hm hi
      have hT := q_toldAt (F := F) hm ht n2 (by omega) g2 hA hB
      rw [List.length_map] at hT
      rw [if_neg (fun q => c2 ((nI_eq (by omega) (by decide)).mp q)), Mr33 hm, bs, Mr35 hm, bs, bs, e_o hm, bs, hT, xb_mk] at fin ⊢
      cases e : idx (tk b 0 n) 0 (gs.map Prod.fst) with
      | some i =>
        have hi : i < 16 := by
          have e1 := idx_lt e
          have e2 := g2.1
          omega
        rw [e] at fin
        rw [if_neg (show ¬ tdA (some i) < 0 from nI_pos (by omega))] at fin ⊢
        refine fin false true (q_give_no hm ht false true rfl) ?_ rfl
        unfold gcd'
        rw [if_pos c1, if_pos (Or.inr (by rw [e]; rfl))]
        rfl
      | none =>
        have hz : gcd' b n (gs.map Prod.fst) = 0 := by
          unfold gcd'
          rw [if_pos c1, if_neg (by rw [e, List.length_map]; intro q; exact q.elim c2 (fun r => nomatch r))]
        rw [hz, if_pos rfl, if_pos rfl, if_pos (show tdA none < 0 from m1_neg)]
        unfold f_M_give_50
        rw [Mg2 hm, bs, ht.1, Mp2 hm, bs, e_o hm, bs, show nI 0 = bI false from rfl, q_throwing hm false false, xb_mk, if_pos (show bI (false || false) = 0 from rfl), show bI false = nI 0 from rfl]
        rw [q_give_78 (F := F) (l := gs.length) hm (by omega) n2 n 0 F _ (gA σ 33) (by omega) (by omega) (show gI (sI (sI σ 2 (nI 0)) 0 (nI (thr false false))) 31 = nI gs.length from g1) ht.2.2.1 (put_0 _ _ _).symm]
        unfold f_M_give_113
        rw [Mr35 hm, bs, Mg31 hm, bs, show gI (sA (sI (sI σ 2 (nI 0)) 0 (nI (thr false false))) 33 (put (gA σ 33) (gA (sI (sI σ 2 (nI 0)) 0 (nI (thr false false))) 1) (20 * gs.length) n)) 31 = nI gs.length from g1, Ms35 hm (by omega), bs, Mr37 hm, bs, Mg31 hm, bs]
        obtain ⟨σ1, hσ1⟩ : ∃ s, s = sA (sA (sI (sI σ 2 (nI 0)) 0 (nI (thr false false))) 33 (put (gA σ 33) (gA σ 1) (20 * gs.length) n)) 35 (upd (gA σ 35) gs.length (nI n)) := ⟨_, rfl⟩
        have hσ1' : mh m h (sA (sA (sI (sI σ 2 (nI 0)) 0 (nI (thr false false))) 33 (put (gA σ 33) (gA (sI (sI σ 2 (nI 0)) 0 (nI (thr false false))) 1) (20 * gs.length) n)) 35 (upd (gA (sA (sI (sI σ 2 (nI 0)) 0 (nI (thr false false))) 33 (put (gA σ 33) (gA (sI (sI σ 2 (nI 0)) 0 (nI (thr false false))) 1) (20 * gs.length) n)) 35) gs.length (nI n))) = mh m h σ1 := by rw [hσ1]; rfl
        have g31 : gI σ1 31 = nI gs.length := by rw [hσ1]; exact g1
        rw [hσ1', show gI (sA (sA (sI (sI σ 2 (nI 0)) 0 (nI (thr false false))) 33 (put (gA σ 33) (gA (sI (sI σ 2 (nI 0)) 0 (nI (thr false false))) 1) (20 * gs.length) n)) 35 (upd (gA (sA (sI (sI σ 2 (nI 0)) 0 (nI (thr false false))) 33 (put (gA σ 33) (gA (sI (sI σ 2 (nI 0)) 0 (nI (thr false false))) 1) (20 * gs.length) n)) 35) gs.length (nI n))) 31 = nI gs.length from g1, Ms37 hm (by omega), bs, Mg31 hm, bs, show gI (sB σ1 37 (vp_updL (gB σ1 37) gs.length v)) 31 = nI gs.length from g31, nI_add, Mp31 hm, bs, Mg31 hm, bs, gI_sI, if_pos rfl]
        have hA33 : gA σ1 33 = put (gA σ 33) (gA σ 1) (20 * gs.length) n := by rw [hσ1]; rfl
        have hA35 : gA σ1 35 = upd (gA σ 35) gs.length (nI n) := by rw [hσ1]; rfl
        have hAo : ∀ k, k ≠ 33 → k ≠ 35 → gA σ1 k = gA σ k := fun k a1 a2 => by rw [hσ1, gA_sA, if_neg a2, gA_sA, if_neg a1]; rfl
        refine ⟨_, rfl, ?_, ⟨?_, ?_, ?_, ?_⟩, ?_, ?_, ?_⟩
        · rw [gI_sI, if_neg (by decide)]
          show gI σ1 0 = nI 0
          rw [hσ1]; rfl
        · intro k a1 a2 a3 a4
          rw [gI_sI, if_neg a3]
          show gI σ1 k = _
          rw [hσ1]
          show gI (sI (sI σ 2 (nI 0)) 0 (nI (thr false false))) k = _
          rw [gI_sI, if_neg a1, gI_sI, if_neg a2]
        · intro k
          show gJ σ1 k = _
          rw [hσ1]; rfl
        · intro k hk
          show gB (sB σ1 37 _) k = _
          rw [gB_sB, if_neg hk, hσ1]; rfl
        · intro k a1 a2 a3 a4
          exact hAo k a1 a3
        · refine RT_clr ht ?_ (hAo 1 (by decide) (by decide))
          rw [gI_sI, if_neg (by decide)]
          show gI σ1 2 = nI 0
          rw [hσ1]; rfl
        · refine ⟨?_, RN_eq hw.2 (hAo 34 (by decide) (by decide)) (hAo 36 (by decide) (by decide))⟩
          rw [gI_sI, if_neg (by decide)]
          show gI σ1 32 = _
          rw [hσ1]; exact hw.1
        · refine ⟨?_, ?_, ?_⟩
          · rw [gI_sI, if_pos rfl, List.length_append]; rfl
          · rw [List.map_append]
            exact RN_add g2 (by rw [List.length_map]; omega) n2 ht.2.2.1 ht.2.2.2 (by rw [List.length_map]; exact hA33) (by rw [List.length_map]; exact hA35)
          · intro i x hx
            show gB (sB σ1 37 (vp_updL (gB σ1 37) gs.length v)) 37 i = x.2
            rw [gB_sB, if_pos rfl]
            by_cases c : i < gs.length
            · rw [List.getElem?_append_left c] at hx
              unfold vp_updL
              rw [if_neg (by omega), hσ1]
              exact g3 i x hx
            · rw [List.getElem?_append_right (by omega)] at hx
              have hi : i - gs.length = 0 := by
                have := (List.getElem?_eq_some_iff.mp hx).1
                simp at this
                omega
              rw [hi] at hx
              have hx2 : x = (tk b 0 n, v) := (Option.some.inj hx).symm
              unfold vp_updL
              rw [if_pos (by omega), hx2]
  · rw [if_pos (show bI (tnm b n) = 0 by rw [Bool.eq_false_iff.mpr c1]; rfl), if_neg (show ¬ nI 1 = 0 by decide)] at fin ⊢
    refine fin true false (q_give_no hm ht true false rfl) ?_ rfl
    unfold gcd'
    rw [if_neg c1]
    rfl
end TLE
end
section
/-! wish, forget of the reference -/
section TLW
variable {F m : Nat} {h : px_H} {σ : px_S} {n : Nat} {b : Nat → Nat}
theorem q_wish {gs : List (List Nat × Int64)} {ws : List (List Nat)} (hm : m ≤ h.length) (hF : 8192 < F) (ht : RT σ n b) (hg : RG σ gs) (hw : RW σ ws) : ∃ σ', f_M_wish F m (mh m h σ) = some (nI (if gcd' b n ws = 0 then ws.length + 1 else 0), mh m h σ') ∧ gI σ' 0 = nI (gcd' b n ws) ∧ frG σ σ' ∧ RT σ' 0 (fun _ => 0) ∧ RG σ' gs ∧ RW σ' (if gcd' b n ws = 0 then ws ++ [tk b 0 n] else ws) := by
  obtain ⟨g1, g2⟩ := hw
  have hgl : ws.length ≤ 16 := g2.1
  have fin : ∀ (p q : Bool), f_M_wish F m (mh m h σ) = some (nI 0, mh m h (sI (sI σ 2 (nI 0)) 0 (nI (thr p q)))) → gcd' b n ws = thr p q → (p || q) = true → ∃ σ', f_M_wish F m (mh m h σ) = some (nI (if gcd' b n ws = 0 then ws.length + 1 else 0), mh m h σ') ∧ gI σ' 0 = nI (gcd' b n ws) ∧ frG σ σ' ∧ RT σ' 0 (fun _ => 0) ∧ RG σ' gs ∧ RW σ' (if gcd' b n ws = 0 then ws ++ [tk b 0 n] else ws) := by
    intro p q h1 h2 h3
    have h0 : ¬ thr p q = 0 := by cases p <;> cases q <;> first | decide | cases h3
    rw [h2, if_neg h0, if_neg h0]
    refine ⟨_, h1, by rw [gI_sI, if_pos rfl], ⟨fun k a1 a2 _ _ => by rw [gI_sI, if_neg a1, gI_sI, if_neg a2], fun _ => rfl, fun _ _ => rfl, fun _ _ _ _ _ => rfl⟩, RT_clr ht rfl rfl, ⟨hg.1, RN_eq hg.2.1 rfl rfl, hg.2.2⟩, ⟨g1, RN_eq g2 rfl rfl⟩⟩
  unfold f_M_wish f_M_wish_12 f_M_wish_45 f_M_wish_49 at fin ⊢
  rw [e_o hm, bs, q_isTapeName hm ht hF, xb_mk] at fin ⊢
  by_cases c1 : tnm b n = true
  · obtain ⟨n1, n2, n3⟩ := tnm_n c1
    rw [if_neg (show ¬ bI (tnm b n) = 0 by rw [c1]; decide), if_pos (show nI 0 = 0 from rfl), Mg32 hm, bs, g1] at fin ⊢
    by_cases c2 : ws.length = 16
    · rw [if_pos (by rw [c2])] at fin ⊢
      refine fin false true (q_wish_no hm ht false true rfl) ?_ rfl
      unfold gcd'
      rw [if_pos c1, if_pos (Or.inl c2)]
      rfl
    · have hA : ∀ i, i < 320 → xaI (mh m h σ) 0 (m + 24) (nI i) = some (gA σ 34 i) := fun i hi => Ma34 hm hi
      have hB : ∀ i, i < 16 → xaI (mh m h σ) 1 (m + 26) (nI i) = some (gA σ 36 i) := fun i hi => Ma36 hm hi
      have hT := q_toldAt (F := F) hm ht n2 (by omega) g2 hA hB
      rw [if_neg (fun q => c2 ((nI_eq (by omega) (by decide)).mp q)), Mr34 hm, bs, Mr36 hm, bs, bs, e_o hm, bs, hT, xb_mk] at fin ⊢
      cases e : idx (tk b 0 n) 0 ws with
      | some i =>
        have hi : i < 16 := by
          have e1 := idx_lt e
          have e2 := g2.1
          omega
        rw [e] at fin
        rw [if_neg (show ¬ tdA (some i) < 0 from nI_pos (by omega))] at fin ⊢
        refine fin false true (q_wish_no hm ht false true rfl) ?_ rfl
        unfold gcd'
        rw [if_pos c1, if_pos (Or.inr (by rw [e]; rfl))]
        rfl
      | none =>
        have hz : gcd' b n ws = 0 := by
          unfold gcd'
          rw [if_pos c1, if_neg (by rw [e]; intro q; exact q.elim c2 (fun r => nomatch r))]
        rw [hz, if_pos rfl, if_pos rfl, if_pos (show tdA none < 0 from m1_neg)]
        unfold f_M_wish_50
        rw [Mg2 hm, bs, ht.1, Mp2 hm, bs, e_o hm, bs, show nI 0 = bI false from rfl, q_throwing hm false false, xb_mk, if_pos (show bI (false || false) = 0 from rfl), show bI false = nI 0 from rfl]
        rw [q_wish_75 (F := F) (l := ws.length) hm (by omega) n2 n 0 F _ (gA σ 34) (by omega) (by omega) (show gI (sI (sI σ 2 (nI 0)) 0 (nI (thr false false))) 32 = nI ws.length from g1) ht.2.2.1 (put_0 _ _ _).symm]
        unfold f_M_wish_109
        rw [Mr36 hm, bs, Mg32 hm, bs, show gI (sA (sI (sI σ 2 (nI 0)) 0 (nI (thr false false))) 34 (put (gA σ 34) (gA (sI (sI σ 2 (nI 0)) 0 (nI (thr false false))) 1) (20 * ws.length) n)) 32 = nI ws.length from g1, Ms36 hm (by omega), bs, Mg32 hm, bs]
        obtain ⟨σ1, hσ1⟩ : ∃ s, s = sA (sA (sI (sI σ 2 (nI 0)) 0 (nI (thr false false))) 34 (put (gA σ 34) (gA σ 1) (20 * ws.length) n)) 36 (upd (gA σ 36) ws.length (nI n)) := ⟨_, rfl⟩
        have hσ1' : mh m h (sA (sA (sI (sI σ 2 (nI 0)) 0 (nI (thr false false))) 34 (put (gA σ 34) (gA (sI (sI σ 2 (nI 0)) 0 (nI (thr false false))) 1) (20 * ws.length) n)) 36 (upd (gA (sA (sI (sI σ 2 (nI 0)) 0 (nI (thr false false))) 34 (put (gA σ 34) (gA (sI (sI σ 2 (nI 0)) 0 (nI (thr false false))) 1) (20 * ws.length) n)) 36) ws.length (nI n))) = mh m h σ1 := by rw [hσ1]; rfl
        have g31 : gI σ1 32 = nI ws.length := by rw [hσ1]; exact g1
        rw [hσ1', show gI (sA (sA (sI (sI σ 2 (nI 0)) 0 (nI (thr false false))) 34 (put (gA σ 34) (gA (sI (sI σ 2 (nI 0)) 0 (nI (thr false false))) 1) (20 * ws.length) n)) 36 (upd (gA (sA (sI (sI σ 2 (nI 0)) 0 (nI (thr false false))) 34 (put (gA σ 34) (gA (sI (sI σ 2 (nI 0)) 0 (nI (thr false false))) 1) (20 * ws.length) n)) 36) ws.length (nI n))) 32 = nI ws.length from g1, nI_add, Mp32 hm, bs, Mg32 hm, bs, gI_sI, if_pos rfl]
        have hA33 : gA σ1 34 = put (gA σ 34) (gA σ 1) (20 * ws.length) n := by rw [hσ1]; rfl
        have hA35 : gA σ1 36 = upd (gA σ 36) ws.length (nI n) := by rw [hσ1]; rfl
        have hAo : ∀ k, k ≠ 34 → k ≠ 36 → gA σ1 k = gA σ k := fun k a1 a2 => by rw [hσ1, gA_sA, if_neg a2, gA_sA, if_neg a1]; rfl
        have hBo : ∀ k, gB σ1 k = gB σ k := fun k => by rw [hσ1]; rfl
        refine ⟨_, rfl, ?_, ⟨?_, ?_, ?_, ?_⟩, ?_, ?_, ?_⟩
        · rw [gI_sI, if_neg (by decide), hσ1]; rfl
        · intro k a1 a2 a3 a4
          rw [gI_sI, if_neg a4, hσ1]
          show gI (sI (sI σ 2 (nI 0)) 0 (nI (thr false false))) k = _
          rw [gI_sI, if_neg a1, gI_sI, if_neg a2]
        · intro k
          show gJ σ1 k = _
          rw [hσ1]; rfl
        · intro k _; exact hBo k
        · intro k a1 a2 a3 a4
          exact hAo k a2 a4
        · refine RT_clr ht ?_ (hAo 1 (by decide) (by decide))
          rw [gI_sI, if_neg (by decide), hσ1]; rfl
        · refine ⟨?_, RN_eq hg.2.1 (hAo 33 (by decide) (by decide)) (hAo 35 (by decide) (by decide)), ?_⟩
          · rw [gI_sI, if_neg (by decide), hσ1]; exact hg.1
          · intro i x hx
            show gB σ1 37 i = _
            rw [hBo]; exact hg.2.2 i x hx
        · refine ⟨?_, ?_⟩
          · rw [gI_sI, if_pos rfl, List.length_append]; rfl
          · exact RN_add g2 (by omega) n2 ht.2.2.1 ht.2.2.2 hA33 hA35
  · rw [if_pos (show bI (tnm b n) = 0 by rw [Bool.eq_false_iff.mpr c1]; rfl), if_neg (show ¬ nI 1 = 0 by decide)] at fin ⊢
    refine fin true false (q_wish_no hm ht true false rfl) ?_ rfl
    unfold gcd'
    rw [if_neg c1]
    rfl
theorem RN_nil {ka kb : Nat} : RN σ ka kb [] := ⟨Nat.zero_le _, fun i w hw => by rw [List.getElem?_nil] at hw; cases hw⟩
theorem q_forget (hm : m ≤ h.length) : ∃ σ', f_M_forget F m (mh m h σ) = some ((), mh m h σ') ∧ gI σ' 0 = nI 0 ∧ RG σ' [] ∧ RW σ' [] ∧ (∀ k, k ≠ 0 → k ≠ 31 → k ≠ 32 → gI σ' k = gI σ k) ∧ (∀ k, gJ σ' k = gJ σ k) ∧ (∀ k, gA σ' k = gA σ k) ∧ (∀ k, gB σ' k = gB σ k) := by
  unfold f_M_forget
  rw [Mp0 hm, bs, Mp31 hm, bs, Mp32 hm, bs]
  refine ⟨_, rfl, rfl, ⟨rfl, RN_nil, fun i x hx => by rw [List.getElem?_nil] at hx; cases hx⟩, ⟨rfl, RN_nil⟩, fun k a1 a2 a3 => by rw [gI_sI, if_neg a3, gI_sI, if_neg a2, gI_sI, if_neg a1], fun _ => rfl, fun _ => rfl, fun _ => rfl⟩
end TLW
end
section
/-! a heap that grows -/
def szk (s : Nat × Nat × Nat) : Nat := if s.1 = 0 then pg_in s.2.1 else s.2.2
def smk (sk : Nat → Nat × Nat × Nat) (L : Nat) : Nat := ((List.range L).map (fun a => szk (sk a))).sum
/-- room for k more objects -/
def RMk (sk : Nat → Nat × Nat × Nat) (L k : Nat) : Prop := L + k ≤ pg_MC ∧ smk sk L + 18 * k ≤ pg_MS
def skN (sk : Nat → Nat × Nat × Nat) (L ci : Nat) : Nat → Nat × Nat × Nat := fun a => if a = L then (0, ci, 0) else sk a
/-- all fields of the place L empty -/
def nw (τ : px_TT) (L : Nat) : px_TT := (fun a k => if a = L then 0 else τ.1 a k, fun a k => if a = L then 0 else τ.2.1 a k, fun a k => if a = L then none else τ.2.2.1 a k, τ.2.2.2)
/-- more places, the old ones as they were -/
def EX (sk : Nat → Nat × Nat × Nat) (L : Nat) (sk' : Nat → Nat × Nat × Nat) (L' : Nat) : Prop := L ≤ L' ∧ ∀ a, a < L → sk' a = sk a
section GRW
variable {sk sk' : Nat → Nat × Nat × Nat} {L L' : Nat} {τ τ' : px_TT}
theorem cell_sz (a : Nat) : px_sz (cell sk τ a) = szk (sk a) := by
  unfold cell szk
  split
  · rfl
  · split
    · rfl
    · split
      · rfl
      · rfl
theorem sum_cH : px_sum (cH sk L τ) = smk sk L := by
  unfold px_sum cH smk
  rw [List.map_map]
  congr 1
  apply List.map_congr_left
  intro a _
  exact cell_sz a
theorem nw_I {a k : Nat} (h : a ≠ L) : fI (nw τ L) a k = fI τ a k := if_neg h
theorem nw_J {a k : Nat} (h : a ≠ L) : fJ (nw τ L) a k = fJ τ a k := if_neg h
theorem nw_N {a k : Nat} (h : a ≠ L) : fN (nw τ L) a k = fN τ a k := if_neg h
theorem skN_cell {a ci : Nat} (h : a ≠ L) : cell (skN sk L ci) (nw τ L) a = cell sk τ a := by
  have e : skN sk L ci a = sk a := if_neg h
  unfold cell
  rw [e]
  have e2 : cv (nw τ L) (sk a).2.1 a = cv τ (sk a).2.1 a := by
    funext k
    unfold cv
    rw [nw_I h, nw_J h, nw_N h]
  rw [e2]
  rfl
theorem cH_new (ci : Nat) : cH (skN sk L ci) (L + 1) (nw τ L) = cH sk L τ ++ [.inr (ci, (List.range (cN ci)).map (cv (nw τ L) ci L))] := by
  unfold cH
  rw [List.range_succ, List.map_append]
  congr 1
  · apply List.map_congr_left
    intro a ha
    exact skN_cell (Nat.ne_of_lt (List.mem_range.mp ha))
  · have e : skN sk L ci L = (0, ci, 0) := if_pos rfl
    show [cell (skN sk L ci) (nw τ L) L] = _
    unfold cell
    rw [e]
    rfl
theorem smk_new (ci : Nat) : smk (skN sk L ci) (L + 1) = smk sk L + pg_in ci := by
  unfold smk
  rw [List.range_succ, List.map_append, List.sum_append]
  congr 1
  · congr 1
    apply List.map_congr_left
    intro a ha
    have e : skN sk L ci a = sk a := if_neg (Nat.ne_of_lt (List.mem_range.mp ha))
    rw [e]
  · have e : skN sk L ci L = (0, ci, 0) := if_pos rfl
    show [szk (skN sk L ci L)].sum = _
    rw [e]
    exact Nat.add_zero _
theorem cH_len : (cH sk L τ).length = L := by
  unfold cH
  rw [List.length_map, List.length_range]
theorem nf5 : ∀ k, k < 18 → defaultValue (pg_ftp 5 k) = (if cF 5 k = 0 then Value.int 0 else if cF 5 k = 1 then Value.long 0 else va_rf none) := by decide +kernel
theorem c_new5 {k : Nat} (h : RMk sk L (k + 1)) : xnew (cH sk L τ) 5 = some (L, cH (skN sk L 5) (L + 1) (nw τ L)) ∧ RMk (skN sk L 5) (L + 1) k ∧ EX sk L (skN sk L 5) (L + 1) ∧ ob (skN sk L 5) (L + 1) 5 L := by
  refine ⟨?_, ⟨?_, ?_⟩, ⟨Nat.le_succ _, fun a ha => if_neg (Nat.ne_of_lt ha)⟩, ⟨if_pos rfl, Nat.lt_succ_self _⟩⟩
  · unfold xnew
    have e : pg_cl[5]? = some (pg_cn 5, pg_T 5, 18) := rfl
    have hc : (cH sk L τ).length < pg_MC ∧ px_sum (cH sk L τ) + pg_in 5 ≤ pg_MS := by
      rw [cH_len, sum_cH, show pg_in 5 = 18 from rfl]
      exact ⟨by have := h.1; omega, by have := h.2; omega⟩
    rw [e]
    show (if (cH sk L τ).length < pg_MC ∧ px_sum (cH sk L τ) + pg_in 5 ≤ pg_MS then some ((cH sk L τ).length, cH sk L τ ++ [.inr (5, px_nf 5 18)]) else none) = _
    rw [if_pos hc, cH_len, cH_new]
    have e3 : px_nf 5 18 = (List.range (cN 5)).map (cv (nw τ L) 5 L) := by
      unfold px_nf
      rw [show cN 5 = 18 from rfl]
      apply List.map_congr_left
      intro k hk
      rw [nf5 k (List.mem_range.mp hk)]
      unfold cv
      rw [show fI (nw τ L) L k = 0 from if_pos rfl, show fJ (nw τ L) L k = 0 from if_pos rfl, show fN (nw τ L) L k = none from if_pos rfl]
    rw [e3]
  · have := h.1; omega
  · have := h.2
    rw [smk_new, show pg_in 5 = 18 from rfl]
    omega
theorem ob_ex {ci a : Nat} (h : ob sk L ci a) (e : EX sk L sk' L') : ob sk' L' ci a := ⟨(e.2 a h.2).trans h.1, Nat.lt_of_lt_of_le h.2 e.1⟩
theorem ar_ex {t n a : Nat} (h : ar sk L t n a) (e : EX sk L sk' L') : ar sk' L' t n a := ⟨(e.2 a h.2).trans h.1, Nat.lt_of_lt_of_le h.2 e.1⟩
theorem GS_ex (h : GS sk L) (e : EX sk L sk' L') : GS sk' L' := ⟨Nat.le_trans h.1 e.1, fun a ha => (e.2 a (Nat.lt_of_lt_of_le ha (Nat.le_trans (by decide) h.1))).trans (h.2 a ha)⟩
theorem EX_refl : EX sk L sk L := ⟨Nat.le_refl _, fun _ _ => rfl⟩
/-- the places below N as they were -/
def SM (N : Nat) (τ τ' : px_TT) : Prop := (∀ a k, a < N → fI τ' a k = fI τ a k) ∧ (∀ a k, a < N → fJ τ' a k = fJ τ a k) ∧ (∀ a k, a < N → fN τ' a k = fN τ a k) ∧ (∀ a, a < N → eI τ' a = eI τ a) ∧ (∀ a, a < N → eJ τ' a = eJ τ a) ∧ (∀ a, a < N → eN τ' a = eN τ a)
theorem SM_refl {N : Nat} : SM N τ τ := ⟨fun _ _ _ => rfl, fun _ _ _ => rfl, fun _ _ _ => rfl, fun _ _ => rfl, fun _ _ => rfl, fun _ _ => rfl⟩
theorem SM_trans {N : Nat} {τ1 : px_TT} (h : SM N τ τ1) (g : SM N τ1 τ') : SM N τ τ' := ⟨fun a k x => (g.1 a k x).trans (h.1 a k x), fun a k x => (g.2.1 a k x).trans (h.2.1 a k x), fun a k x => (g.2.2.1 a k x).trans (h.2.2.1 a k x), fun a x => (g.2.2.2.1 a x).trans (h.2.2.2.1 a x), fun a x => (g.2.2.2.2.1 a x).trans (h.2.2.2.2.1 a x), fun a x => (g.2.2.2.2.2 a x).trans (h.2.2.2.2.2 a x)⟩
theorem SM_le {N M : Nat} (h : SM N τ τ') (hM : M ≤ N) : SM M τ τ' := ⟨fun a k x => h.1 a k (by omega), fun a k x => h.2.1 a k (by omega), fun a k x => h.2.2.1 a k (by omega), fun a x => h.2.2.2.1 a (by omega), fun a x => h.2.2.2.2.1 a (by omega), fun a x => h.2.2.2.2.2 a (by omega)⟩
theorem CTp_sm {n : Nat} {b : Nat → Nat} (h : CTp τ n b) (s : SM 3 τ τ') : CTp τ' n b := by
  unfold CTp at h ⊢
  rw [s.1 1 1 (by decide), s.2.2.2.1 2 (by decide)]
  exact h
/-- the files' places as they were -/
def SF (τ τ' : px_TT) : Prop := (∀ a k, (a = 0 ∨ (7 ≤ a ∧ a < 140)) → k < 15 → fI τ' a k = fI τ a k) ∧ (∀ a k, (7 ≤ a ∧ a < 140) → fN τ' a k = fN τ a k) ∧ (∀ a, (7 ≤ a ∧ a < 140) → eI τ' a = eI τ a)
theorem cD_mv {q g o m : Nat} {S : Nat → Int32} (h : cD sk L τ q g o m S) (e : EX sk L sk' L') (s : SF τ τ') (hq : 7 ≤ q ∧ q < 140) (hg : 7 ≤ g ∧ g < 140) : cD sk' L' τ' q g o m S := by
  obtain ⟨⟨⟨⟨⟨o1, o2, o3, o4, o5, o6, o7, o8, o9, o10⟩, r2, r3, r4, r5⟩, g2, g3, g4, g5⟩, ⟨y1, y2, y3⟩, w⟩, st, er⟩ := h
  have hI : ∀ i, i < 15 → fI τ' q i = fI τ q i := fun i h => s.1 q i (Or.inr hq) h
  refine ⟨⟨⟨⟨⟨ob_ex o1 e, (s.2.1 q 0 hq).trans o2, ob_ex o3 e, (s.2.1 7 0 (by omega)).trans o4, ar_ex o5 e, (s.2.2 8 (by omega)).trans o6, (hI 5 (by decide)).trans o7, (hI 6 (by decide)).trans o8, o9, o10⟩, r2, r3, (hI 7 (by decide)).trans r4, (hI 8 (by decide)).trans r5⟩, (s.2.1 q 3 hq).trans g2, ar_ex g3 e, g4, ?_⟩, ⟨(hI 9 (by decide)).trans y1, (hI 11 (by decide)).trans y2, ?_⟩, w⟩, ?_, er⟩
  · rw [s.2.2 g hg]; exact g5
  · rw [hI 10 (by decide), hI 12 (by decide), hI 13 (by decide)]; exact y3
  · rw [hI 14 (by decide)]; exact st
theorem mD_mv {f o : Nat} {ar : Bool} {S : Nat → Int32} (hf : f < 8) (e : EX sk L sk' L') (s : SF τ τ') : ∀ (l : List (Nat × Nat × Bool)) (k : Nat), k + l.length ≤ 8 → mD sk L τ f o ar S k l → mD sk' L' τ' f o ar S k l
  | [], k, hk, h => fun j h1 h2 => by rw [s.1 _ _ (by omega) (by decide)]; exact h j h1 h2
  | x :: l, k, hk, h => by
    rw [List.length_cons] at hk
    unfold mD at h ⊢
    have hI : ∀ i, i < 15 → fI τ' (10 + 2 * (8 * f + k)) i = fI τ (10 + 2 * (8 * f + k)) i := fun i h => s.1 _ _ (by omega) h
    refine ⟨⟨(hI 4 (by decide)).trans h.1.1, (hI 5 (by decide)).trans h.1.2.1, (hI 6 (by decide)).trans h.1.2.2.1, fun hx => ?_⟩, mD_mv hf e s l (k + 1) (by omega) h.2⟩
    exact cD_mv (h.1.2.2.2 hx) e s (by omega) (by omega)
theorem CF_mv {fs : List (Nat × (Nat → Nat))} (h : CF sk L τ fs) (e : EX sk L sk' L') (s : SF τ τ') : CF sk' L' τ' fs := by
  obtain ⟨c1, c2, c3, c4, c5, c6, c7⟩ := h
  have h8 := s.2.2 8 (by omega)
  refine ⟨(s.1 0 6 (by omega) (by decide)).trans c1, c2, by rw [h8]; exact c3, (s.1 7 1 (by omega) (by decide)).trans c4, by rw [s.2.2 138 (by omega)]; exact c5, ?_, ?_⟩
  · intro f x hx
    have hf : f < fs.length := (List.getElem?_eq_some_iff.mp hx).1
    obtain ⟨h1, h2, h3, l, h4, h5⟩ := c6 f x hx
    have hl := fMem_le h4
    exact ⟨h1, by rw [h8]; exact h2, h3, l, h4, by rw [h8]; exact mD_mv (by omega) e s l 0 (by omega) h5⟩
  · intro f j a1 a2 a3
    rw [s.1 _ _ (by omega) (by decide)]
    exact c7 f j a1 a2 a3
/-- what GR speaks of has not changed -/
theorem GR_mv (h : GR τ) (hN : ∀ a k, a < 1726 → fN τ' a k = fN τ a k) (hI : ∀ a k, a < 138 → k < 3 → fI τ' a k = fI τ a k) (h9 : eN τ' 9 = eN τ 9) (h151 : eN τ' 151 = eN τ 151) : GR τ' := by
  have hg : ∀ x, x ∈ grl → x.1 < 1726 := by decide +kernel
  refine ⟨fun x hx => (hN _ _ (hg x hx)).trans (h.1 x hx), fun i hi => ?_, ?_⟩
  · obtain ⟨a1, a2, a3, a4, a5⟩ := h.2.1 i hi
    exact ⟨(hN _ _ (by omega)).trans a1, (hN _ _ (by omega)).trans a2, by rw [h9]; exact a3, (hI _ _ (by omega) (by decide)).trans a4, (hI _ _ (by omega) (by decide)).trans a5⟩
  · rw [h151]; exact h.2.2
end GRW
end
