section
/-! executables: what their error is; the class finds it -/
/-- FLAGS, PLACE, ADDRESS, FILE, MEMORY of a row -/
abbrev px_XR : Type := Nat × Nat × Nat × Nat × Nat
/-- where the last one ends -/
def xrE (R : List px_XR) : Nat := match R.getLast? with
  | none => 0
  | some r => r.2.2.1 + r.2.2.2.2
theorem xrE_n : xrE [] = 0 := rfl
theorem xrE_a (R : List px_XR) (r : px_XR) : xrE (R ++ [r]) = r.2.2.1 + r.2.2.2.2 := by
  unfold xrE
  rw [List.getLast?_append]
  rfl
/-- the rows, one by one: T whether it is loaded, E its error behind an end, W what it says -/
def xrG (T : Nat → Bool) (E : Nat → Nat → Nat) (W : Nat → px_XR) : Nat → Nat → List px_XR → Nat × List px_XR
  | 0, _, R => (0, R)
  | d + 1, k, R => if T k = true then (if E k (xrE R) = 0 then xrG T E W d (k + 1) (R ++ [W k]) else (E k (xrE R), R)) else xrG T E W d (k + 1) R
section XRG
variable {T : Nat → Bool} {E : Nat → Nat → Nat} {W : Nat → px_XR} {d k : Nat} {R : List px_XR}
theorem xrG_0 : xrG T E W 0 k R = (0, R) := rfl
theorem xrG_f (h : T k = false) : xrG T E W (d + 1) k R = xrG T E W d (k + 1) R := by
  show (if T k = true then _ else _) = _
  rw [if_neg (by rw [h]; decide)]
theorem xrG_t (h : T k = true) (e : E k (xrE R) = 0) : xrG T E W (d + 1) k R = xrG T E W d (k + 1) (R ++ [W k]) := by
  show (if T k = true then _ else _) = _
  rw [if_pos h, if_pos e]
theorem xrG_e (h : T k = true) (e : E k (xrE R) ≠ 0) : xrG T E W (d + 1) k R = (E k (xrE R), R) := by
  show (if T k = true then _ else _) = _
  rw [if_pos h, if_neg e]
end XRG
def xrW (b : Nat → Nat) (p : Nat) : px_XR := (le b (p + 4) 4, le b (p + 8) 8, le b (p + 16) 8, le b (p + 32) 8, le b (p + 40) 8)
/-- ALIGN is as told -/
def xrA (ad pl al : Int64) : Bool := if al &&& (al - lN 1) = lN 0 then (if al = lN 0 then true else decide ((ad - pl) &&& (al - lN 1) = lN 0)) else false
def xrP (z e pl ad fi me : Nat) (ok : Bool) : Nat := if pl + fi ≤ z then (if me < fi then 4 else if 65536 < me then 4 else if 2 ^ 47 < ad then 4 else if ok = true then (if e ≤ ad then 0 else 5) else 4) else 3
/-- the error of the row at p -/
def xrR (b : Nat → Nat) (z p e : Nat) : Nat := xrP z e (le b (p + 8) 8) (le b (p + 16) 8) (le b (p + 32) 8) (le b (p + 40) 8) (xrA (lN (le b (p + 16) 8)) (lN (le b (p + 8) 8)) (lN (le b (p + 48) 8)))
theorem xrP_0 {z e pl ad fi me : Nat} {ok : Bool} (h : xrP z e pl ad fi me ok = 0) : pl + fi ≤ z ∧ fi ≤ me ∧ me ≤ 65536 ∧ ad ≤ 2 ^ 47 ∧ ok = true ∧ e ≤ ad := by
  unfold xrP at h
  by_cases c1 : pl + fi ≤ z
  · rw [if_pos c1] at h
    by_cases c2 : me < fi
    · rw [if_pos c2] at h; cases h
    · rw [if_neg c2] at h
      by_cases c3 : 65536 < me
      · rw [if_pos c3] at h; cases h
      · rw [if_neg c3] at h
        by_cases c4 : 2 ^ 47 < ad
        · rw [if_pos c4] at h; cases h
        · rw [if_neg c4] at h
          by_cases c5 : ok = true
          · rw [if_pos c5] at h
            by_cases c6 : e ≤ ad
            · exact ⟨c1, by omega, by omega, by omega, c5, c6⟩
            · rw [if_neg c6] at h; cases h
          · rw [if_neg c5] at h; cases h
  · rw [if_neg c1] at h; cases h
theorem xrP_5 {z e pl ad fi me : Nat} {ok : Bool} : xrP z e pl ad fi me ok ≤ 5 := by
  unfold xrP
  repeat (first | omega | split)
/-- the head is as told -/
def xrH (b : Nat → Nat) (z : Nat) : Bool := decide (64 ≤ z) && (decide (le b 0 7 = 282584257676671) && (decide (le b 16 2 = 2) && (decide (le b 18 2 = 62) && (decide (le b 20 4 = 1) && decide (le b 54 2 = 56)))))
/-- the entry lies in the row, and it is code -/
def xrN (en : Nat) (r : px_XR) : Bool := decide (r.1 % 2 = 1) && (decide (r.2.2.1 ≤ en) && decide (en < r.2.2.1 + r.2.2.2.2))
def xrO (en : Nat) (p : Nat × List px_XR) : Nat := if p.1 = 0 then (if p.2.any (xrN en) = true then 0 else 6) else p.1
def xrTf (b : Nat → Nat) (at0 k : Nat) : Bool := decide (le b (at0 + 56 * k) 4 = 1)
def xrEf (b : Nat → Nat) (z at0 k e : Nat) : Nat := xrR b z (at0 + 56 * k) e
def xrWf (b : Nat → Nat) (at0 k : Nat) : px_XR := xrW b (at0 + 56 * k)
/-- the rows of n from at on -/
def xrL (b : Nat → Nat) (z at0 n : Nat) : Nat × List px_XR := xrG (xrTf b at0) (xrEf b z at0) (xrWf b at0) n 0 []
/-- the error of an executable -/
def xrX (b : Nat → Nat) (z : Nat) : Nat := if xrH b z = true then (if 8 < le b 56 2 then 2 else if le b 32 8 + 56 * le b 56 2 ≤ z then xrO (le b 24 8) (xrL b z (le b 32 8) (le b 56 2)) else 2) else 1
/-- a row of the class and its bytes -/
def cRb (sk : Nat → Nat × Nat × Nat) (L : Nat) (τ : px_TT) (r z : Nat) (b : Nat → Nat) : Prop := ∃ A n, ob sk L 10 r ∧ fN τ r 0 = some A ∧ ar sk L 0 n A ∧ n ≤ 65536 ∧ z ≤ n ∧ fI τ r 1 = nI z ∧ b = fun i => if i < z then b8 (eI τ A i) else 0
section CXE
variable {F : Nat} {c : px_CT} {sk : Nat → Nat × Nat × Nat} {L : Nat} {τ : px_TT} {r z : Nat} {b : Nat → Nat}
theorem cRb_lt (h : cRb sk L τ r z b) : ∀ k, b k < 256 := fun k => by
  obtain ⟨A, n, _, _, _, _, _, _, rfl⟩ := h
  show (if k < z then b8 (eI τ A k) else 0) < 256
  split
  · exact b8_lt _
  · decide
theorem cRb_z (h : cRb sk L τ r z b) : z ≤ 65536 ∧ ob sk L 10 r ∧ fI τ r 1 = nI z := by
  obtain ⟨A, n, h1, _, _, h4, h5, h6, _⟩ := h
  exact ⟨by omega, h1, h6⟩
theorem k_rn {p k : Nat} (h : cRb sk L τ r z b) (hF : 8 < F) (hk : k ≤ 8) (hp : p < 2 ^ 30) : f_Row_num F c r (nI p) (nI k) (cH sk L τ) = some (lN (le b p k), cH sk L τ) := by
  obtain ⟨A, n, h1, h2, h3, h4, h5, h6, rfl⟩ := h
  have e : (0 + 1) * 256 ^ k ≤ 2 ^ 64 := by
    rw [Nat.zero_add, Nat.one_mul]
    exact Nat.pow_le_pow_right (n := 256) (by decide) hk
  unfold f_Row_num
  rw [k_rnum_loop h1 h2 h3 rfl h6 h5 (by omega) hp k 0 F (by omega) hk e, Nat.zero_mul, Nat.zero_add]
theorem k_ra {i : Nat} (h : cRb sk L τ r z b) (hi : i < 2 ^ 31) : f_Row_at F c r (nI i) (cH sk L τ) = some (nI (b i), cH sk L τ) := by
  obtain ⟨A, n, h1, h2, h3, h4, h5, h6, rfl⟩ := h
  exact k_rowAt h1 h2 h3 rfl h6 h5 (by omega) hi
theorem k_rh {a x : Nat} (h : cRb sk L τ r z b) (ha : a < 2 ^ 64) (hx : x < 2 ^ 64) : f_Row_holds F c r (lN a) (lN x) (cH sk L τ) = some (bI (decide (a + x ≤ z)), cH sk L τ) := by
  obtain ⟨hz, o1, o8⟩ := cRb_z h
  have k0 : (0 : Int32) = nI 0 := rfl
  unfold f_Row_holds
  rw [C10g1 o1, bs, o8, nI_l (by omega), k_above ha (by omega), xb_mk, C10g1 o1, bs, o8, nI_l (by omega), k0]
  simp only [bI_0, decide_eq_false_iff_not, f_Row_holds_30, f_Row_holds_31, xz_0, xz_1]
  by_cases c1 : z < a
  · rw [if_neg (fun e => e c1), decide_eq_false (by omega)]
  · rw [if_pos c1, lN_sub (by omega), k_above hx (by omega), xb_mk]
    simp only [bI_0, decide_eq_false_iff_not]
    by_cases c2 : z - a < x
    · rw [if_neg (fun e => e c2), decide_eq_false (by omega)]
    · rw [if_pos c2, decide_eq_true (by omega)]
theorem k_rb2 (hc : KT c) (h : cRb sk L τ r z b) : ∀ (k i f : Nat), i + k = 7 → k < f → f_Row_begins_2 F c f r 3 (nI i) (cH sk L τ) = some (bI (al (fun i => decide (b i = kE.getD i 0)) i k), cH sk L τ) := by
  have hE := hc.2.2.1
  have hb := cRb_lt h
  obtain ⟨_, o1, _⟩ := cRb_z h
  intro k
  induction k with
  | zero =>
    intro i f hi hf
    obtain ⟨f, rfl⟩ : ∃ g, f = g + 1 := ⟨f - 1, by omega⟩
    unfold f_Row_begins_2
    rw [xkl_at hE.2 (by decide), bs, if_pos (nI_le (by show 7 ≤ i; omega) (by omega))]
    rfl
  | succ k ih =>
    intro i f hi hf
    obtain ⟨f, rfl⟩ : ∃ g, f = g + 1 := ⟨f - 1, by omega⟩
    have h1 := hb i
    have h2 : kE.getD i 0 < 256 := by
      have : ∀ j, j < 7 → kE.getD j 0 < 256 := by decide
      exact this i (by omega)
    unfold f_Row_begins_2
    rw [xkl_at hE.2 (by decide), bs, if_neg (nI_ge (by show i < 7; omega) (by show 7 < 2 ^ 31; decide)), c_o o1, bs, k_ra h (by omega), xb_mk, xkB_at hE.2 (by decide) hE.1 (by decide) (by show i < 7; omega), bs, nI_add, al_s]
    have e3 : (nI (b i) = nI ([127, 69, 76, 70, 2, 1, 1].getD i 0)) ↔ b i = kE.getD i 0 := nI_eq (show b i < 2 ^ 31 by omega) (show kE.getD i 0 < 2 ^ 31 from Nat.lt_trans h2 (by decide))
    by_cases e : b i = kE.getD i 0
    · rw [if_pos (e3.mpr e), decide_eq_true e, Bool.true_and]
      exact ih (i + 1) f (by omega) (by omega)
    · rw [if_neg (fun q => e (e3.mp q)), decide_eq_false e, Bool.false_and]
      rfl
theorem k_rb (hc : KT c) (hF : 8 < F) (h : cRb sk L τ r z b) : f_Row_begins F c r 3 (cH sk L τ) = some (bI (decide (le b 0 7 = 282584257676671)), cH sk L τ) := by
  have e : al (fun i => decide (b i = kE.getD i 0)) 0 7 = decide (le b 0 7 = 282584257676671) := by
    rw [Bool.eq_iff_iff, decide_eq_true_eq, le_7 (cRb_lt h), al_iff]
    exact ⟨fun w i hi => of_decide_eq_true (w i (Nat.zero_le i) (by omega)), fun w i _ hi => decide_eq_true (w i (by omega))⟩
  unfold f_Row_begins
  rw [k_rb2 hc h 7 0 F rfl (by omega), e]
theorem le_le8 {p k : Nat} (hb : ∀ k, b k < 256) (hk : k ≤ 8) : le b p k < 2 ^ 64 := Nat.lt_of_lt_of_le (le_lt hb p k) (Nat.pow_le_pow_right (n := 256) (by decide) hk)
theorem k_rowErr {p e : Nat} (hF : 8 < F) (h : cRb sk L τ r z b) (hp : p < 2 ^ 29) (he : e < 2 ^ 62) : f_Memory_rowError F c r (nI p) (lN e) (cH sk L τ) = some (nI (xrR b z p e), cH sk L τ) := by
  have hb := cRb_lt h
  obtain ⟨hz, o1, _⟩ := cRb_z h
  have l1 := le_le8 (p := p + 8) (k := 8) hb (by decide)
  have l2 := le_le8 (p := p + 16) (k := 8) hb (by decide)
  have l3 := le_le8 (p := p + 32) (k := 8) hb (by decide)
  have l4 := le_le8 (p := p + 40) (k := 8) hb (by decide)
  have k0 : (0 : Int32) = nI 0 := rfl
  unfold f_Memory_rowError xrR
  rw [c_o o1, bs, nI_add, k_rn h hF (by decide) (by omega), xb_mk, c_o o1, bs, nI_add, k_rn h hF (by decide) (by omega), xb_mk, c_o o1, bs, nI_add, k_rn h hF (by decide) (by omega), xb_mk, c_o o1, bs, nI_add, k_rn h hF (by decide) (by omega), xb_mk, c_o o1, bs, nI_add, k_rn h hF (by decide) (by omega), xb_mk, c_o o1, bs]
  generalize le b (p + 8) 8 = pl at *
  generalize le b (p + 16) 8 = ad at *
  generalize le b (p + 32) 8 = fi at *
  generalize le b (p + 40) 8 = me at *
  generalize le b (p + 48) 8 = al at *
  rw [k_rh h l1 l3, xb_mk, k0]
  unfold xrP
  by_cases c1 : pl + fi ≤ z
  · rw [if_neg (show ¬ bI (decide (pl + fi ≤ z)) = nI 0 by rw [decide_eq_true c1]; decide), if_pos c1, k_above l3 l4, xb_mk]
    by_cases c2 : me < fi
    · rw [if_neg (show ¬ bI (decide (me < fi)) = nI 0 by rw [decide_eq_true c2]; decide), if_pos c2]
      rfl
    · rw [if_pos (show bI (decide (me < fi)) = nI 0 by rw [decide_eq_false c2]; rfl), if_neg c2, show (65536 : Int64) = lN 65536 from rfl, k_above l4 (by decide), xb_mk]
      by_cases c3 : 65536 < me
      · rw [if_neg (show ¬ bI (decide (65536 < me)) = nI 0 by rw [decide_eq_true c3]; decide), if_pos c3]
        rfl
      · rw [if_pos (show bI (decide (65536 < me)) = nI 0 by rw [decide_eq_false c3]; rfl), if_neg c3, show (140737488355328 : Int64) = lN (2 ^ 47) from rfl, k_above l2 (by decide), xb_mk]
        by_cases c4 : 2 ^ 47 < ad
        · rw [if_neg (show ¬ bI (decide (2 ^ 47 < ad)) = nI 0 by rw [decide_eq_true c4]; decide), if_pos c4]
          rfl
        · rw [if_pos (show bI (decide (2 ^ 47 < ad)) = nI 0 by rw [decide_eq_false c4]; rfl), if_neg c4]
          have fin : f_Memory_rowError_141 F c (lN e) (lN ad) (cH sk L τ) = some (nI (if e ≤ ad then 0 else 5), cH sk L τ) := by
            unfold f_Memory_rowError_141 f_Memory_rowError_153
            by_cases c6 : e ≤ ad
            · rw [if_pos ((pk_lLE (by omega) (by omega)).mpr c6), if_pos c6]
            · rw [if_neg (fun q => c6 ((pk_lLE (by omega) (by omega)).mp q)), if_neg c6]
          unfold xrA
          by_cases c5 : lN al &&& (lN al - lN 1) = lN 0
          · rw [if_pos c5, if_pos c5]
            by_cases c7 : lN al = lN 0
            · rw [if_pos c7, if_pos c7, if_pos rfl]
              exact fin
            · rw [if_neg c7, if_neg c7]
              by_cases c8 : (lN ad - lN pl) &&& (lN al - lN 1) = lN 0
              · rw [if_pos c8, decide_eq_true c8, if_pos rfl]
                exact fin
              · rw [if_neg c8, decide_eq_false c8, if_neg (by decide)]
                rfl
          · rw [if_neg c5, if_neg c5, if_neg (by decide)]
            rfl
  · rw [if_pos (show bI (decide (pl + fi ≤ z)) = nI 0 by rw [decide_eq_false c1]; rfl), if_neg c1]
theorem k_within {st ro en : Nat} {h : px_H} (h1 : st ≤ 2 ^ 47) (h2 : ro ≤ 65536) (h3 : en < 2 ^ 64) : f_H_above F c (lN ro) (lN en - lN st) h = some (bI (decide (st ≤ en) && decide (en < st + ro)), h) := by
  by_cases c1 : st ≤ en
  · rw [lN_sub c1, k_above (by omega) (by omega), decide_eq_true c1, Bool.true_and]
    congr 3
    by_cases c2 : en < st + ro
    · rw [decide_eq_true c2, decide_eq_true (by omega)]
    · rw [decide_eq_false c2, decide_eq_false (by omega)]
  · rw [lN_subm (by omega) (by omega), k_above (by omega) (by omega), decide_eq_false c1, Bool.false_and, decide_eq_false (by omega)]
theorem any_a (R : List px_XR) (f : px_XR → Bool) (w : px_XR) : (R ++ [w]).any f = (R.any f || f w) := by
  rw [List.any_append]
  simp
theorem k_err_127 {at0 N en : Nat} (hF : 8 < F) (h : cRb sk L τ r z b) (hN : N ≤ 8) (hat : at0 + 56 * N ≤ z) (hen : le b 24 8 = en) : ∀ (d k f : Nat) (R : List px_XR), k + d = N → d < f → xrE R < 2 ^ 62 → f_Memory_errorOf_127 F c f r (lN at0) (nI N) (lN (xrE R)) (bI (R.any (xrN en))) (nI k) (cH sk L τ) = some (nI (xrO en (xrG (xrTf b at0) (xrEf b z at0) (xrWf b at0) d k R)), cH sk L τ) := by
  have hb := cRb_lt h
  obtain ⟨hz, o1, _⟩ := cRb_z h
  intro d
  induction d with
  | zero =>
    intro k f R hk hf hR
    obtain ⟨f, rfl⟩ : ∃ g, f = g + 1 := ⟨f - 1, by omega⟩
    rw [xrG_0]
    unfold f_Memory_errorOf_127 f_Memory_errorOf_264 f_Memory_errorOf_275 xrO
    rw [if_pos (nI_le (by omega) (by omega)), if_pos rfl]
    cases R.any (xrN en) with
    | false => rw [if_pos (show bI false = 0 from rfl), if_neg (by decide)]
    | true => rw [if_neg (show ¬ bI true = 0 by decide), if_pos rfl]
  | succ d ih =>
    intro k f R hk hf hR
    obtain ⟨f, rfl⟩ : ∃ g, f = g + 1 := ⟨f - 1, by omega⟩
    have hl4 := le_le8 (p := at0 + 56 * k) (k := 4) hb (by decide)
    unfold f_Memory_errorOf_127 f_Memory_errorOf_258 f_Memory_errorOf_171
    rw [if_neg (nI_ge (by omega) (by omega)), c_o o1, bs, lN_i, pk_mul, nI_add, k_rn h hF (by decide) (by omega), xb_mk]
    by_cases c1 : le b (at0 + 56 * k) 4 = 1
    · have hT : xrTf b at0 k = true := decide_eq_true c1
      rw [if_pos (by rw [c1]), k_rowErr hF h (by omega) hR, xb_mk]
      by_cases c2 : xrR b z (at0 + 56 * k) (xrE R) = 0
      · have hE : xrEf b z at0 k (xrE R) = 0 := c2
        have c2' := c2
        unfold xrR at c2'
        obtain ⟨q1, q2, q3, q4, _, _⟩ := xrP_0 c2'
        have hen2 := le_le8 (p := 24) (k := 8) hb (by decide)
        rw [xrG_t hT hE, if_pos (by rw [c2]; rfl), c_o o1, bs, nI_add, k_rn h hF (by decide) (by omega), xb_mk, c_o o1, bs, nI_add, k_rn h hF (by decide) (by omega), xb_mk, c_o o1, bs, k_rn h hF (by decide) (by decide), xb_mk, k_within q4 q3 hen2, xb_mk, lN_add, hen]
        have hE' : xrE (R ++ [xrW b (at0 + 56 * k)]) = le b (at0 + 56 * k + 16) 8 + le b (at0 + 56 * k + 40) 8 := xrE_a R _
        have eW : xrN en (xrW b (at0 + 56 * k)) = (decide (le b (at0 + 56 * k + 4) 4 % 2 = 1) && (decide (le b (at0 + 56 * k + 16) 8 ≤ en) && decide (en < le b (at0 + 56 * k + 16) 8 + le b (at0 + 56 * k + 40) 8))) := rfl
        have go := ih (k + 1) f (R ++ [xrW b (at0 + 56 * k)]) (by omega) (by omega) (by rw [hE']; omega)
        rw [hE', any_a, eW] at go
        have hl5 := le_le8 (p := at0 + 56 * k + 4) (k := 4) hb (by decide)
        have e56 : ∀ x : Int32, f_Memory_errorOf_256 F c (f_Memory_errorOf_127 F c f) r (lN at0) (nI N) (lN (le b (at0 + 56 * k + 16) 8 + le b (at0 + 56 * k + 40) 8)) (nI k) x (cH sk L τ) = f_Memory_errorOf_127 F c f r (lN at0) (nI N) (lN (le b (at0 + 56 * k + 16) 8 + le b (at0 + 56 * k + 40) 8)) x (nI (k + 1)) (cH sk L τ) := fun x => by
          unfold f_Memory_errorOf_256 f_Memory_errorOf_258
          rw [nI_add]
        unfold f_Memory_errorOf_255 f_Memory_errorOf_251
        rw [e56, e56]
        generalize (decide (le b (at0 + 56 * k + 16) 8 ≤ en) && decide (en < le b (at0 + 56 * k + 16) 8 + le b (at0 + 56 * k + 40) 8)) = wi at *
        cases hA : R.any (xrN en) with
        | true =>
          rw [hA, Bool.true_or] at go
          rw [if_neg (show ¬ bI true = 0 by decide)]
          exact go
        | false =>
          rw [hA, Bool.false_or] at go
          rw [if_pos (show bI false = 0 from rfl)]
          cases wi with
          | false =>
            rw [Bool.and_false] at go
            rw [if_pos (show bI false = 0 from rfl)]
            exact go
          | true =>
            rw [Bool.and_true] at go
            rw [if_neg (show ¬ bI true = 0 by decide), c_o o1, bs, nI_add, k_rn h hF (by decide) (by omega), xb_mk, show lN 1 = (1 : Int64) from rfl, wb_a1 hl5]
            by_cases c9 : le b (at0 + 56 * k + 4) 4 % 2 = 1
            · rw [decide_eq_true c9] at go
              rw [if_neg (show ¬ lN (le b (at0 + 56 * k + 4) 4 % 2) = lN 0 by rw [c9]; decide), e56]
              exact go
            · rw [decide_eq_false c9] at go
              rw [if_pos (show lN (le b (at0 + 56 * k + 4) 4 % 2) = lN 0 by rw [show le b (at0 + 56 * k + 4) 4 % 2 = 0 by omega]), e56]
              exact go
      · have hE : xrEf b z at0 k (xrE R) ≠ 0 := c2
        have h5 : xrR b z (at0 + 56 * k) (xrE R) ≤ 5 := by unfold xrR; exact xrP_5
        rw [xrG_e hT hE, if_neg (show ¬ nI (xrR b z (at0 + 56 * k) (xrE R)) = 0 from fun q => c2 ((nI_eq (b := 0) (by omega) (by decide)).mp q))]
        unfold xrO
        rw [if_neg (show ¬ (xrEf b z at0 k (xrE R), R).1 = 0 from c2)]
        rfl
    · have hT : xrTf b at0 k = false := decide_eq_false c1
      rw [if_neg (fun q => c1 ((lEQ (b := 1) hl4 (by decide)).mp q)), xrG_f hT, nI_add]
      exact ih (k + 1) f R (by omega) (by omega) hR
/-- the class's error of an executable -/
theorem k_errorOf (hK : KT c) (hF : 65540 < F) (h : cRb sk L τ r z b) : f_Memory_errorOf F c 1718 r (cH sk L τ) = some (nI (xrX b z), cH sk L τ) := by
  have hb := cRb_lt h
  obtain ⟨hz, o1, o2⟩ := cRb_z h
  have hF8 : 8 < F := by omega
  have m16 := le_le8 (p := 16) (k := 2) hb (by decide)
  have m18 := le_le8 (p := 18) (k := 2) hb (by decide)
  have m20 := le_le8 (p := 20) (k := 4) hb (by decide)
  have m54 := le_le8 (p := 54) (k := 2) hb (by decide)
  have m32 := le_le8 (p := 32) (k := 8) hb (by decide)
  have m56 := le_lt hb 56 2
  have m56 : le b 56 2 < 65536 := m56
  unfold f_Memory_errorOf f_Memory_errorOf_73 f_Memory_errorOf_116 xrX xrH
  rw [C10g1 o1, bs, o2]
  by_cases c0 : 64 ≤ z
  · rw [if_neg (nI_nlt c0 (by omega)), decide_eq_true c0, Bool.true_and, c_o o1, bs, k_rb hK hF8 h, xb_mk]
    by_cases c1 : le b 0 7 = 282584257676671
    · rw [decide_eq_true c1, Bool.true_and, if_neg (show ¬ bI true = 0 by decide), c_o o1, bs, k_rn h hF8 (by decide) (by decide), xb_mk]
      by_cases c2 : le b 16 2 = 2
      · rw [decide_eq_true c2, Bool.true_and, if_pos (by rw [c2]; rfl), c_o o1, bs, k_rn h hF8 (by decide) (by decide), xb_mk]
        by_cases c3 : le b 18 2 = 62
        · rw [decide_eq_true c3, Bool.true_and, if_pos (by rw [c3]; rfl), c_o o1, bs, k_rn h hF8 (by decide) (by decide), xb_mk]
          by_cases c4 : le b 20 4 = 1
          · rw [decide_eq_true c4, Bool.true_and, if_pos (by rw [c4]), c_o o1, bs, k_rn h hF8 (by decide) (by decide), xb_mk]
            by_cases c5 : le b 54 2 = 56
            · rw [decide_eq_true c5, if_pos rfl, if_pos (by rw [c5]; rfl), c_o o1, bs, k_rn h hF8 (by decide) (by decide), xb_mk, c_o o1, bs, k_rn h hF8 (by decide) (by decide), xb_mk, lN_i]
              by_cases c6 : 8 < le b 56 2
              · rw [if_pos (nI_lt c6 (by omega)), if_pos c6]
              · rw [if_neg (nI_nlt (by omega) (by decide)), if_neg c6, c_o o1, bs, nI_l (by omega), show (56 : Int64) = lN 56 from rfl, lN_mul, k_rh h m32 (by omega), xb_mk]
                by_cases c7 : le b 32 8 + 56 * le b 56 2 ≤ z
                · rw [decide_eq_true c7, if_neg (show ¬ bI true = 0 by decide), if_pos c7]
                  have w := k_err_127 (F := F) (c := c) hF8 h (by omega) c7 rfl (le b 56 2) 0 F [] (Nat.zero_add _) (by omega) (by rw [xrE_n]; decide)
                  rw [xrE_n] at w
                  exact w
                · rw [decide_eq_false c7, if_pos (show bI false = 0 from rfl), if_neg c7]
            · rw [decide_eq_false c5, if_neg (show ¬ false = true by decide), if_neg (show ¬ lN (le b 54 2) = 56 from fun q => c5 ((lEQ (b := 56) m54 (by decide)).mp q))]
          · rw [decide_eq_false c4, Bool.false_and, if_neg (show ¬ false = true by decide), if_neg (show ¬ lN (le b 20 4) = lN 1 from fun q => c4 ((lEQ (b := 1) m20 (by decide)).mp q))]
        · rw [decide_eq_false c3, Bool.false_and, if_neg (show ¬ false = true by decide), if_neg (show ¬ lN (le b 18 2) = 62 from fun q => c3 ((lEQ (b := 62) m18 (by decide)).mp q))]
      · rw [decide_eq_false c2, Bool.false_and, if_neg (show ¬ false = true by decide), if_neg (show ¬ lN (le b 16 2) = 2 from fun q => c2 ((lEQ (b := 2) m16 (by decide)).mp q))]
    · rw [decide_eq_false c1, Bool.false_and, if_neg (show ¬ false = true by decide), if_pos (show bI false = 0 from rfl)]
  · rw [if_pos (nI_lt (by omega) (by decide)), decide_eq_false c0, Bool.false_and, if_neg (show ¬ false = true by decide)]
end CXE
end
section
/-! the reference boots: its error, and the rows of its memory -/
/-- what is tried -/
def RXb (σ : px_S) (z : Nat) (b : Nat → Nat) : Prop := gI σ 101 = nI z ∧ z ≤ 65536 ∧ b = cb (gA σ 99) 0 z
def xrB (w : px_XR) : Prop := w.1 < 2 ^ 32 ∧ w.2.2.1 ≤ 2 ^ 47 ∧ w.2.2.2.2 ≤ 65536 ∧ w.2.1 + w.2.2.2.1 ≤ 65536
/-- rows that were tried and found good -/
def RXt (σ0 σ : px_S) (R : List px_XR) : Prop := FR [0, 115] [] [] [110, 111, 112, 113, 114] σ0 σ ∧ gI σ 115 = nI R.length ∧ ∀ (i : Nat) (w : px_XR), R[i]? = some w → (gB σ 110 i = lN w.1 ∧ gB σ 111 i = lN w.2.1 ∧ gB σ 112 i = lN w.2.2.1 ∧ gB σ 113 i = lN w.2.2.2.1 ∧ gB σ 114 i = lN w.2.2.2.2) ∧ xrB w
theorem app1 {α : Type} {R : List α} {x w : α} {i : Nat} (h : (R ++ [x])[i]? = some w) : (i = R.length ∧ w = x) ∨ (i < R.length ∧ R[i]? = some w) := by
  by_cases c : i < R.length
  · rw [List.getElem?_append_left c] at h
    exact Or.inr ⟨c, h⟩
  · rw [List.getElem?_append_right (by omega)] at h
    by_cases d : i = R.length
    · refine Or.inl ⟨d, ?_⟩
      rw [d, Nat.sub_self] at h
      exact (Option.some.inj h).symm
    · exfalso
      rw [List.getElem?_eq_none (by rw [List.length_singleton]; omega)] at h
      cases h
theorem isB_c {x : Int32} (h : isB x) : x.toInt8.toInt32 = x := by
  have t : ∀ n, n < 256 → ((nI n).toInt8.toInt32).toInt8.toInt32 = (nI n).toInt8.toInt32 := by decide +kernel
  have w := t _ (b8_lt x)
  rw [← h] at w
  exact w
section MXE
variable {F m : Nat} {h : px_H} {σ0 σ : px_S} {z : Nat} {b : Nat → Nat} {R : List px_XR}
theorem RXb_lt (hz : RXb σ z b) : ∀ k, b k < 256 := fun k => by
  rw [hz.2.2]
  exact cb_lt _ _ _ _
theorem RXb_FR {I J A B : List Nat} {σ' : px_S} (hz : RXb σ z b) (f : FR I J A B σ σ') (h1 : 101 ∉ I) (h2 : 99 ∉ A) : RXb σ' z b := ⟨(f.1 101 h1).trans hz.1, hz.2.1, by rw [f.2.2.1 99 h2]; exact hz.2.2⟩
theorem tq_num_7 {p : Nat} (hm : m ≤ h.length) : ∀ (k x f : Nat), k < f → (x + 1) * 256 ^ k ≤ 2 ^ 64 → p + k ≤ 65536 → f_M_triedNum_7 F f m (nI p) (lN x) (nI k - nI 1) (mh m h σ) = some (lN (x * 256 ^ k + le (ub (gA σ 99)) p k), mh m h σ) := by
  intro k
  induction k with
  | zero =>
    intro x f hf hx hp
    obtain ⟨f, rfl⟩ : ∃ g, f = g + 1 := ⟨f - 1, by omega⟩
    unfold f_M_triedNum_7
    rw [if_pos (by decide)]
    show some (lN x, mh m h σ) = _
    rw [Nat.pow_zero, Nat.mul_one]
    rfl
  | succ k ih =>
    intro x f hf hx hp
    obtain ⟨f, rfl⟩ : ∃ g, f = g + 1 := ⟨f - 1, by omega⟩
    have e1 : nI (k + 1) - nI 1 = nI k := nI_pred k
    have e2 : (x + 1) * 256 ^ (k + 1) = (x + 1) * 256 * 256 ^ k := by rw [Nat.pow_succ, Nat.mul_comm (256 ^ k), Nat.mul_assoc]
    have e3 : 1 ≤ 256 ^ k := Nat.one_le_pow _ _ (by decide)
    have e4 : (x + 1) * 256 ≤ 2 ^ 64 := by
      have : (x + 1) * 256 * 1 ≤ (x + 1) * 256 * 256 ^ k := Nat.mul_le_mul_left _ e3
      omega
    have e5 := b8_lt (gA σ 99 (p + k))
    unfold f_M_triedNum_7
    rw [e1, if_neg (nI_pos (by omega)), Mr99 hm, bs, nI_add, Ma99 hm (by omega), bs, sh_byte x _ (by omega), nI_back]
    have e6 : (x * 256 + b8 (gA σ 99 (p + k)) + 1) * 256 ^ k ≤ 2 ^ 64 := by
      have : (x * 256 + b8 (gA σ 99 (p + k)) + 1) * 256 ^ k ≤ (x + 1) * 256 * 256 ^ k := Nat.mul_le_mul_right _ (by omega)
      omega
    rw [ih _ f (by omega) e6 (by omega)]
    have e7 : (x * 256 + b8 (gA σ 99 (p + k))) * 256 ^ k + le (ub (gA σ 99)) p k = x * 256 ^ (k + 1) + le (ub (gA σ 99)) p (k + 1) := by
      show _ = x * 256 ^ (k + 1) + (ub (gA σ 99) (p + k) * 256 ^ k + le (ub (gA σ 99)) p k)
      rw [Nat.add_mul, Nat.mul_assoc, Nat.mul_comm 256, ← Nat.pow_succ, Nat.add_assoc]
      rfl
    rw [e7]
theorem tq_num {p k : Nat} (hm : m ≤ h.length) (hF : 8 < F) (hz : RXb σ z b) (hk : k ≤ 8) (hp : p + k ≤ z) : f_M_triedNum F m (nI p) (nI k) (mh m h σ) = some (lN (le b p k), mh m h σ) := by
  have e : (0 + 1) * 256 ^ k ≤ 2 ^ 64 := by
    rw [Nat.zero_add, Nat.one_mul]
    exact Nat.pow_le_pow_right (n := 256) (by decide) hk
  have hz2 := hz.2.1
  unfold f_M_triedNum
  rw [tq_num_7 hm k 0 F (by omega) e (by omega), Nat.zero_mul, Nat.zero_add, hz.2.2]
  have w := le_cb (gA σ 99) 0 z p k hp
  rw [Nat.zero_add] at w
  rw [w]
theorem qx_re_195 {P fl pl ad fi me : Nat} (hm : m ≤ h.length) (hF : 8 < F) (hz : RXb σ z b) (hP : P + 56 ≤ z) (hr : R.length < 8) (hI : RXt σ0 σ R) (hw : xrB (fl, pl, ad, fi, me)) (hfl : le b (P + 4) 4 = fl) : ∃ σ', f_M_rowError_195 F m (nI P) (lN pl) (lN ad) (lN fi) (lN me) (mh m h σ) = some (nI 0, mh m h σ') ∧ RXt σ0 σ' (R ++ [(fl, pl, ad, fi, me)]) := by
  obtain ⟨hf, er, ht⟩ := hI
  unfold f_M_rowError_195
  rw [Mr110 hm, bs, Mg115 hm, bs, er, e_o hm, bs, nI_add, tq_num hm hF hz (by decide) (by omega), xb_mk, hfl, Ms110 hm hr, bs, Mr111 hm, bs, Mg115 hm, bs, gI_sB, er, Ms111 hm hr, bs, Mr112 hm, bs, Mg115 hm, bs, gI_sB, gI_sB, er, Ms112 hm hr, bs, Mr113 hm, bs, Mg115 hm, bs, gI_sB, gI_sB, gI_sB, er, Ms113 hm hr, bs, Mr114 hm, bs, Mg115 hm, bs, gI_sB, gI_sB, gI_sB, gI_sB, er, Ms114 hm hr, bs, Mg115 hm, bs, gI_sB, gI_sB, gI_sB, gI_sB, gI_sB, er, nI_add, Mp115 hm, bs]
  have fB : ∀ (τ : px_S) (k : Nat) (g : Nat → Int64), k ∈ [110, 111, 112, 113, 114] → FR [0, 115] [] [] [110, 111, 112, 113, 114] σ0 τ → FR [0, 115] [] [] [110, 111, 112, 113, 114] σ0 (sB τ k g) := fun τ k g hk w => FR_trans w (FR_mono (FR_B _ _ _) (by simp) (by simp) (by simp) (fun i hi => by rw [List.mem_singleton.mp hi]; exact hk))
  refine ⟨_, rfl, FR_trans (fB _ _ _ (by decide) (fB _ _ _ (by decide) (fB _ _ _ (by decide) (fB _ _ _ (by decide) (fB _ _ _ (by decide) hf))))) (FR_mono (FR_I _ _ _) (by decide) (by decide) (by decide) (by decide)), by rw [gI_sI, if_pos rfl, List.length_append, List.length_singleton], fun i w hi => ?_⟩
  simp only [gB_sI, gB_sB]
  rcases app1 hi with ⟨rfl, rfl⟩ | ⟨c, hi⟩
  · exact ⟨⟨by simp [vp_eq], by simp [vp_eq], by simp [vp_eq], by simp [vp_eq], by simp [vp_eq]⟩, hw⟩
  · obtain ⟨⟨e1, e2, e3, e4, e5⟩, e6⟩ := ht i w hi
    have c : i ≠ R.length := by omega
    exact ⟨⟨by simp [vp_ne c, e1], by simp [vp_ne c, e2], by simp [vp_ne c, e3], by simp [vp_ne c, e4], by simp [vp_ne c, e5]⟩, e6⟩
theorem getL {R : List px_XR} (hr : 0 < R.length) : ∃ w, R[R.length - 1]? = some w ∧ xrE R = w.2.2.1 + w.2.2.2.2 := by
  obtain ⟨w, hw⟩ : ∃ w, R[R.length - 1]? = some w := ⟨_, List.getElem?_eq_getElem (by omega)⟩
  refine ⟨w, hw, ?_⟩
  unfold xrE
  rw [List.getLast?_eq_getElem?, hw]
theorem qx_re_157 {P fl pl ad fi me : Nat} (hm : m ≤ h.length) (hF : 8 < F) (hz : RXb σ z b) (hP : P + 56 ≤ z) (hr : R.length < 8) (hI : RXt σ0 σ R) (hw : xrB (fl, pl, ad, fi, me)) (hfl : le b (P + 4) 4 = fl) : ∃ σ', f_M_rowError_157 F m (nI P) (lN pl) (lN ad) (lN fi) (lN me) (mh m h σ) = some (nI (if xrE R ≤ ad then 0 else 5), mh m h σ') ∧ RXt σ0 σ' (if xrE R ≤ ad then R ++ [(fl, pl, ad, fi, me)] else R) := by
  obtain ⟨σ1, a1, a2⟩ := qx_re_195 (F := F) (h := h) hm hF hz hP hr hI hw hfl
  have had : ad ≤ 2 ^ 47 := hw.2.1
  unfold f_M_rowError_157
  rw [Mg115 hm, bs, hI.2.1]
  by_cases c : R.length = 0
  · have e0 : xrE R = 0 := by
      have : R = [] := List.eq_nil_of_length_eq_zero c
      rw [this]; rfl
    rw [if_pos (show nI R.length ≤ 0 by rw [c]; decide), e0, if_pos (Nat.zero_le _), if_pos (Nat.zero_le _)]
    exact ⟨σ1, a1, a2⟩
  · obtain ⟨w, w1, w2⟩ := getL (R := R) (by omega)
    obtain ⟨⟨_, _, g3, _, g5⟩, g6⟩ := hI.2.2 _ w w1
    have b1 := g6.2.1
    have b2 := g6.2.2.1
    rw [if_neg (nI_nle (by omega) (by omega)), Mr112 hm, bs, bs, pk_sub (by omega), Ma112 hm (by omega), bs, g3, Mr114 hm, bs, bs, pk_sub (by omega), Ma114 hm (by omega), bs, g5, lN_add, ← w2]
    by_cases c2 : xrE R ≤ ad
    · rw [if_pos ((pk_lLE (by omega) (by omega)).mpr c2), if_pos c2, if_pos c2]
      exact ⟨σ1, a1, a2⟩
    · rw [if_neg (fun q => c2 ((pk_lLE (by omega) (by omega)).mp q)), if_neg c2, if_neg c2]
      exact ⟨σ, rfl, hI⟩
theorem lN_ltm {a c : Nat} (ha : a < 2 ^ 64) (hc : c < 2 ^ 63) : lN a < lN c ↔ (2 ^ 63 ≤ a ∨ a < c) := by
  rw [Int64.lt_iff_toInt_lt, lN_ti ha, lN_ti (show c < 2 ^ 64 by omega), if_pos hc]
  split <;> omega
theorem lN_ltM {a c : Nat} (ha : a < 2 ^ 64) (hc : c < 2 ^ 63) : lN c < lN a ↔ (a < 2 ^ 63 ∧ c < a) := by
  rw [Int64.lt_iff_toInt_lt, lN_ti ha, lN_ti (show c < 2 ^ 64 by omega), if_pos hc]
  split <;> omega
theorem qx_re_92 {P fl pl ad fi me al : Nat} {s0 : Bool} (hm : m ≤ h.length) (hF : 8 < F) (hz : RXb σ z b) (hP : P + 56 ≤ z) (hr : R.length < 8) (hI : RXt σ0 σ R) (h1 : fl < 2 ^ 32) (h2 : ad < 2 ^ 64) (h3 : me < 2 ^ 64) (h4 : pl + fi ≤ z) (hfl : le b (P + 4) 4 = fl) (hs : s0 = decide (lN al &&& (lN al - lN 1) = lN 0)) : ∃ σ', f_M_rowError_92 F m (nI P) (lN pl) (lN ad) (lN fi) (lN me) (lN al) (bI s0) (mh m h σ) = some (nI (xrP z (xrE R) pl ad fi me (xrA (lN ad) (lN pl) (lN al))), mh m h σ') ∧ RXt σ0 σ' (if xrP z (xrE R) pl ad fi me (xrA (lN ad) (lN pl) (lN al)) = 0 then R ++ [(fl, pl, ad, fi, me)] else R) := by
  have hz2 := hz.2.1
  have four : ∀ {v : Nat}, v = 4 → ∃ σ', (some (nI 4, mh m h σ) : Option (Int32 × px_H)) = some (nI v, mh m h σ') ∧ RXt σ0 σ' (if v = 0 then R ++ [(fl, pl, ad, fi, me)] else R) := fun {v} hv => by
    subst hv
    rw [if_neg (by decide)]
    exact ⟨σ, rfl, hI⟩
  unfold f_M_rowError_92 f_M_rowError_132
  by_cases c1 : me < 2 ^ 63 ∧ fi ≤ me
  · rw [if_neg (show ¬ lN me < lN fi from fun q => by rcases (lN_ltm h3 (by omega)).mp q with e | e <;> omega)]
    by_cases c2 : 65536 < me
    · rw [if_pos (show (65536 : Int64) < lN me from (lN_ltM (c := 65536) h3 (by decide)).mpr ⟨c1.1, c2⟩)]
      refine four ?_
      unfold xrP
      rw [if_pos h4, if_neg (by omega), if_pos c2]
    · rw [if_neg (show ¬ (65536 : Int64) < lN me from fun q => c2 ((lN_ltM (c := 65536) h3 (by decide)).mp q).2)]
      rw [show (140737488355328 : Int64) = lN 140737488355328 from lk _]
      by_cases c3 : 2 ^ 47 < ad
      · have e4 : xrP z (xrE R) pl ad fi me (xrA (lN ad) (lN pl) (lN al)) = 4 := by
          unfold xrP
          rw [if_pos h4, if_neg (by omega), if_neg c2, if_pos c3]
        by_cases c4 : 2 ^ 63 ≤ ad
        · rw [if_pos ((lN_ltm h2 (by decide)).mpr (Or.inl c4))]
          exact four e4
        · rw [if_neg (fun q => by rcases (lN_ltm h2 (by decide)).mp q with e | e <;> omega), if_pos ((lN_ltM (c := 140737488355328) h2 (by decide)).mpr ⟨by omega, by omega⟩)]
          exact four e4
      · rw [if_neg (show ¬ lN ad < lN 0 from fun q => by rcases (lN_ltm h2 (by decide)).mp q with e | e <;> omega), if_neg (fun q => by have := ((lN_ltM (c := 140737488355328) h2 (by decide)).mp q).2; omega)]
        have hw : xrB (fl, pl, ad, fi, me) := ⟨h1, by show ad ≤ 2 ^ 47; omega, by show me ≤ 65536; omega, by show pl + fi ≤ 65536; omega⟩
        obtain ⟨σ1, a1, a2⟩ := qx_re_157 (F := F) (h := h) hm hF hz hP hr hI hw hfl
        have eP : ∀ ok, xrP z (xrE R) pl ad fi me ok = if ok = true then (if xrE R ≤ ad then 0 else 5) else 4 := fun ok => by
          unfold xrP
          rw [if_pos h4, if_neg (by omega), if_neg c2, if_neg c3]
        rw [eP]
        have good : ∃ σ', f_M_rowError_157 F m (nI P) (lN pl) (lN ad) (lN fi) (lN me) (mh m h σ) = some (nI (if true = true then (if xrE R ≤ ad then 0 else 5) else 4), mh m h σ') ∧ RXt σ0 σ' (if (if true = true then (if xrE R ≤ ad then 0 else 5) else 4) = 0 then R ++ [(fl, pl, ad, fi, me)] else R) := by
          rw [if_pos rfl]
          refine ⟨σ1, a1, ?_⟩
          by_cases c6 : xrE R ≤ ad
          · rw [if_pos c6] at a2 ⊢
            rw [if_pos rfl]; exact a2
          · rw [if_neg c6] at a2 ⊢
            rw [if_neg (by decide)]; exact a2
        unfold xrA
        by_cases c5 : lN al &&& (lN al - lN 1) = lN 0
        · rw [decide_eq_true c5] at hs
          subst hs
          rw [if_neg (show ¬ bI true = 0 by decide), if_pos c5]
          by_cases c7 : lN al = lN 0
          · rw [if_pos c7, if_pos c7]
            exact good
          · rw [if_neg c7, if_neg c7]
            by_cases c8 : (lN ad - lN pl) &&& (lN al - lN 1) = lN 0
            · rw [if_pos c8, decide_eq_true c8]
              exact good
            · rw [if_neg c8, decide_eq_false c8]
              exact four (if_neg (by decide))
        · rw [decide_eq_false c5] at hs
          subst hs
          rw [if_pos (show bI false = 0 from rfl), if_neg c5]
          exact four (if_neg (by decide))
  · rw [if_pos (show lN me < lN fi from (lN_ltm h3 (by omega)).mpr (by omega))]
    refine four ?_
    unfold xrP
    rw [if_pos h4]
    by_cases c2 : me < fi
    · rw [if_pos c2]
    · rw [if_neg c2, if_pos (by omega)]
theorem qx_rowErr {P : Nat} (hm : m ≤ h.length) (hF : 8 < F) (hz0 : RXb σ0 z b) (hP : P + 56 ≤ z) (hr : R.length < 8) (hI : RXt σ0 σ R) : ∃ σ', f_M_rowError F m (nI P) (mh m h σ) = some (nI (xrR b z P (xrE R)), mh m h σ') ∧ RXt σ0 σ' (if xrR b z P (xrE R) = 0 then R ++ [xrW b P] else R) := by
  have hz := RXb_FR hz0 hI.1 (by decide) (by decide)
  have hb := RXb_lt hz
  have hz2 := hz.2.1
  have l1 := le_le8 (p := P + 8) (k := 8) hb (by decide)
  have l2 := le_le8 (p := P + 16) (k := 8) hb (by decide)
  have l3 := le_le8 (p := P + 32) (k := 8) hb (by decide)
  have l4 := le_le8 (p := P + 40) (k := 8) hb (by decide)
  have l5 : le b (P + 4) 4 < 2 ^ 32 := le_lt hb (P + 4) 4
  obtain ⟨fl, efl⟩ : ∃ x, x = le b (P + 4) 4 := ⟨_, rfl⟩
  have eW : xrW b P = (fl, le b (P + 8) 8, le b (P + 16) 8, le b (P + 32) 8, le b (P + 40) 8) := by rw [efl]; rfl
  rw [eW]
  unfold f_M_rowError xrR
  rw [e_o hm, bs, nI_add, tq_num hm hF hz (by decide) (by omega), xb_mk, e_o hm, bs, nI_add, tq_num hm hF hz (by decide) (by omega), xb_mk, e_o hm, bs, nI_add, tq_num hm hF hz (by decide) (by omega), xb_mk, e_o hm, bs, nI_add, tq_num hm hF hz (by decide) (by omega), xb_mk, e_o hm, bs, nI_add, tq_num hm hF hz (by decide) (by omega), xb_mk, Mg101 hm, bs, hz.1, nI_l (by omega)]
  rw [← efl] at l5
  generalize le b (P + 8) 8 = pl at *
  generalize le b (P + 16) 8 = ad at *
  generalize le b (P + 32) 8 = fi at *
  generalize le b (P + 40) 8 = me at *
  generalize le b (P + 48) 8 = al at *
  rw [q_lies l1 l3 (by omega), xb_mk]
  by_cases c1 : pl + fi ≤ z
  · rw [decide_eq_true c1, if_neg (show ¬ bI true = 0 by decide)]
    obtain ⟨σ1, a1, a2⟩ := qx_re_92 (F := F) (h := h) (al := al) (s0 := decide (lN al &&& (lN al - lN 1) = lN 0)) hm hF hz hP hr hI l5 l2 l4 c1 efl.symm rfl
    refine ⟨σ1, ?_, a2⟩
    rw [← a1]
    by_cases c5 : lN al &&& (lN al - lN 1) = lN 0
    · rw [if_pos c5, decide_eq_true c5]; rfl
    · rw [if_neg c5, decide_eq_false c5]; rfl
  · rw [decide_eq_false c1, if_pos (show bI false = 0 from rfl)]
    have e3 : ∀ ok, xrP z (xrE R) pl ad fi me ok = 3 := fun ok => by unfold xrP; rw [if_neg c1]
    rw [e3, if_neg (by decide)]
    exact ⟨σ, rfl, hI⟩
theorem drop_g {α : Type} {l : List α} {k : Nat} {x : α} (h : l[k]? = some x) : l.drop k = x :: l.drop (k + 1) := by
  obtain ⟨h1, h2⟩ := List.getElem?_eq_some_iff.mp h
  rw [List.drop_eq_getElem_cons h1, h2]
theorem any_d {f : px_XR → Bool} {j : Nat} {w : px_XR} (hw : R[j]? = some w) : (R.drop j).any f = (f w || (R.drop (j + 1)).any f) := by
  rw [drop_g hw, List.any_cons]
theorem qx_te_128 {en : Nat} (hm : m ≤ h.length) (hr : R.length ≤ 8) (hen : en < 2 ^ 64) (hI : RXt σ0 σ R) : ∀ (d j f : Nat), j + d = R.length → d < f → f_M_triedError_128 F f m (lN en) (nI j) (mh m h σ) = some (nI (if (R.drop j).any (xrN en) = true then 0 else 6), mh m h σ) := by
  intro d
  induction d with
  | zero =>
    intro j f hj hf
    obtain ⟨f, rfl⟩ : ∃ y, f = y + 1 := ⟨f - 1, by omega⟩
    unfold f_M_triedError_128 f_M_triedError_193
    rw [Mg115 hm, bs, hI.2.1, if_pos (nI_le (by omega) (by omega)), List.drop_eq_nil_of_le (by omega)]
    rfl
  | succ d ih =>
    intro j f hj hf
    obtain ⟨f, rfl⟩ : ∃ y, f = y + 1 := ⟨f - 1, by omega⟩
    have go := ih (j + 1) f (by omega) (by omega)
    obtain ⟨w, hw⟩ : ∃ w, R[j]? = some w := ⟨_, List.getElem?_eq_getElem (by omega)⟩
    obtain ⟨⟨g1, _, g3, _, g5⟩, b1, b2, b3, _⟩ := hI.2.2 j w hw
    have eN : xrN en w = (decide (w.1 % 2 = 1) && (decide (w.2.2.1 ≤ en) && decide (en < w.2.2.1 + w.2.2.2.2))) := rfl
    unfold f_M_triedError_128 f_M_triedError_193 f_M_triedError_187 f_M_triedError_185
    rw [Mg115 hm, bs, hI.2.1, if_neg (nI_ge (by omega) (by omega)), Mr110 hm, bs, Ma110 hm (by omega), bs, nI_add, g1, show lN 1 = (1 : Int64) from rfl, wb_a1 (by omega), any_d hw, eN]
    by_cases c1 : w.1 % 2 = 1
    · rw [if_pos (by rw [c1]; rfl), decide_eq_true c1, Bool.true_and, Mr112 hm, bs, Ma112 hm (by omega), bs, g3]
      by_cases c2 : w.2.2.1 ≤ en ∧ en < 2 ^ 63
      · rw [if_neg (fun q => by rcases (lN_ltm hen (by omega)).mp q with e | e <;> omega), decide_eq_true c2.1, Bool.true_and, bs, Ma112 hm (by omega), bs, g3, Mr114 hm, bs, Ma114 hm (by omega), bs, g5, lN_add]
        by_cases c3 : en < w.2.2.1 + w.2.2.2.2
        · rw [if_neg (fun q => by have := (pk_lLE (by omega) c2.2).mp q; omega), decide_eq_true c3, Bool.true_or, if_pos rfl]
        · rw [if_pos ((pk_lLE (by omega) c2.2).mpr (by omega)), decide_eq_false c3, Bool.false_or]
          exact go
      · by_cases c4 : lN en < lN w.2.2.1
        · have e0 : (decide (w.2.2.1 ≤ en) && decide (en < w.2.2.1 + w.2.2.2.2)) = false := by
            rcases (lN_ltm hen (by omega)).mp c4 with e | e
            · rw [decide_eq_false (show ¬ en < w.2.2.1 + w.2.2.2.2 by omega), Bool.and_false]
            · rw [decide_eq_false (show ¬ w.2.2.1 ≤ en by omega), Bool.false_and]
          rw [if_pos c4, e0, Bool.false_or]
          exact go
        · exfalso
          apply c4
          exact (lN_ltm hen (by omega)).mpr (by omega)
    · rw [if_neg (show ¬ lN (w.1 % 2) = 1 from fun q => c1 ((lEQ (b := 1) (by omega) (by decide)).mp q)), decide_eq_false c1, Bool.false_and, Bool.false_or]
      exact go
theorem qx_te_61 {at0 N : Nat} (hm : m ≤ h.length) (hF : 65540 < F) (hz0 : RXb σ0 z b) (h64 : 64 ≤ z) (hN : N ≤ 8) (hat : at0 + 56 * N ≤ z) : ∀ (d k f : Nat) (σ : px_S) (R : List px_XR), k + d = N → d < f → R.length ≤ k → RXt σ0 σ R → ∃ σ', f_M_triedError_61 F f m (nI N) (lN at0) (nI k) (mh m h σ) = some (nI (xrO (le b 24 8) (xrG (xrTf b at0) (xrEf b z at0) (xrWf b at0) d k R)), mh m h σ') ∧ RXt σ0 σ' (xrG (xrTf b at0) (xrEf b z at0) (xrWf b at0) d k R).2 ∧ (xrG (xrTf b at0) (xrEf b z at0) (xrWf b at0) d k R).2.length ≤ 8 := by
  have hz2 := hz0.2.1
  intro d
  induction d with
  | zero =>
    intro k f σ R hk hf hR hI
    obtain ⟨f, rfl⟩ : ∃ y, f = y + 1 := ⟨f - 1, by omega⟩
    have hz := RXb_FR hz0 hI.1 (by decide) (by decide)
    have hb := RXb_lt hz
    rw [xrG_0]
    refine ⟨σ, ?_, hI, by show R.length ≤ 8; omega⟩
    unfold f_M_triedError_61 f_M_triedError_115
    have w := qx_te_128 (F := F) (h := h) (en := le b 24 8) hm (by omega) (le_le8 hb (by decide)) hI R.length 0 F (Nat.zero_add _) (by omega)
    rw [List.drop_zero] at w
    rw [if_pos (nI_le (by omega) (by omega)), e_o hm, bs, tq_num hm (by omega) hz (by decide) (by omega), xb_mk, w]
    unfold xrO
    rw [if_pos rfl]
  | succ d ih =>
    intro k f σ R hk hf hR hI
    obtain ⟨f, rfl⟩ : ∃ y, f = y + 1 := ⟨f - 1, by omega⟩
    have hz := RXb_FR hz0 hI.1 (by decide) (by decide)
    have hb := RXb_lt hz
    have hl4 := le_le8 (p := at0 + 56 * k) (k := 4) hb (by decide)
    unfold f_M_triedError_61 f_M_triedError_99 f_M_triedError_106
    rw [if_neg (nI_ge (by omega) (by omega)), e_o hm, bs, lN_i, pk_mul, nI_add, tq_num hm (by omega) hz (by decide) (by omega), xb_mk, nI_add]
    by_cases c1 : le b (at0 + 56 * k) 4 = 1
    · have hT : xrTf b at0 k = true := decide_eq_true c1
      obtain ⟨σ1, a1, a2⟩ := qx_rowErr (F := F) (h := h) (P := at0 + 56 * k) hm (by omega) hz0 (by omega) (by omega) hI
      rw [if_pos (by rw [c1]), e_o hm, bs, a1, xb_mk]
      by_cases c2 : xrR b z (at0 + 56 * k) (xrE R) = 0
      · have hE : xrEf b z at0 k (xrE R) = 0 := c2
        rw [if_pos c2] at a2
        rw [xrG_t hT hE, if_pos (show nI (xrR b z (at0 + 56 * k) (xrE R)) ≤ 0 by rw [c2]; decide)]
        exact ih (k + 1) f σ1 (R ++ [xrWf b at0 k]) (by omega) (by omega) (by rw [List.length_append, List.length_singleton]; omega) a2
      · have hE : xrEf b z at0 k (xrE R) ≠ 0 := c2
        have h5 : xrR b z (at0 + 56 * k) (xrE R) ≤ 5 := by unfold xrR; exact xrP_5
        rw [if_neg c2] at a2
        rw [xrG_e hT hE, if_neg (nI_nle (by omega) (by omega))]
        refine ⟨σ1, ?_, a2, by show R.length ≤ 8; omega⟩
        unfold xrO
        rw [if_neg (show ¬ (xrEf b z at0 k (xrE R), R).1 = 0 from c2)]
        rfl
    · have hT : xrTf b at0 k = false := decide_eq_false c1
      rw [if_neg (fun q => c1 ((lEQ (b := 1) hl4 (by decide)).mp q)), xrG_f hT, if_pos (show nI 0 ≤ 0 by decide)]
      exact ih (k + 1) f σ R (by omega) (by omega) (by omega) hI
theorem qx_isExe (hm : m ≤ h.length) (hF : 8 < F) (hz : RXb σ z b) : f_M_isExecutable F m (mh m h σ) = some (bI (xrH b z), mh m h σ) := by
  have hb := RXb_lt hz
  have hz2 := hz.2.1
  have m0 := le_le8 (p := 0) (k := 7) hb (by decide)
  have m16 := le_le8 (p := 16) (k := 2) hb (by decide)
  have m18 := le_le8 (p := 18) (k := 2) hb (by decide)
  have m20 := le_le8 (p := 20) (k := 4) hb (by decide)
  have m54 := le_le8 (p := 54) (k := 2) hb (by decide)
  have z1 : f_M_isExecutable_92 F (nI 1) (mh m h σ) = some (bI true, mh m h σ) := xz_1 _
  have z0 : f_M_isExecutable_91 F (mh m h σ) = some (bI false, mh m h σ) := xz_0 _
  have z5 : f_M_isExecutable_55 F m (mh m h σ) = some (bI false, mh m h σ) := by
    unfold f_M_isExecutable_55 f_M_isExecutable_56
    rw [if_pos (show nI 0 = 0 from rfl)]
    exact z0
  unfold f_M_isExecutable xrH
  rw [Mg101 hm, bs, hz.1]
  by_cases c0 : 64 ≤ z
  · rw [if_neg (nI_ge (by omega) (by omega)), decide_eq_true c0, Bool.true_and, e_o hm, bs, tq_num (p := 0) hm hF hz (by decide) (by omega), xb_mk]
    by_cases c1 : le b 0 7 = 282584257676671
    · rw [decide_eq_true c1, Bool.true_and, if_pos (by rw [c1]; rfl), e_o hm, bs, tq_num hm hF hz (by decide) (by omega), xb_mk]
      by_cases c2 : le b 16 2 = 2
      · rw [decide_eq_true c2, Bool.true_and, if_pos (by rw [c2]; rfl), e_o hm, bs, tq_num hm hF hz (by decide) (by omega), xb_mk]
        by_cases c3 : le b 18 2 = 62
        · rw [decide_eq_true c3, Bool.true_and, if_pos (by rw [c3]; rfl)]
          unfold f_M_isExecutable_56
          rw [if_neg (show ¬ nI 1 = 0 by decide), e_o hm, bs, tq_num hm hF hz (by decide) (by omega), xb_mk]
          by_cases c4 : le b 20 4 = 1
          · rw [decide_eq_true c4, Bool.true_and, if_pos (by rw [c4]), e_o hm, bs, tq_num hm hF hz (by decide) (by omega), xb_mk]
            by_cases c5 : le b 54 2 = 56
            · rw [decide_eq_true c5, if_pos (by rw [c5]; rfl), z1]
            · rw [decide_eq_false c5, if_neg (show ¬ lN (le b 54 2) = 56 from fun q => c5 ((lEQ (b := 56) m54 (by decide)).mp q)), z0]
          · rw [decide_eq_false c4, Bool.false_and, if_neg (fun q => c4 ((lEQ (b := 1) m20 (by decide)).mp q)), z0]
        · rw [decide_eq_false c3, Bool.false_and, if_neg (show ¬ lN (le b 18 2) = 62 from fun q => c3 ((lEQ (b := 62) m18 (by decide)).mp q)), z5]
      · rw [decide_eq_false c2, Bool.false_and, if_neg (show ¬ lN (le b 16 2) = 2 from fun q => c2 ((lEQ (b := 2) m16 (by decide)).mp q)), z5]
    · rw [decide_eq_false c1, Bool.false_and, if_neg (show ¬ lN (le b 0 7) = 282584257676671 from fun q => c1 ((lEQ (b := 282584257676671) m0 (by decide)).mp q)), z5]
  · rw [if_pos (nI_le (by omega) (by decide)), decide_eq_false c0, Bool.false_and, z5]
/-- the rows of an executable without an error -/
def xrS (b : Nat → Nat) (z : Nat) : List px_XR := (xrL b z (le b 32 8) (le b 56 2)).2
theorem qx_triedErr (hm : m ≤ h.length) (hF : 65540 < F) (hz : RXb σ z b) : ∃ σ' R, f_M_triedError F m (mh m h σ) = some (nI (xrX b z), mh m h σ') ∧ RXt σ σ' R ∧ R.length ≤ 8 ∧ (xrX b z = 0 → R = xrS b z) := by
  have f0 : FR [0, 115] [] [] [110, 111, 112, 113, 114] σ (sI σ 115 (nI 0)) := FR_mono (FR_I _ _ _) (by decide) (by decide) (by decide) (by decide)
  have hz1 := RXb_FR hz f0 (by decide) (by decide)
  have hb := RXb_lt hz
  have hz2 := hz.2.1
  have hI0 : RXt σ (sI σ 115 (nI 0)) [] := ⟨f0, by rw [gI_sI, if_pos rfl]; rfl, fun i w hw => by cases hw⟩
  have m32 := le_le8 (p := 32) (k := 8) hb (by decide)
  have m56 : le b 56 2 < 65536 := le_lt hb 56 2
  unfold f_M_triedError f_M_triedError_56 xrX
  rw [Mp115 hm, bs, e_o hm, bs, qx_isExe hm (by omega) hz1, xb_mk]
  cases hH : xrH b z with
  | false =>
    rw [if_pos (show bI false = 0 from rfl), if_neg (by decide)]
    exact ⟨_, [], rfl, hI0, by decide, fun q => by cases q⟩
  | true =>
    have h64 : 64 ≤ z := by
      unfold xrH at hH
      rw [Bool.and_eq_true] at hH
      exact of_decide_eq_true hH.1
    rw [if_neg (show ¬ bI true = 0 by decide), if_pos rfl, e_o hm, bs, tq_num hm (by omega) hz1 (by decide) (by omega), xb_mk, e_o hm, bs, tq_num hm (by omega) hz1 (by decide) (by omega), xb_mk, lN_i]
    by_cases c6 : 8 < le b 56 2
    · rw [if_pos (nI_lt c6 (by omega)), if_pos c6]
      exact ⟨_, [], rfl, hI0, by decide, fun q => by cases q⟩
    · rw [if_neg (nI_nlt (by omega) (by decide)), if_neg c6, Mg101 hm, bs, hz1.1, nI_l (by omega), nI_l (by omega), show (56 : Int64) = lN 56 from rfl, lN_mul, q_lies m32 (by omega) (by omega), xb_mk]
      by_cases c7 : le b 32 8 + 56 * le b 56 2 ≤ z
      · rw [decide_eq_true c7, if_neg (show ¬ bI true = 0 by decide), if_pos c7]
        obtain ⟨σ1, a1, a2, a3⟩ := qx_te_61 (F := F) (h := h) (σ0 := σ) (at0 := le b 32 8) (N := le b 56 2) hm hF hz h64 (by omega) c7 (le b 56 2) 0 F (sI σ 115 (nI 0)) [] (Nat.zero_add _) (by omega) (Nat.le_refl _) hI0
        exact ⟨σ1, _, a1, a2, a3, fun _ => rfl⟩
      · rw [decide_eq_false c7, if_pos (show bI false = 0 from rfl), if_neg c7]
        exact ⟨_, [], rfl, hI0, by decide, fun q => by cases q⟩
end MXE
end
section
/-! the class's memory: what a boot makes of a row, and what is read there -/
section CCP
variable {F : Nat} {c : px_CT} {sk : Nat → Nat × Nat × Nat} {L : Nat} {r A n : Nat}
def wCpy (S : Nat → Int32) (n q m : Nat) (w : px_FW) : px_FW := if w.1 + m ≤ n then (w.1 + m, va_cpy S w.2 q w.1 m) else w
theorem k_copyC {τ : px_TT} {S N q m : Nat} (hS : ar sk L 0 N S) (hN : N ≤ 65536) (hB : ∀ k, isB (eI τ S k)) (hqm : q + m ≤ N) (h : rowOK sk L τ r A n) : ∃ τ', f_Row_copy F c r S (nI q) (nI m) (cH sk L τ) = some ((), cH sk L τ') ∧ rowOK sk L τ' r A n ∧ frRw r A τ τ' ∧ ∀ w, fW r A n τ w → fW r A n τ' (wCpy (eI τ S) n q m w) := by
  obtain ⟨z, hzn, ez⟩ := h.2.2.2.2.1
  have hn := h.2.2.1
  unfold f_Row_copy f_Row_copy_16
  rw [if_neg (nI_pos (by omega)), if_neg (nI_pos (by omega)), c_l hS (by decide), bs, if_pos ((sub_le31 (by omega) (by omega) (by omega)).mpr hqm), C10r0 h.1 h.2.2.2.1, bs, c_l h.2.1 (by decide), bs, C10g1 h.1, bs, ez]
  by_cases c6 : z + m ≤ n
  · refine ⟨tI (vI τ A (va_cpy (eI τ S) (eI τ A) q z m)) r 1 (nI (z + m)), ?_, rowOK_1 (rowOK_v h (cpy_B hB h.2.2.2.2.2.2)) c6, frRw_trans frRw_v frRw_1, fun w hw => ?_⟩
    · rw [if_pos ((sub_le31 (by omega) (by omega) (by omega)).mpr c6), bs, bs, c_cpy h.2.1 hS hB (by omega) (by omega) (by omega) hqm c6, bs, C10g1 h.1, bs]
      show ((xpI _ 10 1 r (fI τ r 1 + nI m)).bind _) = _
      rw [ez, nI_add, C10p1 h.1, bs]
    · have e := fW_z hw hn hzn ez
      unfold wCpy
      rw [if_pos (by omega)]
      refine ⟨by show w.1 + m ≤ n; omega, by rw [tI_at, e], fun i hi => ?_⟩
      have hi' : i < w.1 + m := hi
      show eI (vI τ A (va_cpy (eI τ S) (eI τ A) q z m)) A i = va_cpy (eI τ S) w.2 q w.1 m i
      rw [vI_at, e]
      unfold va_cpy
      split
      · rfl
      · exact hw.2.2 i (by omega)
  · refine ⟨tI τ r 2 (bI true), ?_, rowOK_2 h, frRw_2, fun w hw => ?_⟩
    · rw [if_neg (fun w => c6 ((sub_le31 (by omega) (by omega) (by omega)).mp w)), show (nI 1 : Int32) = bI true from rfl, C10z2 h.1, bs]
    · have e := fW_z hw hn hzn ez
      unfold wCpy
      rw [if_neg (by omega)]
      exact fW_2 hw
end CCP
/-- the row r with its bytes at A -/
def cRA (sk : Nat → Nat × Nat × Nat) (L : Nat) (τ : px_TT) (r A z : Nat) (b : Nat → Nat) : Prop := ∃ n, ob sk L 10 r ∧ fN τ r 0 = some A ∧ ar sk L 0 n A ∧ n ≤ 65536 ∧ z ≤ n ∧ fI τ r 1 = nI z ∧ b = fun i => if i < z then b8 (eI τ A i) else 0
theorem cRA_b {sk : Nat → Nat × Nat × Nat} {L : Nat} {τ : px_TT} {r A z : Nat} {b : Nat → Nat} (h : cRA sk L τ r A z b) : cRb sk L τ r z b := by
  obtain ⟨n, h⟩ := h
  exact ⟨A, n, h⟩
theorem cRA_fx {sk : Nat → Nat × Nat × Nat} {L : Nat} {τ τ' : px_TT} {r A z : Nat} {b : Nat → Nat} (h : cRA sk L τ r A z b) (h0 : fN τ' r 0 = fN τ r 0) (h1 : fI τ' r 1 = fI τ r 1) (hA : eI τ' A = eI τ A) : cRA sk L τ' r A z b := by
  obtain ⟨n, a1, a2, a3, a4, a5, a6, a7⟩ := h
  exact ⟨n, a1, h0.trans a2, a3, a4, a5, h1.trans a6, by rw [hA]; exact a7⟩
/-- what a boot leaves alone -/
def frXm (τ τ' : px_TT) : Prop := (∀ a k, a ≠ 1718 → a ≠ 1719 → fI τ' a k = fI τ a k) ∧ (∀ a k, a ≠ 1718 → fJ τ' a k = fJ τ a k) ∧ (∀ a k, fN τ' a k = fN τ a k) ∧ (∀ a, a ≠ 1720 → a ≠ 1724 → eI τ' a = eI τ a) ∧ (∀ a, (a < 1721 ∨ 1725 < a) → eJ τ' a = eJ τ a) ∧ ∀ a, eN τ' a = eN τ a
/-- a call that writes the memory's int fields alone, from the 8th on -/
def frX8 (τ τ' : px_TT) : Prop := (∀ a k, (a ≠ 1718 ∨ k < 8) → fI τ' a k = fI τ a k) ∧ (∀ a k, fJ τ' a k = fJ τ a k) ∧ (∀ a k, fN τ' a k = fN τ a k) ∧ (∀ a, eI τ' a = eI τ a) ∧ (∀ a, eJ τ' a = eJ τ a) ∧ ∀ a, eN τ' a = eN τ a
section FRM
variable {τ τ1 τ2 : px_TT}
theorem frXm_refl : frXm τ τ := ⟨fun _ _ _ _ => rfl, fun _ _ _ => rfl, fun _ _ => rfl, fun _ _ _ => rfl, fun _ _ => rfl, fun _ => rfl⟩
theorem frXm_trans (h : frXm τ τ1) (g : frXm τ1 τ2) : frXm τ τ2 := ⟨fun a k h1 h2 => (g.1 a k h1 h2).trans (h.1 a k h1 h2), fun a k h1 => (g.2.1 a k h1).trans (h.2.1 a k h1), fun a k => (g.2.2.1 a k).trans (h.2.2.1 a k), fun a h1 h2 => (g.2.2.2.1 a h1 h2).trans (h.2.2.2.1 a h1 h2), fun a h1 => (g.2.2.2.2.1 a h1).trans (h.2.2.2.2.1 a h1), fun a => (g.2.2.2.2.2 a).trans (h.2.2.2.2.2 a)⟩
theorem frX8_refl : frX8 τ τ := ⟨fun _ _ _ => rfl, fun _ _ => rfl, fun _ _ => rfl, fun _ => rfl, fun _ => rfl, fun _ => rfl⟩
theorem frX8_trans (h : frX8 τ τ1) (g : frX8 τ1 τ2) : frX8 τ τ2 := ⟨fun a k h1 => (g.1 a k h1).trans (h.1 a k h1), fun a k => (g.2.1 a k).trans (h.2.1 a k), fun a k => (g.2.2.1 a k).trans (h.2.2.1 a k), fun a => (g.2.2.2.1 a).trans (h.2.2.2.1 a), fun a => (g.2.2.2.2.1 a).trans (h.2.2.2.2.1 a), fun a => (g.2.2.2.2.2 a).trans (h.2.2.2.2.2 a)⟩
theorem frX8_M (h : frX8 τ τ1) : frXm τ τ1 := ⟨fun a k h1 _ => h.1 a k (Or.inl h1), fun a k _ => h.2.1 a k, h.2.2.1, fun a _ _ => h.2.2.2.1 a, fun a _ => h.2.2.2.2.1 a, h.2.2.2.2.2⟩
theorem frX8_I {k : Nat} {v : Int32} (hk : 8 ≤ k) : frX8 τ (tI τ 1718 k v) := ⟨fun a j h1 => tI_ne (by omega), fun _ _ => rfl, fun _ _ => rfl, fun _ => rfl, fun _ => rfl, fun _ => rfl⟩
theorem frXm_Rw (h : frRw 1719 1720 τ τ1) : frXm τ τ1 := ⟨fun a k _ h2 => h.1 a k (Or.inl h2), fun a k _ => h.2.1 a k, h.2.2.1, fun a h1 _ => h.2.2.2.1 a h1, fun a _ => h.2.2.2.2.1 a, h.2.2.2.2.2⟩
theorem frXm_I {k : Nat} {v : Int32} : frXm τ (tI τ 1718 k v) := ⟨fun a j h1 _ => tI_ne (Or.inl h1), fun _ _ _ => rfl, fun _ _ => rfl, fun _ _ _ => rfl, fun _ _ => rfl, fun _ => rfl⟩
theorem frXm_J {k : Nat} {v : Int64} : frXm τ (tJ τ 1718 k v) := ⟨fun _ _ _ _ => rfl, fun a j h1 => tJ_ne (Or.inl h1), fun _ _ => rfl, fun _ _ _ => rfl, fun _ _ => rfl, fun _ => rfl⟩
theorem vI_ne {a x : Nat} {f : Nat → Int32} (h : x ≠ a) : eI (vI τ a f) x = eI τ x := (u1_ne h : u1 τ.2.2.2.1 a f x = _)
theorem vJ_at {a : Nat} {f : Nat → Int64} : eJ (vJ τ a f) a = f := (u1_eq : u1 τ.2.2.2.2.1 a f a = f)
theorem vJ_ne {a x : Nat} {f : Nat → Int64} (h : x ≠ a) : eJ (vJ τ a f) x = eJ τ x := (u1_ne h : u1 τ.2.2.2.2.1 a f x = _)
theorem frXm_vJ {a : Nat} {f : Nat → Int64} (ha : 1721 ≤ a ∧ a ≤ 1725) : frXm τ (vJ τ a f) := ⟨fun _ _ _ _ => rfl, fun _ _ _ => rfl, fun _ _ => rfl, fun _ _ _ => rfl, fun x hx => vJ_ne (by omega), fun _ => rfl⟩
theorem frXm_vI {f : Nat → Int32} : frXm τ (vI τ 1724 f) := ⟨fun _ _ _ _ => rfl, fun _ _ _ => rfl, fun _ _ => rfl, fun x _ h2 => vI_ne h2, fun _ _ => rfl, fun _ => rfl⟩
end FRM
/-! names of memory -/
/-- the first number from k on, of d, that has p -/
def xnG (p : Nat → Bool) : Nat → Nat → Option Nat
  | 0, _ => none
  | d + 1, k => if p k = true then some k else xnG p d (k + 1)
theorem xnG_0 (p : Nat → Bool) (k : Nat) : xnG p 0 k = none := rfl
theorem xnG_t {p : Nat → Bool} {d k : Nat} (h : p k = true) : xnG p (d + 1) k = some k := by
  show (if p k = true then _ else _) = _
  rw [if_pos h]
theorem xnG_f {p : Nat → Bool} {d k : Nat} (h : p k = false) : xnG p (d + 1) k = xnG p d (k + 1) := by
  show (if p k = true then _ else _) = _
  rw [if_neg (by rw [h]; decide)]
theorem xnG_s {p : Nat → Bool} : ∀ {d k i : Nat}, xnG p d k = some i → p i = true ∧ k ≤ i ∧ i < k + d := by
  intro d
  induction d with
  | zero => intro k i h; cases h
  | succ d ih =>
    intro k i h
    cases e : p k with
    | true =>
      rw [xnG_t e] at h
      have := Option.some.inj h
      subst this
      exact ⟨e, Nat.le_refl _, by omega⟩
    | false =>
      rw [xnG_f e] at h
      obtain ⟨a, b, c⟩ := ih h
      exact ⟨a, by omega, by omega⟩
theorem xnG_n {p : Nat → Bool} : ∀ {d k : Nat}, xnG p d k = none → ∀ i, k ≤ i → i < k + d → p i = false := by
  intro d
  induction d with
  | zero => intro k _ i h1 h2; omega
  | succ d ih =>
    intro k h i h1 h2
    cases e : p k with
    | true => rw [xnG_t e] at h; cases h
    | false =>
      rw [xnG_f e] at h
      by_cases c : i = k
      · rw [c]; exact e
      · exact ih h i (by omega) (by omega)
/-- row i is the symbols' -/
def xnP (b : Nat → Nat) (at0 i : Nat) : Bool := decide (le b (at0 + 64 * i + 4) 4 = 2)
/-- the rows of sections are there -/
def xnH (b : Nat → Nat) (z : Nat) : Bool := decide (le b 58 2 = 64) && (decide (1 ≤ le b 60 2) && (decide (le b 60 2 ≤ 24) && decide (le b 40 8 + 64 * le b 60 2 ≤ z)))
/-- the symbols' row at f and the names' row at g are as told -/
def xnK (b : Nat → Nat) (z n f g : Nat) : Bool := decide (le b (f + 40) 4 < n) && (decide (le b (g + 4) 4 = 3) && (decide (le b (f + 24) 8 + le b (f + 32) 8 ≤ z) && (decide (le b (g + 24) 8 + le b (g + 32) 8 ≤ z) && decide (le b (f + 32) 8 % 24 = 0))))
/-- how many symbols, where they are, where the names are, and their size -/
def xnS (b : Nat → Nat) (z : Nat) : Nat × Nat × Nat × Nat := if xnH b z = true then (match xnG (xnP b (le b 40 8)) (le b 60 2) 0 with
  | none => (0, 0, 0, 0)
  | some i => if xnK b z (le b 60 2) (le b 40 8 + 64 * i) (le b 40 8 + 64 * le b (le b 40 8 + 64 * i + 40) 4) = true then (le b (le b 40 8 + 64 * i + 32) 8 / 24, le b (le b 40 8 + 64 * i + 24) 8, le b (le b 40 8 + 64 * le b (le b 40 8 + 64 * i + 40) 4 + 24) 8, le b (le b 40 8 + 64 * le b (le b 40 8 + 64 * i + 40) 4 + 32) 8) else (0, 0, 0, 0)) else (0, 0, 0, 0)
/-- the class knows of these names -/
def CMn (τ : px_TT) (q : Nat × Nat × Nat × Nat) : Prop := fI τ 1718 9 = nI q.1 ∧ (0 < q.1 → fI τ 1718 8 = nI q.2.1 ∧ fI τ 1718 10 = nI q.2.2.1 ∧ fI τ 1718 11 = nI q.2.2.2)
theorem CMn_mk {τ : px_TT} {a b c d : Nat} (h9 : fI τ 1718 9 = nI a) (h8 : fI τ 1718 8 = nI b) (h10 : fI τ 1718 10 = nI c) (h11 : fI τ 1718 11 = nI d) : CMn τ (a, b, c, d) := ⟨h9, fun _ => ⟨h8, h10, h11⟩⟩
section CMM
variable {F : Nat} {c : px_CT} {sk : Nat → Nat × Nat × Nat} {L : Nat} {τ : px_TT} {z : Nat} {b : Nat → Nat}
theorem k_find_299 {f0 g A Z G X : Nat} (hF : 8 < F) (hS : GS sk L) (hR : GR τ) (h : cRA sk L τ 1719 1720 z b) (hA : A = le b (f0 + 24) 8) (hG : G = le b (g + 24) 8) (hX : X = le b (g + 32) 8) (hZ : Z < 2 ^ 31) (hf : f0 + 64 < 2 ^ 30) (hg : g + 64 < 2 ^ 30) (c6 : Z % 24 = 0) : ∃ τ', f_Memory_findNames_299 F c 1718 (nI f0) (nI g) (lN Z) (nI 1) (cH sk L τ) = some ((), cH sk L τ') ∧ frX8 τ τ' ∧ CMn τ' (Z / 24, A, G, X) := by
  have hb := cRA_b h
  obtain ⟨hz, o10, _⟩ := cRb_z hb
  have o4 := G1718 hS
  have r0 : fN τ 1718 0 = some 1719 := GR_r hR (by decide)
  have n24 : ∀ τ', cRA sk L τ' 1719 1720 z b → f_Row_num F c 1719 (nI (f0 + 24)) (nI 8) (cH sk L τ') = some (lN A, cH sk L τ') := fun τ' h => by rw [hA]; exact k_rn (cRA_b h) hF (by decide) (by omega)
  have m24 : ∀ τ', cRA sk L τ' 1719 1720 z b → f_Row_num F c 1719 (nI (g + 24)) (nI 8) (cH sk L τ') = some (lN G, cH sk L τ') := fun τ' h => by rw [hG]; exact k_rn (cRA_b h) hF (by decide) (by omega)
  have m32 : ∀ τ', cRA sk L τ' 1719 1720 z b → f_Row_num F c 1719 (nI (g + 32)) (nI 8) (cH sk L τ') = some (lN X, cH sk L τ') := fun τ' h => by rw [hX]; exact k_rn (cRA_b h) hF (by decide) (by omega)
  clear hA hG hX
  have h1 : cRA sk L (tI τ 1718 8 (nI A)) 1719 1720 z b := cRA_fx h rfl (tI_ne (Or.inl (by decide))) rfl
  have h2 : cRA sk L (tI (tI τ 1718 8 (nI A)) 1718 9 (nI (Z / 24))) 1719 1720 z b := cRA_fx h1 rfl (tI_ne (Or.inl (by decide))) rfl
  have h3 : cRA sk L (tI (tI (tI τ 1718 8 (nI A)) 1718 9 (nI (Z / 24))) 1718 10 (nI G)) 1719 1720 z b := cRA_fx h2 rfl (tI_ne (Or.inl (by decide))) rfl
  have q2 : fN (tI (tI τ 1718 8 (nI A)) 1718 9 (nI (Z / 24))) 1718 0 = some 1719 := r0
  have q3 : fN (tI (tI (tI τ 1718 8 (nI A)) 1718 9 (nI (Z / 24))) 1718 10 (nI G)) 1718 0 = some 1719 := r0
  refine ⟨tI (tI (tI (tI τ 1718 8 (nI A)) 1718 9 (nI (Z / 24))) 1718 10 (nI G)) 1718 11 (nI X), ?_, frX8_trans (frX8_trans (frX8_trans (frX8_I (by decide)) (frX8_I (by decide))) (frX8_I (by decide))) (frX8_I (by decide)), CMn_mk ?_ ?_ ?_ ?_⟩
  · unfold f_Memory_findNames_299 f_Memory_findNames_384
    rw [if_neg (show ¬ nI 1 = 0 by decide), show (24 : Int64) = lN 24 from rfl, pk_lRem (by omega) (by decide) (by decide), if_pos (by rw [c6]), C4r0 o4 r0, bs, c_o o10, bs, nI_add, n24 _ h, xb_mk, lN_i, C4p8 o4, bs, lN_i, pk_div (by omega) (by decide) (by decide), C4p9 o4, bs, C4r0 o4 q2, bs, c_o o10, bs, nI_add, m24 _ h2, xb_mk, lN_i, C4p10 o4, bs, C4r0 o4 q3, bs, c_o o10, bs, nI_add, m32 _ h3, xb_mk, lN_i, C4p11 o4, bs]
  · exact (tI_ne (Or.inr (by decide))).trans ((tI_ne (Or.inr (by decide))).trans tI_at)
  · exact (tI_ne (Or.inr (by decide))).trans ((tI_ne (Or.inr (by decide))).trans ((tI_ne (Or.inr (by decide))).trans tI_at))
  · exact (tI_ne (Or.inr (by decide))).trans tI_at
  · exact tI_at
/-- what findNames finds at f0, g -/
def xnR (b : Nat → Nat) (f0 g : Nat) : Nat × Nat × Nat × Nat := (le b (f0 + 32) 8 / 24, le b (f0 + 24) 8, le b (g + 24) 8, le b (g + 32) 8)
theorem k_find_135 {at0 n f0 : Nat} (hF : 8 < F) (hS : GS sk L) (hR : GR τ) (h : cRA sk L τ 1719 1720 z b) (hn : n ≤ 24) (hat : at0 + 64 * n ≤ z) (hf0 : f0 + 64 ≤ z) : ∃ τ', f_Memory_findNames_135 F c 1718 (lN at0) (nI n) (nI f0) (cH sk L τ) = some ((), cH sk L τ') ∧ frX8 τ τ' ∧ (le b (f0 + 4) 4 = 2 → xnK b z n f0 (at0 + 64 * le b (f0 + 40) 4) = true → CMn τ' (xnR b f0 (at0 + 64 * le b (f0 + 40) 4))) ∧ (¬ (le b (f0 + 4) 4 = 2 ∧ xnK b z n f0 (at0 + 64 * le b (f0 + 40) 4) = true) → τ' = τ) := by
  have hb := cRA_b h
  have hlt := cRb_lt hb
  obtain ⟨hz, o10, _⟩ := cRb_z hb
  have o4 := G1718 hS
  have r0 : fN τ 1718 0 = some 1719 := GR_r hR (by decide)
  have l40' : le b (f0 + 40) 4 < 2 ^ 32 := le_lt hlt (f0 + 40) 4
  have k4 := k_rn (F := F) (c := c) (p := f0 + 4) (k := 4) hb hF (by decide) (by omega)
  have k40 := k_rn (F := F) (c := c) (p := f0 + 40) (k := 4) hb hF (by decide) (by omega)
  have k24 := k_rn (F := F) (c := c) (p := f0 + 24) (k := 8) hb hF (by decide) (by omega)
  have k32 := k_rn (F := F) (c := c) (p := f0 + 32) (k := 8) hb hF (by decide) (by omega)
  have l4 := le_le8 (p := f0 + 4) (k := 4) hlt (by decide)
  have l24 := le_le8 (p := f0 + 24) (k := 8) hlt (by decide)
  have l32 := le_le8 (p := f0 + 32) (k := 8) hlt (by decide)
  have no : ∀ {P : Prop} {q : Nat × Nat × Nat × Nat} {X : Bool}, (P → X = false) → ∃ τ', (some ((), cH sk L τ) : Option (Unit × px_H)) = some ((), cH sk L τ') ∧ frX8 τ τ' ∧ (P → X = true → CMn τ' q) ∧ (¬ (P ∧ X = true) → τ' = τ) := fun {P q X} hx => ⟨τ, rfl, frX8_refl, fun hp hX => (by rw [hx hp] at hX; cases hX), fun _ => rfl⟩
  unfold f_Memory_findNames_135 f_Memory_findNames_213
  rw [C4r0 o4 r0, bs, c_o o10, bs, nI_add, k40, xb_mk, C4r0 o4 r0, bs, c_o o10, bs, nI_add, k4, xb_mk]
  unfold xnK xnR
  by_cases c1 : le b (f0 + 4) 4 = 2
  · rw [if_pos (by rw [c1]; rfl), nI_l (by omega)]
    generalize le b (f0 + 40) 4 = lk at *
    by_cases c2 : lk < n
    · have e24 : (if (24 : Int64) < lN lk then (24 : Int64) else lN lk).toInt32 = nI lk := by
        rw [if_neg (show ¬ (24 : Int64) < lN lk from fun q => by have := (pk_lLT (a := 24) (by decide) (by omega)).mp q; omega), lN_i]
      obtain ⟨g, eg⟩ : ∃ x, x = at0 + 64 * lk := ⟨_, rfl⟩
      have hg : g + 64 ≤ z := by omega
      have m4 := k_rn (F := F) (c := c) (p := g + 4) (k := 4) hb hF (by decide) (by omega)
      have m24 := k_rn (F := F) (c := c) (p := g + 24) (k := 8) hb hF (by decide) (by omega)
      have m32 := k_rn (F := F) (c := c) (p := g + 32) (k := 8) hb hF (by decide) (by omega)
      have g4 := le_le8 (p := g + 4) (k := 4) hlt (by decide)
      have g24 := le_le8 (p := g + 24) (k := 8) hlt (by decide)
      have g32 := le_le8 (p := g + 32) (k := 8) hlt (by decide)
      rw [if_neg (fun q => by have := (pk_lLE (by omega) (by omega)).mp q; omega), e24, lN_i, pk_mul, nI_add, ← eg, C4r0 o4 r0, bs, c_o o10, bs, nI_add, m4, xb_mk, decide_eq_true c2, Bool.true_and]
      by_cases c3 : le b (g + 4) 4 = 3
      · rw [if_pos (by rw [c3]; rfl), decide_eq_true c3, Bool.true_and, C4r0 o4 r0, bs, c_o o10, bs, nI_add, k32, xb_mk, C4r0 o4 r0, bs, bs, c_o o10, bs, nI_add, k24, xb_mk, c_o o10, bs, k_rh hb l24 l32, xb_mk]
        have e299 : ∀ x y w, f_Memory_findNames_299 F c 1718 x y w (nI 0) (cH sk L τ) = some ((), cH sk L τ) := fun x y w => by
          unfold f_Memory_findNames_299 f_Memory_findNames_384
          rw [if_pos (show nI 0 = 0 from rfl)]
        unfold f_Memory_findNames_298
        by_cases c4 : le b (f0 + 24) 8 + le b (f0 + 32) 8 ≤ z
        · rw [decide_eq_true c4, Bool.true_and, if_neg (show ¬ bI true = 0 by decide), C4r0 o4 r0, bs, bs, c_o o10, bs, nI_add, m24, xb_mk, C4r0 o4 r0, bs, c_o o10, bs, nI_add, m32, xb_mk, c_o o10, bs, k_rh hb g24 g32, xb_mk]
          by_cases c5 : le b (g + 24) 8 + le b (g + 32) 8 ≤ z
          · rw [decide_eq_true c5, Bool.true_and, if_neg (show ¬ bI true = 0 by decide)]
            obtain ⟨A, eA⟩ : ∃ x, x = le b (f0 + 24) 8 := ⟨_, rfl⟩
            obtain ⟨Z, eZ⟩ : ∃ x, x = le b (f0 + 32) 8 := ⟨_, rfl⟩
            obtain ⟨G, eG⟩ : ∃ x, x = le b (g + 24) 8 := ⟨_, rfl⟩
            obtain ⟨X, eX⟩ : ∃ x, x = le b (g + 32) 8 := ⟨_, rfl⟩
            rw [← eA, ← eZ] at c4
            rw [← eA, ← eZ, ← eG, ← eX]
            by_cases c6 : Z % 24 = 0
            · obtain ⟨τ', a1, a2, a3⟩ := k_find_299 (F := F) (c := c) hF hS hR h eA eG eX (by omega) (by omega) (by omega) c6
              exact ⟨τ', a1, a2, fun _ _ => a3, fun q => absurd ⟨c1, decide_eq_true c6⟩ q⟩
            · have e6 : f_Memory_findNames_299 F c 1718 (nI f0) (nI g) (lN Z) (nI 1) (cH sk L τ) = some ((), cH sk L τ) := by
                unfold f_Memory_findNames_299 f_Memory_findNames_384
                rw [if_neg (show ¬ nI 1 = 0 by decide), show (24 : Int64) = lN 24 from rfl, pk_lRem (by omega) (by decide) (by decide), if_neg (fun q => c6 ((lEQ (b := 0) (by omega) (by decide)).mp q))]
              rw [e6]
              exact no (fun _ => decide_eq_false c6)
          · rw [decide_eq_false c5, Bool.false_and, if_pos (show bI false = 0 from rfl), e299]
            exact no (fun _ => rfl)
        · rw [decide_eq_false c4, Bool.false_and, if_pos (show bI false = 0 from rfl), e299]
          exact no (fun _ => rfl)
      · rw [if_neg (show ¬ lN (le b (g + 4) 4) = 3 from fun q => c3 ((lEQ (b := 3) g4 (by decide)).mp q)), decide_eq_false c3, Bool.false_and]
        exact no (fun _ => rfl)
    · rw [if_pos ((pk_lLE (by omega) (by omega)).mpr (by omega)), decide_eq_false c2, Bool.false_and]
      exact no (fun _ => rfl)
  · rw [if_neg (show ¬ lN (le b (f0 + 4) 4) = 2 from fun q => c1 ((lEQ (b := 2) l4 (by decide)).mp q))]
    exact ⟨τ, rfl, frX8_refl, fun q => absurd q c1, fun _ => rfl⟩
theorem k_find_84 {at0 n : Nat} (hF : 8 < F) (hS : GS sk L) (hR : GR τ) (h : cRA sk L τ 1719 1720 z b) (hn : n ≤ 24) (hat : at0 + 64 * n ≤ z) : ∀ (d f : Nat), d ≤ n → d < f → f_Memory_findNames_84 F c f 1718 (lN at0) (nI n) (nI (at0 + 64 * (xnG (xnP b at0) (n - d) d).getD 0)) (nI d - nI 1) (cH sk L τ) = f_Memory_findNames_135 F c 1718 (lN at0) (nI n) (nI (at0 + 64 * (xnG (xnP b at0) n 0).getD 0)) (cH sk L τ) := by
  have hb := cRA_b h
  have hlt := cRb_lt hb
  obtain ⟨hz, o10, _⟩ := cRb_z hb
  have o4 := G1718 hS
  have r0 : fN τ 1718 0 = some 1719 := GR_r hR (by decide)
  intro d
  induction d with
  | zero =>
    intro f hd hf
    obtain ⟨f, rfl⟩ : ∃ y, f = y + 1 := ⟨f - 1, by omega⟩
    unfold f_Memory_findNames_84
    rw [if_pos (by decide), Nat.sub_zero]
  | succ d ih =>
    intro f hd hf
    obtain ⟨f, rfl⟩ : ∃ y, f = y + 1 := ⟨f - 1, by omega⟩
    have l4 := le_le8 (p := at0 + 64 * d + 4) (k := 4) hlt (by decide)
    have es : n - d = n - (d + 1) + 1 := by omega
    have go := ih f (by omega) (by omega)
    rw [pk_sub (by omega), Nat.add_sub_cancel]
    unfold f_Memory_findNames_84 f_Memory_findNames_127
    rw [if_neg (nI_pos (by omega)), C4r0 o4 r0, bs, c_o o10, bs, lN_i, pk_mul, nI_add, nI_add, k_rn hb hF (by decide) (by omega), xb_mk, nI_back]
    by_cases c1 : le b (at0 + 64 * d + 4) 4 = 2
    · rw [es, xnG_t (show xnP b at0 d = true from decide_eq_true c1)] at go
      rw [if_pos (by rw [c1]; rfl)]
      exact go
    · rw [es, xnG_f (show xnP b at0 d = false from decide_eq_false c1)] at go
      rw [if_neg (show ¬ lN (le b (at0 + 64 * d + 4) 4) = 2 from fun q => c1 ((lEQ (b := 2) l4 (by decide)).mp q))]
      exact go
theorem k_findNames (hF : 65540 < F) (hS : GS sk L) (hR : GR τ) (h : cRA sk L τ 1719 1720 z b) (h64 : 64 ≤ z) : ∃ τ', f_Memory_findNames F c 1718 (cH sk L τ) = some ((), cH sk L τ') ∧ frX8 τ τ' ∧ CMn τ' (xnS b z) := by
  have o4 := G1718 hS
  obtain ⟨τ1, e1⟩ : ∃ y, y = tI τ 1718 9 (nI 0) := ⟨_, rfl⟩
  have f1 : frX8 τ τ1 := by rw [e1]; exact frX8_I (by decide)
  have h1 : cRA sk L τ1 1719 1720 z b := cRA_fx h (f1.2.2.1 _ _) (f1.1 _ _ (Or.inl (by decide))) (f1.2.2.2.1 _)
  have n9 : fI τ1 1718 9 = nI 0 := by rw [e1]; exact tI_at
  have r0 : fN τ1 1718 0 = some 1719 := (f1.2.2.1 _ _).trans (GR_r hR (by decide))
  have hR1 : GR τ1 := GR_mv hR (fun x k _ => f1.2.2.1 x k) (fun x k hx _ => f1.1 x k (Or.inl (by omega))) (f1.2.2.2.2.2 9) (f1.2.2.2.2.2 151)
  have hb := cRA_b h1
  have hlt := cRb_lt hb
  obtain ⟨hz, o10, _⟩ := cRb_z hb
  have m58 := le_le8 (p := 58) (k := 2) hlt (by decide)
  have m40 := le_le8 (p := 40) (k := 8) hlt (by decide)
  have m60 : le b 60 2 < 65536 := le_lt hlt 60 2
  have none0 : ∀ {q : Nat × Nat × Nat × Nat}, q = (0, 0, 0, 0) → ∃ τ', (some ((), cH sk L τ1) : Option (Unit × px_H)) = some ((), cH sk L τ') ∧ frX8 τ τ' ∧ CMn τ' q := fun {q} hq => by
    rw [hq]
    exact ⟨τ1, rfl, f1, n9, fun w => absurd w (by decide)⟩
  unfold f_Memory_findNames f_Memory_findNames_74
  rw [C4p9 o4, bs, ← e1, C4r0 o4 r0, bs, c_o o10, bs, k_rn hb (by omega) (by decide) (by decide), xb_mk, C4r0 o4 r0, bs, c_o o10, bs, k_rn hb (by omega) (by decide) (by decide), xb_mk, C4r0 o4 r0, bs, c_o o10, bs, k_rn hb (by omega) (by decide) (by decide), xb_mk]
  unfold xnS xnH
  by_cases c1 : le b 58 2 = 64
  · rw [if_pos (by rw [c1]; rfl), decide_eq_true c1, Bool.true_and, lN_i]
    by_cases c2 : 1 ≤ le b 60 2
    · rw [if_neg (nI_nlt c2 (by omega)), decide_eq_true c2, Bool.true_and]
      by_cases c3 : le b 60 2 ≤ 24
      · rw [if_neg (nI_nlt c3 (by decide)), decide_eq_true c3, Bool.true_and, C4r0 o4 r0, bs, c_o o10, bs, nI_l (by omega), show (64 : Int64) = lN 64 from rfl, lN_mul, k_rh hb m40 (by omega), xb_mk]
        by_cases c4 : le b 40 8 + 64 * le b 60 2 ≤ z
        · rw [decide_eq_true c4, if_neg (show ¬ bI true = 0 by decide), if_pos rfl, lN_i]
          have w := k_find_84 (F := F) (c := c) (at0 := le b 40 8) (n := le b 60 2) (by omega) hS hR1 h1 c3 c4 (le b 60 2) F (Nat.le_refl _) (by omega)
          rw [Nat.sub_self, xnG_0, Option.getD_none, Nat.mul_zero, Nat.add_zero] at w
          rw [w]
          cases eG : xnG (xnP b (le b 40 8)) (le b 60 2) 0 with
          | none =>
            have p0 := xnG_n eG 0 (Nat.le_refl _) (by omega)
            obtain ⟨τ2, a1, a2, a3, a4⟩ := k_find_135 (F := F) (c := c) (at0 := le b 40 8) (n := le b 60 2) (f0 := le b 40 8 + 64 * 0) (by omega) hS hR1 h1 c3 c4 (by omega)
            have e2 := a4 (fun q => by have := of_decide_eq_false p0; exact this q.1)
            rw [e2] at a1
            exact ⟨τ1, a1, f1, (show CMn τ1 (0, 0, 0, 0) from ⟨n9, fun w => absurd w (by decide)⟩)⟩
          | some i =>
            obtain ⟨p1, _, p3⟩ := xnG_s eG
            obtain ⟨τ2, a1, a2, a3, a4⟩ := k_find_135 (F := F) (c := c) (at0 := le b 40 8) (n := le b 60 2) (f0 := le b 40 8 + 64 * i) (by omega) hS hR1 h1 c3 c4 (by omega)
            refine ⟨τ2, a1, frX8_trans f1 a2, ?_⟩
            show CMn τ2 (if xnK b z (le b 60 2) (le b 40 8 + 64 * i) (le b 40 8 + 64 * le b (le b 40 8 + 64 * i + 40) 4) = true then _ else _)
            cases eK : xnK b z (le b 60 2) (le b 40 8 + 64 * i) (le b 40 8 + 64 * le b (le b 40 8 + 64 * i + 40) 4) with
            | true =>
              rw [if_pos rfl]
              exact a3 (of_decide_eq_true p1) eK
            | false =>
              rw [if_neg (by decide)]
              have e2 := a4 (fun q => by rw [eK] at q; cases q.2)
              rw [e2]
              exact ⟨n9, fun w => absurd w (by decide)⟩
        · rw [decide_eq_false c4, if_pos (show bI false = 0 from rfl)]
          exact none0 (if_neg (by decide))
      · rw [if_pos (nI_lt (by omega) (by omega)), decide_eq_false c3, Bool.false_and]
        exact none0 (if_neg (by decide))
    · rw [if_pos (nI_lt (by omega) (by decide)), decide_eq_false c2, Bool.false_and]
      exact none0 (if_neg (by decide))
  · rw [if_neg (show ¬ lN (le b 58 2) = 64 from fun q => c1 ((lEQ (b := 64) m58 (by decide)).mp q)), decide_eq_false c1, Bool.false_and]
    exact none0 (if_neg (by decide))
/-- what is known of the symbols and names that were found -/
theorem xnS_ok {b : Nat → Nat} {z : Nat} (h : 0 < (xnS b z).1) : (xnS b z).2.1 + 24 * (xnS b z).1 ≤ z ∧ (xnS b z).2.2.1 + (xnS b z).2.2.2 ≤ z := by
  unfold xnS at *
  by_cases c1 : xnH b z = true
  · rw [if_pos c1] at h ⊢
    cases eG : xnG (xnP b (le b 40 8)) (le b 60 2) 0 with
    | none => rw [eG] at h; exact absurd (show 0 < 0 from h) (Nat.lt_irrefl 0)
    | some i =>
      rw [eG] at h
      dsimp only at h ⊢
      by_cases c2 : xnK b z (le b 60 2) (le b 40 8 + 64 * i) (le b 40 8 + 64 * le b (le b 40 8 + 64 * i + 40) 4) = true
      · rw [if_pos c2] at h ⊢
        unfold xnK at c2
        rw [Bool.and_eq_true, Bool.and_eq_true, Bool.and_eq_true, Bool.and_eq_true] at c2
        obtain ⟨_, _, k3, k4, k5⟩ := c2
        have k3 := of_decide_eq_true k3
        have k4 := of_decide_eq_true k4
        have k5 := of_decide_eq_true k5
        refine ⟨?_, k4⟩
        dsimp only
        omega
      · rw [if_neg c2] at h; exact absurd h (by decide)
  · rw [if_neg c1] at h; exact absurd h (by decide)
/-- the bytes of a name that ends ahead of e: d more to look at -/
def xnL (b : Nat → Nat) (fr e : Nat) : Nat → Nat → Nat
  | 0, _ => 0
  | d + 1, k => if e ≤ fr + k then 0 else if b (fr + k) = 0 then k else xnL b fr e d (k + 1)
/-- the symbol at p has a name -/
def xnI (b : Nat → Nat) (np ns p : Nat) : Bool := (decide (b (p + 4) / 16 = 1) || decide (b (p + 4) / 16 = 2)) && (decide (le b (p + 6) 2 ≠ 0) && (decide (le b p 4 < ns) && decide (0 < xnL b (np + le b p 4) (np + ns) 21 0)))
theorem k_nameLen_2 {r fr e : Nat} (h : cRb sk L τ r z b) (hfr : fr < 2 ^ 29) (he : e < 2 ^ 29) : ∀ (d k f : Nat), k + d = 21 → d < f → f_Row_nameLength_2 F c f r (nI fr) (nI e) (nI k) (cH sk L τ) = some (nI (xnL b fr e d k), cH sk L τ) := by
  have hlt := cRb_lt h
  obtain ⟨hz, o10, _⟩ := cRb_z h
  intro d
  induction d with
  | zero =>
    intro k f hk hf
    obtain ⟨f, rfl⟩ : ∃ y, f = y + 1 := ⟨f - 1, by omega⟩
    unfold f_Row_nameLength_2 f_Row_nameLength_33 xnL
    rw [if_pos (nI_lt (by omega) (by omega))]
  | succ d ih =>
    intro k f hk hf
    obtain ⟨f, rfl⟩ : ∃ y, f = y + 1 := ⟨f - 1, by omega⟩
    have hbk := hlt (fr + k)
    unfold f_Row_nameLength_2 f_Row_nameLength_33 f_Row_nameLength_25 xnL
    rw [if_neg (nI_nlt (by omega) (by decide)), nI_add]
    by_cases c1 : e ≤ fr + k
    · rw [if_pos (nI_le c1 (by omega)), if_pos c1]
    · rw [if_neg (nI_ge (by omega) (by omega)), if_neg c1, c_o o10, bs, k_ra h (by omega), xb_mk]
      by_cases c2 : b (fr + k) = 0
      · rw [if_pos (by rw [c2]; rfl), if_pos c2]
      · rw [if_neg (nI_ne0 (by omega) (by omega)), if_neg c2, nI_add]
        exact ih (k + 1) f (by omega) (by omega)
theorem k_isName {q : Nat × Nat × Nat × Nat} {j : Nat} (hF : 65540 < F) (hS : GS sk L) (hR : GR τ) (h : cRA sk L τ 1719 1720 z b) (hn : CMn τ q) (hj : j < q.1) (h1 : q.2.1 + 24 * q.1 ≤ z) (h2 : q.2.2.1 + q.2.2.2 ≤ z) : f_Memory_isName F c 1718 (nI j) (cH sk L τ) = some (bI (xnI b q.2.2.1 q.2.2.2 (q.2.1 + 24 * j)), cH sk L τ) := by
  have hb := cRA_b h
  have hlt := cRb_lt hb
  obtain ⟨hz, o10, _⟩ := cRb_z hb
  have o4 := G1718 hS
  have r0 : fN τ 1718 0 = some 1719 := GR_r hR (by decide)
  obtain ⟨_, n8, n10, n11⟩ : _ ∧ fI τ 1718 8 = nI q.2.1 ∧ fI τ 1718 10 = nI q.2.2.1 ∧ fI τ 1718 11 = nI q.2.2.2 := ⟨hn.1, hn.2 (by omega)⟩
  generalize q.1 = cnt at *
  generalize q.2.1 = sp at *
  generalize q.2.2.1 = np at *
  generalize q.2.2.2 = ns at *
  have l6 := le_le8 (p := sp + 24 * j + 6) (k := 2) hlt (by decide)
  have l0 : le b (sp + 24 * j) 4 < 2 ^ 32 := le_lt hlt (sp + 24 * j) 4
  have hb4 := hlt (sp + 24 * j + 4)
  unfold f_Memory_isName f_Memory_isName_50 xnI
  rw [C4g8 o4, bs, n8, C4r0 o4 r0, bs, c_o o10, bs, pk_mul, nI_add, nI_add, k_ra hb (by omega), xb_mk, pk_shrN (n := b (sp + 24 * j + 4)) (by omega) _ 4 (by decide)]
  have e16 : (2 : Nat) ^ 4 = 16 := by decide
  rw [e16]
  have e105 : f_Memory_isName_105 F c (cH sk L τ) = some (bI false, cH sk L τ) := xz_0 _
  have e33 : f_Memory_isName_33 F c 1718 (nI (sp + 24 * j)) (cH sk L τ) = some (bI (decide (le b (sp + 24 * j + 6) 2 ≠ 0) && (decide (le b (sp + 24 * j) 4 < ns) && decide (0 < xnL b (np + le b (sp + 24 * j) 4) (np + ns) 21 0))), cH sk L τ) := by
    unfold f_Memory_isName_33 f_Memory_isName_50
    rw [C4r0 o4 r0, bs, c_o o10, bs, nI_add, k_rn hb (by omega) (by decide) (by omega), xb_mk]
    by_cases c1 : le b (sp + 24 * j + 6) 2 = 0
    · rw [if_pos (by rw [c1]), decide_eq_false (by rw [c1]; exact fun q => q rfl), Bool.false_and]
      rfl
    · rw [if_neg (fun q => c1 ((lEQ (b := 0) l6 (by decide)).mp q)), decide_eq_true c1, Bool.true_and, C4r0 o4 r0, bs, c_o o10, bs, k_rn hb (by omega) (by decide) (by omega), xb_mk, C4g11 o4, bs, n11, nI_l (by omega)]
      by_cases c2 : le b (sp + 24 * j) 4 < ns
      · have w := k_nameLen_2 (F := F) (c := c) (fr := np + le b (sp + 24 * j) 4) (e := np + ns) hb (by omega) (by omega) 21 0 F rfl (by omega)
        have w20 : xnL b (np + le b (sp + 24 * j) 4) (np + ns) 21 0 < 2 ^ 31 := by
          have t : ∀ (fr e d k : Nat), k + d ≤ 21 → xnL b fr e d k ≤ 21 := by
            intro fr e d
            induction d with
            | zero => intro k _; exact Nat.zero_le _
            | succ d ih =>
              intro k hk
              unfold xnL
              split
              · exact Nat.zero_le _
              · split
                · omega
                · exact ih (k + 1) (by omega)
          have := t (np + le b (sp + 24 * j) 4) (np + ns) 21 0 (by omega)
          omega
        rw [if_neg (fun q => by have := (pk_lLE (by omega) (by omega)).mp q; omega), decide_eq_true c2, Bool.true_and, C4r0 o4 r0, bs, C4g10 o4, bs, bs, bs, n10, lN_i, nI_add, nI_add, c_o o10, bs]
        unfold f_Row_nameLength
        rw [w, xb_mk]
        by_cases c3 : 0 < xnL b (np + le b (sp + 24 * j) 4) (np + ns) 21 0
        · rw [if_neg (nI_nle c3 w20), decide_eq_true c3]
          exact xz_1 _
        · rw [if_pos (show nI (xnL b (np + le b (sp + 24 * j) 4) (np + ns) 21 0) ≤ 0 by rw [Nat.eq_zero_of_not_pos c3]; decide), decide_eq_false c3]
          exact e105
      · rw [if_pos ((pk_lLE (by omega) (by omega)).mpr (by omega)), decide_eq_false c2, Bool.false_and]
        exact e105
  by_cases c1 : b (sp + 24 * j + 4) / 16 = 1
  · rw [if_pos (by rw [c1]), decide_eq_true c1, Bool.true_or, Bool.true_and]
    exact e33
  · rw [if_neg (fun q => c1 ((nI_eq (by omega) (by decide)).mp q)), decide_eq_false c1, Bool.false_or]
    by_cases c2 : b (sp + 24 * j + 4) / 16 = 2
    · rw [if_pos (by rw [c2]), decide_eq_true c2, Bool.true_and]
      exact e33
    · rw [if_neg (fun q => c2 ((nI_eq (by omega) (by decide)).mp q)), decide_eq_false c2, Bool.false_and]
      rfl
end CMM
end
section
/-! the class boots, exactly -/
/-- the rows of the class's memory -/
def CMr (τ : px_TT) (R : List px_XR) : Prop := fI τ 1718 6 = nI R.length ∧ R.length ≤ 8 ∧ ∀ (i : Nat) (w : px_XR), R[i]? = some w → (eJ τ 1725 i = lN w.1 ∧ eI τ 1724 i = nI w.2.1 ∧ eJ τ 1721 i = lN w.2.2.1 ∧ eJ τ 1723 i = lN w.2.2.2.1 ∧ eJ τ 1722 i = lN w.2.2.2.2) ∧ xrB w
def fr12 (τ τ' : px_TT) : Prop := (∀ a k, (a ≠ 1718 ∨ k ≠ 12) → fI τ' a k = fI τ a k) ∧ (∀ a k, fJ τ' a k = fJ τ a k) ∧ (∀ a k, fN τ' a k = fN τ a k) ∧ (∀ a, eI τ' a = eI τ a) ∧ (∀ a, eJ τ' a = eJ τ a) ∧ ∀ a, eN τ' a = eN τ a
theorem fr12_refl {τ : px_TT} : fr12 τ τ := ⟨fun _ _ _ => rfl, fun _ _ => rfl, fun _ _ => rfl, fun _ => rfl, fun _ => rfl, fun _ => rfl⟩
theorem fr12_trans {τ τ1 τ2 : px_TT} (h : fr12 τ τ1) (g : fr12 τ1 τ2) : fr12 τ τ2 := ⟨fun a k h1 => (g.1 a k h1).trans (h.1 a k h1), fun a k => (g.2.1 a k).trans (h.2.1 a k), fun a k => (g.2.2.1 a k).trans (h.2.2.1 a k), fun a => (g.2.2.2.1 a).trans (h.2.2.2.1 a), fun a => (g.2.2.2.2.1 a).trans (h.2.2.2.2.1 a), fun a => (g.2.2.2.2.2 a).trans (h.2.2.2.2.2 a)⟩
theorem fr12_I {τ : px_TT} {v : Int32} : fr12 τ (tI τ 1718 12 v) := ⟨fun a k h => tI_ne h, fun _ _ => rfl, fun _ _ => rfl, fun _ => rfl, fun _ => rfl, fun _ => rfl⟩
theorem fr12_8 {τ τ' : px_TT} (h : fr12 τ τ') : frX8 τ τ' := ⟨fun a k w => h.1 a k (by omega), h.2⟩
section CLD
variable {F : Nat} {c : px_CT} {sk : Nat → Nat × Nat × Nat} {L : Nat} {τ τ' : px_TT} {z : Nat} {b : Nat → Nat} {R : List px_XR}
theorem GR_8 (hR : GR τ) (f : frX8 τ τ') : GR τ' := GR_mv hR (fun x k _ => f.2.2.1 x k) (fun x k hx _ => f.1 x k (Or.inl (by omega))) (f.2.2.2.2.2 9) (f.2.2.2.2.2 151)
theorem GR_frXm (hR : GR τ) (f : frXm τ τ') : GR τ' := GR_mv hR (fun x k _ => f.2.2.1 x k) (fun x k hx _ => f.1 x k (by omega) (by omega)) (f.2.2.2.2.2 9) (f.2.2.2.2.2 151)
theorem CMn_12 {q : Nat × Nat × Nat × Nat} (h : CMn τ q) (f : fr12 τ τ') : CMn τ' q := ⟨(f.1 _ _ (Or.inr (by decide))).trans h.1, fun w => ⟨(f.1 _ _ (Or.inr (by decide))).trans (h.2 w).1, (f.1 _ _ (Or.inr (by decide))).trans (h.2 w).2.1, (f.1 _ _ (Or.inr (by decide))).trans (h.2 w).2.2⟩⟩
theorem k_load_228 {q : Nat × Nat × Nat × Nat} (hF : 65540 < F) (hS : GS sk L) (hq : 0 < q.1 → q.2.1 + 24 * q.1 ≤ z ∧ q.2.2.1 + q.2.2.2 ≤ z) : ∀ (d j f : Nat) (τ : px_TT), (j + d = q.1 ∨ (q.1 ≤ j ∧ d = 0)) → j ≤ 65536 → d < f → GR τ → cRA sk L τ 1719 1720 z b → CMn τ q → ∃ τ', f_Memory_load_228 F c f 1718 (nI j) (cH sk L τ) = some ((), cH sk L τ') ∧ fr12 τ τ' := by
  have o4 := G1718 hS
  intro d
  induction d with
  | zero =>
    intro j f τ hj hj2 hf hR h hn
    obtain ⟨f, rfl⟩ : ∃ y, f = y + 1 := ⟨f - 1, by omega⟩
    unfold f_Memory_load_228 f_Memory_load_266
    rw [C4g9 o4, bs, hn.1, if_pos (nI_le (by omega) (by omega))]
    exact ⟨τ, rfl, fr12_refl⟩
  | succ d ih =>
    intro j f τ hj hj2 hf hR h hn
    obtain ⟨f, rfl⟩ : ∃ y, f = y + 1 := ⟨f - 1, by omega⟩
    have hz := (cRb_z (cRA_b h)).1
    obtain ⟨q1, q2⟩ := hq (by omega)
    have go : ∀ v, ∃ τ', f_Memory_load_228 F c f 1718 (nI (j + 1)) (cH sk L (tI τ 1718 12 v)) = some ((), cH sk L τ') ∧ fr12 τ τ' := fun v => by
      have f1 : fr12 τ (tI τ 1718 12 v) := fr12_I
      obtain ⟨τ2, a1, a2⟩ := ih (j + 1) f (tI τ 1718 12 v) (by omega) (by omega) (by omega) (GR_8 hR (fr12_8 f1)) (cRA_fx h rfl (tI_ne (Or.inl (by decide))) rfl) (CMn_12 hn f1)
      exact ⟨τ2, a1, fr12_trans f1 a2⟩
    unfold f_Memory_load_228 f_Memory_load_256
    rw [C4g9 o4, bs, hn.1, if_neg (nI_ge (by omega) (by omega)), C4g12 o4, bs, c_o o4, bs, k_isName hF hS hR h hn (by omega) q1 q2, xb_mk, nI_add]
    cases xnI b q.2.2.1 q.2.2.2 (q.2.1 + 24 * j) with
    | false =>
      rw [if_pos (show bI false = 0 from rfl), C4p12 o4, bs]
      exact go _
    | true =>
      rw [if_neg (show ¬ bI true = 0 by decide), C4p12 o4, bs]
      exact go _
theorem k_load_216 (hF : 65540 < F) (hS : GS sk L) (hR : GR τ) (h : cRA sk L τ 1719 1720 z b) (h64 : 64 ≤ z) : ∃ τ', f_Memory_load_216 F c 1718 (cH sk L τ) = some ((), cH sk L τ') ∧ frX8 τ τ' ∧ CMn τ' (xnS b z) := by
  have o4 := G1718 hS
  have hz := (cRb_z (cRA_b h)).1
  obtain ⟨τ1, a1, a2, a3⟩ := k_findNames (F := F) (c := c) hF hS hR h h64
  have h1 : cRA sk L τ1 1719 1720 z b := cRA_fx h (a2.2.2.1 _ _) (a2.1 _ _ (Or.inl (by decide))) (a2.2.2.2.1 _)
  have f2 : fr12 τ1 (tI τ1 1718 12 (nI 0)) := fr12_I
  have hc : (xnS b z).1 ≤ 65536 := by
    by_cases c0 : 0 < (xnS b z).1
    · have := (xnS_ok c0).1
      omega
    · omega
  obtain ⟨τ2, b1, b2⟩ := k_load_228 (F := F) (c := c) (q := xnS b z) hF hS (fun w => xnS_ok w) ((xnS b z).1 - 1) 1 F (tI τ1 1718 12 (nI 0)) (by omega) (by decide) (by omega) (GR_8 (GR_8 hR a2) (fr12_8 f2)) (cRA_fx h1 rfl (tI_ne (Or.inl (by decide))) rfl) (CMn_12 a3 f2)
  refine ⟨τ2, ?_, frX8_trans a2 (frX8_trans (fr12_8 f2) (fr12_8 b2)), CMn_12 a3 (fr12_trans f2 b2)⟩
  unfold f_Memory_load_216
  rw [c_o o4, bs, a1, xb_mk, C4p12 o4, bs]
  exact b1
theorem CMr_8 (h : CMr τ R) (f : frX8 τ τ') : CMr τ' R := ⟨(f.1 _ _ (Or.inr (by decide))).trans h.1, h.2.1, fun i w hw => by
  obtain ⟨⟨e1, e2, e3, e4, e5⟩, e6⟩ := h.2.2 i w hw
  rw [f.2.2.2.2.1 1725, f.2.2.2.1 1724, f.2.2.2.2.1 1721, f.2.2.2.2.1 1723, f.2.2.2.2.1 1722]
  exact ⟨⟨e1, e2, e3, e4, e5⟩, e6⟩⟩
theorem cRA_frXm {r A : Nat} (h : cRA sk L τ r A z b) (f : frXm τ τ') (hr : r ≠ 1718 ∧ r ≠ 1719) (hA : A ≠ 1720 ∧ A ≠ 1724) : cRA sk L τ' r A z b := cRA_fx h (f.2.2.1 _ _) (f.1 _ _ hr.1 hr.2) (f.2.2.2.1 _ hA.1 hA.2)
theorem cRA_19 (h : cRA sk L τ 1719 1720 z b) (h1 : fI τ' 1719 1 = fI τ 1719 1) (h0 : fN τ' 1719 0 = fN τ 1719 0) (hA : eI τ' 1720 = eI τ 1720) : cRA sk L τ' 1719 1720 z b := cRA_fx h h0 h1 hA
theorem k_load_62 {r A at0 N : Nat} (hF : 65540 < F) (hS : GS sk L) (h64 : 64 ≤ z) (hr : r < 10) (hA : A < 10) (hN : N ≤ 8) (hat : at0 + 56 * N ≤ z) : ∀ (d k f : Nat) (τ : px_TT) (R : List px_XR), k + d = N → d < f → R.length ≤ k → GR τ → cRA sk L τ r A z b → cRA sk L τ 1719 1720 z b → CMr τ R → (xrG (xrTf b at0) (xrEf b z at0) (xrWf b at0) d k R).1 = 0 → ∃ τ', f_Memory_load_62 F c f 1718 r (nI at0) (nI N) (nI k) (cH sk L τ) = some ((), cH sk L τ') ∧ frXm τ τ' ∧ CMr τ' (xrG (xrTf b at0) (xrEf b z at0) (xrWf b at0) d k R).2 ∧ CMn τ' (xnS b z) ∧ cRA sk L τ' 1719 1720 z b := by
  have o4 := G1718 hS
  intro d
  induction d with
  | zero =>
    intro k f τ R hk hf hRk hR h h9 hM hG
    obtain ⟨f, rfl⟩ : ∃ y, f = y + 1 := ⟨f - 1, by omega⟩
    obtain ⟨τ1, a1, a2, a3⟩ := k_load_216 (F := F) (c := c) hF hS hR h9 h64
    rw [xrG_0]
    refine ⟨τ1, ?_, frX8_M a2, CMr_8 hM a2, a3, cRA_19 h9 (a2.1 _ _ (Or.inl (by decide))) (a2.2.2.1 _ _) (a2.2.2.2.1 _)⟩
    unfold f_Memory_load_62
    rw [if_pos (nI_le (by omega) (by omega))]
    exact a1
  | succ d ih =>
    intro k f τ R hk hf hRk hR h h9 hM hG
    obtain ⟨f, rfl⟩ : ∃ y, f = y + 1 := ⟨f - 1, by omega⟩
    have hb := cRA_b h
    have hlt := cRb_lt hb
    obtain ⟨hz, o10, _⟩ := cRb_z hb
    have hl4 := le_le8 (p := at0 + 56 * k) (k := 4) hlt (by decide)
    have r1 : fN τ 1718 1 = some 1721 := GR_r hR (by decide)
    unfold f_Memory_load_62 f_Memory_load_210
    rw [if_neg (nI_ge (by omega) (by omega)), C4g6 o4, bs, hM.1, C4r1 o4 r1, bs, c_l (G1721 hS) (by decide), bs, if_neg (nI_ge (by omega) (by decide)), c_o o10, bs, pk_mul, nI_add, k_rn hb (by omega) (by decide) (by omega), xb_mk]
    by_cases c1 : le b (at0 + 56 * k) 4 = 1
    · have hT : xrTf b at0 k = true := decide_eq_true c1
      have hE : xrEf b z at0 k (xrE R) = 0 := by
        by_cases c2 : xrEf b z at0 k (xrE R) = 0
        · exact c2
        · rw [xrG_e hT c2] at hG
          exact absurd hG c2
      rw [xrG_t hT hE] at hG ⊢
      have hE' : xrP z (xrE R) (le b (at0 + 56 * k + 8) 8) (le b (at0 + 56 * k + 16) 8) (le b (at0 + 56 * k + 32) 8) (le b (at0 + 56 * k + 40) 8) (xrA (lN (le b (at0 + 56 * k + 16) 8)) (lN (le b (at0 + 56 * k + 8) 8)) (lN (le b (at0 + 56 * k + 48) 8))) = 0 := hE
      obtain ⟨q1, q2, q3, q4, _, _⟩ := xrP_0 hE'
      have hw : xrWf b at0 k = (le b (at0 + 56 * k + 4) 4, le b (at0 + 56 * k + 8) 8, le b (at0 + 56 * k + 16) 8, le b (at0 + 56 * k + 32) 8, le b (at0 + 56 * k + 40) 8) := rfl
      have hfl : le b (at0 + 56 * k + 4) 4 < 2 ^ 32 := le_lt hlt (at0 + 56 * k + 4) 4
      rw [hw] at hG ⊢
      have hl8 : R.length < 8 := by omega
      have r5 : fN τ 1718 5 = some 1725 := GR_r hR (by decide)
      have r4 : fN τ 1718 4 = some 1724 := GR_r hR (by decide)
      have r3 : fN τ 1718 3 = some 1723 := GR_r hR (by decide)
      have r2 : fN τ 1718 2 = some 1722 := GR_r hR (by decide)
      have n8 := hM.1
      -- the five values
      obtain ⟨τ1, e1⟩ : ∃ y, y = vJ τ 1725 (vp_updL (eJ τ 1725) R.length (lN (le b (at0 + 56 * k + 4) 4))) := ⟨_, rfl⟩
      have f1 : frXm τ τ1 := by rw [e1]; exact frXm_vJ (by omega)
      have h1 : cRA sk L τ1 r A z b := cRA_frXm h f1 (by omega) (by omega)
      have m1 : fI τ1 1718 6 = nI R.length := by rw [e1]; exact n8
      obtain ⟨τ2, e2⟩ : ∃ y, y = vI τ1 1724 (upd (eI τ1 1724) R.length (nI (le b (at0 + 56 * k + 8) 8))) := ⟨_, rfl⟩
      have f2 : frXm τ1 τ2 := by rw [e2]; exact frXm_vI
      have h2 : cRA sk L τ2 r A z b := cRA_frXm h1 f2 (by omega) (by omega)
      have m2 : fI τ2 1718 6 = nI R.length := by rw [e2]; exact m1
      obtain ⟨τ3, e3⟩ : ∃ y, y = vJ τ2 1721 (vp_updL (eJ τ2 1721) R.length (lN (le b (at0 + 56 * k + 16) 8))) := ⟨_, rfl⟩
      have f3 : frXm τ2 τ3 := by rw [e3]; exact frXm_vJ (by omega)
      have h3 : cRA sk L τ3 r A z b := cRA_frXm h2 f3 (by omega) (by omega)
      have m3 : fI τ3 1718 6 = nI R.length := by rw [e3]; exact m2
      obtain ⟨τ4, e4⟩ : ∃ y, y = vJ τ3 1723 (vp_updL (eJ τ3 1723) R.length (lN (le b (at0 + 56 * k + 32) 8))) := ⟨_, rfl⟩
      have f4 : frXm τ3 τ4 := by rw [e4]; exact frXm_vJ (by omega)
      have h4 : cRA sk L τ4 r A z b := cRA_frXm h3 f4 (by omega) (by omega)
      have m4 : fI τ4 1718 6 = nI R.length := by rw [e4]; exact m3
      obtain ⟨τ5, e5⟩ : ∃ y, y = vJ τ4 1722 (vp_updL (eJ τ4 1722) R.length (lN (le b (at0 + 56 * k + 40) 8))) := ⟨_, rfl⟩
      have f5 : frXm τ4 τ5 := by rw [e5]; exact frXm_vJ (by omega)
      have m5 : fI τ5 1718 6 = nI R.length := by rw [e5]; exact m4
      obtain ⟨τ6, e6⟩ : ∃ y, y = tI τ5 1718 6 (nI (R.length + 1)) := ⟨_, rfl⟩
      have f6 : frXm τ5 τ6 := by rw [e6]; exact frXm_I
      have F16 : frXm τ τ6 := frXm_trans f1 (frXm_trans f2 (frXm_trans f3 (frXm_trans f4 (frXm_trans f5 f6))))
      have h9' : cRA sk L τ6 1719 1720 z b := by
        refine cRA_19 h9 ?_ (F16.2.2.1 _ _) ?_
        · rw [e6, tI_ne (Or.inl (by decide)), e5, e4, e3, e2, e1]; rfl
        · rw [e6, e5, e4, e3]
          show eI τ2 1720 = _
          rw [e2, vI_ne (by decide), e1]; rfl
      have hM' : CMr τ6 (R ++ [(le b (at0 + 56 * k + 4) 4, le b (at0 + 56 * k + 8) 8, le b (at0 + 56 * k + 16) 8, le b (at0 + 56 * k + 32) 8, le b (at0 + 56 * k + 40) 8)]) := by
        have j25 : eJ τ6 1725 = vp_updL (eJ τ 1725) R.length (lN (le b (at0 + 56 * k + 4) 4)) := by
          rw [e6]; show eJ τ5 1725 = _
          rw [e5, vJ_ne (by decide), e4, vJ_ne (by decide), e3, vJ_ne (by decide), e2]; show eJ τ1 1725 = _
          rw [e1, vJ_at]
        have i24 : eI τ6 1724 = upd (eI τ 1724) R.length (nI (le b (at0 + 56 * k + 8) 8)) := by
          rw [e6, e5, e4, e3]; show eI τ2 1724 = _
          rw [e2, vI_at, e1]; rfl
        have j21 : eJ τ6 1721 = vp_updL (eJ τ 1721) R.length (lN (le b (at0 + 56 * k + 16) 8)) := by
          rw [e6]; show eJ τ5 1721 = _
          rw [e5, vJ_ne (by decide), e4, vJ_ne (by decide), e3, vJ_at, e2]; show vp_updL (eJ τ1 1721) _ _ = _
          rw [e1, vJ_ne (by decide)]
        have j23 : eJ τ6 1723 = vp_updL (eJ τ 1723) R.length (lN (le b (at0 + 56 * k + 32) 8)) := by
          rw [e6]; show eJ τ5 1723 = _
          rw [e5, vJ_ne (by decide), e4, vJ_at, e3, vJ_ne (by decide), e2]; show vp_updL (eJ τ1 1723) _ _ = _
          rw [e1, vJ_ne (by decide)]
        have j22 : eJ τ6 1722 = vp_updL (eJ τ 1722) R.length (lN (le b (at0 + 56 * k + 40) 8)) := by
          rw [e6]; show eJ τ5 1722 = _
          rw [e5, vJ_at, e4, vJ_ne (by decide), e3, vJ_ne (by decide), e2]; show vp_updL (eJ τ1 1722) _ _ = _
          rw [e1, vJ_ne (by decide)]
        refine ⟨by rw [e6, tI_at, List.length_append, List.length_singleton], by rw [List.length_append, List.length_singleton]; omega, fun i w hi => ?_⟩
        rw [j25, i24, j21, j23, j22]
        rcases app1 hi with ⟨rfl, rfl⟩ | ⟨ci, hi⟩
        · exact ⟨⟨vp_eq, upd_eq, vp_eq, vp_eq, vp_eq⟩, hfl, q4, q3, by show le b (at0 + 56 * k + 8) 8 + le b (at0 + 56 * k + 32) 8 ≤ 65536; omega⟩
        · have ci : i ≠ R.length := by omega
          rw [vp_ne ci, upd_ne ci, vp_ne ci, vp_ne ci, vp_ne ci]
          exact hM.2.2 i w hi
      obtain ⟨τ7, a1, a2, a3, a4, a5⟩ := ih (k + 1) f τ6 _ (by omega) (by omega) (by rw [List.length_append, List.length_singleton]; omega) (GR_frXm hR F16) (cRA_frXm h F16 (by omega) (by omega)) h9' hM' hG
      refine ⟨τ7, ?_, frXm_trans F16 a2, a3, a4, a5⟩
      rw [if_pos (by rw [c1]), C4r5 o4 r5, bs, C4g6 o4, bs, n8, c_o o10, bs, nI_add, k_rn hb (by omega) (by decide) (by omega), xb_mk, c_sJ (G1725 hS) (by decide) hl8, bs, ← e1, C4r4 o4 ((f1.2.2.1 _ _).trans r4), bs, C4g6 o4, bs, m1, c_o o10, bs, nI_add, k_rn (cRA_b h1) (by omega) (by decide) (by omega), xb_mk, lN_i, c_sI (G1724 hS) (Or.inr (Or.inl rfl)) (by decide) hl8, bs, ← e2, C4r1 o4 ((f2.2.2.1 _ _).trans ((f1.2.2.1 _ _).trans r1)), bs, C4g6 o4, bs, m2, c_o o10, bs, nI_add, k_rn (cRA_b h2) (by omega) (by decide) (by omega), xb_mk, c_sJ (G1721 hS) (by decide) hl8, bs, ← e3, C4r3 o4 ((f3.2.2.1 _ _).trans ((f2.2.2.1 _ _).trans ((f1.2.2.1 _ _).trans r3))), bs, C4g6 o4, bs, m3, c_o o10, bs, nI_add, k_rn (cRA_b h3) (by omega) (by decide) (by omega), xb_mk, c_sJ (G1723 hS) (by decide) hl8, bs, ← e4, C4r2 o4 ((f4.2.2.1 _ _).trans ((f3.2.2.1 _ _).trans ((f2.2.2.1 _ _).trans ((f1.2.2.1 _ _).trans r2)))), bs, C4g6 o4, bs, m4, c_o o10, bs, nI_add, k_rn (cRA_b h4) (by omega) (by decide) (by omega), xb_mk, c_sJ (G1722 hS) (by decide) hl8, bs, ← e5, C4g6 o4, bs, m5, nI_add, C4p6 o4, bs, ← e6, nI_add]
      exact a1
    · have hT : xrTf b at0 k = false := decide_eq_false c1
      rw [xrG_f hT] at hG ⊢
      obtain ⟨τ7, a1, a2, a3, a4, a5⟩ := ih (k + 1) f τ R (by omega) (by omega) (by omega) hR h h9 hM hG
      refine ⟨τ7, ?_, a2, a3, a4, a5⟩
      rw [if_neg (fun q => c1 ((lEQ (b := 1) hl4 (by decide)).mp q)), nI_add]
      exact a1
theorem xrX_0 {b : Nat → Nat} {z : Nat} (h : xrX b z = 0) : 64 ≤ z ∧ le b 56 2 ≤ 8 ∧ le b 32 8 + 56 * le b 56 2 ≤ z ∧ (xrL b z (le b 32 8) (le b 56 2)).1 = 0 := by
  unfold xrX at h
  cases hH : xrH b z with
  | false => rw [hH, if_neg (by decide)] at h; cases h
  | true =>
    rw [hH, if_pos rfl] at h
    have h64 : 64 ≤ z := by
      unfold xrH at hH
      rw [Bool.and_eq_true] at hH
      exact of_decide_eq_true hH.1
    by_cases c1 : 8 < le b 56 2
    · rw [if_pos c1] at h; cases h
    · rw [if_neg c1] at h
      by_cases c2 : le b 32 8 + 56 * le b 56 2 ≤ z
      · rw [if_pos c2] at h
        refine ⟨h64, by omega, c2, ?_⟩
        unfold xrO at h
        by_cases c3 : (xrL b z (le b 32 8) (le b 56 2)).1 = 0
        · exact c3
        · rw [if_neg c3] at h; exact absurd h c3
      · rw [if_neg c2] at h; cases h
theorem k_load {r A : Nat} (hF : 65540 < F) (hS : GS sk L) (hR : GR τ) (h : cRA sk L τ r A z b) (hB : ∀ k, isB (eI τ A k)) (hr : r < 10) (hA : A < 10) (hrow : rowOK sk L τ 1719 1720 65536) (hx : xrX b z = 0) : ∃ τ', f_Memory_load F c 1718 r (cH sk L τ) = some ((), cH sk L τ') ∧ frXm τ τ' ∧ CMr τ' (xrS b z) ∧ CMn τ' (xnS b z) ∧ cRA sk L τ' 1719 1720 z b := by
  obtain ⟨h64, hn8, hat, hG⟩ := xrX_0 hx
  have o4 := G1718 hS
  have hb := cRA_b h
  obtain ⟨hz, o10, n1⟩ := cRb_z hb
  have r0 : fN τ 1718 0 = some 1719 := GR_r hR (by decide)
  obtain ⟨nA, y1, y2, y3, y4, y5, y6, y7⟩ := h
  have h : cRA sk L τ r A z b := ⟨nA, y1, y2, y3, y4, y5, y6, y7⟩
  obtain ⟨τ1, a1, a2, a3, a4⟩ := k_clearC (F := F) (c := c) hrow
  have F1 := frXm_Rw a3
  have h1 := cRA_frXm h F1 (by omega) (by omega)
  have hB1 : ∀ k, isB (eI τ1 A k) := fun k => by rw [F1.2.2.2.1 A (by omega) (by omega)]; exact hB k
  obtain ⟨τ2, b1, b2, b3, b4⟩ := k_copyC (F := F) (c := c) (q := 0) (m := z) y3 y4 hB1 (by omega) a2
  have F2 := frXm_trans F1 (frXm_Rw b3)
  have h2 := cRA_frXm h F2 (by omega) (by omega)
  have w2 := b4 _ (a4 (fun _ => 0))
  have hc : cRA sk L τ2 1719 1720 z b := by
    unfold wCpy at w2
    rw [if_pos (show (0 : Nat) + z ≤ 65536 by omega)] at w2
    obtain ⟨_, w3, w4⟩ := w2
    refine ⟨65536, G1719 hS, b2.2.2.2.1, G1720 hS, Nat.le_refl _, hz, by rw [w3]; show nI (0 + z) = nI z; rw [Nat.zero_add], ?_⟩
    rw [y7]
    funext i
    by_cases ci : i < z
    · rw [if_pos ci, if_pos ci, w4 i (by show i < 0 + z; omega)]
      show _ = b8 (va_cpy (eI τ1 A) (fun _ => 0) 0 0 z i)
      rw [pk_cpy_in (Nat.zero_le _) (by omega), Nat.zero_add, Nat.sub_zero, F1.2.2.2.1 A (by omega) (by omega)]
    · rw [if_neg ci, if_neg ci]
  obtain ⟨τ3, e3⟩ : ∃ y, y = tI (tJ τ2 1718 7 (lN (le b 24 8))) 1718 6 (nI 0) := ⟨_, rfl⟩
  have F3 : frXm τ2 τ3 := by rw [e3]; exact frXm_trans frXm_J frXm_I
  have h3 := cRA_frXm h2 F3 (by omega) (by omega)
  have hc3 : cRA sk L τ3 1719 1720 z b := cRA_19 hc (by rw [e3]; exact tI_ne (Or.inl (by decide))) (F3.2.2.1 _ _) (by rw [e3]; rfl)
  have h2' : cRA sk L (tJ τ2 1718 7 (lN (le b 24 8))) r A z b := cRA_fx h2 rfl rfl rfl
  have hM3 : CMr τ3 [] := ⟨by rw [e3, tI_at]; rfl, Nat.zero_le _, fun i w hw => by cases hw⟩
  obtain ⟨τ4, d1, d2, d3, d4, d5⟩ := k_load_62 (F := F) (c := c) (r := r) (A := A) (at0 := le b 32 8) (N := le b 56 2) hF hS h64 hr hA hn8 hat (le b 56 2) 0 F τ3 [] (Nat.zero_add _) (by omega) (Nat.le_refl _) (GR_frXm (GR_frXm hR F2) F3) h3 hc3 hM3 hG
  refine ⟨τ4, ?_, frXm_trans F2 (frXm_trans F3 d2), d3, d4, d5⟩
  unfold f_Memory_load
  rw [C4r0 o4 r0, bs, c_o (G1719 hS), bs, a1, xb_mk, C4r0 o4 ((F1.2.2.1 _ _).trans r0), bs, C10r0 o10 ((F1.2.2.1 _ _).trans y2), bs, C10g1 o10, bs, (F1.1 r 1 (by omega) (by omega)).trans y6, c_o (G1719 hS), bs, b1, xb_mk, c_o o10, bs, k_rn (cRA_b h2) (by omega) (by decide) (by decide), xb_mk, C4p7 o4, bs, c_o o10, bs, k_rn (cRA_b h2') (by omega) (by decide) (by decide), xb_mk, c_o o10, bs, k_rn (cRA_b h2') (by omega) (by decide) (by decide), xb_mk, C4p6 o4, bs, lN_i, lN_i, ← e3]
  exact d1
end CLD
/-- what a boot of the class leaves alone -/
def frB (x : Int32) (τ τ' : px_TT) : Prop := (∀ a k, a ≠ 1718 → a ≠ 1719 → (a = 0 → k ≠ 17) → (a = 1 → x = 0 ∨ (k ≠ 1 ∧ k ≠ 2)) → fI τ' a k = fI τ a k) ∧ (∀ a k, a ≠ 1718 → fJ τ' a k = fJ τ a k) ∧ (∀ a k, fN τ' a k = fN τ a k) ∧ (∀ a, a ≠ 1720 → a ≠ 1724 → eI τ' a = eI τ a) ∧ (∀ a, (a < 1721 ∨ 1725 < a) → eJ τ' a = eJ τ a) ∧ ∀ a, eN τ' a = eN τ a
/-- the memory is as it was -/
def frMk (τ τ' : px_TT) : Prop := (∀ k, fI τ' 1718 k = fI τ 1718 k) ∧ (∀ k, fI τ' 1719 k = fI τ 1719 k) ∧ (∀ k, fN τ' 1719 k = fN τ 1719 k) ∧ eI τ' 1720 = eI τ 1720 ∧ eI τ' 1724 = eI τ 1724 ∧ ∀ a, eJ τ' a = eJ τ a
section CBT
variable {F : Nat} {c : px_CT} {sk : Nat → Nat × Nat × Nat} {L : Nat} {τ : px_TT} {z : Nat} {b : Nat → Nat}
theorem k_boot {x : Int32} {r A : Nat} (hK : KT c) (hF : 65540 < F) (hS : GS sk L) (hR : GR τ) (hsrc : (x = 0 ∧ fN τ 0 1 = some r) ∨ (¬ x = 0 ∧ r = 1)) (h : cRA sk L τ r A z b) (hB : ∀ k, isB (eI τ A k)) (hr : 1 ≤ r ∧ r < 10) (hA : A < 10) (hrow : rowOK sk L τ 1719 1720 65536) : ∃ τ', f_H_boot F c 0 x (cH sk L τ) = some (nI (xrX b z), cH sk L τ') ∧ frB x τ τ' ∧ (xrX b z = 0 → CMr τ' (xrS b z) ∧ CMn τ' (xnS b z) ∧ cRA sk L τ' 1719 1720 z b) ∧ (xrX b z ≠ 0 → frMk τ τ') := by
  have o0 := G0 hS
  have r16 : fN τ 0 16 = some 1718 := GR_r hR (by decide)
  have r0 : fN τ 0 0 = some 1 := GR_r hR (by decide)
  have x5 : xrX b z ≤ 6 := by
    unfold xrX xrO
    have t : (xrL b z (le b 32 8) (le b 56 2)).1 ≤ 5 := by
      have g : ∀ (T : Nat → Bool) (E : Nat → Nat → Nat) (W : Nat → px_XR), (∀ k e, E k e ≤ 5) → ∀ (d k : Nat) (R : List px_XR), (xrG T E W d k R).1 ≤ 5 := by
        intro T E W hE d
        induction d with
        | zero => intro k R; exact Nat.zero_le _
        | succ d ih =>
          intro k R
          cases e : T k with
          | false => rw [xrG_f e]; exact ih _ _
          | true =>
            by_cases e2 : E k (xrE R) = 0
            · rw [xrG_t e e2]; exact ih _ _
            · rw [xrG_e e e2]; exact hE _ _
      exact g _ _ _ (fun k e => xrP_5) _ _ _
    repeat (first | omega | split)
  obtain ⟨τ1, e1⟩ : ∃ y, y = tI τ 0 17 (nI (xrX b z)) := ⟨_, rfl⟩
  have g17 : fI τ1 0 17 = nI (xrX b z) := by rw [e1]; exact tI_at
  have I1 : ∀ a k, (a = 0 → k ≠ 17) → fI τ1 a k = fI τ a k := fun a k w => by rw [e1]; exact tI_ne (by omega)
  have N1 : ∀ a k, fN τ1 a k = fN τ a k := fun a k => by rw [e1]; rfl
  have A1 : ∀ a, eI τ1 a = eI τ a := fun a => by rw [e1]; rfl
  have h1 : cRA sk L τ1 r A z b := cRA_fx h (N1 _ _) (I1 _ _ (by omega)) (A1 _)
  have hR1 : GR τ1 := GR_mv hR (fun x k _ => N1 x k) (fun x k hx _ => I1 x k (by omega)) (by rw [e1]; rfl) (by rw [e1]; rfl)
  have hrow1 : rowOK sk L τ1 1719 1720 65536 := rowOK_fx hrow EX_refl (N1 _ _) (I1 _ _ (by omega)) (I1 _ _ (by omega)) (A1 _)
  -- the end: the tape is used up, the answer is read
  have e43 : ∀ τ2, fI τ2 0 17 = nI (xrX b z) → fN τ2 0 0 = some 1 → ∃ τ3, f_H_boot_43 F c 0 x (cH sk L τ2) = some (nI (xrX b z), cH sk L τ3) ∧ (∀ a k, (a = 1 → x = 0 ∨ (k ≠ 1 ∧ k ≠ 2)) → fI τ3 a k = fI τ2 a k) ∧ (∀ a k, fJ τ3 a k = fJ τ2 a k) ∧ (∀ a k, fN τ3 a k = fN τ2 a k) ∧ (∀ a, eI τ3 a = eI τ2 a) ∧ (∀ a, eJ τ3 a = eJ τ2 a) ∧ ∀ a, eN τ3 a = eN τ2 a := fun τ2 w1 w2 => by
    unfold f_H_boot_43 f_H_boot_54
    by_cases c0 : x = 0
    · rw [if_pos c0, C0g17 o0, bs, w1]
      exact ⟨τ2, rfl, fun _ _ _ => rfl, fun _ _ => rfl, fun _ _ => rfl, fun _ => rfl, fun _ => rfl, fun _ => rfl⟩
    · refine ⟨tI (tI τ2 1 1 (nI 0)) 1 2 (bI false), ?_, fun a k w => ?_, fun _ _ => rfl, fun _ _ => rfl, fun _ => rfl, fun _ => rfl, fun _ => rfl⟩
      · unfold f_Row_clear
        rw [if_neg c0, C0r0 o0 w2, bs, c_o (G1 hS), bs, C10p1 (G1 hS), bs, show (nI 0 : Int32) = bI false from rfl, C10z2 (G1 hS), bs, xb_mk, C0g17 o0, bs, tI_ne (Or.inl (by decide)), tI_ne (Or.inl (by decide)), w1]
      · by_cases ca : a = 1
        · rcases w ca with w | w
          · exact absurd w c0
          · exact (tI_ne (Or.inr w.2)).trans (tI_ne (Or.inr w.1))
        · exact (tI_ne (Or.inl ca)).trans (tI_ne (Or.inl ca))
  have e15 : ∃ τ', f_H_boot_15 F c 0 x r (cH sk L τ) = some (nI (xrX b z), cH sk L τ') ∧ frB x τ τ' ∧ (xrX b z = 0 → CMr τ' (xrS b z) ∧ CMn τ' (xnS b z) ∧ cRA sk L τ' 1719 1720 z b) ∧ (xrX b z ≠ 0 → frMk τ τ') := by
    unfold f_H_boot_15
    rw [C0r16 o0 r16, bs, c_o (G1718 hS), bs, k_errorOf hK hF (cRA_b h), xb_mk, C0p17 o0, bs, ← e1, C0g17 o0, bs, g17]
    by_cases c1 : xrX b z = 0
    · have hB1 : ∀ k, isB (eI τ1 A k) := fun k => by rw [A1]; exact hB k
      obtain ⟨τ2, a1, a2, a3, a4, a5⟩ := k_load (F := F) (c := c) hF hS hR1 h1 hB1 hr.2 hA hrow1 c1
      obtain ⟨τ3, b1, b2, b3, b4, b5, b6, b7⟩ := e43 τ2 ((a2.1 0 17 (by decide) (by decide)).trans g17) ((a2.2.2.1 _ _).trans ((N1 _ _).trans r0))
      refine ⟨τ3, ?_, ⟨fun a k w1 w2 w3 w4 => (b2 a k w4).trans ((a2.1 a k w1 w2).trans (I1 a k w3)), fun a k w => (b3 a k).trans ((a2.2.1 a k w).trans (by rw [e1]; rfl)), fun a k => (b4 a k).trans ((a2.2.2.1 a k).trans (N1 a k)), fun a w1 w2 => (b5 a).trans ((a2.2.2.2.1 a w1 w2).trans (A1 a)), fun a w => (b6 a).trans ((a2.2.2.2.2.1 a w).trans (by rw [e1]; rfl)), fun a => (b7 a).trans ((a2.2.2.2.2.2 a).trans (by rw [e1]; rfl))⟩, fun _ => ⟨⟨(b2 _ _ (by omega)).trans a3.1, a3.2.1, fun i w hw => ?_⟩, ⟨(b2 _ _ (by omega)).trans a4.1, fun w => ⟨(b2 _ _ (by omega)).trans (a4.2 w).1, (b2 _ _ (by omega)).trans (a4.2 w).2.1, (b2 _ _ (by omega)).trans (a4.2 w).2.2⟩⟩, cRA_19 a5 (b2 _ _ (by omega)) (b4 _ _) (b5 _)⟩, fun q => absurd c1 q⟩
      · rw [if_pos (by rw [c1]; rfl), C0r16 o0 ((N1 _ _).trans r16), bs, c_o (G1718 hS), bs, a1, xb_mk]
        exact b1
      · rw [b6 1725, b5 1724, b6 1721, b6 1723, b6 1722]
        exact a3.2.2 i w hw
    · obtain ⟨τ3, b1, b2, b3, b4, b5, b6, b7⟩ := e43 τ1 g17 ((N1 _ _).trans r0)
      refine ⟨τ3, ?_, ⟨fun a k _ _ w3 w4 => (b2 a k w4).trans (I1 a k w3), fun a k _ => (b3 a k).trans (by rw [e1]; rfl), fun a k => (b4 a k).trans (N1 a k), fun a _ _ => (b5 a).trans (A1 a), fun a _ => (b6 a).trans (by rw [e1]; rfl), fun a => (b7 a).trans (by rw [e1]; rfl)⟩, fun q => absurd q c1, fun _ => ⟨fun k => (b2 _ _ (by omega)).trans (I1 _ _ (by omega)), fun k => (b2 _ _ (by omega)).trans (I1 _ _ (by omega)), fun k => (b4 _ _).trans (N1 _ _), (b5 _).trans (A1 _), (b5 _).trans (A1 _), fun a => (b6 a).trans (by rw [e1]; rfl)⟩⟩
      rw [if_neg (nI_ne0 (by omega) (by omega))]
      exact b1
  unfold f_H_boot
  rcases hsrc with ⟨c0, w⟩ | ⟨c0, rfl⟩
  · rw [if_pos c0, C0r1 o0 w, bs]
    exact e15
  · rw [if_neg c0, C0r0 o0 r0, bs]
    exact e15
end CBT
end
section
/-! the reference: the memory's names, exact -/
/-- the values of the symbols that have names, in order -/
def nvL (V : Nat → Nat) (N : Nat → Bool) : Nat → Nat → List Nat
  | 0, _ => []
  | d + 1, j => if N j = true then V j :: nvL V N d (j + 1) else nvL V N d (j + 1)
theorem nvL_0 (V : Nat → Nat) (N : Nat → Bool) (j : Nat) : nvL V N 0 j = [] := rfl
theorem nvL_t {V : Nat → Nat} {N : Nat → Bool} {d j : Nat} (h : N j = true) : nvL V N (d + 1) j = V j :: nvL V N d (j + 1) := if_pos h
theorem nvL_f {V : Nat → Nat} {N : Nat → Bool} {d j : Nat} (h : N j = false) : nvL V N (d + 1) j = nvL V N d (j + 1) := if_neg (by rw [h]; decide)
theorem nvL_len (V : Nat → Nat) (N : Nat → Bool) : ∀ (d j : Nat), (nvL V N d j).length ≤ d := by
  intro d
  induction d with
  | zero => intro j; exact Nat.le_refl _
  | succ d ih =>
    intro j
    have := ih (j + 1)
    cases h : N j with
    | true => rw [nvL_t h, List.length_cons]; omega
    | false => rw [nvL_f h]; omega
theorem nvL_in {V : Nat → Nat} {N : Nat → Bool} : ∀ (d j v : Nat), v ∈ nvL V N d j → ∃ i, v = V i := by
  intro d
  induction d with
  | zero => intro j v h; cases h
  | succ d ih =>
    intro j v h
    cases hN : N j with
    | true =>
      rw [nvL_t hN] at h
      rcases List.mem_cons.mp h with e | e
      · exact ⟨j, e⟩
      · exact ih (j + 1) v e
    | false => rw [nvL_f hN] at h; exact ih (j + 1) v h
/-- the value of a symbol, and whether it has a name -/
abbrev nmV (b : Nat → Nat) (q : Nat × Nat × Nat × Nat) (j : Nat) : Nat := le b (q.2.1 + 24 * j + 8) 8
abbrev nmN (b : Nat → Nat) (q : Nat × Nat × Nat × Nat) (j : Nat) : Bool := xnI b q.2.2.1 q.2.2.2 (q.2.1 + 24 * j)
/-- the values of the names that the tables q tell -/
def nvQ (b : Nat → Nat) (q : Nat × Nat × Nat × Nat) : List Nat := nvL (nmV b q) (nmN b q) (q.1 - 1) 1
theorem nvQ_0 {b : Nat → Nat} {q : Nat × Nat × Nat × Nat} (h : q.1 ≤ 1) : nvQ b q = [] := by
  unfold nvQ
  rw [show q.1 - 1 = 0 by omega, nvL_0]
/-- the tables, out of the row of symbols -/
def xnM (b : Nat → Nat) (z n x i : Nat) : Nat × Nat × Nat × Nat := if xnK b z n (x + 64 * i) (x + 64 * le b (x + 64 * i + 40) 4) = true then (le b (x + 64 * i + 32) 8 / 24, le b (x + 64 * i + 24) 8, le b (x + 64 * le b (x + 64 * i + 40) 4 + 24) 8, le b (x + 64 * le b (x + 64 * i + 40) 4 + 32) 8) else (0, 0, 0, 0)
def xnO (b : Nat → Nat) (z n x : Nat) : Option Nat → Nat × Nat × Nat × Nat
  | none => (0, 0, 0, 0)
  | some i => xnM b z n x i
theorem xnS_t {b : Nat → Nat} {z : Nat} (h : xnH b z = true) : xnS b z = xnO b z (le b 60 2) (le b 40 8) (xnG (xnP b (le b 40 8)) (le b 60 2) 0) := by
  unfold xnS
  rw [if_pos h]
  cases xnG (xnP b (le b 40 8)) (le b 60 2) 0 with
  | none => rfl
  | some i => rfl
theorem xnS_f {b : Nat → Nat} {z : Nat} (h : xnH b z = false) : xnS b z = (0, 0, 0, 0) := by
  unfold xnS
  rw [if_neg (by rw [h]; decide)]
/-- the names that were found, with their values -/
def MNx (σ0 σ : px_S) (l : List Nat) : Prop := MNi σ0 σ l.length ∧ ∀ (i : Nat) (v : Nat), l[i]? = some v → gB σ 47 i = lN v
section MNX
variable {F m : Nat} {h : px_H} {σ0 σ : px_S} {z : Nat} {b : Nat → Nat} {l : List Nat}
theorem RXb_MN (hz : RXb σ0 z b) (hI : MNx σ0 σ l) : RXb σ z b := ⟨(hI.1.1.1 101 (by decide)).trans hz.1, hz.2.1, by rw [hz.2.2]; exact congrArg (fun g => cb g 0 z) (hI.1.1.2.2.1 99 (by decide)).symm⟩
theorem qx_ms_94 {P np ns x j : Nat} (hm : m ≤ h.length) (hF : 8 < F) (hz : RXb σ0 z b) (hP : P + 24 ≤ z) (hc : l.length < 2800) (hx : x < 2 ^ 32) (hj : j ≤ 21) (hnp : np + ns ≤ 65536) (hI : MNx σ0 σ l) : Sm m h (fun σ' => MNx σ0 σ' (if x + j < ns ∧ 0 < j ∧ j ≤ 20 then l ++ [le b (P + 8) 8] else l)) Any (f_M_memorySymbol_94 F m (nI P) (lN np) (lN ns) (lN x) (nI j) (mh m h σ)) := by
  have z6 := hz.2.1
  obtain ⟨⟨hf, ec, hn⟩, hv⟩ := id hI
  unfold f_M_memorySymbol_94 f_M_memorySymbol_118
  rw [nI_l (by omega), lN_add]
  by_cases c1 : ns ≤ x + j
  · rw [if_pos ((pk_lLE (by omega) (by omega)).mpr c1), if_neg (by omega)]
    exact sm_r any hI
  · rw [if_neg (fun w => c1 ((pk_lLE (by omega) (by omega)).mp w))]
    by_cases c2 : j = 0
    · rw [if_pos (show nI j = 0 by rw [c2]; rfl), if_neg (by omega)]
      exact sm_r any hI
    · rw [if_neg (nI_nz (by omega) c2)]
      by_cases c3 : j ≤ 20
      · rw [if_pos (nI_le c3 (by decide)), if_pos ⟨by omega, by omega, c3⟩]
        rw [lN_add, lN_i, Mr45 hm, bs, Mg44 hm, bs, ec, Ms45 hm hc, bs, Mr46 hm, bs, Mg44 hm, bs, gI_sA, ec, Ms46 hm hc, bs, Mr47 hm, bs, Mg44 hm, bs, gI_sA, gI_sA, ec, nI_add]
        have hz2 : RXb (sA (sA σ 45 (upd (gA σ 45) l.length (nI (np + x)))) 46 (upd (gA (sA σ 45 (upd (gA σ 45) l.length (nI (np + x)))) 46) l.length (nI j))) z b := by
          have w := RXb_MN hz hI
          refine ⟨w.1, w.2.1, ?_⟩
          simp only [gA_sA]
          exact w.2.2
        refine sm_o hm (fun _ => ?_)
        rw [tq_num hm hF hz2 (by decide) (by omega), xb_mk, Ms47 hm hc, bs, Mg44 hm, bs, gI_sB, gI_sA, gI_sA, ec, nI_add, Mp44 hm, bs]
        refine sm_r any ⟨⟨FR_trans (FR_trans (FR_trans (FR_trans hf (FR_mono (FR_A _ _ _) (by decide) (by decide) (by decide) (by decide))) (FR_mono (FR_A _ _ _) (by decide) (by decide) (by decide) (by decide))) (FR_mono (FR_B _ _ _) (by decide) (by decide) (by decide) (by decide))) (FR_mono (FR_I _ _ _) (by decide) (by decide) (by decide) (by decide)), by rw [gI_sI, if_pos rfl, List.length_append]; rfl, fun i hi => ?_⟩, fun i v hiv => ?_⟩
        · rw [List.length_append, List.length_singleton] at hi
          simp only [gA_sI, gA_sB, gA_sA]
          by_cases e : i = l.length
          · subst e
            exact ⟨np + x, j, by simp [upd], by simp [upd], c3, by omega⟩
          · obtain ⟨p, k, e1, e2, e3, e4⟩ := hn i (by omega)
            exact ⟨p, k, by simp [upd, e, e1], by simp [upd, e, e2], e3, e4⟩
        · show vp_updL (gB σ 47) l.length (lN (le b (P + 8) 8)) i = lN v
          rcases app1 hiv with ⟨rfl, rfl⟩ | ⟨h1, h2⟩
          · exact if_pos rfl
          · rw [vp_ne (by omega)]
            exact hv i v h2
      · rw [if_neg (nI_ge (by omega) (by omega)), if_neg (by omega)]
        exact sm_r any hI
theorem qx_ms_53 {P np ns x : Nat} (hm : m ≤ h.length) (hF : 65540 < F) (hz : RXb σ0 z b) (hB : ∀ i, i < z → isB (gA σ0 99 i)) (hP : P + 24 ≤ z) (hc : l.length < 2800) (hx : x < 2 ^ 32) (hnp : np + ns ≤ z) (hI : MNx σ0 σ l) : ∀ (d j f : Nat), j + d = 21 → d < f → Sm m h (fun σ' => MNx σ0 σ' (if 0 < xnL b (np + x) (np + ns) d j then l ++ [le b (P + 8) 8] else l)) Any (f_M_memorySymbol_53 F f m (nI P) (lN np) (lN ns) (lN x) (nI j) (mh m h σ)) := by
  have z6 := hz.2.1
  have e99 : gA σ 99 = gA σ0 99 := hI.1.1.2.2.1 99 (by decide)
  have no : ∀ {j : Nat}, ¬ (x + j < ns ∧ 0 < j ∧ j ≤ 20) → j ≤ 21 → Sm m h (fun σ' => MNx σ0 σ' l) Any (f_M_memorySymbol_94 F m (nI P) (lN np) (lN ns) (lN x) (nI j) (mh m h σ)) := fun {j} hn hj => by
    have w := qx_ms_94 (F := F) (np := np) (ns := ns) (x := x) (j := j) hm (by omega) hz hP hc hx hj (by omega) hI
    rw [if_neg hn] at w
    exact w
  intro d
  induction d with
  | zero =>
    intro j f hj hf
    obtain ⟨f, rfl⟩ : ∃ y, f = y + 1 := ⟨f - 1, by omega⟩
    have w := no (j := j) (by omega) (by omega)
    unfold f_M_memorySymbol_53
    rw [show xnL b (np + x) (np + ns) 0 j = 0 from rfl, if_neg (by omega)]
    refine sm_i (fun _ => w) (fun _ => ?_)
    rw [if_pos (nI_lt (by omega) (by omega))]
    exact w
  | succ d ih =>
    intro j f hj hf
    obtain ⟨f, rfl⟩ : ∃ y, f = y + 1 := ⟨f - 1, by omega⟩
    have go := ih (j + 1) f (by omega) (by omega)
    unfold f_M_memorySymbol_53 xnL
    rw [nI_l (by omega), lN_add]
    by_cases c1 : ns ≤ x + j
    · rw [if_pos ((pk_lLE (by omega) (by omega)).mpr c1), if_pos (show np + ns ≤ np + x + j by omega), if_neg (by omega)]
      exact no (by omega) (by omega)
    · have hbz : b (np + x + j) = b8 (gA σ 99 (np + x + j)) := by
        rw [hz.2.2, cb_at (by omega), Nat.zero_add, e99]
      have hiB : isB (gA σ 99 (np + x + j)) := by rw [e99]; exact hB _ (by omega)
      rw [if_neg (fun w => c1 ((pk_lLE (by omega) (by omega)).mp w)), if_neg (nI_nlt (by omega) (by omega)), Mr99 hm, bs, lN_add, lN_i, nI_add, Ma99 hm (by omega), bs, nI_add, if_neg (show ¬ np + ns ≤ np + x + j by omega)]
      by_cases c2 : b (np + x + j) = 0
      · rw [if_pos ((isB_0 hiB).mpr (hbz.symm.trans c2)), if_pos c2]
        have w := qx_ms_94 (F := F) (np := np) (ns := ns) (x := x) (j := j) hm (by omega) hz hP hc hx (by omega) (by omega) hI
        by_cases c3 : 0 < j
        · rw [if_pos c3]
          rw [if_pos ⟨by omega, c3, by omega⟩] at w
          exact w
        · rw [if_neg c3]
          rw [if_neg (by omega)] at w
          exact w
      · rw [if_neg (fun w => c2 (hbz.trans ((isB_0 hiB).mp w))), if_neg c2]
        exact go
theorem qx_msym {P np ns : Nat} (hm : m ≤ h.length) (hF : 65540 < F) (hz : RXb σ0 z b) (hB : ∀ i, i < z → isB (gA σ0 99 i)) (hP : P + 24 ≤ z) (hc : l.length < 2800) (hnp : np + ns ≤ z) (hI : MNx σ0 σ l) : Sm m h (fun σ' => MNx σ0 σ' (if xnI b np ns P = true then l ++ [le b (P + 8) 8] else l)) Any (f_M_memorySymbol F m (nI P) (lN np) (lN ns) (mh m h σ)) := by
  have z6 := hz.2.1
  have hz' := RXb_MN hz hI
  have hlt : ∀ k, b k < 256 := fun k => by rw [hz.2.2]; exact cb_lt _ _ _ _
  have e99 : gA σ 99 = gA σ0 99 := hI.1.1.2.2.1 99 (by decide)
  have hb4 : b (P + 4) = b8 (gA σ 99 (P + 4)) := by rw [hz.2.2, cb_at (by omega), Nat.zero_add, e99]
  have hiB : isB (gA σ 99 (P + 4)) := by rw [e99]; exact hB _ (by omega)
  have hx : le b P 4 < 2 ^ 32 := le_lt hlt P 4
  have h6 := le_le8 (p := P + 6) (k := 2) hlt (by decide)
  have h53 := qx_ms_53 (F := F) (x := le b P 4) hm hF hz hB hP hc hx hnp hI 21 0 F rfl (by omega)
  have e0 : ∀ {ns x : Nat}, ¬ x < ns → xnL b (np + x) (np + ns) 21 0 = 0 := fun {ns x} hn => by
    unfold xnL
    rw [if_pos (by omega)]
  have t35 : Sm m h (fun σ' => MNx σ0 σ' (if (decide (le b (P + 6) 2 ≠ 0) && (decide (le b P 4 < ns) && decide (0 < xnL b (np + le b P 4) (np + ns) 21 0))) = true then l ++ [le b (P + 8) 8] else l)) Any (f_M_memorySymbol_35 F m (nI P) (lN np) (lN ns) (lN (le b P 4)) (mh m h σ)) := by
    unfold f_M_memorySymbol_35 f_M_memorySymbol_49
    rw [nI_add]
    refine sm_o hm (fun _ => ?_)
    rw [tq_num hm (by omega) hz' (by decide) (by omega), xb_mk]
    by_cases c1 : le b (P + 6) 2 = 0
    · rw [if_pos (show lN (le b (P + 6) 2) = lN 0 by rw [c1]), decide_eq_false (show ¬ le b (P + 6) 2 ≠ 0 from fun w => w c1), Bool.false_and, if_neg (by decide)]
      exact sm_r any hI
    · rw [if_neg (fun q => c1 ((lEQ (b := 0) h6 (by decide)).mp q)), decide_eq_true c1, Bool.true_and]
      by_cases c2 : le b P 4 < ns
      · rw [decide_eq_true c2, Bool.true_and]
        by_cases c3 : 0 < xnL b (np + le b P 4) (np + ns) 21 0
        · rw [decide_eq_true c3, if_pos rfl]
          rw [if_pos c3] at h53
          exact h53
        · rw [decide_eq_false c3, if_neg (by decide)]
          rw [if_neg c3] at h53
          exact h53
      · rw [decide_eq_false c2, Bool.false_and, if_neg (by decide)]
        rw [if_neg (by rw [e0 c2]; omega)] at h53
        exact h53
  unfold f_M_memorySymbol f_M_memorySymbol_49 xnI
  rw [Mr99 hm, bs, nI_add, Ma99 hm (by omega), bs]
  refine sm_o hm (fun _ => ?_)
  rw [tq_num hm (by omega) hz' (by decide) (by omega), xb_mk, isB_hi hiB, ← hb4]
  have h16 : b (P + 4) / 16 < 16 := by have := hlt (P + 4); omega
  by_cases c1 : b (P + 4) / 16 = 1
  · rw [if_pos (show nI (b (P + 4) / 16) = nI 1 by rw [c1]), decide_eq_true c1, Bool.true_or, Bool.true_and]
    exact t35
  · rw [if_neg (fun q => c1 ((nI_eq (by omega) (by decide)).mp q)), decide_eq_false c1, Bool.false_or]
    by_cases c2 : b (P + 4) / 16 = 2
    · rw [if_pos (show nI (b (P + 4) / 16) = nI 2 by rw [c2]), decide_eq_true c2, Bool.true_and]
      exact t35
    · rw [if_neg (fun q => c2 ((nI_eq (by omega) (by decide)).mp q)), decide_eq_false c2, Bool.false_and, if_neg (by decide)]
      exact sm_r any hI
theorem qx_fm_273 {sp s np ns : Nat} (hm : m ≤ h.length) (hF : 65540 < F) (hz : RXb σ0 z b) (hB : ∀ i, i < z → isB (gA σ0 99 i)) (hsp : sp + 24 * (s / 24) ≤ z) (hs : s ≤ 65536) (hnp : np + ns ≤ z) : ∀ (d j f : Nat) (σ : px_S) (l : List Nat), (j + d = s / 24 ∨ (s / 24 ≤ j ∧ d = 0)) → j ≤ 2731 → d < f → l.length ≤ j → MNx σ0 σ l → Sm m h (fun σ' => MNx σ0 σ' (l ++ nvL (fun j => le b (sp + 24 * j + 8) 8) (fun j => xnI b np ns (sp + 24 * j)) d j)) Any (f_M_findMemoryNames_273 F f m (lN sp) (lN s) (lN np) (lN ns) (nI j) (mh m h σ)) := by
  have z6 := hz.2.1
  have ez : (lN s / (24 : Int64)).toInt32 = nI (s / 24) := by rw [lk, pk_lDiv (by omega) (by decide) (by decide), lN_i]
  intro d
  induction d with
  | zero =>
    intro j f σ l hj h2 hf hl hI
    obtain ⟨f, rfl⟩ : ∃ y, f = y + 1 := ⟨f - 1, by omega⟩
    unfold f_M_findMemoryNames_273 f_M_findMemoryNames_308
    rw [ez, if_pos (nI_le (by omega) (by omega)), nvL_0, List.append_nil]
    exact sm_r any hI
  | succ d ih =>
    intro j f σ l hj h2 hf hl hI
    obtain ⟨f, rfl⟩ : ∃ y, f = y + 1 := ⟨f - 1, by omega⟩
    unfold f_M_findMemoryNames_273
    rw [ez, if_neg (nI_ge (by omega) (by omega)), lN_i, pk_mul, nI_add, nI_add]
    refine sm_o hm (fun _ => sm_x (qx_msym (F := F) hm hF hz hB (by omega) (by omega) hnp hI) (fun v σ1 _ hI1 => ?_))
    cases hN : xnI b np ns (sp + 24 * j) with
    | true =>
      rw [if_pos hN] at hI1
      have w := ih (j + 1) f σ1 (l ++ [le b (sp + 24 * j + 8) 8]) (by omega) (by omega) (by omega) (by rw [List.length_append, List.length_singleton]; omega) hI1
      rw [nvL_t (V := fun j => le b (sp + 24 * j + 8) 8) (N := fun j => xnI b np ns (sp + 24 * j)) hN]
      rw [List.append_assoc] at w
      exact w
    | false =>
      rw [if_neg (by rw [hN]; decide)] at hI1
      have w := ih (j + 1) f σ1 l (by omega) (by omega) (by omega) (by omega) hI1
      rw [nvL_f (V := fun j => le b (sp + 24 * j + 8) 8) (N := fun j => xnI b np ns (sp + 24 * j)) hN]
      exact w
theorem qx_fm_104 {x n j : Nat} (hm : m ≤ h.length) (hF : 65540 < F) (hz : RXb σ0 z b) (hB : ∀ i, i < z → isB (gA σ0 99 i)) (hn : n ≤ 24) (hx : x + 64 * n ≤ z) (hj : j < n) (hI : MNx σ0 σ []) : Sm m h (fun σ' => MNx σ0 σ' (nvQ b (xnM b z n x j))) Any (f_M_findMemoryNames_104 F m (nI n) (lN x) (nI j) (mh m h σ)) := by
  have z6 := hz.2.1
  have hz' := RXb_MN hz hI
  have hlt : ∀ k, b k < 256 := fun k => by rw [hz.2.2]; exact cb_lt _ _ _ _
  have l24 := le_le8 (p := x + 64 * j + 24) (k := 8) hlt (by decide)
  have l32 := le_le8 (p := x + 64 * j + 32) (k := 8) hlt (by decide)
  have l40 : le b (x + 64 * j + 40) 4 < 2 ^ 32 := le_lt hlt (x + 64 * j + 40) 4
  have no : xnM b z n x j = (0, 0, 0, 0) → Sm m h (fun σ' => MNx σ0 σ' (nvQ b (xnM b z n x j))) Any (some ((), mh m h σ)) := fun e => by
    rw [e, nvQ_0 (by decide)]
    exact sm_r any hI
  have xk : xnK b z n (x + 64 * j) (x + 64 * le b (x + 64 * j + 40) 4) = false → xnM b z n x j = (0, 0, 0, 0) := fun e => by
    unfold xnM
    rw [if_neg (by rw [e]; decide)]
  unfold f_M_findMemoryNames_104 f_M_findMemoryNames_200 f_M_findMemoryNames_269
  rw [if_neg (fun w => absurd ((nI_eq (by omega) (by omega)).mp w) (by omega)), lN_i, pk_mul, nI_add, nI_add, nI_add, nI_add]
  refine sm_o hm (fun _ => ?_)
  rw [tq_num hm (by omega) hz' (by decide) (by omega), xb_mk]
  refine sm_o hm (fun _ => ?_)
  rw [tq_num hm (by omega) hz' (by decide) (by omega), xb_mk]
  refine sm_o hm (fun _ => ?_)
  rw [tq_num hm (by omega) hz' (by decide) (by omega), xb_mk]
  by_cases c1 : le b (x + 64 * j + 32) 8 < 2 ^ 63 ∧ 0 < le b (x + 64 * j + 32) 8
  · rw [if_neg (fun w => by
      have := (lN_ltM (c := 0) l32 (by decide)).mpr c1
      exact absurd this (Int64.not_lt.mpr w)), show (24 : Int64) = lN 24 from rfl, pk_lDiv c1.1 (by decide) (by decide), lN_mul, lN_sub (by omega)]
    by_cases c2 : le b (x + 64 * j + 32) 8 % 24 = 0
    · rw [if_pos (show lN (le b (x + 64 * j + 32) 8 - le b (x + 64 * j + 32) 8 / 24 * 24) = lN 0 by rw [show le b (x + 64 * j + 32) 8 - le b (x + 64 * j + 32) 8 / 24 * 24 = 0 by omega]), nI_l (by omega)]
      by_cases c3 : le b (x + 64 * j + 40) 4 < n
      · rw [if_neg (fun w => by have := (pk_lLE (by omega) (by omega)).mp w; omega)]
        refine sm_gI hm rfl ?_
        rw [hz'.1, nI_l (by omega), q_lies (by omega) (by omega) (by omega), xb_mk]
        by_cases c4 : le b (x + 64 * j + 24) 8 + le b (x + 64 * j + 32) 8 ≤ z
        · rw [decide_eq_true c4, if_neg (show ¬ bI true = 0 by decide), lN_i, pk_mul, nI_add, nI_add, nI_add, nI_add]
          refine sm_o hm (fun _ => ?_)
          rw [tq_num hm (by omega) hz' (by decide) (by omega), xb_mk]
          refine sm_o hm (fun _ => ?_)
          rw [tq_num hm (by omega) hz' (by decide) (by omega), xb_mk]
          refine sm_o hm (fun _ => ?_)
          rw [tq_num hm (by omega) hz' (by decide) (by omega), xb_mk]
          have g4 : le b (x + 64 * le b (x + 64 * j + 40) 4 + 4) 4 < 2 ^ 32 := le_lt hlt _ 4
          have g24 := le_le8 (p := x + 64 * le b (x + 64 * j + 40) 4 + 24) (k := 8) hlt (by decide)
          have g32 := le_le8 (p := x + 64 * le b (x + 64 * j + 40) 4 + 32) (k := 8) hlt (by decide)
          by_cases c5 : le b (x + 64 * le b (x + 64 * j + 40) 4 + 4) 4 = 3
          · rw [if_pos (show lN (le b (x + 64 * le b (x + 64 * j + 40) 4 + 4) 4) = 3 by rw [c5]; rfl)]
            refine sm_gI hm rfl ?_
            rw [hz'.1, nI_l (by omega), q_lies (by omega) (by omega) (by omega), xb_mk]
            by_cases c6 : le b (x + 64 * le b (x + 64 * j + 40) 4 + 24) 8 + le b (x + 64 * le b (x + 64 * j + 40) 4 + 32) 8 ≤ z
            · rw [decide_eq_true c6, if_neg (show ¬ bI true = 0 by decide)]
              have eM : xnM b z n x j = (le b (x + 64 * j + 32) 8 / 24, le b (x + 64 * j + 24) 8, le b (x + 64 * le b (x + 64 * j + 40) 4 + 24) 8, le b (x + 64 * le b (x + 64 * j + 40) 4 + 32) 8) := by
                unfold xnM xnK
                rw [decide_eq_true c3, decide_eq_true c5, decide_eq_true c4, decide_eq_true c6, decide_eq_true c2]
                exact if_pos rfl
              rw [eM]
              generalize le b (x + 64 * j + 32) 8 = s at *
              generalize le b (x + 64 * j + 24) 8 = sp at *
              generalize le b (x + 64 * le b (x + 64 * j + 40) 4 + 24) 8 = np at *
              generalize le b (x + 64 * le b (x + 64 * j + 40) 4 + 32) 8 = ns at *
              have w := qx_fm_273 (F := F) (sp := sp) (s := s) (np := np) (ns := ns) hm hF hz hB (by omega) (by omega) c6 (s / 24 - 1) 1 F σ [] (by omega) (by decide) (by omega) (Nat.zero_le _) hI
              rw [List.nil_append] at w
              exact w
            · rw [decide_eq_false c6, if_pos (show bI false = 0 from rfl)]
              exact no (xk (by unfold xnK; rw [decide_eq_false c6, Bool.false_and, Bool.and_false, Bool.and_false, Bool.and_false]))
          · rw [if_neg (show ¬ lN (le b (x + 64 * le b (x + 64 * j + 40) 4 + 4) 4) = 3 from fun w => c5 ((lEQ (b := 3) (by omega) (by decide)).mp w))]
            exact no (xk (by unfold xnK; rw [decide_eq_false c5, Bool.false_and, Bool.and_false]))
        · rw [decide_eq_false c4, if_pos (show bI false = 0 from rfl)]
          exact no (xk (by unfold xnK; rw [decide_eq_false c4, Bool.false_and, Bool.and_false, Bool.and_false]))
      · rw [if_pos ((pk_lLE (by omega) (by omega)).mpr (by omega))]
        exact no (xk (by unfold xnK; rw [decide_eq_false c3, Bool.false_and]))
    · rw [if_neg (fun w => c2 (by have := (lEQ (b := 0) (by omega) (by decide)).mp w; omega))]
      exact no (xk (by unfold xnK; rw [decide_eq_false c2, Bool.and_false, Bool.and_false, Bool.and_false, Bool.and_false]))
  · rw [if_pos (Int64.not_lt.mp (fun w => c1 ((lN_ltM (c := 0) l32 (by decide)).mp w)))]
    by_cases c0 : le b (x + 64 * j + 32) 8 = 0
    · have e : nvQ b (xnM b z n x j) = [] := nvQ_0 (by
        unfold xnM
        split
        · show le b (x + 64 * j + 32) 8 / 24 ≤ 1
          rw [c0]
          decide
        · exact Nat.zero_le _)
      rw [e]
      exact sm_r any hI
    · refine no (xk ?_)
      unfold xnK
      rw [decide_eq_false (show ¬ le b (x + 64 * j + 24) 8 + le b (x + 64 * j + 32) 8 ≤ z by omega), Bool.false_and, Bool.and_false, Bool.and_false]
theorem qx_fm_70 {x n : Nat} (hm : m ≤ h.length) (hF : 65540 < F) (hz : RXb σ0 z b) (hB : ∀ i, i < z → isB (gA σ0 99 i)) (hn : n ≤ 24) (hx : x + 64 * n ≤ z) (hI : MNx σ0 σ []) : ∀ (d j f : Nat), j + d = n → d < f → Sm m h (fun σ' => MNx σ0 σ' (nvQ b (xnO b z n x (xnG (xnP b x) d j)))) Any (f_M_findMemoryNames_70 F f m (nI n) (lN x) (nI j) (mh m h σ)) := by
  have z6 := hz.2.1
  have hz' := RXb_MN hz hI
  have hlt : ∀ k, b k < 256 := fun k => by rw [hz.2.2]; exact cb_lt _ _ _ _
  intro d
  induction d with
  | zero =>
    intro j f hj hf
    obtain ⟨f, rfl⟩ : ∃ y, f = y + 1 := ⟨f - 1, by omega⟩
    unfold f_M_findMemoryNames_70 f_M_findMemoryNames_104
    rw [if_pos (nI_le (by omega) (by omega)), if_pos (by rw [show j = n by omega]), xnG_0]
    show Sm m h (fun σ' => MNx σ0 σ' (nvQ b (0, 0, 0, 0))) Any (some ((), mh m h σ))
    rw [nvQ_0 (by decide)]
    exact sm_r any hI
  | succ d ih =>
    intro j f hj hf
    obtain ⟨f, rfl⟩ : ∃ y, f = y + 1 := ⟨f - 1, by omega⟩
    have l4 : le b (x + 64 * j + 4) 4 < 2 ^ 32 := le_lt hlt (x + 64 * j + 4) 4
    unfold f_M_findMemoryNames_70
    rw [if_neg (nI_ge (by omega) (by omega)), lN_i, pk_mul, nI_add, nI_add, nI_add]
    refine sm_o hm (fun _ => ?_)
    rw [tq_num hm (by omega) hz' (by decide) (by omega), xb_mk]
    by_cases c1 : le b (x + 64 * j + 4) 4 = 2
    · rw [if_pos (show lN (le b (x + 64 * j + 4) 4) = 2 by rw [c1]; rfl), xnG_t (p := xnP b x) (decide_eq_true c1)]
      exact qx_fm_104 hm hF hz hB hn hx (by omega) hI
    · rw [if_neg (show ¬ lN (le b (x + 64 * j + 4) 4) = 2 from fun w => c1 ((lEQ (b := 2) (by omega) (by decide)).mp w)), xnG_f (p := xnP b x) (decide_eq_false c1)]
      exact ih (j + 1) f (by omega) (by omega)
theorem qx_fm (hm : m ≤ h.length) (hF : 65540 < F) (hz : RXb σ0 z b) (hB : ∀ i, i < z → isB (gA σ0 99 i)) (h64 : 64 ≤ z) : Sm m h (fun σ' => MNx σ0 σ' (nvQ b (xnS b z))) Any (f_M_findMemoryNames F m (mh m h σ0)) := by
  have z6 := hz.2.1
  have hI : MNx σ0 (sI σ0 44 (nI 0)) [] := ⟨⟨FR_mono (FR_I _ _ _) (by decide) (by decide) (by decide) (by decide), by rw [gI_sI, if_pos rfl]; rfl, fun i hi => absurd hi (Nat.not_lt_zero i)⟩, fun i v hv => by cases hv⟩
  have hz' := RXb_MN hz hI
  have hlt : ∀ k, b k < 256 := fun k => by rw [hz.2.2]; exact cb_lt _ _ _ _
  have l40 := le_le8 (p := 40) (k := 8) hlt (by decide)
  have l58 : le b 58 2 < 2 ^ 16 := le_lt hlt 58 2
  have l60 : le b 60 2 < 2 ^ 16 := le_lt hlt 60 2
  have no : xnH b z = false → Sm m h (fun σ' => MNx σ0 σ' (nvQ b (xnS b z))) Any (some ((), mh m h (sI σ0 44 (nI 0)))) := fun e => by
    rw [xnS_f e, nvQ_0 (by decide)]
    exact sm_r any hI
  unfold f_M_findMemoryNames f_M_findMemoryNames_66
  rw [Mp44 hm, bs]
  refine sm_o hm (fun _ => ?_)
  rw [tq_num hm (by omega) hz' (by decide) (by omega), xb_mk]
  refine sm_o hm (fun _ => ?_)
  rw [tq_num hm (by omega) hz' (by decide) (by omega), xb_mk]
  refine sm_o hm (fun _ => ?_)
  rw [tq_num hm (by omega) hz' (by decide) (by omega), xb_mk]
  by_cases c1 : le b 58 2 = 64
  · rw [if_pos (show lN (le b 58 2) = 64 by rw [c1]; rfl), lN_i]
    by_cases c2 : le b 60 2 < 1
    · rw [if_pos (nI_lt c2 (by decide))]
      exact no (by unfold xnH; rw [decide_eq_false (show ¬ 1 ≤ le b 60 2 by omega), Bool.false_and, Bool.and_false])
    · rw [if_neg (nI_nlt (by omega) (by omega))]
      by_cases c3 : 24 < le b 60 2
      · rw [if_pos (nI_lt c3 (by omega))]
        exact no (by unfold xnH; rw [decide_eq_false (show ¬ le b 60 2 ≤ 24 by omega), Bool.false_and, Bool.and_false, Bool.and_false])
      · rw [if_neg (nI_nlt (by omega) (by omega))]
        refine sm_gI hm rfl ?_
        rw [hz'.1, nI_l (by omega), nI_l (by omega), show (64 : Int64) = lN 64 from rfl, lN_mul, q_lies (by omega) (by omega) (by omega), xb_mk]
        by_cases c4 : le b 40 8 + 64 * le b 60 2 ≤ z
        · rw [decide_eq_true c4, if_neg (show ¬ bI true = 0 by decide), xnS_t (by unfold xnH; rw [decide_eq_true c1, decide_eq_true (show 1 ≤ le b 60 2 by omega), decide_eq_true (show le b 60 2 ≤ 24 by omega), decide_eq_true c4]; rfl)]
          exact qx_fm_70 hm hF hz hB (by omega) c4 hI (le b 60 2) 0 F (Nat.zero_add _) (by omega)
        · rw [decide_eq_false c4, if_pos (show bI false = 0 from rfl)]
          exact no (by unfold xnH; rw [decide_eq_false c4, Bool.and_false, Bool.and_false, Bool.and_false])
  · rw [if_neg (show ¬ lN (le b 58 2) = 64 from fun w => c1 ((lEQ (b := 64) (by omega) (by decide)).mp w))]
    exact no (by unfold xnH; rw [decide_eq_false c1, Bool.false_and])
end MNX
end
section
/-! the reference boots, exactly -/
/-- the rows of the reference's memory -/
def RMr (σ : px_S) (R : List px_XR) : Prop := gI σ 102 = nI R.length ∧ R.length ≤ 8 ∧ ∀ (i : Nat) (w : px_XR), R[i]? = some w → (gB σ 105 i = lN w.1 ∧ gB σ 106 i = lN w.2.1 ∧ gB σ 107 i = lN w.2.2.1 ∧ gB σ 108 i = lN w.2.2.2.1 ∧ gB σ 109 i = lN w.2.2.2.2) ∧ xrB w
/-- the names of the reference's memory, with their values -/
def RMn (σ : px_S) (l : List Nat) : Prop := gI σ 44 = nI l.length ∧ l.length ≤ 2731 ∧ (∀ i, i < l.length → ∃ p k, gA σ 45 i = nI p ∧ gA σ 46 i = nI k ∧ k ≤ 20 ∧ p + k ≤ 65536) ∧ ∀ (i : Nat) (v : Nat), l[i]? = some v → gB σ 47 i = lN v ∧ v < 2 ^ 64
/-- rows are taken over: j of them -/
def B9i (σa σ : px_S) (j : Nat) : Prop := FR [] [] [] [105, 106, 107, 108, 109] σa σ ∧ ∀ i, i < j → gB σ 105 i = gB σa 110 i ∧ gB σ 106 i = gB σa 111 i ∧ gB σ 107 i = gB σa 112 i ∧ gB σ 108 i = gB σa 113 i ∧ gB σ 109 i = gB σa 114 i
/-- the memory's rows are as they were -/
def RMq (σ σ' : px_S) : Prop := gI σ' 102 = gI σ 102 ∧ (∀ k, k ∈ [105, 106, 107, 108, 109] → gB σ' k = gB σ k) ∧ gA σ' 100 = gA σ 100 ∧ gI σ' 44 = gI σ 44 ∧ gA σ' 45 = gA σ 45 ∧ gA σ' 46 = gA σ 46 ∧ gB σ' 47 = gB σ 47
theorem cb_e {f g : Nat → Int32} {j : Nat} (hi : ∀ i, i < j → g i = f i) : cb f 0 j = cb g 0 j := by
  funext i
  unfold cb
  by_cases ci : i < j
  · rw [if_pos ci, if_pos ci, Nat.zero_add, hi i ci]
  · rw [if_neg ci, if_neg ci]
section MBZ
variable {F m : Nat} {h : px_H} {σ0 σa σ : px_S} {z r : Nat} {b : Nat → Nat} {R : List px_XR}
theorem sm_w2 {I I1 : px_S → Prop} {α : Type} {V V1 : α → Prop} {o : Option (α × px_H)} (w : Sm m h I1 V1 o) (g : ∀ σ, I1 σ → I σ) (gv : ∀ v, V1 v → V v) : Sm m h I V o := by
  obtain ⟨v, σ, e, hv, hI⟩ := w
  exact ⟨v, σ, e, gv v hv, g σ hI⟩
theorem B9_1 {j : Nat} (hI : B9i σa σ j) : B9i σa (sB (sB (sB (sB (sB σ 105 (vp_updL (gB σ 105) j (gB σa 110 j))) 106 (vp_updL (gB σ 106) j (gB σa 111 j))) 107 (vp_updL (gB σ 107) j (gB σa 112 j))) 108 (vp_updL (gB σ 108) j (gB σa 113 j))) 109 (vp_updL (gB σ 109) j (gB σa 114 j))) (j + 1) := by
  obtain ⟨hf, ht⟩ := hI
  have fB : ∀ (τ : px_S) (k : Nat) (g : Nat → Int64), k ∈ [105, 106, 107, 108, 109] → FR [] [] [] [105, 106, 107, 108, 109] σa τ → FR [] [] [] [105, 106, 107, 108, 109] σa (sB τ k g) := fun τ k g hk w => FR_trans w (FR_mono (FR_B _ _ _) (by simp) (by simp) (by simp) (fun i hi => by rw [List.mem_singleton.mp hi]; exact hk))
  refine ⟨fB _ _ _ (by decide) (fB _ _ _ (by decide) (fB _ _ _ (by decide) (fB _ _ _ (by decide) (fB _ _ _ (by decide) hf)))), fun i hi => ?_⟩
  simp only [gB_sB]
  by_cases e : i = j
  · subst e
    exact ⟨by simp [vp_eq], by simp [vp_eq], by simp [vp_eq], by simp [vp_eq], by simp [vp_eq]⟩
  · obtain ⟨e1, e2, e3, e4, e5⟩ := ht i (by omega)
    exact ⟨by simp [vp_ne e, e1], by simp [vp_ne e, e2], by simp [vp_ne e, e3], by simp [vp_ne e, e4], by simp [vp_ne e, e5]⟩
theorem qx_b_148 (hm : m ≤ h.length) (hr : r ≤ 8) (er : gI σa 102 = nI r) : ∀ (d j f : Nat) (σ : px_S), j + d = r → d < f → B9i σa σ j → Sm m h (fun σ' => B9i σa σ' r) (fun v => v = nI 0) (f_M_boot_148 F f m (nI j) (mh m h σ)) := by
  intro d
  induction d with
  | zero =>
    intro j f σ hj hf hI
    obtain ⟨f, rfl⟩ : ∃ y, f = y + 1 := ⟨f - 1, by omega⟩
    obtain rfl : j = r := by omega
    unfold f_M_boot_148 f_M_boot_222
    rw [Mg102 hm, bs, hI.1.1 102 List.not_mem_nil, er, if_pos (nI_le (by omega) (by omega))]
    exact sm_r rfl hI
  | succ d ih =>
    intro j f σ hj hf hI
    obtain ⟨f, rfl⟩ : ∃ y, f = y + 1 := ⟨f - 1, by omega⟩
    have hj8 : j < 8 := by omega
    have e110 : gB σ 110 = gB σa 110 := hI.1.2.2.2 110 (by decide)
    have e111 : gB σ 111 = gB σa 111 := hI.1.2.2.2 111 (by decide)
    have e112 : gB σ 112 = gB σa 112 := hI.1.2.2.2 112 (by decide)
    have e113 : gB σ 113 = gB σa 113 := hI.1.2.2.2 113 (by decide)
    have e114 : gB σ 114 = gB σa 114 := hI.1.2.2.2 114 (by decide)
    unfold f_M_boot_148 f_M_boot_222
    rw [Mg102 hm, bs, hI.1.1 102 List.not_mem_nil, er, if_neg (nI_ge (by omega) (by omega)), nI_add]
    rw [Mr105 hm, bs, Mr110 hm, bs, Ma110 hm hj8, bs, Ms105 hm hj8, bs, Mr106 hm, bs, Mr111 hm, bs, Ma111 hm hj8, bs, Ms106 hm hj8, bs, Mr107 hm, bs, Mr112 hm, bs, Ma112 hm hj8, bs, Ms107 hm hj8, bs, Mr108 hm, bs, Mr113 hm, bs, Ma113 hm hj8, bs, Ms108 hm hj8, bs, Mr109 hm, bs, Mr114 hm, bs, Ma114 hm hj8, bs, Ms109 hm hj8, bs]
    refine ih _ _ _ (by omega) (by omega) ?_
    have w := B9_1 hI
    rw [← e110, ← e111, ← e112, ← e113, ← e114] at w
    exact w
/-- the image is taken over -/
theorem qx_b_116 (hm : m ≤ h.length) (hF : 65540 < F) (h64 : 64 ≤ z) (hr : r ≤ 8) : ∀ (d j f : Nat) (σ : px_S), j + d = z → d < f → RXb σ z b → (∀ i, i < z → isB (gA σ 99 i)) → gI σ 102 = nI r → (∀ i, i < j → gA σ 100 i = (gA σ 99 i).toInt8.toInt32) → Sm m h (fun σ' => ∃ σ1 σ2, FR [] [] [100] [] σ σ1 ∧ (∀ i, i < z → gA σ1 100 i = (gA σ 99 i).toInt8.toInt32) ∧ MNx σ1 σ2 (nvQ b (xnS b z)) ∧ B9i σ2 σ' r) (fun v => v = nI 0) (f_M_boot_116 F f m (nI j) (mh m h σ)) := by
  intro d
  induction d with
  | zero =>
    intro j f σ hj hf hx hB er hi
    obtain ⟨f, rfl⟩ : ∃ y, f = y + 1 := ⟨f - 1, by omega⟩
    obtain ⟨es, hz, _⟩ := id hx
    unfold f_M_boot_116 f_M_boot_142
    rw [Mg101 hm, bs, es, if_pos (nI_le (by omega) (by omega))]
    refine sm_o hm (fun _ => sm_x (qx_fm hm hF hx hB h64) (fun v σ2 hv hI => ?_))
    exact sm_wI (qx_b_148 (F := F) (σa := σ2) hm hr ((hI.1.1.1 102 (by decide)).trans er) r 0 F σ2 (Nat.zero_add _) (by omega) ⟨FR_refl _, fun i hi => absurd hi (Nat.not_lt_zero i)⟩) (fun σ' w => ⟨σ, σ2, FR_refl _, fun i hz => hi i (by omega), hI, w⟩)
  | succ d ih =>
    intro j f σ hj hf hx hB er hi
    obtain ⟨f, rfl⟩ : ∃ y, f = y + 1 := ⟨f - 1, by omega⟩
    obtain ⟨es, hz, _⟩ := id hx
    unfold f_M_boot_116
    rw [Mg101 hm, bs, es, if_neg (nI_ge (by omega) (by omega)), Mr100 hm, bs, Mr99 hm, bs, Ma99 hm (by omega), bs, Ms100 hm (by omega), bs, nI_add]
    have e99 : gA (sA σ 100 (upd (gA σ 100) j (gA σ 99 j).toInt8.toInt32)) 99 = gA σ 99 := by rw [gA_sA, if_neg (by decide)]
    refine sm_wI (ih (j + 1) f _ (by omega) (by omega) ⟨es, hz, by rw [e99]; exact hx.2.2⟩ (fun i ci => by rw [e99]; exact hB i ci) er (fun i hij => ?_)) (fun σ' w => ?_)
    · rw [gA_sA, if_pos rfl, gA_sA, if_neg (by decide)]
      by_cases e : i = j
      · rw [e, upd_eq]
      · rw [upd_ne e]; exact hi i (by omega)
    · obtain ⟨σ1, σ2, w1, w2, w4, w5⟩ := w
      rw [e99] at w2
      exact ⟨σ1, σ2, FR_trans (FR_A _ _ _) w1, w2, w4, w5⟩
def RMi (σ : px_S) (z : Nat) (b : Nat → Nat) : Prop := z ≤ 65536 ∧ b = cb (gA σ 100) 0 z ∧ ∀ i, i < z → isB (gA σ 100 i)
theorem qx_b_74 (hm : m ≤ h.length) (hF : 65540 < F) (hz : RXb σ z b) (hB : ∀ i, i < z → isB (gA σ 99 i)) : Sm m h (fun σ' => BF2 σ σ' ∧ (xrX b z = 0 → RMr σ' (xrS b z) ∧ RMn σ' (nvQ b (xnS b z)) ∧ RMi σ' z b) ∧ (xrX b z ≠ 0 → RMq σ σ')) (fun v => v = nI (xrX b z)) (f_M_boot_74 F m (mh m h σ)) := by
  obtain ⟨σ2, R, a1, ⟨hf, er, ht⟩, hR8, a4⟩ := qx_triedErr (F := F) (h := h) hm hF hz
  have hz2 := hz.2.1
  have x6 : xrX b z ≤ 6 := by
    unfold xrX xrO
    have t : (xrL b z (le b 32 8) (le b 56 2)).1 ≤ 5 := by
      have g : ∀ (T : Nat → Bool) (E : Nat → Nat → Nat) (W : Nat → px_XR), (∀ k e, E k e ≤ 5) → ∀ (d k : Nat) (R : List px_XR), (xrG T E W d k R).1 ≤ 5 := by
        intro T E W hE d
        induction d with
        | zero => intro k R; exact Nat.zero_le _
        | succ d ih =>
          intro k R
          cases e : T k with
          | false => rw [xrG_f e]; exact ih _ _
          | true =>
            by_cases e2 : E k (xrE R) = 0
            · rw [xrG_t e e2]; exact ih _ _
            · rw [xrG_e e e2]; exact hE _ _
      exact g _ _ _ (fun k e => xrP_5) _ _ _
    repeat (first | omega | split)
  unfold f_M_boot_74
  rw [e_o hm, bs, a1, xb_mk, Mp103 hm, bs, Mg103 hm, bs, gI_sI, if_pos rfl]
  by_cases c0 : xrX b z = 0
  · have hz4 : 64 ≤ z := (xrX_0 c0).1
    have hzA : RXb (sI (sI σ2 103 (nI (xrX b z))) 102 (nI R.length)) z b := ⟨by rw [gI_sI, if_neg (by decide), gI_sI, if_neg (by decide), hf.1 101 (by decide)]; exact hz.1, hz2, by rw [gA_sI, gA_sI, hf.2.2.1 99 List.not_mem_nil]; exact hz.2.2⟩
    rw [if_pos (show nI (xrX b z) ≤ 0 by rw [c0]; decide), Mg115 hm, bs, gI_sI, if_neg (by decide), er, Mp102 hm, bs, e_o hm, bs, tq_num hm (by omega) hzA (by decide) (by omega), xb_mk, Mp104 hm, bs]
    refine sm_w2 (qx_b_116 (F := F) (z := z) (b := b) (r := R.length) hm hF hz4 hR8 z 0 F _ (Nat.zero_add _) (by omega) ⟨by rw [gI_sJ]; exact hzA.1, hz2, by rw [gA_sJ]; exact hzA.2.2⟩ (fun i ci => by rw [gA_sJ, gA_sI, gA_sI, hf.2.2.1 99 List.not_mem_nil]; exact hB i ci) (by rw [gI_sJ, gI_sI, if_pos rfl]) (fun i hi => absurd hi (Nat.not_lt_zero i))) (fun σ' w => ?_) (fun v hv => by rw [hv, c0])
    obtain ⟨σa, σb, w1, wi, ⟨⟨w2, ec, hnm⟩, hnv⟩, w3, w4⟩ := w
    refine ⟨?_, fun _ => ⟨?_, ?_, hz2, ?_, ?_⟩, fun q => absurd c0 q⟩
    · refine FR_trans (FR_trans (FR_trans (FR_trans (FR_trans (FR_trans (FR_mono hf ?_ ?_ ?_ ?_) (FR_mono (FR_I σ2 103 _) ?_ ?_ ?_ ?_)) (FR_mono (FR_I _ 102 _) ?_ ?_ ?_ ?_)) (FR_mono (FR_J _ 104 _) ?_ ?_ ?_ ?_)) (FR_mono w1 ?_ ?_ ?_ ?_)) (FR_mono w2 ?_ ?_ ?_ ?_)) (FR_mono w3 ?_ ?_ ?_ ?_)
      all_goals decide
    · rw [← a4 c0]
      refine ⟨?_, hR8, fun i w hw => ?_⟩
      · rw [w3.1 102 List.not_mem_nil, w2.1 102 (by decide), w1.1 102 List.not_mem_nil, gI_sJ, gI_sI, if_pos rfl]
      · have hi := (List.getElem?_eq_some_iff.mp hw).1
        obtain ⟨e1, e2, e3, e4, e5⟩ := w4 i hi
        rw [e1, e2, e3, e4, e5, w2.2.2.2 110 (by decide), w2.2.2.2 111 (by decide), w2.2.2.2 112 (by decide), w2.2.2.2 113 (by decide), w2.2.2.2 114 (by decide), w1.2.2.2 110 List.not_mem_nil, w1.2.2.2 111 List.not_mem_nil, w1.2.2.2 112 List.not_mem_nil, w1.2.2.2 113 List.not_mem_nil, w1.2.2.2 114 List.not_mem_nil]
        exact ht i w hw
    · have hlt : ∀ k, b k < 256 := fun k => by rw [hz.2.2]; exact cb_lt _ _ _ _
      refine ⟨by rw [w3.1 44 List.not_mem_nil]; exact ec, ?_, fun i hi => ?_, fun i v hv => ⟨?_, ?_⟩⟩
      · have h1 := nvL_len (nmV b (xnS b z)) (nmN b (xnS b z)) ((xnS b z).1 - 1) 1
        by_cases h0 : 0 < (xnS b z).1
        · have := (xnS_ok h0).1
          unfold nvQ
          omega
        · unfold nvQ
          omega
      · rw [w3.2.2.1 45 List.not_mem_nil, w3.2.2.1 46 List.not_mem_nil]
        exact hnm i hi
      · rw [w3.2.2.2 47 (by decide)]
        exact hnv i v hv
      · obtain ⟨j, hj⟩ := nvL_in _ _ v (List.mem_of_getElem? hv)
        rw [hj]
        exact le_le8 hlt (by decide)
    · have e100 : gA σ' 100 = gA σa 100 := by rw [w3.2.2.1 100 List.not_mem_nil, w2.2.2.1 100 (by decide)]
      have e99 : gA (sJ (sI (sI σ2 103 (nI (xrX b z))) 102 (nI R.length)) 104 (lN (le b 24 8))) 99 = gA σ 99 := by rw [gA_sJ, gA_sI, gA_sI, hf.2.2.1 99 List.not_mem_nil]
      rw [e99] at wi
      rw [e100, hz.2.2]
      funext i
      unfold cb
      by_cases ci : i < z
      · rw [if_pos ci, if_pos ci, Nat.zero_add, wi i ci, isB_c (hB i ci)]
      · rw [if_neg ci, if_neg ci]
    · intro i ci
      have e99 : gA (sJ (sI (sI σ2 103 (nI (xrX b z))) 102 (nI R.length)) 104 (lN (le b 24 8))) 99 = gA σ 99 := by rw [gA_sJ, gA_sI, gA_sI, hf.2.2.1 99 List.not_mem_nil]
      rw [e99] at wi
      rw [w3.2.2.1 100 List.not_mem_nil, w2.2.2.1 100 (by decide), wi i ci]
      exact isB_8 _
  · rw [if_neg (nI_nle (by omega) (by omega)), bs]
    refine sm_r rfl ⟨?_, fun q => absurd q c0, fun _ => ⟨?_, fun k hk => ?_, ?_, ?_, ?_, ?_, ?_⟩⟩
    · refine FR_trans (FR_mono hf ?_ ?_ ?_ ?_) (FR_mono (FR_I σ2 103 _) ?_ ?_ ?_ ?_)
      all_goals decide
    · rw [gI_sI, if_neg (by decide), hf.1 102 (by decide)]
    · rw [gB_sI]
      exact hf.2.2.2 k (fun q => by revert k; decide)
    · rw [gA_sI, hf.2.2.1 100 List.not_mem_nil]
    · rw [gI_sI, if_neg (by decide), hf.1 44 (by decide)]
    · rw [gA_sI, hf.2.2.1 45 List.not_mem_nil]
    · rw [gA_sI, hf.2.2.1 46 List.not_mem_nil]
    · rw [gB_sI, hf.2.2.2 47 (by decide)]
/-- where the bytes come from -/
def RXs (a1 : Int32) (σ : px_S) (z : Nat) (b : Nat → Nat) : Prop := z ≤ 65536 ∧ ((a1 = 0 ∧ gI σ 4 = nI z ∧ b = cb (gA σ 3) 0 z ∧ ∀ k, isB (gA σ 3 k)) ∨ (¬ a1 = 0 ∧ z ≤ 8192 ∧ gI σ 2 = nI z ∧ b = cb (gA σ 1) 0 z ∧ ∀ k, isB (gA σ 1 k)))
def RBe (a1 : Int32) (z : Nat) (b : Nat → Nat) (σ σ' : px_S) : Prop := BFr σ σ' ∧ (xrX b z = 0 → RMr σ' (xrS b z) ∧ RMn σ' (nvQ b (xnS b z)) ∧ RMi σ' z b) ∧ (xrX b z ≠ 0 → RMq σ σ')
theorem RMq_FR {σ1 σ2 : px_S} {I J A B : List Nat} (f : FR I J A B σ σ1) (w : RMq σ1 σ2) (hI : 102 ∉ I ∧ 44 ∉ I) (hA : 100 ∉ A ∧ 45 ∉ A ∧ 46 ∉ A) (hB : 47 ∉ B ∧ ∀ k, k ∈ [105, 106, 107, 108, 109] → k ∉ B) : RMq σ σ2 := by
  obtain ⟨w1, w2, w3, w4, w5, w6, w7⟩ := w
  exact ⟨w1.trans (f.1 102 hI.1), fun k hk => (w2 k hk).trans (f.2.2.2 k (hB.2 k hk)), w3.trans (f.2.2.1 100 hA.1), w4.trans (f.1 44 hI.2), w5.trans (f.2.2.1 45 hA.2.1), w6.trans (f.2.2.1 46 hA.2.2), w7.trans (f.2.2.2 47 hB.1)⟩
theorem qx_b_26 {a1 : Int32} (hm : m ≤ h.length) (hF : 65540 < F) (hz : z ≤ 65536) : ∀ (d j f : Nat) (σ : px_S), j + d = z → d < f → gI σ 101 = nI z → ((a1 = 0 ∧ b = cb (gA σ 3) 0 z ∧ (∀ k, isB (gA σ 3 k)) ∧ ∀ i, i < j → gA σ 99 i = gA σ 3 i) ∨ (¬ a1 = 0 ∧ z ≤ 8192 ∧ b = cb (gA σ 1) 0 z ∧ (∀ k, isB (gA σ 1 k)) ∧ ∀ i, i < j → gA σ 99 i = gA σ 1 i)) → Sm m h (RBe a1 z b σ) (fun v => v = nI (xrX b z)) (f_M_boot_26 F f m a1 (nI j) (mh m h σ)) := by
  have up : ∀ {τ τ' : px_S}, BF2 τ τ' → BFr τ τ' := fun w => FR_mono w (by decide) (by decide) (by decide) (by decide)
  intro d
  induction d with
  | zero =>
    intro j f σ hj hf es hs
    obtain ⟨f, rfl⟩ : ∃ y, f = y + 1 := ⟨f - 1, by omega⟩
    have ej : j = z := by omega
    subst ej
    unfold f_M_boot_26 f_M_boot_65
    rw [Mg101 hm, bs, es, if_pos (nI_le (by omega) (by omega))]
    rcases hs with ⟨c, hb, hB, hi⟩ | ⟨c, h8, hb, hB, hi⟩
    · have hx : RXb σ j b := ⟨es, hz, by rw [hb]; exact cb_e hi⟩
      rw [if_pos c]
      exact sm_wI (qx_b_74 hm hF hx (fun i ci => by rw [hi i ci]; exact hB i)) (fun σ' w => ⟨up w.1, w.2.1, w.2.2⟩)
    · have hx : RXb (sI σ 2 (nI 0)) j b := ⟨by rw [gI_sI, if_neg (by decide)]; exact es, hz, by rw [gA_sI, hb]; exact cb_e hi⟩
      rw [if_neg c, Mp2 hm, bs]
      exact sm_wI (qx_b_74 (σ := sI σ 2 (nI 0)) hm hF hx (fun i ci => by rw [gA_sI, hi i ci]; exact hB i)) (fun σ' w => ⟨FR_trans (FR_mono (FR_I _ _ _) (by decide) (by decide) (by decide) (by decide)) (up w.1), w.2.1, fun q => RMq_FR (FR_I σ 2 (nI 0)) (w.2.2 q) (by decide) (by decide) (by decide)⟩)
  | succ d ih =>
    intro j f σ hj hf es hs
    obtain ⟨f, rfl⟩ : ∃ y, f = y + 1 := ⟨f - 1, by omega⟩
    have go : ∀ v, ((a1 = 0 ∧ v = gA σ 3 j) ∨ (¬ a1 = 0 ∧ v = gA σ 1 j)) → Sm m h (RBe a1 z b σ) (fun v => v = nI (xrX b z)) (f_M_boot_26 F f m a1 (nI (j + 1)) (mh m h (sA σ 99 (upd (gA σ 99) j v)))) := fun v hv => by
      have e3 : gA (sA σ 99 (upd (gA σ 99) j v)) 3 = gA σ 3 := by rw [gA_sA, if_neg (by decide)]
      have e1 : gA (sA σ 99 (upd (gA σ 99) j v)) 1 = gA σ 1 := by rw [gA_sA, if_neg (by decide)]
      have e9 : gA (sA σ 99 (upd (gA σ 99) j v)) 99 = upd (gA σ 99) j v := by rw [gA_sA, if_pos rfl]
      refine sm_wI (ih (j + 1) f (sA σ 99 (upd (gA σ 99) j v)) (by omega) (by omega) es ?_) (fun σ' w => ⟨FR_trans (FR_mono (FR_A _ _ _) (by decide) (by decide) (by decide) (by decide)) w.1, w.2.1, fun q => RMq_FR (FR_A σ 99 _) (w.2.2 q) (by decide) (by decide) (by decide)⟩)
      rw [e3, e1, e9]
      rcases hs with ⟨c, hb, hB, hi⟩ | ⟨c, h8, hb, hB, hi⟩
      · refine Or.inl ⟨c, hb, hB, fun i hij => ?_⟩
        by_cases e : i = j
        · rw [e, upd_eq]
          rcases hv with ⟨_, w⟩ | ⟨w, _⟩
          · exact w
          · exact absurd c w
        · rw [upd_ne e]; exact hi i (by omega)
      · refine Or.inr ⟨c, h8, hb, hB, fun i hij => ?_⟩
        by_cases e : i = j
        · rw [e, upd_eq]
          rcases hv with ⟨w, _⟩ | ⟨_, w⟩
          · exact absurd w c
          · exact w
        · rw [upd_ne e]; exact hi i (by omega)
    unfold f_M_boot_26 f_M_boot_58
    rw [Mg101 hm, bs, es, if_neg (nI_ge (by omega) (by omega)), Mr99 hm, bs]
    rcases hs with ⟨c, hb, hB, hi⟩ | ⟨c, h8, hb, hB, hi⟩
    · rw [if_pos c, Mr3 hm, bs, Ma3 hm (by omega), bs, Ms99 hm (by omega), bs, nI_add]
      exact go _ (Or.inl ⟨c, isB_c (hB j)⟩)
    · rw [if_neg c, Mr1 hm, bs, Ma1 hm (by omega), bs, Ms99 hm (by omega), bs, nI_add]
      exact go _ (Or.inr ⟨c, isB_c (hB j)⟩)
theorem qx_boot {a1 : Int32} (hm : m ≤ h.length) (hF : 65540 < F) (hs : RXs a1 σ z b) : Sm m h (RBe a1 z b σ) (fun v => v = nI (xrX b z)) (f_M_boot F m a1 (mh m h σ)) := by
  obtain ⟨hz, hs⟩ := hs
  unfold f_M_boot f_M_boot_21
  rw [Mp0 hm, bs]
  have f0 : FR [0, 101] [] [] [] σ (sI (sI σ 0 (nI 0)) 101 (nI z)) := FR_trans (FR_mono (FR_I _ _ _) (by decide) (by decide) (by decide) (by decide)) (FR_mono (FR_I _ _ _) (by decide) (by decide) (by decide) (by decide))
  have fin : ((a1 = 0 ∧ b = cb (gA σ 3) 0 z ∧ ∀ k, isB (gA σ 3 k)) ∨ (¬ a1 = 0 ∧ z ≤ 8192 ∧ b = cb (gA σ 1) 0 z ∧ ∀ k, isB (gA σ 1 k))) → Sm m h (RBe a1 z b σ) (fun v => v = nI (xrX b z)) (f_M_boot_26 F F m a1 (nI 0) (mh m h (sI (sI σ 0 (nI 0)) 101 (nI z)))) := fun w => by
    refine sm_wI (qx_b_26 (a1 := a1) (b := b) (z := z) hm hF hz z 0 F (sI (sI σ 0 (nI 0)) 101 (nI z)) (Nat.zero_add _) (by omega) (by rw [gI_sI, if_pos rfl]) ?_) (fun σ' w => ⟨FR_trans (FR_mono f0 (by decide) (by decide) (by decide) (by decide)) w.1, w.2.1, fun q => RMq_FR f0 (w.2.2 q) (by decide) (by decide) (by decide)⟩)
    rw [gA_sI, gA_sI, gA_sI, gA_sI]
    rcases w with ⟨c, w1, w2⟩ | ⟨c, w0, w1, w2⟩
    · exact Or.inl ⟨c, w1, w2, fun i hi => absurd hi (Nat.not_lt_zero i)⟩
    · exact Or.inr ⟨c, w0, w1, w2, fun i hi => absurd hi (Nat.not_lt_zero i)⟩
  rcases hs with ⟨c, e4, w1, w2⟩ | ⟨c, w0, e2, w1, w2⟩
  · rw [if_pos c, Mg4 hm, bs, gI_sI, if_neg (by decide), e4, Mp101 hm, bs]
    exact fin (Or.inl ⟨c, w1, w2⟩)
  · rw [if_neg c, Mg2 hm, bs, gI_sI, if_neg (by decide), e2, Mp101 hm, bs]
    exact fin (Or.inr ⟨c, w0, w1, w2⟩)
end MBZ
end
