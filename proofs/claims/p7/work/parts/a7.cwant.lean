/-! is a name wanted; the name of a symbol, read by the class -/
theorem run_c {b b' : Nat → Nat} : ∀ (c p p' r : Nat), run b p' c = r → r < c → (∀ i, i ≤ r → b' (p + i) = b (p' + i)) → ∀ c', r ≤ c' → run b' p c' = r := by
  intro c
  induction c with
  | zero => intro p p' r _ h; omega
  | succ c ih =>
    intro p p' r h1 h2 h3 c' hc
    have h0 := h3 0 (Nat.zero_le _)
    rw [Nat.add_zero, Nat.add_zero] at h0
    unfold run at h1
    by_cases c1 : b p' = 0
    · rw [if_pos c1] at h1
      cases c' with
      | zero => unfold run; exact h1
      | succ c' => unfold run; rw [if_pos (by rw [h0]; exact c1)]; exact h1
    · rw [if_neg c1] at h1
      cases c' with
      | zero => omega
      | succ c' =>
        unfold run
        rw [if_neg (by rw [h0]; exact c1), ih (p + 1) (p' + 1) (r - 1) (by omega) (by omega) (fun i hi => by
          have := h3 (i + 1) (by omega)
          rw [show p + (i + 1) = p + 1 + i by omega, show p' + (i + 1) = p' + 1 + i by omega] at this
          exact this) c' (by omega)]
        omega
theorem tk_x {b b' : Nat → Nat} {p p' k : Nat} (h : ∀ i, i < k → b' (p + i) = b (p' + i)) : tk b' p k = tk b p' k := by
  apply List.ext_getElem?
  intro j
  by_cases c : j < k
  · rw [tk_get b' p k j c, tk_get b p' k j c, h j c]
  · rw [List.getElem?_eq_none (by rw [tk_len]; omega), List.getElem?_eq_none (by rw [tk_len]; omega)]
theorem sym_T {S : Nat → Int32} {base n ss j : Nat} (hw : w2 (cb S base n) n) (hj : j < oM (cb S base n)) (hg : yG (cb S base n) j = true) (hs : base + n ≤ ss) : tk (fun i => if i < ss then b8 (S i) else 0) (base + oP (cb S base n) (oX (cb S base n)) + yN (cb S base n) j) (run (fun i => if i < ss then b8 (S i) else 0) (base + oP (cb S base n) (oX (cb S base n)) + yN (cb S base n) j) 20) = yT (cb S base n) j := by
  have hY := w2_M0 hj
  obtain ⟨x1, x2, x3, x4⟩ := hw.2 hY
  have hP := hw.1.2.2.2.1 _ x3 (by rw [x4]; decide) (by rw [x4]; decide)
  obtain ⟨g1, g2, g3⟩ := yG_n hg
  unfold yT
  have eL : yL (cb S base n) j = run (cb S base n) (oP (cb S base n) (oX (cb S base n)) + yN (cb S base n) j) 21 := rfl
  have hb : ∀ k, k < n → (fun i => if i < ss then b8 (S i) else 0) (base + k) = cb S base n k := fun k hk => by
    show (if base + k < ss then b8 (S (base + k)) else 0) = _
    rw [if_pos (by omega), cb_at hk]
  generalize (fun i => if i < ss then b8 (S i) else 0) = S' at *
  generalize oP (cb S base n) (oX (cb S base n)) = P at *
  generalize oZ (cb S base n) (oX (cb S base n)) = Z at *
  generalize yN (cb S base n) j = N at *
  generalize yL (cb S base n) j = l at *
  generalize cb S base n = b at *
  have hbb : ∀ i, i ≤ l → S' (base + P + N + i) = b (P + N + i) := fun i hi => by
    rw [show base + P + N + i = base + (P + N + i) by omega]
    exact hb _ (by omega)
  rw [run_c 21 (base + P + N) (P + N) l eL.symm (by omega) hbb 20 (by omega)]
  exact tk_x (fun i hi => hbb i (by omega))
section CWT
variable {F : Nat} {c : px_CT} {sk : Nat → Nat × Nat × Nat} {L : Nat} {τ : px_TT} {tb : Nat → Nat → Nat} {p q g base n j : Nat} {S : Nat → Int32} {r : px_NR}
theorem k_mw {a b : Bool} (hp : ob sk L 5 p) (h1 : fI τ p 10 = bI a) (h2 : fI τ p 11 = bI b) : f_Name_isMissedOrWished F c p (cH sk L τ) = some (bI (a || b), cH sk L τ) := by
  unfold f_Name_isMissedOrWished f_Name_isMissedOrWished_14 f_Name_isMissedOrWished_19
  rw [C5g10 hp, bs, h1]
  cases a with
  | true => rw [if_neg (show ¬ bI true = 0 by decide), xz_1]; rfl
  | false =>
    rw [if_pos (show bI false = 0 from rfl), C5g11 hp, bs, h2]
    cases b with
    | true => rw [if_neg (show ¬ bI true = 0 by decide), xz_1]; rfl
    | false => rw [if_pos (show bI false = 0 from rfl), xz_0]; rfl
theorem k_isWanted (hp : ob sk L 5 p) (hc : crec tb τ p r) (hr : r.1 ≤ 4) : f_Link_isWanted F c (some p) (cH sk L τ) = some (bI (decide (r.1 = 0) && r.2.1), cH sk L τ) := by
  obtain ⟨c1, ⟨a, b, g1, g2, g3⟩, _⟩ := hc
  unfold f_Link_isWanted f_Link_isWanted_18 f_Link_isWanted_19
  rw [bs, C5g4 hp, bs, c1]
  by_cases d : r.1 = 0
  · rw [if_neg (show ¬ r.1 = 4 by omega), if_pos (show nI r.1 = 0 by rw [d]; rfl), c_o hp, bs, k_mw hp g1 g2, xb_mk, g3, decide_eq_true d]
    cases r.2.1 with
    | true => rw [if_neg (show ¬ bI true = 0 by decide), xz_1]; rfl
    | false => rw [if_pos (show bI false = 0 from rfl), xz_0]; rfl
  · rw [if_neg (show ¬ nI (if r.1 = 4 then 3 else r.1) = 0 from fun q => by
      have := (nI_eq (b := 0) (by split <;> omega) (by decide)).mp q
      split at this <;> omega), xz_0, decide_eq_false d]
    rfl
theorem k_isDefining (hs : cS sk L τ q g base n S) (hF : 8 < F) (h1 : 1 ≤ j) (hj : j < oM (cb S base n)) (hy : yB (cb S base n) j < 16) (hw : yW (cb S base n) j < 65536) : f_ObjectFile_isDefining F c q (nI j) (cH sk L τ) = some (bI (decide (¬ (yB (cb S base n) j = 0 ∨ yW (cb S base n) j = 0))), cH sk L τ) := by
  have o := hs.1.1.1.1
  unfold f_ObjectFile_isDefining f_ObjectFile_isDefining_20 f_ObjectFile_isDefining_21
  rw [c_o o, bs, k_bindOf hs hF h1 hj, xb_mk]
  by_cases d : yB (cb S base n) j = 0
  · rw [if_pos (by rw [d]; rfl), xz_0, decide_eq_false (fun e => e (Or.inl d))]
  · rw [if_neg (show ¬ nI (yB (cb S base n) j) = 0 from fun e => d ((nI_eq (b := 0) (by omega) (by decide)).mp e)), c_o o, bs, k_whereOf hs hF hj, xb_mk]
    by_cases d2 : yW (cb S base n) j = 0
    · rw [if_pos (by rw [d2]; rfl), xz_0, decide_eq_false (fun e => e (Or.inr d2))]
    · rw [if_neg (show ¬ nI (yW (cb S base n) j) = 0 from fun e => d2 ((nI_eq (b := 0) (by omega) (by decide)).mp e)), xz_1, decide_eq_true (show ¬ (yB (cb S base n) j = 0 ∨ yW (cb S base n) j = 0) from fun e => e.elim d d2)]
end CWT
