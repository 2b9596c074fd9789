/-! strings and their ends -/
/-- a string of C from f on ends at e -/
def isSt (C : Nat → Nat) (f e : Nat) : Prop := e < 65536 ∧ f ≤ e ∧ C e = 0 ∧ ∀ x, f ≤ x → x < e → C x ≠ 0
section CPO
variable {C : Nat → Nat} {f g e e' : Nat}
theorem isSt_len (h : isSt C f e) : (st C f).length = e - f := st_len h.1 h.2.2.1 (e - f) f (by have := h.2.1; omega) h.2.2.2
theorem isSt_up {d : Nat} (h : isSt C f e) (hd : f + d ≤ e) : isSt C (f + d) e := ⟨h.1, hd, h.2.2.1, fun x h1 h2 => h.2.2.2 x (by omega) h2⟩
theorem isSt_drop : ∀ {d f : Nat}, isSt C f e → f + d ≤ e → (st C f).drop d = st C (f + d)
  | 0, f, h, _ => by rw [List.drop_zero, Nat.add_zero]
  | d + 1, f, h, hd => by
    have hf : C f ≠ 0 := h.2.2.2 f (Nat.le_refl _) (by omega)
    have he := h.1
    rw [st_n (by omega) hf, List.drop_succ_cons, isSt_drop (d := d) (f := f + 1) (isSt_up (d := 1) h (by omega)) (by omega), show f + 1 + d = f + (d + 1) by omega]
theorem isSt_get : ∀ {d f : Nat}, isSt C f e → f + d < e → (st C f)[d]? = some (C (f + d))
  | 0, f, h, hd => by
    have hf : C f ≠ 0 := h.2.2.2 f (Nat.le_refl _) (by omega)
    have he := h.1
    rw [st_n (by omega) hf, List.getElem?_cons_zero, Nat.add_zero]
  | d + 1, f, h, hd => by
    have hf : C f ≠ 0 := h.2.2.2 f (Nat.le_refl _) (by omega)
    have he := h.1
    rw [st_n (by omega) hf, List.getElem?_cons_succ, isSt_get (d := d) (f := f + 1) (isSt_up (d := 1) h (by omega)) (by omega), show f + 1 + d = f + (d + 1) by omega]
theorem sufB_iff {u : List Nat} : ∀ {s : List Nat}, sufB u s = true ↔ u.length ≤ s.length ∧ u = s.drop (s.length - u.length)
  | [] => by
    unfold sufB
    rw [decide_eq_true_iff]
    constructor
    · intro h; rw [h]; exact ⟨Nat.le_refl _, rfl⟩
    · rintro ⟨h1, h2⟩
      rw [List.drop_nil] at h2
      exact h2
  | c :: s => by
    unfold sufB
    rw [Bool.or_eq_true, decide_eq_true_iff, sufB_iff]
    constructor
    · rintro (h | ⟨h1, h2⟩)
      · rw [h, Nat.sub_self]; exact ⟨Nat.le_refl _, rfl⟩
      · refine ⟨by rw [List.length_cons]; omega, ?_⟩
        rw [List.length_cons, show s.length + 1 - u.length = (s.length - u.length) + 1 by omega, List.drop_succ_cons]
        exact h2
    · rintro ⟨h1, h2⟩
      rw [List.length_cons] at h1 h2
      by_cases q : u.length = s.length + 1
      · left
        rw [q, Nat.sub_self, List.drop_zero] at h2
        exact h2
      · right
        refine ⟨by omega, ?_⟩
        rw [show s.length + 1 - u.length = (s.length - u.length) + 1 by omega, List.drop_succ_cons] at h2
        exact h2
/-- one string is an end of another: by their bytes from the end on -/
theorem suf_iff (h : isSt C f e) (h' : isSt C g e') (hn : e - f ≤ e' - g) : sufB (st C f) (st C g) = true ↔ ∀ k, k < e + 1 - f → C (e - k) = C (e' - k) := by
  have l1 := isSt_len h
  have l2 := isSt_len h'
  have h1 := h.2.1
  have h2 := h'.2.1
  rw [sufB_iff, l1, l2, isSt_drop h' (by omega)]
  have h3 := isSt_up (d := e' - g - (e - f)) h' (by omega)
  constructor
  · rintro ⟨_, q⟩ k hk
    by_cases k0 : k = 0
    · rw [k0, Nat.sub_zero, Nat.sub_zero, h.2.2.1, h'.2.2.1]
    · have a1 := isSt_get (d := e - f - k) h (by omega)
      have a2 := isSt_get (d := e - f - k) h3 (by omega)
      rw [q, a2] at a1
      have a3 := Option.some.inj a1
      rw [show g + (e' - g - (e - f)) + (e - f - k) = e' - k by omega, show f + (e - f - k) = e - k by omega] at a3
      exact a3.symm
  · intro q
    refine ⟨hn, List.ext_getElem? (fun d => ?_)⟩
    by_cases hd : f + d < e
    · rw [isSt_get h hd, isSt_get h3 (by omega)]
      have := q (e - f - d) (by omega)
      rw [show e - (e - f - d) = f + d by omega, show e' - (e - f - d) = g + (e' - g - (e - f)) + d by omega] at this
      rw [this]
    · have l3 := isSt_len h3
      rw [List.getElem?_eq_none (by omega), List.getElem?_eq_none (by omega)]
theorem suf_no (h : isSt C f e) (h' : isSt C g e') (hn : ¬ e - f ≤ e' - g) : sufB (st C f) (st C g) = false := by
  have l1 := isSt_len h
  have l2 := isSt_len h'
  refine Bool.eq_false_iff.mpr (fun q => ?_)
  have := (sufB_iff.mp q).1
  omega
end CPO
/-! isEnd of the class's pool -/
section CPE
variable {F : Nat} {c : px_CT} {sk : Nat → Nat × Nat × Nat} {L : Nat} {τ : px_TT} {C : Nat → Nat} {f g e e' : Nat}
/-- the class's store -/
def CB (τ : px_TT) (C : Nat → Nat) : Prop := (∀ k, isB (eI τ 8 k)) ∧ ∀ x, C x = b8 (eI τ 8 x)
theorem CB_eq (h : CB τ C) (x y : Nat) : eI τ 8 x = eI τ 8 y ↔ C x = C y := by
  rw [h.2 x, h.2 y]
  constructor
  · intro q; rw [q]
  · intro q
    rw [h.1 x, h.1 y, q]
theorem k_isEnd_61 (hS : GS sk L) (hb : CB τ C) (h : isSt C f e) (h' : isSt C g e') (hn : e - f ≤ e' - g) : ∀ (d k n : Nat), k + d = e + 1 - f → d < n → (∀ j, j < k → C (e - j) = C (e' - j)) → f_Pool_isEnd_61 F c n (nI f) 8 (nI (g + (e' + 1 - g) - (e + 1 - f)) - nI f) (nI (e + 1 - k) - nI 1) (cH sk L τ) = some (bI (decide (∀ j, j < e + 1 - f → C (e - j) = C (e' - j))), cH sk L τ) := by
  have h1 := h.2.1
  have h2 := h'.2.1
  have h3 := h.1
  have h4 := h'.1
  intro d
  induction d with
  | zero =>
    intro k n hk hd hj
    obtain ⟨n, rfl⟩ : ∃ x, n = x + 1 := ⟨n - 1, by omega⟩
    unfold f_Pool_isEnd_61 f_Pool_isEnd_91
    rw [decide_eq_true (fun j q => hj j (by omega)), show e + 1 - k = f by omega, if_pos (back_lt (by omega))]
    rfl
  | succ d ih =>
    intro k n hk hd hj
    obtain ⟨n, rfl⟩ : ∃ x, n = x + 1 := ⟨n - 1, by omega⟩
    unfold f_Pool_isEnd_61 f_Pool_isEnd_83
    rw [pk_sub (show 1 ≤ e + 1 - k by omega), show e + 1 - k - 1 = e - k by omega, if_neg (nI_nlt (by omega) (by omega)), c_aI (G8 hS) (by decide) (by decide) (by omega), bs]
    have ei : nI (e - k) + (nI (g + (e' + 1 - g) - (e + 1 - f)) - nI f) = nI (e' - k) := by
      rw [Int32.sub_eq_add_neg, ← Int32.add_assoc, ← Int32.sub_eq_add_neg, nI_add, pk_sub (by omega)]
      exact congrArg nI (by omega)
    rw [ei, c_aI (G8 hS) (by decide) (by decide) (by omega), bs]
    by_cases q : C (e - k) = C (e' - k)
    · rw [if_pos ((CB_eq hb _ _).mpr q), nI_back, show nI (e - k) - nI 1 = nI (e + 1 - (k + 1)) - nI 1 by rw [show e + 1 - (k + 1) = e - k by omega]]
      exact ih (k + 1) n (by omega) (by omega) (fun j hj2 => by
        by_cases ej : j = k
        · rw [ej]; exact q
        · exact hj j (by omega))
    · rw [if_neg (fun z => q ((CB_eq hb _ _).mp z)), decide_eq_false (fun z => q (z k (by omega)))]
      rfl
theorem k_isEnd (hS : GS sk L) (hR : GR τ) (hF : 65536 < F) (hb : CB τ C) (h : isSt C f e) (h' : isSt C g e') : f_Pool_isEnd F c 1697 (nI f) (nI (e + 1 - f)) (nI g) (nI (e' + 1 - g)) (cH sk L τ) = some (bI (sufB (st C f) (st C g)), cH sk L τ) := by
  have h1 := h.2.1
  have h2 := h'.2.1
  have h3 := h.1
  have h4 := h'.1
  unfold f_Pool_isEnd f_Pool_isEnd_42
  rw [C9r0 (G1697 hS) (GR_r (v := 7) hR (by decide)), bs, C10r0 (G7 hS) (R7_0 hR), bs]
  by_cases hn : e - f ≤ e' - g
  · rw [if_neg (nI_nlt (by omega) (by omega)), if_neg (show ¬ nI f < 0 from nI_nlt (b := 0) (Nat.zero_le _) (by omega)), if_neg (show ¬ nI g < 0 from nI_nlt (b := 0) (Nat.zero_le _) (by omega)), c_l (G8 hS) (by decide), bs, pk_sub (by omega), if_neg (nI_nlt (by omega) (by omega)), bs, pk_sub (by omega), if_pos (nI_le (by omega) (by omega)), nI_add, nI_add, pk_sub (show e + 1 - f ≤ g + (e' + 1 - g) by omega), show f + (e + 1 - f) = e + 1 - 0 by omega, k_isEnd_61 hS hb h h' hn (e + 1 - f) 0 F (by omega) (by omega) (fun j hj => by omega)]
    congr 3
    exact Bool.eq_iff_iff.mpr (by rw [decide_eq_true_iff, suf_iff h h' hn])
  · rw [if_pos (nI_lt (by omega) (by omega)), suf_no h h' hn]
    rfl
end CPE
