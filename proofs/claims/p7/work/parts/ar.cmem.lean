/-! the class's members -/
/-- where member q stands in the class's store -/
def bsO (fs : px_FS) (q : Nat) : Nat := off fs (q / 8) + (((obAt fs q).getD (0, 0, fun _ => 0, false)).1 - 8192 * (q / 8))
section CMB
variable {sk : Nat → Nat × Nat × Nat} {L : Nat} {τ : px_TT} {fs : px_FS} {q o n : Nat} {b : Nat → Nat}
theorem mD_at {f base : Nat} {ar : Bool} {S : Nat → Int32} : ∀ (l : List (Nat × Nat × Bool)) (k j : Nat) (x : Nat × Nat × Bool), mD sk L τ f base ar S k l → l[j]? = some x → fI τ (10 + 2 * (8 * f + (k + j))) 4 = nI (mkd ar x.2.2) ∧ fI τ (10 + 2 * (8 * f + (k + j))) 5 = nI (base + x.1) ∧ fI τ (10 + 2 * (8 * f + (k + j))) 6 = nI x.2.1 ∧ (x.2.2 = false → cD sk L τ (10 + 2 * (8 * f + (k + j))) (11 + 2 * (8 * f + (k + j))) (base + x.1) x.2.1 S)
  | [], k, j, x, h, hx => by rw [List.getElem?_nil] at hx; cases hx
  | y :: l, k, 0, x, h, hx => by
    rw [List.getElem?_cons_zero] at hx
    have hx : y = x := Option.some.inj hx
    rw [← hx]
    unfold mD at h
    exact h.1
  | y :: l, k, j + 1, x, h, hx => by
    rw [List.getElem?_cons_succ] at hx
    unfold mD at h
    have := mD_at l (k + 1) j x h.2 hx
    rw [show k + 1 + j = k + (j + 1) by omega] at this
    exact this
theorem mD_no {f base : Nat} {ar : Bool} {S : Nat → Int32} : ∀ (l : List (Nat × Nat × Bool)) (k j : Nat), mD sk L τ f base ar S k l → k + l.length ≤ j → j < 8 → fI τ (10 + 2 * (8 * f + j)) 4 = nI 0
  | [], k, j, h, h1, h2 => h j h1 h2
  | y :: l, k, j, h, h1, h2 => by
    unfold mD at h
    rw [List.length_cons] at h1
    exact mD_no l (k + 1) j h.2 (by omega) h2
/-- a member that is an object -/
theorem CF_ob {z : Bool} (h : CF sk L τ fs) (hq : obAt fs q = some (o, n, b, z)) : q < 64 ∧ (∃ x, fs[q / 8]? = some x ∧ fI τ (10 + 2 * q) 4 = nI (mkd (isAr x.2 x.1) z)) ∧ cb (eI τ 8) (bsO fs q) n = b ∧ bsO fs q + n ≤ off fs fs.length ∧ off fs fs.length ≤ 65536 ∧ (z = false → cD sk L τ (10 + 2 * q) (11 + 2 * q) (bsO fs q) n (eI τ 8)) := by
  have hoff := CF_off h (Nat.le_refl _)
  have hb : bsO fs q = off fs (q / 8) + (o - 8192 * (q / 8)) := by unfold bsO; rw [hq]; rfl
  obtain ⟨h1, h2, h3, h4, h5, h6, h7⟩ := h
  unfold obAt at hq
  cases e1 : fs[q / 8]? with
  | none => rw [e1] at hq; cases hq
  | some x =>
    rw [e1] at hq
    have hf := (List.getElem?_eq_some_iff.mp e1).1
    obtain ⟨c1, c2, c3, l, c4, c5⟩ := h6 _ x e1
    have hq : (match fMem x.2 x.1 with
      | none => none
      | some l => match l[q % 8]? with
        | none => none
        | some y => some (8192 * (q / 8) + y.1, y.2.1, sub x.2 y.1 y.2.1, y.2.2)) = some (o, n, b, z) := hq
    rw [c4] at hq
    have hq : (match l[q % 8]? with
        | none => none
        | some y => some (8192 * (q / 8) + y.1, y.2.1, sub x.2 y.1 y.2.1, y.2.2)) = some (o, n, b, z) := hq
    cases e2 : l[q % 8]? with
    | none => rw [e2] at hq; cases hq
    | some y =>
      rw [e2] at hq
      have hq : (8192 * (q / 8) + y.1, y.2.1, sub x.2 y.1 y.2.1, y.2.2) = (o, n, b, z) := Option.some.inj hq
      have q1 : 8192 * (q / 8) + y.1 = o := congrArg (fun v => v.1) hq
      have q2 : y.2.1 = n := congrArg (fun v => v.2.1) hq
      have q3 : sub x.2 y.1 y.2.1 = b := congrArg (fun v => v.2.2.1) hq
      have q4 : y.2.2 = z := congrArg (fun v => v.2.2.2) hq
      have hl := (fMem_le c4).2 y (List.mem_of_getElem? e2)
      have hm := mD_at l 0 (q % 8) y c5 e2
      rw [Nat.zero_add, show 8 * (q / 8) + q % 8 = q by omega, q2, q4] at hm
      have hbs : bsO fs q = off fs (q / 8) + y.1 := by rw [hb]; omega
      rw [← hbs] at hm
      have ho1 := off_s e1
      have ho2 := off_mono (fs := fs) (fs.length - (q / 8 + 1)) (q / 8 + 1) (by omega)
      rw [show q / 8 + 1 + (fs.length - (q / 8 + 1)) = fs.length by omega] at ho2
      refine ⟨by omega, ⟨x, rfl, hm.1⟩, ?_, by omega, by omega, hm.2.2.2⟩
      rw [hbs, ← q3, ← q2, ← c2]
      exact cb_sub hl
/-- no member there -/
theorem CF_no (h : CF sk L τ fs) (hq : obAt fs q = none) (h64 : q < 64) : fI τ (10 + 2 * q) 4 = nI 0 := by
  obtain ⟨h1, h2, h3, h4, h5, h6, h7⟩ := h
  unfold obAt at hq
  cases e1 : fs[q / 8]? with
  | none =>
    have := h7 (q / 8) (q % 8) (List.getElem?_eq_none_iff.mp e1) (by omega) (by omega)
    rw [show 8 * (q / 8) + q % 8 = q by omega] at this
    exact this
  | some x =>
    rw [e1] at hq
    obtain ⟨c1, c2, c3, l, c4, c5⟩ := h6 _ x e1
    have hq : (match fMem x.2 x.1 with
      | none => none
      | some l => match l[q % 8]? with
        | none => none
        | some y => some (8192 * (q / 8) + y.1, y.2.1, sub x.2 y.1 y.2.1, y.2.2)) = none := hq
    rw [c4] at hq
    have hq : (match l[q % 8]? with
        | none => none
        | some y => some (8192 * (q / 8) + y.1, y.2.1, sub x.2 y.1 y.2.1, y.2.2)) = none := hq
    cases e2 : l[q % 8]? with
    | some y => rw [e2] at hq; cases hq
    | none =>
      have := mD_no l 0 (q % 8) c5 (by have := List.getElem?_eq_none_iff.mp e2; omega) (by omega)
      rw [show 8 * (q / 8) + q % 8 = q by omega] at this
      exact this
end CMB
