/-! slots of the class -/
def pnB (tb : Nat → Nat → Nat) (xs : px_NL) (P th y : Nat) : Bool := decide (nmZ tb xs y = some P) && decide (y % 2 = th)
def sNo (p : Nat → Bool) (sl : List Nat) : Nat := ((ixB p 0 sl).map (fun i => i + 1)).getD 0
theorem ixB_app {p : Nat → Bool} {z : Nat} : ∀ (l : List Nat) (k : Nat), ixB p k (l ++ [z]) = (match ixB p k l with
    | some i => some i
    | none => if p z = true then some (k + l.length) else none)
  | [], k => by
    show (if p z = true then some k else none) = (if p z = true then some (k + 0) else none)
    rw [Nat.add_zero]
  | y :: l, k => by
    rw [List.cons_append, ixB_s, ixB_s]
    by_cases c : p y = true
    · rw [if_pos c, if_pos c]
    · rw [if_neg c, if_neg c, ixB_app l (k + 1), List.length_cons, show k + 1 + l.length = k + (l.length + 1) by omega]
theorem sNo_app {p : Nat → Bool} {z : Nat} {sl : List Nat} : sNo p (sl ++ [z]) = if (ixB p 0 sl).isSome = true then sNo p sl else if p z = true then sl.length + 1 else 0 := by
  unfold sNo
  rw [ixB_app]
  cases ixB p 0 sl with
  | some i => rfl
  | none =>
    show ((if p z = true then some (0 + sl.length) else none : Option Nat).map (fun i => i + 1)).getD 0 = if p z = true then sl.length + 1 else 0
    by_cases c : p z = true
    · rw [if_pos c, if_pos c, Nat.zero_add]; rfl
    · rw [if_neg c, if_neg c]; rfl
theorem sNo_0 {p : Nat → Bool} {sl : List Nat} : sNo p sl = 0 ↔ ixB p 0 sl = none := by
  unfold sNo
  cases e : ixB p 0 sl with
  | none => exact ⟨fun _ => rfl, fun _ => rfl⟩
  | some i => exact ⟨fun h => absurd h (Nat.succ_ne_zero i), fun h => by cases h⟩
theorem sNo_le {p : Nat → Bool} {sl : List Nat} : sNo p sl ≤ sl.length := by
  unfold sNo
  cases e : ixB p 0 sl with
  | none => exact Nat.zero_le _
  | some i =>
    have := (ixB_lt e).2.1
    show i + 1 ≤ _
    omega
theorem skE_n {tb : Nat → Nat → Nat} {xs : px_NL} {z P : Nat} (h : nmZ tb xs z = some P) : skE tb xs z = pnB tb xs P (z % 2) := by
  funext y
  unfold skE pnB
  rw [h, show (some P : Option Nat).isSome = true from rfl, Bool.true_or, Bool.and_true, Bool.and_comm]
theorem skE_l {tb : Nat → Nat → Nat} {xs : px_NL} {z : Nat} (h : nmZ tb xs z = none) : skE tb xs z = fun y => decide (y = z) := by
  funext y
  unfold skE
  rw [h, show (none : Option Nat).isSome = false from rfl, Bool.false_or]
  by_cases e : y = z
  · rw [e, h, decide_eq_true rfl, decide_eq_true rfl, decide_eq_true rfl, decide_eq_true rfl]; rfl
  · rw [decide_eq_false e]
    by_cases e1 : y % 2 = z % 2
    · by_cases e2 : y / 2 = z / 2
      · omega
      · rw [decide_eq_false e2, Bool.and_false, Bool.and_false]
    · rw [decide_eq_false e1, Bool.false_and]
def SLc (T : Nat) (tb : Nat → Nat → Nat) (xs : px_NL) (τ : px_TT) (sl : List Nat) : Prop := fI τ 1700 12 = nI sl.length ∧ (∀ (i z : Nat), sl[i]? = some z → eI τ 1708 i = nI z) ∧ (∀ P, P < xs.length → ∀ th, th < 2 → fI τ (pN τ 149 P) (15 + th) = nI (sNo (pnB tb xs P th) sl)) ∧ ∀ z, z < 128 * T → nmZ tb xs z = none → eI τ 1709 z = nI (sNo (fun y => decide (y = z)) sl)
section CSL
variable {F : Nat} {c : px_CT} {sk : Nat → Nat × Nat × Nat} {L : Nat} {τ : px_TT} {own : Nat → Nat × Nat} {fs : px_FS} {s : px_TK} {xs : px_NL} {ST rn : Nat → Bool} {t j : Nat} {th : Bool} {sl : List Nat}
def zz (t j : Nat) (th : Bool) : Nat := 2 * (64 * t + j) + (if th = true then 1 else 0)
theorem k_slotKey (hS : GS sk L) (hR : GR τ) (ht : t < 64) (hj : j < 64) : f_Layout_slotKey F c 1700 (nI t) (nI j) (bI th) (cH sk L τ) = some (nI (zz t j th), cH sk L τ) := by
  have o := G1700 hS
  have e17 : ∀ v, v < 2 → f_Layout_slotKey_17 F c 1700 (nI 2 * (nI t * nI 64 + nI j)) (nI v) (cH sk L τ) = some (nI (2 * (64 * t + j) + v), cH sk L τ) := fun v hv => by
    unfold f_Layout_slotKey_17 f_Layout_slotKey_41
    rw [pk_mul, nI_add, pk_mul, nI_add, show 2 * (t * 64 + j) + v = 2 * (64 * t + j) + v by omega, if_neg (show ¬ nI (2 * (64 * t + j) + v) < 0 from nI_nlt (b := 0) (Nat.zero_le _) (by omega)), C2r10 o (GR_r (v := 1709) hR (by decide)), bs, c_l (G1709 hS) (by decide), bs, if_neg (nI_ge (by omega) (by omega))]
  unfold f_Layout_slotKey zz
  cases th with
  | false => rw [if_pos (show bI false = 0 from rfl), e17 0 (by decide)]; rfl
  | true => rw [if_neg (show ¬ bI true = 0 by decide), e17 1 (by decide)]; rfl
theorem zz_m (hj : j < 64) : zz t j th / 2 / 64 = t ∧ zz t j th / 2 % 64 = j ∧ zz t j th % 2 = (if th = true then 1 else 0) ∧ (t < 64 → zz t j th < 8192) := by
  unfold zz
  cases th
  · rw [if_neg (show ¬ false = true by decide)]; omega
  · rw [if_pos rfl]; omega
theorem nmZ_z {tb : Nat → Nat → Nat} (hj : j < 64) (hM : j < oM (tb t)) : (hsN (tb t) j = true → nmZ tb xs (zz t j th) = some (plc (yT (tb t) j) (xs.map Prod.fst))) ∧ (¬ hsN (tb t) j = true → nmZ tb xs (zz t j th) = none) := by
  obtain ⟨z1, z2, z3, _⟩ := zz_m (t := t) (th := th) hj
  unfold nmZ
  rw [z1, z2]
  constructor
  · intro h
    obtain ⟨h1, h2, h3⟩ := of_decide_eq_true h
    rw [if_neg (fun q => q.elim (by omega) h3)]
  · intro h
    rw [if_pos]
    by_cases c : j = 0
    · exact Or.inl c
    · by_cases c2 : yB (tb t) j = 0
      · exact Or.inr c2
      · exact absurd (decide_eq_true (show 1 ≤ j ∧ j < oM (tb t) ∧ yB (tb t) j ≠ 0 from ⟨by omega, hM, c2⟩)) h
theorem k_slotOf (h : TKe sk L own τ fs s xs ST rn) (hc : SLc s.2.2.1.length (tB fs s.2.2.1) xs τ sl) (ht : t < s.2.2.1.length) (hj : j < oM (tB fs s.2.2.1 t)) : f_Layout_slotOf F c 1700 (nI t) (nI j) (bI th) (cH sk L τ) = some (nI (sNo (skE (tB fs s.2.2.1) xs (zz t j th)) sl), cH sk L τ) := by
  obtain ⟨q, q1, q2, hD, hcb, he, hp, hRS, h89⟩ := TKe_ob h ht
  obtain ⟨hyo, hS24, hM64⟩ := TKe_ys h t ht
  have hS := h.1
  have hR := h.2.1
  have hT := BK_T (s := s) h.2.2.2.2.1.1
  have o := G1700 hS
  obtain ⟨y1, y2⟩ := hRS j (by omega)
  obtain ⟨z1, z2, z3, z4⟩ := zz_m (t := t) (th := th) (show j < 64 by omega)
  obtain ⟨n1, n2⟩ := nmZ_z (xs := xs) (tb := tB fs s.2.2.1) (t := t) (th := th) (show j < 64 by omega) hj
  unfold f_Layout_slotOf f_Layout_slotOf_33
  rw [C2r0 o (GR_r (v := 147) hR (by decide)), bs, c_o (G147 hS), bs, k_nameOf hS hR (by omega) (by omega), y1, xb_mk]
  unfold syN
  by_cases ch : hsN (tB fs s.2.2.1 t) j = true
  · obtain ⟨x, hx, _, _⟩ := plc_ix (y2 ch)
    have hl := (List.getElem?_eq_some_iff.mp hx).1
    obtain ⟨w1, w2, w3, w4⟩ := CLm_at h.2.2.2.1.2.1 hx
    rw [if_pos ch, skE_n (n1 ch), z3]
    have hv := hc.2.2.1 _ hl
    generalize plc (yT (tB fs s.2.2.1 t) j) (xs.map Prod.fst) = P at *
    cases th with
    | false =>
      have hv := hv 0 (by decide)
      show (if bI false = 0 then (xgI (cH sk L τ) 5 15 (pN τ 149 P)).bind _ else (xgI (cH sk L τ) 5 16 (pN τ 149 P)).bind _) = _
      rw [if_pos (show bI false = 0 from rfl), C5g15 w3, bs, hv, if_neg (show ¬ false = true by decide)]
    | true =>
      have hv := hv 1 (by decide)
      show (if bI true = 0 then (xgI (cH sk L τ) 5 15 (pN τ 149 P)).bind _ else (xgI (cH sk L τ) 5 16 (pN τ 149 P)).bind _) = _
      rw [if_neg (show ¬ bI true = 0 by decide), C5g16 w3, bs, hv, if_pos rfl]
  · rw [if_neg ch, skE_l (n2 ch)]
    have hv := hc.2.2.2 (zz t j th) (by unfold zz at *; split <;> omega) (n2 ch)
    show ((xgR (cH sk L τ) 2 10 1700).bind _) = _
    rw [C2r10 o (GR_r (v := 1709) hR (by decide)), bs, c_o o, bs, k_slotKey hS hR (by omega) (by omega), xb_mk, c_aI (G1709 hS) (by decide) (by decide) (z4 (by omega)), bs, hv]
end CSL
