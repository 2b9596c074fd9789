section
/-! slots of the class -/
def pnB (tb : Nat → Nat → Nat) (xs : px_NL) (P th y : Nat) : Bool := decide (nmZ tb xs y = some P) && decide (y % 2 = th)
def sNo (p : Nat → Bool) (sl : List Nat) : Nat := ((ixB p 0 sl).map (fun i => i + 1)).getD 0
theorem ixB_app {p : Nat → Bool} {z : Nat} : ∀ (l : List Nat) (k : Nat), ixB p k (l ++ [z]) = (match ixB p k l with
    | some i => some i
    | none => if p z = true then some (k + l.length) else none)
  | [], k => by
    show (if p z = true then some k else none) = (if p z = true then some (k + 0) else none)
    rw [Nat.add_zero]
  | y :: l, k => by
    rw [List.cons_append, ixB_s, ixB_s]
    by_cases c : p y = true
    · rw [if_pos c, if_pos c]
    · rw [if_neg c, if_neg c, ixB_app l (k + 1), List.length_cons, show k + 1 + l.length = k + (l.length + 1) by omega]
theorem sNo_app {p : Nat → Bool} {z : Nat} {sl : List Nat} : sNo p (sl ++ [z]) = if (ixB p 0 sl).isSome = true then sNo p sl else if p z = true then sl.length + 1 else 0 := by
  unfold sNo
  rw [ixB_app]
  cases ixB p 0 sl with
  | some i => rfl
  | none =>
    show ((if p z = true then some (0 + sl.length) else none : Option Nat).map (fun i => i + 1)).getD 0 = if p z = true then sl.length + 1 else 0
    by_cases c : p z = true
    · rw [if_pos c, if_pos c, Nat.zero_add]; rfl
    · rw [if_neg c, if_neg c]; rfl
theorem sNo_0 {p : Nat → Bool} {sl : List Nat} : sNo p sl = 0 ↔ ixB p 0 sl = none := by
  unfold sNo
  cases e : ixB p 0 sl with
  | none => exact ⟨fun _ => rfl, fun _ => rfl⟩
  | some i => exact ⟨fun h => absurd h (Nat.succ_ne_zero i), fun h => by cases h⟩
theorem sNo_le {p : Nat → Bool} {sl : List Nat} : sNo p sl ≤ sl.length := by
  unfold sNo
  cases e : ixB p 0 sl with
  | none => exact Nat.zero_le _
  | some i =>
    have := (ixB_lt e).2.1
    show i + 1 ≤ _
    omega
theorem skE_n {tb : Nat → Nat → Nat} {xs : px_NL} {z P : Nat} (h : nmZ tb xs z = some P) : skE tb xs z = pnB tb xs P (z % 2) := by
  funext y
  unfold skE pnB
  rw [h, show (some P : Option Nat).isSome = true from rfl, Bool.true_or, Bool.and_true, Bool.and_comm]
theorem skE_l {tb : Nat → Nat → Nat} {xs : px_NL} {z : Nat} (h : nmZ tb xs z = none) : skE tb xs z = fun y => decide (y = z) := by
  funext y
  unfold skE
  rw [h, show (none : Option Nat).isSome = false from rfl, Bool.false_or]
  by_cases e : y = z
  · rw [e, h, decide_eq_true rfl, decide_eq_true rfl, decide_eq_true rfl, decide_eq_true rfl]; rfl
  · rw [decide_eq_false e]
    by_cases e1 : y % 2 = z % 2
    · by_cases e2 : y / 2 = z / 2
      · omega
      · rw [decide_eq_false e2, Bool.and_false, Bool.and_false]
    · rw [decide_eq_false e1, Bool.false_and]
def SLc (T : Nat) (tb : Nat → Nat → Nat) (xs : px_NL) (τ : px_TT) (sl : List Nat) : Prop := fI τ 1700 12 = nI sl.length ∧ (∀ (i z : Nat), sl[i]? = some z → eI τ 1708 i = nI z) ∧ (∀ P, P < xs.length → ∀ th, th < 2 → fI τ (pN τ 149 P) (15 + th) = nI (sNo (pnB tb xs P th) sl)) ∧ ∀ z, z < 128 * T → nmZ tb xs z = none → eI τ 1709 z = nI (sNo (fun y => decide (y = z)) sl)
section CSL
variable {F : Nat} {c : px_CT} {sk : Nat → Nat × Nat × Nat} {L : Nat} {τ : px_TT} {own : Nat → Nat × Nat} {fs : px_FS} {s : px_TK} {xs : px_NL} {ST rn : Nat → Bool} {t j : Nat} {th : Bool} {sl : List Nat}
def zz (t j : Nat) (th : Bool) : Nat := 2 * (64 * t + j) + (if th = true then 1 else 0)
theorem k_slotKey (hS : GS sk L) (hR : GR τ) (ht : t < 64) (hj : j < 64) : f_Layout_slotKey F c 1700 (nI t) (nI j) (bI th) (cH sk L τ) = some (nI (zz t j th), cH sk L τ) := by
  have o := G1700 hS
  have e17 : ∀ v, v < 2 → f_Layout_slotKey_17 F c 1700 (nI 2 * (nI t * nI 64 + nI j)) (nI v) (cH sk L τ) = some (nI (2 * (64 * t + j) + v), cH sk L τ) := fun v hv => by
    unfold f_Layout_slotKey_17 f_Layout_slotKey_41
    rw [pk_mul, nI_add, pk_mul, nI_add, show 2 * (t * 64 + j) + v = 2 * (64 * t + j) + v by omega, if_neg (show ¬ nI (2 * (64 * t + j) + v) < 0 from nI_nlt (b := 0) (Nat.zero_le _) (by omega)), C2r10 o (GR_r (v := 1709) hR (by decide)), bs, c_l (G1709 hS) (by decide), bs, if_neg (nI_ge (by omega) (by omega))]
  unfold f_Layout_slotKey zz
  cases th with
  | false => rw [if_pos (show bI false = 0 from rfl), e17 0 (by decide)]; rfl
  | true => rw [if_neg (show ¬ bI true = 0 by decide), e17 1 (by decide)]; rfl
theorem zz_m (hj : j < 64) : zz t j th / 2 / 64 = t ∧ zz t j th / 2 % 64 = j ∧ zz t j th % 2 = (if th = true then 1 else 0) ∧ (t < 64 → zz t j th < 8192) := by
  unfold zz
  cases th
  · rw [if_neg (show ¬ false = true by decide)]; omega
  · rw [if_pos rfl]; omega
theorem nmZ_z {tb : Nat → Nat → Nat} (hj : j < 64) (hM : j < oM (tb t)) : (hsN (tb t) j = true → nmZ tb xs (zz t j th) = some (plc (yT (tb t) j) (xs.map Prod.fst))) ∧ (¬ hsN (tb t) j = true → nmZ tb xs (zz t j th) = none) := by
  obtain ⟨z1, z2, z3, _⟩ := zz_m (t := t) (th := th) hj
  unfold nmZ
  rw [z1, z2]
  constructor
  · intro h
    obtain ⟨h1, h2, h3⟩ := of_decide_eq_true h
    rw [if_neg (fun q => q.elim (by omega) h3)]
  · intro h
    rw [if_pos]
    by_cases c : j = 0
    · exact Or.inl c
    · by_cases c2 : yB (tb t) j = 0
      · exact Or.inr c2
      · exact absurd (decide_eq_true (show 1 ≤ j ∧ j < oM (tb t) ∧ yB (tb t) j ≠ 0 from ⟨by omega, hM, c2⟩)) h
theorem k_slotOf (h : TKe sk L own τ fs s xs ST rn) (hc : SLc s.2.2.1.length (tB fs s.2.2.1) xs τ sl) (ht : t < s.2.2.1.length) (hj : j < oM (tB fs s.2.2.1 t)) : f_Layout_slotOf F c 1700 (nI t) (nI j) (bI th) (cH sk L τ) = some (nI (sNo (skE (tB fs s.2.2.1) xs (zz t j th)) sl), cH sk L τ) := by
  obtain ⟨q, q1, q2, hD, hcb, he, hp, hRS, h89⟩ := TKe_ob h ht
  obtain ⟨hyo, hS24, hM64⟩ := TKe_ys h t ht
  have hS := h.1
  have hR := h.2.1
  have hT := BK_T (s := s) h.2.2.2.2.1.1
  have o := G1700 hS
  obtain ⟨y1, y2⟩ := hRS j (by omega)
  obtain ⟨z1, z2, z3, z4⟩ := zz_m (t := t) (th := th) (show j < 64 by omega)
  obtain ⟨n1, n2⟩ := nmZ_z (xs := xs) (tb := tB fs s.2.2.1) (t := t) (th := th) (show j < 64 by omega) hj
  unfold f_Layout_slotOf f_Layout_slotOf_33
  rw [C2r0 o (GR_r (v := 147) hR (by decide)), bs, c_o (G147 hS), bs, k_nameOf hS hR (by omega) (by omega), y1, xb_mk]
  unfold syN
  by_cases ch : hsN (tB fs s.2.2.1 t) j = true
  · obtain ⟨x, hx, _, _⟩ := plc_ix (y2 ch)
    have hl := (List.getElem?_eq_some_iff.mp hx).1
    obtain ⟨w1, w2, w3, w4⟩ := CLm_at h.2.2.2.1.2.1 hx
    rw [if_pos ch, skE_n (n1 ch), z3]
    have hv := hc.2.2.1 _ hl
    generalize plc (yT (tB fs s.2.2.1 t) j) (xs.map Prod.fst) = P at *
    cases th with
    | false =>
      have hv := hv 0 (by decide)
      show (if bI false = 0 then (xgI (cH sk L τ) 5 15 (pN τ 149 P)).bind _ else (xgI (cH sk L τ) 5 16 (pN τ 149 P)).bind _) = _
      rw [if_pos (show bI false = 0 from rfl), C5g15 w3, bs, hv, if_neg (show ¬ false = true by decide)]
    | true =>
      have hv := hv 1 (by decide)
      show (if bI true = 0 then (xgI (cH sk L τ) 5 15 (pN τ 149 P)).bind _ else (xgI (cH sk L τ) 5 16 (pN τ 149 P)).bind _) = _
      rw [if_neg (show ¬ bI true = 0 by decide), C5g16 w3, bs, hv, if_pos rfl]
  · rw [if_neg ch, skE_l (n2 ch)]
    have hv := hc.2.2.2 (zz t j th) (by unfold zz at *; split <;> omega) (n2 ch)
    show ((xgR (cH sk L τ) 2 10 1700).bind _) = _
    rw [C2r10 o (GR_r (v := 1709) hR (by decide)), bs, c_o o, bs, k_slotKey hS hR (by omega) (by omega), xb_mk, c_aI (G1709 hS) (by decide) (by decide) (z4 (by omega)), bs, hv]
end CSL
end
section
/-! what stays while slots are found -/
def frSl (τ τ' : px_TT) : Prop := frLy τ τ' ∧ (∀ k, fI τ' 1697 k = fI τ 1697 k) ∧ (∀ k, k ≠ 12 → fI τ' 1700 k = fI τ 1700 k) ∧ (∀ a, a ≠ 1708 → a ≠ 1709 → eI τ' a = eI τ a) ∧ (∀ a, eN τ' a = eN τ a) ∧ (∀ a, eJ τ' a = eJ τ a) ∧ ∀ a k, (a ≠ 1700 ∨ k ≠ 13) → fJ τ' a k = fJ τ a k
theorem frSl_refl {τ : px_TT} : frSl τ τ := ⟨frLy_refl, fun _ => rfl, fun _ _ => rfl, fun _ _ _ => rfl, fun _ => rfl, fun _ => rfl, fun _ _ _ => rfl⟩
theorem frSl_trans {τ τ1 τ2 : px_TT} (h : frSl τ τ1) (g : frSl τ1 τ2) : frSl τ τ2 := ⟨frLy_trans h.1 g.1, fun k => (g.2.1 k).trans (h.2.1 k), fun k x => (g.2.2.1 k x).trans (h.2.2.1 k x), fun a x y => (g.2.2.2.1 a x y).trans (h.2.2.2.1 a x y), fun a => (g.2.2.2.2.1 a).trans (h.2.2.2.2.1 a), fun a => (g.2.2.2.2.2.1 a).trans (h.2.2.2.2.2.1 a), fun a k x => (g.2.2.2.2.2.2 a k x).trans (h.2.2.2.2.2.2 a k x)⟩
theorem frSl_12 {τ : px_TT} {v : Int32} : frSl τ (tI τ 1700 12 v) := ⟨frLy_I (Or.inr (Or.inl rfl)), fun k => tI_ne (Or.inl (by decide)), fun k h => tI_ne (Or.inr h), fun _ _ _ => rfl, fun _ => rfl, fun _ => rfl, fun _ _ _ => rfl⟩
theorem frSl_p {τ : px_TT} {p k : Nat} {v : Int32} (h : 1815 ≤ p ∧ (k = 15 ∨ k = 16)) : frSl τ (tI τ p k v) := ⟨frLy_I (Or.inr (Or.inr h)), fun j => tI_ne (Or.inl (by omega)), fun j _ => tI_ne (Or.inl (by omega)), fun _ _ _ => rfl, fun _ => rfl, fun _ => rfl, fun _ _ _ => rfl⟩
theorem frSl_v {τ : px_TT} {a : Nat} {g : Nat → Int32} (h : a = 1708 ∨ a = 1709) : frSl τ (vI τ a g) := ⟨frLy_vI (by omega), fun _ => rfl, fun _ _ => rfl, fun b h1 h2 => eI_v_ne (by omega), fun _ => rfl, fun _ => rfl, fun _ _ _ => rfl⟩
theorem frSl_13 {τ : px_TT} {v : Int64} : frSl τ (tJ τ 1700 13 v) := ⟨frLy_J (Or.inr (Or.inl rfl)), fun _ => rfl, fun _ _ => rfl, fun _ _ _ => rfl, fun _ => rfl, fun _ => rfl, fun a k h => tJ_ne h⟩
theorem COr_Sl {τ τ' : px_TT} {ll : List Nat} (h : COr τ ll) (f : frSl τ τ') : COr τ' ll := COr_fx h (f.2.2.1 11 (by decide)) (f.2.2.2.2.1 1701)
theorem CPl_Sl {τ τ' : px_TT} {C : Nat → Nat} {l : List Nat} (h : CPl τ C l) (f : frSl τ τ') : CPl τ' C l := CPl_fx h (f.2.1 3) (f.2.1 4) (f.2.2.2.1 1698 (by decide) (by decide)) (f.2.2.2.1 1699 (by decide) (by decide))
end
section
/-! findSlot of the class -/
section CSM
variable {F : Nat} {c : px_CT} {sk : Nat → Nat × Nat × Nat} {L : Nat} {τ : px_TT} {own : Nat → Nat × Nat} {fs : px_FS} {s : px_TK} {xs : px_NL} {ST rn : Nat → Bool} {t i j : Nat} {th : Bool} {sl : List Nat}
/-- a name's slot, or a local symbol's, has been written -/
theorem SLc_add {T z : Nat} {tb : Nat → Nat → Nat} {τ τ' : px_TT} (hc : SLc T tb xs τ sl) (hno : ixB (skE tb xs z) 0 sl = none) (e12 : fI τ' 1700 12 = nI (sl.length + 1)) (e08 : eI τ' 1708 = upd (eI τ 1708) sl.length (nI z)) (eP : ∀ P, pN τ' 149 P = pN τ 149 P) (hn : ∀ P, nmZ tb xs z = some P → P < xs.length ∧ fI τ' (pN τ 149 P) (15 + z % 2) = nI (sl.length + 1)) (hn2 : ∀ P, P < xs.length → ∀ th, th < 2 → ¬ (nmZ tb xs z = some P ∧ th = z % 2) → fI τ' (pN τ 149 P) (15 + th) = fI τ (pN τ 149 P) (15 + th)) (hl : nmZ tb xs z = none → eI τ' 1709 = upd (eI τ 1709) z (nI (sl.length + 1))) (hl2 : nmZ tb xs z ≠ none → eI τ' 1709 = eI τ 1709) : SLc T tb xs τ' (sl ++ [z]) := by
  refine ⟨by rw [List.length_append, List.length_singleton]; exact e12, fun k y hy => ?_, fun P hP th hth => ?_, fun y hy hny => ?_⟩
  · rw [e08]
    by_cases ck : k < sl.length
    · rw [List.getElem?_append_left ck] at hy
      rw [upd_ne (by omega)]
      exact hc.2.1 k y hy
    · have ek : k = sl.length := by
        have := (List.getElem?_eq_some_iff.mp hy).1
        rw [List.length_append, List.length_singleton] at this
        omega
      rw [ek, List.getElem?_append_right (Nat.le_refl _), Nat.sub_self] at hy
      have hy : z = y := Option.some.inj hy
      rw [ek, upd_eq, hy]
  · rw [eP, sNo_app]
    by_cases cz : nmZ tb xs z = some P ∧ th = z % 2
    · have hno2 := hno
      rw [skE_n cz.1, ← cz.2] at hno2
      rw [hno2, if_neg (by decide), if_pos (show pnB tb xs P th z = true by unfold pnB; rw [decide_eq_true cz.1, decide_eq_true cz.2.symm]; rfl), cz.2]
      exact (hn P cz.1).2
    · rw [hn2 P hP th hth cz, hc.2.2.1 P hP th hth]
      congr 1
      cases e : ixB (pnB tb xs P th) 0 sl with
      | some i => rfl
      | none =>
        rw [if_neg (by decide), if_neg (fun q => by
          unfold pnB at q
          rw [Bool.and_eq_true] at q
          exact cz ⟨of_decide_eq_true q.1, (of_decide_eq_true q.2).symm⟩)]
        exact sNo_0.mpr e
  · rw [sNo_app]
    by_cases cz : nmZ tb xs z = none
    · rw [hl cz]
      by_cases ey : y = z
      · have hno2 := hno
        rw [skE_l cz, ← ey] at hno2
        rw [hno2, if_neg (by decide), if_pos (by rw [ey]; exact decide_eq_true rfl), ey, upd_eq]
      · rw [upd_ne ey, hc.2.2.2 y hy hny]
        congr 1
        cases e : ixB (fun v => decide (v = y)) 0 sl with
        | some i => rfl
        | none =>
          rw [if_neg (by decide), if_neg (fun q => ey (of_decide_eq_true q).symm)]
          exact sNo_0.mpr e
    · rw [hl2 cz, hc.2.2.2 y hy hny]
      congr 1
      cases e : ixB (fun v => decide (v = y)) 0 sl with
      | some i => rfl
      | none =>
        rw [if_neg (by decide), if_neg (fun q => by
          have q : z = y := of_decide_eq_true q
          rw [q] at cz
          exact cz hny)]
        exact sNo_0.mpr e
theorem k_fs_101 (h : TKe sk L own τ fs s xs ST rn) (hc : SLc s.2.2.1.length (tB fs s.2.2.1) xs τ sl) (hN : SLN s.2.2.1.length (tB fs s.2.2.1)) (hI : SLI s.2.2.1.length (tB fs s.2.2.1) sl) (ht : t < s.2.2.1.length) (hj : j < oM (tB fs s.2.2.1 t)) : ∃ τ', f_Layout_findSlot_101 F c 1700 (nI t) (bI th) (nI j) (cH sk L τ) = some ((), cH sk L τ') ∧ SLc s.2.2.1.length (tB fs s.2.2.1) xs τ' (sl1 (tB fs s.2.2.1) xs (zz t j th) sl) ∧ frSl τ τ' := by
  obtain ⟨q, q1, q2, hD, hcb, he, hp, hRS, h89⟩ := TKe_ob h ht
  obtain ⟨hyo, hS24, hM64⟩ := TKe_ys h t ht
  have hS := h.1
  have hR := h.2.1
  have hT := BK_T (s := s) h.2.2.2.2.1.1
  have o := G1700 hS
  obtain ⟨y1, y2⟩ := hRS j (by omega)
  obtain ⟨z1, z2, z3, z4⟩ := zz_m (t := t) (th := th) (show j < 64 by omega)
  obtain ⟨n1, n2⟩ := nmZ_z (xs := xs) (tb := tB fs s.2.2.1) (t := t) (th := th) (show j < 64 by omega) hj
  have hz8 := z4 (by omega)
  have hsl := hN sl hI
  have hzv : zz t j th / 2 / 64 < s.2.2.1.length ∧ zz t j th / 2 % 64 < oM (tB fs s.2.2.1 (zz t j th / 2 / 64)) := by rw [z1, z2]; exact ⟨ht, hj⟩
  have hsn := sNo_le (p := skE (tB fs s.2.2.1) xs (zz t j th)) (sl := sl)
  unfold f_Layout_findSlot_101 f_Layout_findSlot_214 sl1
  rw [c_o o, bs, k_slotOf h hc ht hj, xb_mk]
  cases ei : ixB (skE (tB fs s.2.2.1) xs (zz t j th)) 0 sl with
  | some p =>
    rw [if_neg (show ¬ nI (sNo (skE (tB fs s.2.2.1) xs (zz t j th)) sl) = 0 from fun w => by
      have := (nI_eq (b := 0) (by omega) (by decide)).mp w
      rw [sNo_0.mp this] at ei
      cases ei), if_pos (show (some p).isSome = true from rfl)]
    exact ⟨τ, rfl, hc, frSl_refl⟩
  | none =>
    rw [if_pos (show nI (sNo (skE (tB fs s.2.2.1) xs (zz t j th)) sl) = 0 by rw [sNo_0.mpr ei]; rfl), if_neg (by decide), C2g12 o, bs, hc.1, C2r9 o (GR_r (v := 1708) hR (by decide)), bs, c_l (G1708 hS) (by decide), bs, if_neg (nI_ge (by omega) (by omega)), c_o o, bs, k_slotKey hS hR (by omega) (by omega), xb_mk, C2r9 o (GR_r (v := 1708) hR (by decide)), bs, C2g12 o, bs, hc.1, c_sI (G1708 hS) (by decide) (by decide) (by omega), bs]
    obtain ⟨z, hz⟩ : ∃ z, z = zz t j th := ⟨_, rfl⟩
    rw [← hz] at n1 n2 z3 hz8 ei ⊢
    obtain ⟨τ1, hτ1⟩ : ∃ x, x = vI τ 1708 (upd (eI τ 1708) sl.length (nI z)) := ⟨_, rfl⟩
    have e1 : fI τ1 1700 12 = nI sl.length := by rw [hτ1]; exact hc.1
    rw [← hτ1, C2g12 o, bs, e1, nI_add, C2p12 o, bs]
    obtain ⟨τ2, hτ2⟩ : ∃ x, x = tI τ1 1700 12 (nI (sl.length + 1)) := ⟨_, rfl⟩
    rw [← hτ2]
    have f2 : frSl τ τ2 := by rw [hτ2, hτ1]; exact frSl_trans (frSl_v (by decide)) frSl_12
    have h2 := TKe_Ly h f2.1
    have hR2 := h2.2.1
    have e12 : fI τ2 1700 12 = nI (sl.length + 1) := by rw [hτ2, tI_at]
    have e08 : eI τ2 1708 = upd (eI τ 1708) sl.length (nI z) := by rw [hτ2, hτ1]; exact eI_v_eq
    have e09 : eI τ2 1709 = eI τ 1709 := by rw [hτ2, hτ1]; exact eI_v_ne (by decide)
    have eN2 : eN τ2 1692 = eN τ 1692 := f2.1.2.2.2.2.2.2.2 1692 (by decide)
    have eP2 : ∀ P, pN τ2 149 P = pN τ 149 P := fun P => by unfold pN; rw [f2.1.2.2.2.2.2.2.2 149 (by decide)]
    have eI2 : ∀ a k, (a ≠ 1700 ∨ k ≠ 12) → fI τ2 a k = fI τ a k := fun a k w => by rw [hτ2, tI_ne w, hτ1]; rfl
    have hge : ∀ P, P < xs.length → 1815 ≤ pN τ 149 P := fun P hP => (h.2.2.2.1.1 149 P _ (Or.inr (Or.inr rfl)) (CLm_at h.2.2.2.1.2.1 (List.getElem?_eq_getElem hP)).2.1).1
    rw [C2r0 o (GR_r (v := 147) hR2 (by decide)), bs, c_o (G147 hS), bs, k_nameOf hS hR2 (by omega) (by omega), eN2, y1, xb_mk]
    unfold syN
    by_cases ch : hsN (tB fs s.2.2.1 t) j = true
    · obtain ⟨x, hx, _, _⟩ := plc_ix (y2 ch)
      have hPl := (List.getElem?_eq_some_iff.mp hx).1
      obtain ⟨w1, w2, w3, w4⟩ := CLm_at h.2.2.2.1.2.1 hx
      have n1 := n1 ch
      rw [if_pos ch]
      obtain ⟨P, hP⟩ : ∃ P, P = plc (yT (tB fs s.2.2.1 t) j) (xs.map Prod.fst) := ⟨_, rfl⟩
      rw [← hP] at hx hPl w2 w3 n1 ⊢
      obtain ⟨kf, hkf⟩ : ∃ kf, kf = 15 + z % 2 := ⟨_, rfl⟩
      have fin : ∀ τ3, τ3 = tI τ2 (pN τ 149 P) (15 + z % 2) (nI (sl.length + 1)) → SLc s.2.2.1.length (tB fs s.2.2.1) xs τ3 (sl ++ [z]) ∧ frSl τ τ3 := fun τ3 hτ3 => by
        have f3 : frSl τ2 τ3 := by rw [hτ3]; exact frSl_p ⟨hge P hPl, by omega⟩
        refine ⟨SLc_add hc ei (by rw [hτ3, tI_ne (Or.inl (by have := hge P hPl; omega))]; exact e12) (by rw [hτ3]; exact e08) (fun P' => by rw [hτ3]; exact eP2 P') (fun P' hP' => ?_) (fun P' hP' th' hth' hne => ?_) (fun w => by rw [n1] at w; cases w) (fun _ => by rw [hτ3]; exact e09), frSl_trans f2 f3⟩
        · rw [n1] at hP'
          have hP' : P = P' := Option.some.inj hP'
          rw [← hP']
          exact ⟨hPl, by rw [hτ3, tI_at]⟩
        · rw [hτ3]
          have hne2 : pN τ 149 P' ≠ pN τ 149 P ∨ 15 + th' ≠ 15 + z % 2 := by
            by_cases c1 : P' = P
            · right
              intro w
              exact hne ⟨by rw [n1, c1], by omega⟩
            · left
              exact NP_ne h.2.2.2.1.1 (Or.inr (Or.inr rfl)) (Or.inr (Or.inr rfl)) (CLm_at h.2.2.2.1.2.1 (List.getElem?_eq_getElem hP')).2.1 w2 (fun w => c1 w.2)
          rw [tI_ne hne2, eI2 _ _ (Or.inl (by have := hge P' hP'; omega))]
      cases th with
      | false =>
        have hz2 : z % 2 = 0 := by rw [z3, if_neg (by decide)]
        show ∃ τ', (if bI false = 0 then (xgI (cH sk L τ2) 2 12 1700).bind _ else (xgI (cH sk L τ2) 2 12 1700).bind _) = _ ∧ _
        rw [if_pos (show bI false = 0 from rfl), C2g12 o, bs, e12, C5p15 w3, bs]
        exact ⟨_, rfl, fin _ (by rw [hz2])⟩
      | true =>
        have hz2 : z % 2 = 1 := by rw [z3, if_pos rfl]
        show ∃ τ', (if bI true = 0 then (xgI (cH sk L τ2) 2 12 1700).bind _ else (xgI (cH sk L τ2) 2 12 1700).bind _) = _ ∧ _
        rw [if_neg (show ¬ bI true = 0 by decide), C2g12 o, bs, e12, C5p16 w3, bs]
        exact ⟨_, rfl, fin _ (by rw [hz2])⟩
    · have n2 := n2 ch
      rw [if_neg ch]
      show ∃ τ', ((xgR (cH sk L τ2) 2 10 1700).bind _) = _ ∧ _
      rw [C2r10 o (GR_r (v := 1709) hR2 (by decide)), bs, C2g12 o, bs, e12, c_sI (G1709 hS) (by decide) (by decide) hz8, bs]
      refine ⟨_, rfl, SLc_add hc ei e12 (by rw [← e08]; exact eI_v_ne (by decide)) (fun P => eP2 P) (fun P hP => by rw [n2] at hP; cases hP) (fun P hP th' _ _ => eI2 _ _ (Or.inl (by have := hge P hP; omega))) (fun _ => by rw [← e09]; exact eI_v_eq) (fun w => absurd n2 w), frSl_trans f2 (frSl_v (by decide))⟩
end CSM
end
section
/-! findSlots of the class: its loops -/
section CSN
variable {F : Nat} {c : px_CT} {sk : Nat → Nat × Nat × Nat} {L : Nat} {τ : px_TT} {own : Nat → Nat × Nat} {fs : px_FS} {s : px_TK} {xs : px_NL} {ST rn : Nat → Bool} {t i j : Nat} {sl : List Nat}
theorem zz_zOf {k how : Nat} : zz t k (decide (how = 22)) = zOf t k how := by
  unfold zz zOf
  by_cases e : how = 22
  · rw [decide_eq_true e, if_pos rfl, if_pos e]
  · rw [decide_eq_false e, if_neg (show ¬ false = true by decide), if_neg e]
theorem k_findSlot (h : TKe sk L own τ fs s xs ST rn) (hk : STk fs s ST) (hF : 8 < F) (hW : WP s.2.2.1.length (tB fs s.2.2.1) s.2.1.1 xs) (hc : SLc s.2.2.1.length (tB fs s.2.2.1) xs τ sl) (hN : SLN s.2.2.1.length (tB fs s.2.2.1)) (hI : SLI s.2.2.1.length (tB fs s.2.2.1) sl) (ht : t < s.2.2.1.length) (hi : i < oS (tB fs s.2.2.1 t)) (hs : isS (tB fs s.2.2.1 t) i = true) (hst : ST (24 * t + oI (tB fs s.2.2.1 t) i) = true) (hj : j < sN (tB fs s.2.2.1 t) i) : ∃ τ', f_Layout_findSlot F c 1700 (nI t) (nI (sP (tB fs s.2.2.1 t) i j)) (some (152 + (24 * t + oI (tB fs s.2.2.1 t) i))) (cH sk L τ) = some ((), cH sk L τ') ∧ SLc s.2.2.1.length (tB fs s.2.2.1) xs τ' (fsJ (tB fs s.2.2.1) s.2.1.1 xs t i j sl) ∧ SLI s.2.2.1.length (tB fs s.2.2.1) (fsJ (tB fs s.2.2.1) s.2.1.1 xs t i j sl) ∧ frSl τ τ' := by
  obtain ⟨q, q1, q2, hD, hcb, he, hp, hRS, h89⟩ := TKe_ob h ht
  have hS := h.1
  have hR := h.2.1
  have o := G1700 hS
  have o147 := G147 hS
  have oq := hD.1.1.1.1.1
  have hT := BK_T (s := s) h.2.2.2.2.1.1
  obtain ⟨hyo, hS24, hM64⟩ := TKe_ys h t ht
  obtain ⟨hpl, hy⟩ := s_place he hi hs hj
  obtain ⟨s1, s2, s3, s4⟩ := k_site (F := F) (c := c) hD hF hcb hpl
  have hsit := eSit_0 he (isS_1 he hs) hi hs
  have hH := wd_42 (sOK_0w (hsit.2.2.2.2.2 j hj)).1
  have kob := k_object (F := F) (c := c) h q1
  have ksh := k_isShort (F := F) (c := c) h hk hF hW ht hi hs hst hj
  have k101 : ∀ th, ∃ τ', f_Layout_findSlot_101 F c 1700 (nI t) (bI th) (nI (sY (tB fs s.2.2.1 t) i j)) (cH sk L τ) = some ((), cH sk L τ') ∧ SLc s.2.2.1.length (tB fs s.2.2.1) xs τ' (sl1 (tB fs s.2.2.1) xs (zz t (sY (tB fs s.2.2.1 t) i j) th) sl) ∧ frSl τ τ' := fun th => k_fs_101 h hc hN hI ht hy
  have hSLI : ∀ th, SLI s.2.2.1.length (tB fs s.2.2.1) (sl1 (tB fs s.2.2.1) xs (zz t (sY (tB fs s.2.2.1 t) i j) th) sl) := fun th => by
    obtain ⟨z1, z2, _, _⟩ := zz_m (t := t) (th := th) (show sY (tB fs s.2.2.1 t) i j < 64 by omega)
    exact (SLI_1 hI (by rw [z1, z2]; exact ⟨ht, hy⟩)).1
  have hsk0 : ¬ (sH (tB fs s.2.2.1 t) i j = 41 ∨ sH (tB fs s.2.2.1 t) i j = 42) → skY (tB fs s.2.2.1) s.2.1.1 xs t i j = 0 := fun w => by unfold skY; rw [if_neg (fun v => w v.1)]
  have zq : ∀ th, th = decide (sH (tB fs s.2.2.1 t) i j = 22) → zz t (sY (tB fs s.2.2.1 t) i j) th = zOf t (sY (tB fs s.2.2.1 t) i j) (sH (tB fs s.2.2.1 t) i j) := fun th e => by rw [e]; exact zz_zOf
  have yes : isSl (sH (tB fs s.2.2.1 t) i j) = true → skY (tB fs s.2.2.1) s.2.1.1 xs t i j = 0 → fsJ (tB fs s.2.2.1) s.2.1.1 xs t i j sl = sl1 (tB fs s.2.2.1) xs (zOf t (sY (tB fs s.2.2.1 t) i j) (sH (tB fs s.2.2.1 t) i j)) sl := fun a b => by unfold fsJ; rw [if_pos ⟨a, b⟩]
  have non : ¬ (isSl (sH (tB fs s.2.2.1 t) i j) = true ∧ skY (tB fs s.2.2.1) s.2.1.1 xs t i j = 0) → fsJ (tB fs s.2.2.1) s.2.1.1 xs t i j sl = sl := fun a => by unfold fsJ; rw [if_neg a]
  unfold f_Layout_findSlot
  rw [C2r0 o (GR_r (v := 147) hR (by decide)), bs, c_o o147, bs, kob, xb_mk, bs, c_o oq, bs, nI_add, s2, xb_mk, lN_i]
  generalize sH (tB fs s.2.2.1 t) i j = H at *
  generalize skY (tB fs s.2.2.1) s.2.1.1 xs t i j = K at *
  generalize fsJ (tB fs s.2.2.1) s.2.1.1 xs t i j sl = J at *
  generalize sY (tB fs s.2.2.1 t) i j = Y at *
  generalize sP (tB fs s.2.2.1 t) i j = X at *
  have e76 : ∀ (th v : Bool), f_Layout_findSlot_76 F c 1700 (nI t) (nI X) (some (10 + 2 * q)) (bI th) (bI v) (cH sk L τ) = if (th || v) = true then f_Layout_findSlot_101 F c 1700 (nI t) (bI th) (nI Y) (cH sk L τ) else some ((), cH sk L τ) := fun th v => by
    unfold f_Layout_findSlot_76 f_Layout_findSlot_214
    rw [bs, c_o oq, bs, nI_add, s3, xb_mk, lN_i]
    cases th with
    | true => rw [if_neg (show ¬ bI true = 0 by decide), Bool.true_or, if_pos rfl]
    | false =>
      rw [if_pos (show bI false = 0 from rfl), Bool.false_or]
      cases v with
      | true => rw [if_neg (show ¬ bI true = 0 by decide), if_pos rfl]
      | false => rw [if_pos (show bI false = 0 from rfl), if_neg (by decide)]
  have fin : ∀ (th : Bool) (ph : Option (Unit × px_H)), th = decide (H = 22) → ph = f_Layout_findSlot_101 F c 1700 (nI t) (bI th) (nI Y) (cH sk L τ) → isSl H = true → K = 0 → ∃ τ', ph = some ((), cH sk L τ') ∧ SLc s.2.2.1.length (tB fs s.2.2.1) xs τ' J ∧ SLI s.2.2.1.length (tB fs s.2.2.1) J ∧ frSl τ τ' := fun th ph e1 e2 e3 e4 => by
    obtain ⟨τ', a1, a2, a3⟩ := k101 th
    have hsi := hSLI th
    rw [zq th e1, ← yes e3 e4] at a2 hsi
    exact ⟨τ', by rw [e2]; exact a1, a2, hsi, a3⟩
  have fino : ∀ (ph : Option (Unit × px_H)), ph = some ((), cH sk L τ) → ¬ (isSl H = true ∧ K = 0) → ∃ τ', ph = some ((), cH sk L τ') ∧ SLc s.2.2.1.length (tB fs s.2.2.1) xs τ' J ∧ SLI s.2.2.1.length (tB fs s.2.2.1) J ∧ frSl τ τ' := fun ph e1 e2 => by
    rw [non e2]
    exact ⟨τ, e1, hc, hI, frSl_refl⟩
  have eN1 : ∀ v, v < 2 ^ 31 → ((nI H = nI v) ↔ H = v) := fun v hv => nI_eq (by omega) hv
  unfold f_Layout_findSlot_35 f_Layout_findSlot_58 f_Layout_findSlot_71 f_Layout_findSlot_75
  by_cases c22 : H = 22
  · rw [if_pos ((eN1 22 (by decide)).mpr c22), if_neg (fun w => by have := (eN1 9 (by decide)).mp w; omega), if_neg (fun w => by have := (eN1 41 (by decide)).mp w; omega), if_neg (fun w => by have := (eN1 42 (by decide)).mp w; omega)]
    exact fin true _ (decide_eq_true c22).symm (by have := e76 true false; rw [Bool.true_or, if_pos rfl] at this; exact this) (decide_eq_true (by omega)) (hsk0 (by omega))
  · rw [if_neg (fun w => c22 ((eN1 22 (by decide)).mp w))]
    have d22 : false = decide (H = 22) := (decide_eq_false c22).symm
    have e101 := e76 false true
    rw [Bool.false_or, if_pos rfl] at e101
    have e214 := e76 false false
    rw [Bool.false_or, if_neg (by decide)] at e214
    by_cases c9 : H = 9
    · rw [if_pos ((eN1 9 (by decide)).mpr c9)]
      exact fin false _ d22 e101 (decide_eq_true (by omega)) (hsk0 (by omega))
    · rw [if_neg (fun w => c9 ((eN1 9 (by decide)).mp w))]
      have sh : (H = 41 ∨ H = 42) → ∃ τ', ((xgR (cH sk L τ) 2 0 1700).bind fun t1 => (xo (cH sk L τ) 3 t1).bind fun _ => xb (f_Link_isShort F c t1 (nI t) (nI X) (some (152 + (24 * t + oI (tB fs s.2.2.1 t) i))) (cH sk L τ)) fun t2 ph3 => if t2 = 0 then f_Layout_findSlot_76 F c 1700 (nI t) (nI X) (some (10 + 2 * q)) (nI 0) (nI 1) ph3 else f_Layout_findSlot_76 F c 1700 (nI t) (nI X) (some (10 + 2 * q)) (nI 0) (nI 0) ph3) = some ((), cH sk L τ') ∧ SLc s.2.2.1.length (tB fs s.2.2.1) xs τ' J ∧ SLI s.2.2.1.length (tB fs s.2.2.1) J ∧ frSl τ τ' := fun w => by
        rw [C2r0 o (GR_r (v := 147) hR (by decide)), bs, c_o o147, bs, ksh, xb_mk]
        by_cases cK : K = 0
        · rw [decide_eq_false (fun v => v cK), if_pos (show bI false = 0 from rfl)]
          exact fin false _ d22 e101 (decide_eq_true (by omega)) cK
        · rw [decide_eq_true cK, if_neg (show ¬ bI true = 0 by decide)]
          exact fino _ e214 (fun v => cK v.2)
      by_cases c41 : H = 41
      · rw [if_pos ((eN1 41 (by decide)).mpr c41)]
        exact sh (Or.inl c41)
      · rw [if_neg (fun w => c41 ((eN1 41 (by decide)).mp w))]
        by_cases c42 : H = 42
        · rw [if_pos ((eN1 42 (by decide)).mpr c42)]
          exact sh (Or.inr c42)
        · rw [if_neg (fun w => c42 ((eN1 42 (by decide)).mp w))]
          exact fino _ e214 (fun v => by have := of_decide_eq_true v.1; omega)
end CSN
end
section
/-! findSlots of the class, whole -/
section CSO
variable {F : Nat} {c : px_CT} {sk : Nat → Nat × Nat × Nat} {L : Nat} {τ : px_TT} {own : Nat → Nat × Nat} {fs : px_FS} {s : px_TK} {xs : px_NL} {ST rn : Nat → Bool} {t i q : Nat}
/-- what holds while slots are found -/
def FSs (sk : Nat → Nat × Nat × Nat) (L : Nat) (own : Nat → Nat × Nat) (fs : px_FS) (s : px_TK) (xs : px_NL) (ST rn : Nat → Bool) (τ : px_TT) (sl : List Nat) : Prop := TKe sk L own τ fs s xs ST rn ∧ SLc s.2.2.1.length (tB fs s.2.2.1) xs τ sl ∧ SLI s.2.2.1.length (tB fs s.2.2.1) sl
theorem k_fl_109 {k41 : Nat → Int32 → px_H → Option (Unit × px_H)} {k63 : Nat → Int32 → Option Nat → Int32 → px_H → Option (Unit × px_H)} (hk : STk fs s ST) (hF : 65536 < F) (hW : WP s.2.2.1.length (tB fs s.2.2.1) s.2.1.1 xs) (hN : SLN s.2.2.1.length (tB fs s.2.2.1)) (ht : t < s.2.2.1.length) (hi : i < oS (tB fs s.2.2.1 t)) (hs : isS (tB fs s.2.2.1 t) i = true) (hst : ST (24 * t + oI (tB fs s.2.2.1 t) i) = true) (hsN : sN (tB fs s.2.2.1 t) i < 2 ^ 30) : ∀ (d j f : Nat) (τ : px_TT) (sl : List Nat), j + d = sN (tB fs s.2.2.1 t) i → d < f → FSs sk L own fs s xs ST rn τ sl → ∃ τ', f_Layout_findSlots_109 F c k41 k63 f 1700 (nI t) (some (10 + 2 * q)) (nI i) (some (152 + (24 * t + oI (tB fs s.2.2.1 t) i))) (nI (sN (tB fs s.2.2.1 t) i)) (nI (oP (tB fs s.2.2.1 t) i)) (nI j) (cH sk L τ) = k63 1700 (nI t) (some (10 + 2 * q)) (nI (i + 1)) (cH sk L τ') ∧ FSs sk L own fs s xs ST rn τ' (itr (fsJ (tB fs s.2.2.1) s.2.1.1 xs t i) j d sl) ∧ frSl τ τ' := by
  intro d
  induction d with
  | zero =>
    intro j f τ sl hj hf h
    obtain ⟨f, rfl⟩ : ∃ x, f = x + 1 := ⟨f - 1, by omega⟩
    refine ⟨τ, ?_, h, frSl_refl⟩
    unfold f_Layout_findSlots_109 f_Layout_findSlots_137
    rw [if_pos (nI_le (by omega) (by omega)), nI_add]
  | succ d ih =>
    intro j f τ sl hj hf h
    obtain ⟨f, rfl⟩ : ∃ x, f = x + 1 := ⟨f - 1, by omega⟩
    obtain ⟨τ1, a1, a2, a3, a4⟩ := k_findSlot (F := F) (c := c) (j := j) h.1 hk (by omega) hW h.2.1 hN h.2.2 ht hi hs hst (by omega)
    obtain ⟨τ', j1, j2, j3⟩ := ih (j + 1) f τ1 _ (by omega) (by omega) ⟨TKe_Ly h.1 a4.1, a2, a3⟩
    refine ⟨τ', ?_, by rw [itr_s]; exact j2, frSl_trans a4 j3⟩
    unfold f_Layout_findSlots_109
    rw [if_neg (nI_ge (by omega) (by omega)), c_o (G1700 h.1.1), bs, pk_mul, nI_add, show oP (tB fs s.2.2.1 t) i + 24 * j = sP (tB fs s.2.2.1 t) i j from rfl, a1, xb_mk, nI_add]
    exact j1
theorem k_fl_63 {k41 : Nat → Int32 → px_H → Option (Unit × px_H)} (hk : STk fs s ST) (hF : 65536 < F) (hW : WP s.2.2.1.length (tB fs s.2.2.1) s.2.1.1 xs) (hN : SLN s.2.2.1.length (tB fs s.2.2.1)) (hq : s.2.2.1[t]? = some q) {sy : Nat → Nat → Bool} (hsy : ∀ i, i < oS (tB fs s.2.2.1 t) → isS (tB fs s.2.2.1 t) i = true → ST (24 * t + oI (tB fs s.2.2.1 t) i) = sy t (oI (tB fs s.2.2.1 t) i)) : ∀ (d i f : Nat) (τ : px_TT) (sl : List Nat), i + d = oS (tB fs s.2.2.1 t) → d < f → FSs sk L own fs s xs ST rn τ sl → ∃ τ', f_Layout_findSlots_63 F c k41 f 1700 (nI t) (some (10 + 2 * q)) (nI i) (cH sk L τ) = k41 1700 (nI (t + 1)) (cH sk L τ') ∧ FSs sk L own fs s xs ST rn τ' (itr (fsI (tB fs s.2.2.1) s.2.1.1 xs sy t) i d sl) ∧ frSl τ τ' := by
  have ht := (List.getElem?_eq_some_iff.mp hq).1
  intro d
  induction d with
  | zero =>
    intro i f τ sl hi hf h
    obtain ⟨f, rfl⟩ : ∃ x, f = x + 1 := ⟨f - 1, by omega⟩
    obtain ⟨q', q1, q2, hD, hcb, he, hp, hRS, h89⟩ := TKe_ob h.1 ht
    have eq' : q' = q := by rw [hq] at q1; exact (Option.some.inj q1).symm
    rw [eq'] at hD hcb q2
    have hS24 := (TKe_ys h.1 t ht).2.1
    refine ⟨τ, ?_, h, frSl_refl⟩
    unfold f_Layout_findSlots_63 f_Layout_findSlots_143
    rw [bs, C7g8 hD.1.1.1.1.1, bs, hD.1.1.1.2.2.2.2, hcb, if_pos (nI_le (by omega) (by omega)), nI_add]
  | succ d ih =>
    intro i f τ sl hi hf h
    obtain ⟨f, rfl⟩ : ∃ x, f = x + 1 := ⟨f - 1, by omega⟩
    obtain ⟨q', q1, q2, hD, hcb, he, hp, hRS, h89⟩ := TKe_ob h.1 ht
    have eq' : q' = q := by rw [hq] at q1; exact (Option.some.inj q1).symm
    rw [eq'] at hD hcb q2
    have hS24 := (TKe_ys h.1 t ht).2.1
    have hiS : i < oS (tB fs s.2.2.1 t) := by omega
    have oq := hD.1.1.1.1.1
    have kP := (cD_sec (F := F) (c := c) (s := i) hD (by omega) (by rw [hcb]; exact hiS)).2.2
    rw [hcb] at kP
    rw [itr_s]
    unfold f_Layout_findSlots_63
    rw [bs, C7g8 oq, bs, hD.1.1.1.2.2.2.2, hcb, if_neg (nI_ge hiS (by omega)), C2r0 (G1700 h.1.1) (GR_r (v := 147) h.1.2.1 (by decide)), bs, c_o (G147 h.1.1), bs, k_stayT h.1 (by omega) ht hiS, xb_mk]
    by_cases cs : isS (tB fs s.2.2.1 t) i = true ∧ ST (24 * t + oI (tB fs s.2.2.1 t) i) = true
    · obtain ⟨k1, k2, k3⟩ := k_sitesOf (F := F) (c := c) hD (by omega) hcb hiS cs.1
      have hz := (eSit_0 he (isS_1 he cs.1) hiS cs.1).2.2.2.1
      have hn : bsO fs q + tNf fs s.2.2.1 t ≤ 65536 := hD.1.1.1.1.2.2.2.2.2.2.2.2.1
      have hsN : sN (tB fs s.2.2.1 t) i < 65536 := by unfold sN; omega
      obtain ⟨τ1, b1, b2, b3⟩ := k_fl_109 (F := F) (c := c) (k41 := k41) (k63 := f_Layout_findSlots_63 F c k41 f) (q := q) hk hF hW hN ht hiS cs.1 cs.2 (by omega) (sN (tB fs s.2.2.1 t) i) 0 F τ sl (Nat.zero_add _) (by omega) h
      have efs : fsI (tB fs s.2.2.1) s.2.1.1 xs sy t i sl = itr (fsJ (tB fs s.2.2.1) s.2.1.1 xs t i) 0 (sN (tB fs s.2.2.1 t) i) sl := by
        unfold fsI
        rw [if_pos ⟨cs.1, by rw [← hsy i hiS cs.1]; exact cs.2⟩]
      rw [← efs] at b2
      obtain ⟨τ', j1, j2, j3⟩ := ih (i + 1) f τ1 _ (by omega) (by omega) b2
      refine ⟨τ', ?_, j2, frSl_trans b3 j3⟩
      rw [if_pos cs]
      show ((xo (cH sk L τ) 7 (10 + 2 * q)).bind _) = _
      rw [c_o oq, bs, k1, xb_mk]
      unfold f_Layout_findSlots_96
      rw [bs, c_o oq, bs, kP, xb_mk, lN_i, b1]
      exact j1
    · have efs : fsI (tB fs s.2.2.1) s.2.1.1 xs sy t i sl = sl := by
        unfold fsI
        rw [if_neg (fun w => cs ⟨w.1, by rw [hsy i hiS w.1]; exact w.2⟩)]
      obtain ⟨τ', j1, j2, j3⟩ := ih (i + 1) f τ sl (by omega) (by omega) h
      rw [efs]
      refine ⟨τ', ?_, j2, j3⟩
      rw [if_neg cs]
      show f_Layout_findSlots_96 F c k41 (f_Layout_findSlots_63 F c k41 f) 1700 (nI t) (some (10 + 2 * q)) (nI i) none (nI 0) (cH sk L τ) = _
      obtain ⟨F', rfl⟩ : ∃ x, F = x + 1 := ⟨F - 1, by omega⟩
      unfold f_Layout_findSlots_96
      rw [bs, c_o oq, bs, kP, xb_mk]
      unfold f_Layout_findSlots_109 f_Layout_findSlots_137
      rw [if_pos (show nI 0 ≤ nI 0 by decide), nI_add]
      exact j1
theorem fsI_0 {tb : Nat → Nat → Nat} {dr : Nat → Bool} {sy : Nat → Nat → Bool} {n : Nat} (he : eObj (tb t) n = 0) (sl : List Nat) : itr (fsI tb dr xs sy t) 0 (oS (tb t)) sl = fsT tb dr xs sy t sl := by
  have h1 := (eObj_0 he).1.1.2.1.1
  have e0 : fsI tb dr xs sy t 0 sl = sl := by
    unfold fsI
    rw [if_neg (fun w => by have := isS_1 he w.1; omega)]
  unfold fsT
  obtain ⟨m, hm⟩ : ∃ m, oS (tb t) = m + 1 := ⟨oS (tb t) - 1, by omega⟩
  rw [hm, itr_s, e0, Nat.add_sub_cancel]
theorem k_fl_41 (hk : STk fs s ST) (hF : 65536 < F) (hW : WP s.2.2.1.length (tB fs s.2.2.1) s.2.1.1 xs) (hN : SLN s.2.2.1.length (tB fs s.2.2.1)) {sy : Nat → Nat → Bool} (hsy : ∀ t, t < s.2.2.1.length → ∀ i, i < oS (tB fs s.2.2.1 t) → isS (tB fs s.2.2.1 t) i = true → ST (24 * t + oI (tB fs s.2.2.1 t) i) = sy t (oI (tB fs s.2.2.1 t) i)) : ∀ (d t f : Nat) (τ : px_TT) (sl : List Nat), t + d = s.2.2.1.length → d < f → FSs sk L own fs s xs ST rn τ sl → ∃ τ', f_Layout_findSlots_41 F c f 1700 (nI t) (cH sk L τ) = some ((), cH sk L τ') ∧ FSs sk L own fs s xs ST rn τ' (itr (fsT (tB fs s.2.2.1) s.2.1.1 xs sy) t d sl) ∧ frSl τ τ' := by
  intro d
  induction d with
  | zero =>
    intro t f τ sl ht hf h
    obtain ⟨f, rfl⟩ : ∃ x, f = x + 1 := ⟨f - 1, by omega⟩
    have hT := BK_T (s := s) h.1.2.2.2.2.1.1
    refine ⟨τ, ?_, h, frSl_refl⟩
    unfold f_Layout_findSlots_41 f_Layout_findSlots_149
    rw [C2r0 (G1700 h.1.1) (GR_r (v := 147) h.1.2.1 (by decide)), bs, C3g14 (G147 h.1.1), bs, h.1.2.2.2.1.2.2.1, if_pos (nI_le (by omega) (by omega))]
  | succ d ih =>
    intro t f τ sl ht hf h
    obtain ⟨f, rfl⟩ : ∃ x, f = x + 1 := ⟨f - 1, by omega⟩
    have hT := BK_T (s := s) h.1.2.2.2.2.1.1
    have htl : t < s.2.2.1.length := by omega
    obtain ⟨q, q1, q2, hD, hcb, he, hp, hRS, h89⟩ := TKe_ob h.1 htl
    have hS24 := (TKe_ys h.1 t htl).2.1
    obtain ⟨τ1, b1, b2, b3⟩ := k_fl_63 (F := F) (c := c) (k41 := f_Layout_findSlots_41 F c f) hk hF hW hN q1 (hsy t htl) (oS (tB fs s.2.2.1 t)) 0 F τ sl (Nat.zero_add _) (by omega) h
    rw [fsI_0 he] at b2
    obtain ⟨τ', j1, j2, j3⟩ := ih (t + 1) f τ1 _ (by omega) (by omega) b2
    refine ⟨τ', ?_, by rw [itr_s]; exact j2, frSl_trans b3 j3⟩
    unfold f_Layout_findSlots_41
    rw [C2r0 (G1700 h.1.1) (GR_r (v := 147) h.1.2.1 (by decide)), bs, C3g14 (G147 h.1.1), bs, h.1.2.2.2.1.2.2.1, if_neg (nI_ge htl (by omega)), bs, c_o (G147 h.1.1), bs, k_object h.1 q1, xb_mk, b1]
    exact j1
/-- the first N rows of the local symbols' slots are emptied -/
theorem k_fill9_10 {N : Nat} (hS : GS sk L) (hN : N ≤ 8192) : ∀ (d k f : Nat) (τ : px_TT), k + d = N → d < f → (∀ z, z < k → eI τ 1709 z = nI 0) → ∃ τ', f_Arrays_fill_10 F c f 1709 (nI N) (nI 0) (nI k) (cH sk L τ) = some ((), cH sk L τ') ∧ (∀ z, z < N → eI τ' 1709 z = nI 0) ∧ (∃ g, τ' = vI τ 1709 g) := by
  intro d
  induction d with
  | zero =>
    intro k f τ hk hf hz
    obtain ⟨f, rfl⟩ : ∃ x, f = x + 1 := ⟨f - 1, by omega⟩
    refine ⟨τ, ?_, fun z h => hz z (by omega), eI τ 1709, (vI_self τ 1709).symm⟩
    unfold f_Arrays_fill_10 f_Arrays_fill_27
    rw [if_pos (nI_le (by omega) (by omega))]
  | succ d ih =>
    intro k f τ hk hf hz
    obtain ⟨f, rfl⟩ : ∃ x, f = x + 1 := ⟨f - 1, by omega⟩
    obtain ⟨τ', j1, j2, g, j3⟩ := ih (k + 1) f (vI τ 1709 (upd (eI τ 1709) k (nI 0))) (by omega) (by omega) (fun z h => by
      rw [eI_v_eq]
      by_cases e : z = k
      · rw [e, upd_eq]
      · rw [upd_ne e]; exact hz z (by omega))
    refine ⟨τ', ?_, j2, g, by rw [j3, vI_vI]⟩
    unfold f_Arrays_fill_10
    rw [if_neg (nI_ge (by omega) (by omega)), c_sI (G1709 hS) (by decide) (by decide) (by omega), bs, nI_add]
    exact j1
theorem k_findSlots {rc : Bool} {R : Nat → Bool} (hr : STr fs s rc R ST) (hF : 65536 < F) (hW : WP s.2.2.1.length (tB fs s.2.2.1) s.2.1.1 xs) (hN : SLN s.2.2.1.length (tB fs s.2.2.1)) (h : TKe sk L own τ fs s xs ST rn) (hz : Z15 τ xs) : ∃ τ', f_Layout_findSlots F c 1700 (cH sk L τ) = some ((), cH sk L τ') ∧ FSs sk L own fs s xs ST rn τ' (slL s.2.2.1.length (tB fs s.2.2.1) s.2.1.1 xs (sta (tB fs s.2.2.1) s.2.1.1 rc R)) ∧ frSl τ τ' := by
  have hS := h.1
  have hR := h.2.1
  have o := G1700 hS
  have hT := BK_T (s := s) h.2.2.2.2.1.1
  obtain ⟨τ1, hτ1⟩ : ∃ x, x = tJ (tI τ 1700 12 (nI 0)) 1700 13 (lN 0) := ⟨_, rfl⟩
  have f1 : frSl τ τ1 := by rw [hτ1]; exact frSl_trans frSl_12 (frSl_13)
  obtain ⟨τ2, a1, a2, g, a3⟩ := k_fill9_10 (F := F) (c := c) (N := 128 * s.2.2.1.length) hS (by omega) (128 * s.2.2.1.length) 0 F τ1 (Nat.zero_add _) (by omega) (fun z hz => by omega)
  have f2 : frSl τ τ2 := frSl_trans f1 (by rw [a3]; exact frSl_v (by decide))
  have h2 := TKe_Ly h f2.1
  have hs2 : FSs sk L own fs s xs ST rn τ2 [] := by
    refine ⟨h2, ⟨?_, (fun i z hz => by rw [List.getElem?_nil] at hz; cases hz), fun P hP th hth => ?_, fun z hz _ => ?_⟩, List.Pairwise.nil, fun z hz => nomatch hz⟩
    · rw [a3]
      show fI τ1 1700 12 = _
      rw [hτ1]
      show fI (tI τ 1700 12 (nI 0)) 1700 12 = _
      rw [tI_at]; rfl
    · have ep : pN τ2 149 P = pN τ 149 P := by unfold pN; rw [f2.1.2.2.2.2.2.2.2 149 (by decide)]
      have hge := (h.2.2.2.1.1 149 P _ (Or.inr (Or.inr rfl)) (CLm_at h.2.2.2.1.2.1 (List.getElem?_eq_getElem hP)).2.1).1
      have ef : fI τ2 (pN τ 149 P) (15 + th) = fI τ (pN τ 149 P) (15 + th) := by
        rw [a3]
        show fI τ1 _ _ = _
        rw [hτ1]
        show fI (tI τ 1700 12 (nI 0)) _ _ = _
        rw [tI_ne (Or.inl (by omega))]
      rw [ep, ef]
      obtain ⟨z1, z2⟩ := hz P hP
      have hth : th = 0 ∨ th = 1 := by omega
      rcases hth with e | e
      · rw [e]; exact z1
      · rw [e]; exact z2
    · exact a2 z hz
  obtain ⟨τ3, b1, b2, b3⟩ := k_fl_41 (F := F) (c := c) (sy := sta (tB fs s.2.2.1) s.2.1.1 rc R) (STr_k hr) hF hW hN (fun t ht i hi his => by
    obtain ⟨q, q1, q2, hD, hcb, he, _⟩ := TKe_ob h ht
    have hoI := (eSit_0 he (isS_1 he his) hi his).1
    have h24 := (TKe_ys h t ht).2.1
    rw [hr _ (by omega), show (24 * t + oI (tB fs s.2.2.1 t) i) / 24 = t by omega, show (24 * t + oI (tB fs s.2.2.1 t) i) % 24 = oI (tB fs s.2.2.1 t) i by omega]
    unfold kpB sta
    rw [decide_eq_true hoI, Bool.true_and]) s.2.2.1.length 0 F τ2 [] (Nat.zero_add _) (by omega) hs2
  refine ⟨τ3, ?_, b2, frSl_trans f2 b3⟩
  have hR1 := GR_Ly hR f1.1
  unfold f_Layout_findSlots
  rw [C2p12 o, bs, C2p13 o, bs, ← hτ1, C2r10 o (GR_r (v := 1709) hR1 (by decide)), bs, C2r0 o (GR_r (v := 147) hR1 (by decide)), bs, C3g14 (G147 hS), bs, (f1.1.1 147 14 (by decide) (by decide) (by decide)).trans h.2.2.2.1.2.2.1, bs, c_l (G1709 hS) (by decide), bs, pk_mul, pk_mul, show 2 * s.2.2.1.length * 64 = 128 * s.2.2.1.length by omega, if_neg (nI_nlt (by omega) (by decide))]
  unfold f_Arrays_fill
  rw [c_l (G1709 hS) (by decide), bs]
  unfold f_Arrays_rangeCheck
  rw [if_pos (show nI 0 ≤ nI (128 * s.2.2.1.length) from nI_le (Nat.zero_le _) (by omega)), if_pos (show (0 : Int32) ≤ nI 0 by decide), if_pos (nI_le (by omega) (by decide)), xb_mk, a1, xb_mk]
  exact b1
end CSO
end
section
/-! findSegments of the class -/
def frSg (τ τ' : px_TT) : Prop := (∀ a k, fI τ' a k = fI τ a k) ∧ (∀ a k, fJ τ' a k = fJ τ a k) ∧ (∀ a k, fN τ' a k = fN τ a k) ∧ (∀ a, a ≠ 1703 → eI τ' a = eI τ a) ∧ (∀ a, eJ τ' a = eJ τ a) ∧ ∀ a, eN τ' a = eN τ a
theorem frSg_refl {τ : px_TT} : frSg τ τ := ⟨fun _ _ => rfl, fun _ _ => rfl, fun _ _ => rfl, fun _ _ => rfl, fun _ => rfl, fun _ => rfl⟩
theorem frSg_trans {τ τ1 τ2 : px_TT} (h : frSg τ τ1) (g : frSg τ1 τ2) : frSg τ τ2 := ⟨fun a k => (g.1 a k).trans (h.1 a k), fun a k => (g.2.1 a k).trans (h.2.1 a k), fun a k => (g.2.2.1 a k).trans (h.2.2.1 a k), fun a x => (g.2.2.2.1 a x).trans (h.2.2.2.1 a x), fun a => (g.2.2.2.2.1 a).trans (h.2.2.2.2.1 a), fun a => (g.2.2.2.2.2 a).trans (h.2.2.2.2.2 a)⟩
theorem frSg_Ly {τ τ' : px_TT} (f : frSg τ τ') : frLy τ τ' := ⟨fun a k _ _ _ => f.1 a k, fun a k _ _ _ => f.1 a k, fun a k _ _ _ _ => f.2.1 a k, fun a k _ _ => f.2.1 a k, f.2.2.1, fun a h => f.2.2.2.1 a (by omega), fun a _ => f.2.2.2.2.1 a, fun a _ => f.2.2.2.2.2 a⟩
theorem frSg_v {τ : px_TT} {g : Nat → Int32} : frSg τ (vI τ 1703 g) := ⟨fun _ _ => rfl, fun _ _ => rfl, fun _ _ => rfl, fun a h => eI_v_ne h, fun _ => rfl, fun _ => rfl⟩
/-- only the long row a has changed -/
def frFj (a : Nat) (τ τ' : px_TT) : Prop := (∀ x k, fI τ' x k = fI τ x k) ∧ (∀ x k, fJ τ' x k = fJ τ x k) ∧ (∀ x k, fN τ' x k = fN τ x k) ∧ (∀ x, eI τ' x = eI τ x) ∧ (∀ x, x ≠ a → eJ τ' x = eJ τ x) ∧ ∀ x, eN τ' x = eN τ x
theorem frFj_refl {a : Nat} {τ : px_TT} : frFj a τ τ := ⟨fun _ _ => rfl, fun _ _ => rfl, fun _ _ => rfl, fun _ => rfl, fun _ _ => rfl, fun _ => rfl⟩
theorem frFj_trans {a : Nat} {τ τ1 τ2 : px_TT} (h : frFj a τ τ1) (g : frFj a τ1 τ2) : frFj a τ τ2 := ⟨fun a k => (g.1 a k).trans (h.1 a k), fun a k => (g.2.1 a k).trans (h.2.1 a k), fun a k => (g.2.2.1 a k).trans (h.2.2.1 a k), fun a => (g.2.2.2.1 a).trans (h.2.2.2.1 a), fun a x => (g.2.2.2.2.1 a x).trans (h.2.2.2.2.1 a x), fun a => (g.2.2.2.2.2 a).trans (h.2.2.2.2.2 a)⟩
theorem frFj_v {a : Nat} {τ : px_TT} {g : Nat → Int64} : frFj a τ (vJ τ a g) := ⟨fun _ _ => rfl, fun _ _ => rfl, fun _ _ => rfl, fun _ => rfl, fun b hb => eJ_v_ne hb, fun _ => rfl⟩
theorem frFj_Ly {a : Nat} {τ τ' : px_TT} (f : frFj a τ τ') (h : 1704 ≤ a ∧ a ≤ 1707) : frLy τ τ' := ⟨fun a k _ _ _ => f.1 a k, fun a k _ _ _ => f.1 a k, fun a k _ _ _ _ => f.2.1 a k, fun a k _ _ => f.2.1 a k, f.2.2.1, fun a _ => f.2.2.2.1 a, fun b hb => f.2.2.2.2.1 b (by omega), fun a _ => f.2.2.2.2.2 a⟩
section CSG
variable {F : Nat} {c : px_CT} {sk : Nat → Nat × Nat × Nat} {L : Nat} {τ : px_TT} {own : Nat → Nat × Nat} {fs : px_FS} {s : px_TK} {xs : px_NL} {ST rn : Nat → Bool} {ll : List Nat}
/-- the parts that are laid out stay -/
def llS2 (s : px_TK) (ST : Nat → Bool) (ll : List Nat) : Prop := ll.length ≤ 1536 ∧ ∀ x, x ∈ ll → x < 24 * s.2.2.1.length ∧ ST x = true
theorem k_partAt {P x : Nat} (hS : GS sk L) (hR : GR τ) (ho : COr τ ll) (hl : ll.length ≤ 1536) (hx : ll[P]? = some x) : f_Layout_partAt F c 1700 (nI P) (cH sk L τ) = some (some (152 + x), cH sk L τ) := by
  have o := G1700 hS
  have hP := (List.getElem?_eq_some_iff.mp hx).1
  unfold f_Layout_partAt f_Layout_partAt_31 f_Layout_partAt_44
  rw [if_neg (show ¬ nI P < 0 from nI_nlt (b := 0) (Nat.zero_le _) (by omega)), C2g11 o, bs, ho.1, if_neg (nI_ge hP (by omega)), C2r2 o (GR_r (v := 1701) hR (by decide)), bs, c_l (G1701 hS) (by decide), bs, if_neg (nI_ge (by omega) (by omega)), bs, c_aN (G1701 hS) (by decide) (by decide) (by omega), bs, ho.2 P x hx]
theorem sgO_l : ∀ g, g < 6 → [0, 1, 2, 2, 2, 2].getD g 0 = sgO g ∧ sgO g < 3 := by decide
theorem k_segmentOf {p g : Nat} (hc : KT c) (hp : ob sk L 8 p) (hg : g < 6) (h4 : fI τ p 4 = nI g) : f_Layout_segmentOf F c 1700 (some p) (cH sk L τ) = some (nI (sgO g), cH sk L τ) := by
  unfold f_Layout_segmentOf f_Layout_segmentOf_30
  rw [bs, C8g4 hp, bs, h4, if_neg (show ¬ nI g < 0 from nI_nlt (b := 0) (Nat.zero_le _) (by omega)), bs, xkl_at hc.2.2.2.2.1.2 (by decide), bs, show [0, 1, 2, 2, 2, 2].length = 6 from rfl, if_neg (nI_ge hg (by decide)), bs, xkI_at hc.2.2.2.2.1.2 (by decide) hc.2.2.2.2.1.1 (by decide) (show g < [0, 1, 2, 2, 2, 2].length from hg), bs, (sgO_l g hg).1]
theorem k_fillJ {a : Nat} (ha : ar sk L 2 4 a) : ∀ (d k f : Nat) (τ : px_TT), k + d = 4 → d < f → (∀ i, i < k → eJ τ a i = lN 0) → ∃ τ', f_Arrays_fill_2_6 F c f a (lN 0) (nI k) (nI 4) (cH sk L τ) = some ((), cH sk L τ') ∧ (∀ i, i < 4 → eJ τ' a i = lN 0) ∧ frFj a τ τ' := by
  intro d
  induction d with
  | zero =>
    intro k f τ hk hf hz
    obtain ⟨f, rfl⟩ : ∃ x, f = x + 1 := ⟨f - 1, by omega⟩
    refine ⟨τ, ?_, fun i h => hz i (by omega), frFj_refl⟩
    unfold f_Arrays_fill_2_6 f_Arrays_fill_2_22
    rw [if_pos (nI_le (by omega) (by omega))]
  | succ d ih =>
    intro k f τ hk hf hz
    obtain ⟨f, rfl⟩ : ∃ x, f = x + 1 := ⟨f - 1, by omega⟩
    obtain ⟨τ', j1, j2, j3⟩ := ih (k + 1) f (vJ τ a (vp_updL (eJ τ a) k (lN 0))) (by omega) (by omega) (fun i h => by
      rw [eJ_v_eq]
      by_cases e : i = k
      · rw [e]; exact vp_eq
      · rw [vp_ne e]; exact hz i (by omega))
    refine ⟨τ', ?_, j2, frFj_trans frFj_v j3⟩
    unfold f_Arrays_fill_2_6
    rw [if_neg (nI_ge (by omega) (by omega)), c_sJ ha (by decide) (by omega), bs, nI_add]
    exact j1
/-- which segments are there, so far -/
def thV (τ : px_TT) (v : Nat → Bool) : Prop := ∀ i, i < 4 → eI τ 1703 i = bI (v i)
theorem thV_up {v : Nat → Bool} {i : Nat} {w : Bool} (h : thV τ v) : thV (vI τ 1703 (upd (eI τ 1703) i (bI w))) (fun k => if k = i then w else v k) := fun k hk => by
  rw [eI_v_eq]
  show _ = bI (if k = i then w else v k)
  by_cases e : k = i
  · rw [e, upd_eq, if_pos rfl]
  · rw [upd_ne e, if_neg e]; exact h k hk
theorem k_sg_26 (hS : GS sk L) : ∀ (d k f : Nat) (τ : px_TT), k + d = 4 → d < f → GR τ → (∀ i, i < k → eI τ 1703 i = bI false) → ∃ τ', f_Layout_findSegments_26 F c f 1700 (nI k) (cH sk L τ) = f_Layout_findSegments_44 F c 1700 (cH sk L τ') ∧ thV τ' (fun _ => false) ∧ frSg τ τ' := by
  intro d
  induction d with
  | zero =>
    intro k f τ hk hf hR hz
    obtain ⟨f, rfl⟩ : ∃ x, f = x + 1 := ⟨f - 1, by omega⟩
    refine ⟨τ, ?_, fun i h => hz i (by omega), frSg_refl⟩
    unfold f_Layout_findSegments_26
    rw [if_pos (nI_lt (by omega) (by omega))]
  | succ d ih =>
    intro k f τ hk hf hR hz
    obtain ⟨f, rfl⟩ : ∃ x, f = x + 1 := ⟨f - 1, by omega⟩
    have f1 : frSg τ (vI τ 1703 (upd (eI τ 1703) k (bI false))) := frSg_v
    obtain ⟨τ', j1, j2, j3⟩ := ih (k + 1) f _ (by omega) (by omega) (GR_Ly hR (frSg_Ly f1)) (fun i h => by
      rw [eI_v_eq]
      by_cases e : i = k
      · rw [e, upd_eq]
      · rw [upd_ne e]; exact hz i (by omega))
    refine ⟨τ', ?_, j2, frSg_trans f1 j3⟩
    unfold f_Layout_findSegments_26
    rw [if_neg (nI_nlt (by omega) (by omega)), C2r4 (G1700 hS) (GR_r (v := 1703) hR (by decide)), bs, show nI 0 &&& 1 = bI false from rfl, c_sI (G1703 hS) (by decide) (by decide) (by omega), bs, nI_add]
    exact j1
theorem k_fillA {a : Nat} (ha : ar sk L 2 4 a) (hF : 8 < F) : ∃ τ', f_Arrays_fill_2 F c a (lN 0) (cH sk L τ) = some ((), cH sk L τ') ∧ (∀ i, i < 4 → eJ τ' a i = lN 0) ∧ frFj a τ τ' := by
  obtain ⟨τ', j1, j2⟩ := k_fillJ (F := F) (c := c) ha 4 0 F τ rfl (by omega) (fun i h => by omega)
  refine ⟨τ', ?_, j2⟩
  unfold f_Arrays_fill_2
  rw [c_l ha (by decide), bs]
  exact j1
/-- one part -/
def sgX (tb : Nat → Nat → Nat) (x : Nat) (v : Nat → Bool) : Nat → Bool := fun i => v i || (if i = 3 then thr1 tb x else thx tb i x)
theorem thV_eq {v w : Nat → Bool} (h : thV τ v) (e : ∀ i, i < 4 → w i = v i) : thV τ w := fun i hi => by rw [e i hi]; exact h i hi
theorem k_sg_46 (hF : 65536 < F) (hc : KT c) (hk : STk fs s ST) (hl : llS2 s ST ll) : ∀ (d P f : Nat) (τ : px_TT) (v : Nat → Bool), P + d = ll.length → d < f → TKe sk L own τ fs s xs ST rn → COr τ ll → thV τ v → ∃ τ', f_Layout_findSegments_46 F c f 1700 (nI P) (cH sk L τ) = f_Layout_findSegments_112 F c 1700 (cH sk L τ') ∧ thV τ' (fun i => v i || (ll.drop P).any (fun x => if i = 3 then thr1 (tB fs s.2.2.1) x else thx (tB fs s.2.2.1) i x)) ∧ frSg τ τ' := by
  intro d
  induction d with
  | zero =>
    intro P f τ v hP hf h ho hv
    obtain ⟨f, rfl⟩ : ∃ x, f = x + 1 := ⟨f - 1, by omega⟩
    have h1 := hl.1
    refine ⟨τ, ?_, ?_, frSg_refl⟩
    · unfold f_Layout_findSegments_46
      rw [C2g11 (G1700 h.1), bs, ho.1, if_pos (nI_le (by omega) (by omega))]
    · rw [List.drop_of_length_le (by omega)]
      exact thV_eq hv (fun i _ => by rw [List.any_nil, Bool.or_false])
  | succ d ih =>
    intro P f τ v hP hf h ho hv
    obtain ⟨f, rfl⟩ : ∃ x, f = x + 1 := ⟨f - 1, by omega⟩
    have h1 := hl.1
    have hS := h.1
    have hR := h.2.1
    have o := G1700 hS
    have hPl : P < ll.length := by omega
    have hx := List.getElem?_eq_getElem hPl
    have hdr : ll.drop P = ll[P] :: ll.drop (P + 1) := List.drop_eq_getElem_cons hPl
    generalize ll[P] = x at hx hdr
    obtain ⟨hxT, hxS⟩ := hl.2 x (List.mem_of_getElem? hx)
    obtain ⟨p1, p2, p3, p4⟩ := TKe_part h hxT
    obtain ⟨t4, t5, t6, t7, t10, tS⟩ := TKe_pt h hk hxT hxS
    obtain ⟨g, hg⟩ : ∃ g, g = oG (tB fs s.2.2.1 (x / 24)) (x % 24) := ⟨_, rfl⟩
    have hg6 : g < 6 := by rw [hg]; unfold oG; repeat (first | omega | split)
    obtain ⟨z, hz⟩ : ∃ z, z = zS (tB fs s.2.2.1) x := ⟨_, rfl⟩
    have hz31 : z < 2 ^ 31 := by
      obtain ⟨q, _, _, _, _, he, _⟩ := TKe_ob h (show x / 24 < s.2.2.1.length by omega)
      have hb := (eObj_0 he).1.1.2.2.2.2 _ tS ((Bool.and_eq_true _ _).mp (hk x hxT hxS).1).2
      rw [hz]
      unfold zS
      omega
    have ethx : ∀ i, thx (tB fs s.2.2.1) i x = (decide (sgO g = i) && decide (0 < z)) := fun i => by rw [hg, hz]; rfl
    have ethr : thr1 (tB fs s.2.2.1) x = (decide (3 < g) && decide (0 < z)) := by rw [hg, hz]; rfl
    rw [← hg] at t4
    rw [← hz] at t5
    have go : ∀ (τ1 : px_TT) (v1 : Nat → Bool), (∀ i, i < 4 → v1 i = sgX (tB fs s.2.2.1) x v i) → thV τ1 v1 → frSg τ τ1 → ∃ τ', f_Layout_findSegments_106 F c (f_Layout_findSegments_46 F c f) 1700 (nI P) (cH sk L τ1) = f_Layout_findSegments_112 F c 1700 (cH sk L τ') ∧ thV τ' (fun i => v i || (ll.drop P).any (fun x => if i = 3 then thr1 (tB fs s.2.2.1) x else thx (tB fs s.2.2.1) i x)) ∧ frSg τ τ' := fun τ1 v1 e1 e2 e3 => by
      obtain ⟨τ', j1, j2, j3⟩ := ih (P + 1) f τ1 v1 (by omega) (by omega) (TKe_Ly h (frSg_Ly e3)) (COr_fx ho (e3.1 1700 11) (e3.2.2.2.2.2 1701)) e2
      refine ⟨τ', ?_, ?_, frSg_trans e3 j3⟩
      · unfold f_Layout_findSegments_106
        rw [nI_add]
        exact j1
      · refine thV_eq j2 (fun i hi => ?_)
        show (v i || (ll.drop P).any _) = (v1 i || (ll.drop (P + 1)).any _)
        rw [hdr, List.any_cons, e1 i hi]
        show (v i || (_ || _)) = ((v i || _) || _)
        rw [Bool.or_assoc]
    unfold f_Layout_findSegments_46
    rw [C2g11 o, bs, ho.1, if_neg (nI_ge hPl (by omega)), c_o o, bs, k_partAt hS hR ho h1 hx, xb_mk, bs, C8g5 p1, bs, t5]
    by_cases cz : z ≤ 0
    · rw [if_pos (show nI z ≤ 0 from nI_le (b := 0) cz (by decide))]
      refine go τ v (fun i _ => ?_) hv frSg_refl
      unfold sgX
      rw [ethx, ethr, decide_eq_false (show ¬ 0 < z by omega), Bool.and_false, Bool.and_false, ite_self, Bool.or_false]
    · have hz0 : decide (0 < z) = true := decide_eq_true (by omega)
      have hs3 := (sgO_l g hg6).2
      rw [if_neg (show ¬ nI z ≤ 0 from nI_ge (a := 0) (by omega) hz31), C2r4 o (GR_r (v := 1703) hR (by decide)), bs, c_o o, bs, k_segmentOf hc p1 hg6 t4, xb_mk, show nI 1 &&& 1 = bI true from rfl, c_sI (G1703 hS) (by decide) (by decide) (by omega), bs]
      obtain ⟨τ1, hτ1⟩ : ∃ y, y = vI τ 1703 (upd (eI τ 1703) (sgO g) (bI true)) := ⟨_, rfl⟩
      have f1 : frSg τ τ1 := by rw [hτ1]; exact frSg_v
      have v1 : thV τ1 (fun k => if k = sgO g then true else v k) := by rw [hτ1]; exact thV_up hv
      have hR1 := GR_Ly hR (frSg_Ly f1)
      have e3 : eI τ1 1703 3 = bI (v 3) := by rw [v1 3 (by decide)]; show bI (if 3 = sgO g then true else v 3) = _; rw [if_neg (by omega)]
      rw [← hτ1, C2r4 o (GR_r (v := 1703) hR1 (by decide)), bs, bs, c_aI (G1703 hS) (by decide) (by decide) (by decide), bs, e3]
      have wr : ∀ w : Bool, w = (v 3 || decide (3 < g)) → ∃ τ', f_Layout_findSegments_105 F c (f_Layout_findSegments_46 F c f) 1700 (nI P) 1703 (nI 3) (bI w) (cH sk L τ1) = f_Layout_findSegments_112 F c 1700 (cH sk L τ') ∧ thV τ' (fun i => v i || (ll.drop P).any (fun x => if i = 3 then thr1 (tB fs s.2.2.1) x else thx (tB fs s.2.2.1) i x)) ∧ frSg τ τ' := fun w hw => by
        have eb : bI w &&& 1 = bI w := by cases w <;> rfl
        unfold f_Layout_findSegments_105
        rw [eb, c_sI (G1703 hS) (by decide) (by decide) (by decide), bs]
        refine go _ _ (fun i hi => ?_) (thV_up (i := 3) (w := w) v1) (frSg_trans f1 frSg_v)
        show (if i = 3 then w else if i = sgO g then true else v i) = (v i || (if i = 3 then thr1 (tB fs s.2.2.1) x else thx (tB fs s.2.2.1) i x))
        rw [ethx, ethr, hz0, Bool.and_true, Bool.and_true]
        by_cases c3 : i = 3
        · rw [if_pos c3, if_pos c3, hw, c3]
        · rw [if_neg c3, if_neg c3]
          by_cases cg : i = sgO g
          · rw [if_pos cg, decide_eq_true cg.symm, Bool.or_true]
          · rw [if_neg cg, decide_eq_false (fun q => cg q.symm), Bool.or_false]
      cases e : v 3 with
      | false =>
        rw [if_pos (show bI false = 0 from rfl), C8g4 p1, bs, f1.1, t4]
        by_cases c4 : g < 4
        · rw [if_pos (nI_lt c4 (by decide))]
          exact wr false (by rw [e, decide_eq_false (by omega)]; rfl)
        · rw [if_neg (nI_nlt (by omega) (by omega))]
          exact wr true (by rw [e, decide_eq_true (by omega)]; rfl)
      | true =>
        rw [if_neg (show ¬ bI true = 0 by decide)]
        exact wr true (by rw [e]; rfl)
end CSG
end
section
/-! findSegments of the class, whole -/
section CSGB
variable {F : Nat} {c : px_CT} {sk : Nat → Nat × Nat × Nat} {L : Nat} {τ : px_TT} {own : Nat → Nat × Nat} {fs : px_FS} {s : px_TK} {xs : px_NL} {ST rn : Nat → Bool} {ll : List Nat}
theorem k_laid {d : Nat} (h : TKe sk L own τ fs s xs ST rn) (hok : okL xs) (hd : d < xs.length) : f_Layout_isLaidCommon F c (some (pN τ 149 d)) (cH sk L τ) = some (bI (decide (stN xs d = 2) && rn d), cH sk L τ) ∧ ob sk L 5 (pN τ 149 d) ∧ (stN xs d = 2 → fJ τ (pN τ 149 d) 8 = lN (cmZ xs d) ∧ fJ τ (pN τ 149 d) 7 = lN (cmV xs d)) ∧ cmZ xs d < 2 ^ 31 ∧ cmV xs d < 2 ^ 31 := by
  have hx := List.getElem?_eq_getElem hd
  generalize xs[d] = x at hx
  obtain ⟨z1, z2, z3, z4⟩ := CLm_at h.2.2.2.1.2.1 hx
  obtain ⟨⟨c1, c2, d1, d2, d3, d4, d5⟩, c13⟩ := h.2.2.2.1.2.1.2.1 d x hx
  have h4 := h.2.2.2.2.2.1 d x hx
  have hr := hok d x hx
  have ez : cmZ xs d = x.2.2.2.2.2.2.1 := by unfold cmZ; rw [List.getD_eq_getElem?_getD, hx]; rfl
  have ev : cmV xs d = x.2.2.2.2.2.2.2 := by unfold cmV; rw [List.getD_eq_getElem?_getD, hx]; rfl
  refine ⟨?_, z3, fun e => ?_, by rw [ez]; exact hr.2.1, by rw [ev]; exact hr.2.2⟩
  · unfold f_Layout_isLaidCommon f_Layout_isLaidCommon_19 f_Layout_isLaidCommon_20
    rw [bs, C5g5 z3, bs, stN_at hx]
    by_cases e2 : x.2.1 = 2
    · rw [if_pos (d3 e2).1, C5g13 z3, bs, c13 e2, decide_eq_true e2, Bool.true_and]
      cases rn d with
      | false => rw [if_pos (show bI false = 0 from rfl), xz_0]
      | true => rw [if_neg (show ¬ bI true = 0 by decide), xz_1]
    · have hne : ¬ fI τ (pN τ 149 d) 5 = nI 3 := by
        by_cases e0 : x.2.1 = 0
        · rw [d1 e0]; decide
        · by_cases e4 : x.2.1 = 4
          · rw [(d2 e4).1]; decide
          · have e13 : x.2.1 = 1 ∨ x.2.1 = 3 := by omega
            cases eb : x.2.2.2.2.1 with
            | none => rw [(d4 e13 eb).1]; decide
            | some q =>
              obtain ⟨_, e5, e6⟩ := d5 e13 q.1 q.2 eb
              by_cases w : yW (tB fs s.2.2.1 q.1) q.2 = 65521
              · rw [e5 w]; decide
              · rw [(e6 w).1]; decide
      rw [if_neg hne, xz_0, decide_eq_false e2]
      rfl
  · rw [stN_at hx] at e
    rw [ez, ev]
    exact ⟨(d3 e).2.2, (d3 e).2.1⟩
theorem k_sg_114 (hF : 65536 < F) (hok : okL xs) {on : Bool} {rn0 : Nat → Bool} (hrn : ∀ i, rn i = (!on || rn0 i)) : ∀ (d P f : Nat) (τ : px_TT) (v : Nat → Bool), P + d = s.1.2.2.1.length → d < f → TKe sk L own τ fs s xs ST rn → thV τ v → ∃ τ', f_Layout_findSegments_114 F c f 1700 (nI P) (cH sk L τ) = f_Layout_findSegments_176 F c 1700 (cH sk L τ') ∧ thV τ' (fun i => v i || (decide (i = 2) && (s.1.2.2.1.drop P).any (thc xs on rn0))) ∧ frSg τ τ' := by
  intro d
  induction d with
  | zero =>
    intro P f τ v hP hf h hv
    obtain ⟨f, rfl⟩ : ∃ x, f = x + 1 := ⟨f - 1, by omega⟩
    have hol := h.2.2.2.2.1.1.2.2.2.1
    have hT := BK_T (s := s) h.2.2.2.2.1.1
    refine ⟨τ, ?_, ?_, frSg_refl⟩
    · unfold f_Layout_findSegments_114
      rw [C2r0 (G1700 h.1) (GR_r (v := 147) h.2.1 (by decide)), bs, C3g15 (G147 h.1), bs, h.2.2.2.1.2.1.2.2.1, if_pos (nI_le (by omega) (by omega))]
    · rw [List.drop_of_length_le (by omega)]
      exact thV_eq hv (fun i _ => by rw [List.any_nil, Bool.and_false, Bool.or_false])
  | succ d ih =>
    intro P f τ v hP hf h hv
    obtain ⟨f, rfl⟩ : ∃ x, f = x + 1 := ⟨f - 1, by omega⟩
    have hol := h.2.2.2.2.1.1.2.2.2.1
    have hT := BK_T (s := s) h.2.2.2.2.1.1
    have hS := h.1
    have hR := h.2.1
    have o := G1700 hS
    have hPl : P < s.1.2.2.1.length := by omega
    have hx := List.getElem?_eq_getElem hPl
    have hdr : s.1.2.2.1.drop P = s.1.2.2.1[P] :: s.1.2.2.1.drop (P + 1) := List.drop_eq_getElem_cons hPl
    generalize s.1.2.2.1[P] = D at hx hdr
    obtain ⟨q1, q2⟩ := h.2.2.2.1.2.1.2.2.2 P D hx
    obtain ⟨k1, k2, k3, k4, k5⟩ := k_laid (F := F) (c := c) h hok q1
    have wr : ∀ w : Bool, w = (v 2 || thc xs on rn0 D) → ∃ τ', f_Layout_findSegments_169 F c (f_Layout_findSegments_114 F c f) 1700 (nI P) 1703 (nI 2) (bI w) (cH sk L τ) = f_Layout_findSegments_176 F c 1700 (cH sk L τ') ∧ thV τ' (fun i => v i || (decide (i = 2) && (s.1.2.2.1.drop P).any (thc xs on rn0))) ∧ frSg τ τ' := fun w hw => by
      have eb : bI w &&& 1 = bI w := by cases w <;> rfl
      have f1 : frSg τ (vI τ 1703 (upd (eI τ 1703) 2 (bI w))) := frSg_v
      obtain ⟨τ', j1, j2, j3⟩ := ih (P + 1) f _ _ (by omega) (by omega) (TKe_Ly h (frSg_Ly f1)) (thV_up (i := 2) (w := w) hv)
      refine ⟨τ', ?_, ?_, frSg_trans f1 j3⟩
      · unfold f_Layout_findSegments_169
        rw [eb, c_sI (G1703 hS) (by decide) (by decide) (by decide), bs, nI_add]
        exact j1
      · refine thV_eq j2 (fun i hi => ?_)
        show (v i || (decide (i = 2) && (s.1.2.2.1.drop P).any (thc xs on rn0))) = ((if i = 2 then w else v i) || (decide (i = 2) && (s.1.2.2.1.drop (P + 1)).any (thc xs on rn0)))
        rw [hdr, List.any_cons]
        by_cases c2 : i = 2
        · rw [if_pos c2, decide_eq_true c2, Bool.true_and, Bool.true_and, hw, c2, Bool.or_assoc]
        · rw [if_neg c2, decide_eq_false c2, Bool.false_and, Bool.false_and]
    unfold f_Layout_findSegments_114 f_Layout_findSegments_164 f_Layout_findSegments_168
    rw [C2r0 o (GR_r (v := 147) hR (by decide)), bs, C3g15 (G147 hS), bs, h.2.2.2.1.2.1.2.2.1, if_neg (nI_ge hPl (by omega)), bs, c_o (G147 hS), bs, k_definedAt h hx, xb_mk, C2r4 o (GR_r (v := 1703) hR (by decide)), bs, bs, c_aI (G1703 hS) (by decide) (by decide) (by decide), bs, hv 2 (by decide)]
    have ethc : thc xs on rn0 D = ((decide (stN xs D = 2) && rn D) && decide (0 < cmZ xs D)) := by unfold thc cB; rw [hrn D]
    cases e : v 2 with
    | true =>
      rw [if_neg (show ¬ bI true = 0 by decide)]
      exact wr true (by rw [e]; rfl)
    | false =>
      rw [if_pos (show bI false = 0 from rfl), k1, xb_mk]
      cases e2 : (decide (stN xs D = 2) && rn D) with
      | false =>
        rw [if_pos (show bI false = 0 from rfl)]
        exact wr false (by rw [e, ethc, e2]; rfl)
      | true =>
        have hst := of_decide_eq_true ((Bool.and_eq_true _ _).mp e2).1
        rw [if_neg (show ¬ bI true = 0 by decide), bs, C5g8 k2, bs, (k3 hst).1]
        by_cases cz : cmZ xs D ≤ 0
        · rw [if_pos ((pk_lLE (by omega) (by decide)).mpr cz)]
          exact wr false (by rw [e, ethc, e2, decide_eq_false (by omega)]; rfl)
        · rw [if_neg (fun w => cz ((pk_lLE (by omega) (by decide)).mp w))]
          exact wr true (by rw [e, ethc, e2, decide_eq_true (by omega)]; rfl)
/-- which segments are there -/
theorem k_findSegments {on : Bool} {rn0 : Nat → Bool} {ns : Nat} (hF : 65536 < F) (hc : KT c) (hk : STk fs s ST) (hl : llS2 s ST ll) (hok : okL xs) (hrn : ∀ i, rn i = (!on || rn0 i)) (h : TKe sk L own τ fs s xs ST rn) (ho : COr τ ll) (h12 : fI τ 1700 12 = nI ns) (hns : ns < 2 ^ 31) : ∃ τ', f_Layout_findSegments F c 1700 (cH sk L τ) = some ((), cH sk L τ') ∧ (∀ i, i < 3 → eI τ' 1703 i = bI (thS (tB fs s.2.2.1) ll xs s.1.2.2.1 on rn0 ns i)) ∧ eI τ' 1703 3 = bI (ll.any (thr1 (tB fs s.2.2.1))) ∧ (∀ i, i < 4 → eJ τ' 1704 i = lN 0 ∧ eJ τ' 1706 i = lN 0 ∧ eJ τ' 1707 i = lN 0) ∧ eJ τ' 1705 = eJ τ 1705 ∧ ((∀ a k, fI τ' a k = fI τ a k) ∧ (∀ a k, fJ τ' a k = fJ τ a k) ∧ (∀ a, a ≠ 1703 → eI τ' a = eI τ a) ∧ ∀ a, eN τ' a = eN τ a) ∧ frLy τ τ' := by
  have hS := h.1
  have hR := h.2.1
  have o := G1700 hS
  have hol := h.2.2.2.2.1.1.2.2.2.1
  have hT := BK_T (s := s) h.2.2.2.2.1.1
  have hll := hl.1
  obtain ⟨τ1, a1, a2, a3⟩ := k_fillA (F := F) (c := c) (τ := τ) (G1704 hS) (by omega)
  obtain ⟨τ2, b1, b2, b3⟩ := k_fillA (F := F) (c := c) (τ := τ1) (G1706 hS) (by omega)
  obtain ⟨τ3, d1, d2, d3⟩ := k_fillA (F := F) (c := c) (τ := τ2) (G1707 hS) (by omega)
  have l1 : frLy τ τ1 := frFj_Ly a3 (by decide)
  have l2 : frLy τ τ2 := frLy_trans l1 (frFj_Ly b3 (by decide))
  have l3 : frLy τ τ3 := frLy_trans l2 (frFj_Ly d3 (by decide))
  have hR1 := GR_Ly hR l1
  have hR2 := GR_Ly hR l2
  have hR3 := GR_Ly hR l3
  obtain ⟨τ4, e1, e2, e3⟩ := k_sg_26 (F := F) (c := c) hS 4 0 F τ3 rfl (by omega) hR3 (fun i hi => by omega)
  have l4 := frLy_trans l3 (frSg_Ly e3)
  have eE4 : ∀ a, eN τ4 a = eN τ a := fun a => by rw [e3.2.2.2.2.2, d3.2.2.2.2.2, b3.2.2.2.2.2, a3.2.2.2.2.2]
  have eI4 : ∀ a k, fI τ4 a k = fI τ a k := fun a k => by rw [e3.1, d3.1, b3.1, a3.1]
  obtain ⟨τ5, g1, g2, g3⟩ := k_sg_46 (F := F) (c := c) hF hc hk hl ll.length 0 F τ4 _ (Nat.zero_add _) (by omega) (TKe_Ly h l4) (COr_fx ho (eI4 1700 11) (eE4 1701)) e2
  have l5 := frLy_trans l4 (frSg_Ly g3)
  obtain ⟨τ6, j1, j2, j3⟩ := k_sg_114 (F := F) (c := c) hF hok hrn s.1.2.2.1.length 0 F τ5 _ (Nat.zero_add _) (by omega) (TKe_Ly h l5) g2
  have l6 := frLy_trans l5 (frSg_Ly j3)
  have hR6 := GR_Ly hR l6
  rw [List.drop_zero] at g2 j2
  have s36 := frSg_trans e3 (frSg_trans g3 j3)
  have h126 : fI τ6 1700 12 = nI ns := by rw [s36.1, d3.1, b3.1, a3.1]; exact h12
  obtain ⟨A, hA⟩ : ∃ A : Bool, A = ((ll.any (fun x => thx (tB fs s.2.2.1) 2 x)) || s.1.2.2.1.any (thc xs on rn0)) := ⟨_, rfl⟩
  have v2 : eI τ6 1703 2 = bI A := by
    rw [j2 2 (by decide), hA]
    rfl
  have fin : ∀ w : Bool, w = (A || decide (0 < ns)) → f_Layout_findSegments_202 F c 1703 (nI 2) (bI w) (cH sk L τ6) = some ((), cH sk L (vI τ6 1703 (upd (eI τ6 1703) 2 (bI w)))) ∧ (∀ i, i < 3 → eI (vI τ6 1703 (upd (eI τ6 1703) 2 (bI w))) 1703 i = bI (thS (tB fs s.2.2.1) ll xs s.1.2.2.1 on rn0 ns i)) ∧ eI (vI τ6 1703 (upd (eI τ6 1703) 2 (bI w))) 1703 3 = bI (ll.any (thr1 (tB fs s.2.2.1))) := fun w hw => by
    have eb : bI w &&& 1 = bI w := by cases w <;> rfl
    refine ⟨?_, fun i hi => ?_, ?_⟩
    · unfold f_Layout_findSegments_202
      rw [eb, c_sI (G1703 hS) (by decide) (by decide) (by decide), bs]
    · rw [eI_v_eq]
      unfold thS
      by_cases c2 : i = 2
      · rw [c2, upd_eq, hw, hA, decide_eq_true rfl, Bool.true_and, Bool.or_assoc]
      · rw [upd_ne c2, j2 i (by omega), decide_eq_false c2, Bool.false_and, Bool.or_false]
        congr 1
        show ((false || ll.any (fun x => if i = 3 then thr1 (tB fs s.2.2.1) x else thx (tB fs s.2.2.1) i x)) || (decide (i = 2) && _)) = _
        rw [Bool.false_or, decide_eq_false c2, Bool.false_and, Bool.or_false]
        congr 1
        funext x
        rw [if_neg (by omega)]
    · rw [eI_v_eq, upd_ne (by decide), j2 3 (by decide)]
      congr 1
      show ((false || ll.any (fun x => if 3 = 3 then thr1 (tB fs s.2.2.1) x else thx (tB fs s.2.2.1) 3 x)) || (decide (3 = 2) && _)) = _
      rw [Bool.false_or, decide_eq_false (by decide), Bool.false_and, Bool.or_false]
      rfl
  have post : ∀ w : Bool, (∀ i, i < 4 → eJ (vI τ6 1703 (upd (eI τ6 1703) 2 (bI w))) 1704 i = lN 0 ∧ eJ (vI τ6 1703 (upd (eI τ6 1703) 2 (bI w))) 1706 i = lN 0 ∧ eJ (vI τ6 1703 (upd (eI τ6 1703) 2 (bI w))) 1707 i = lN 0) ∧ eJ (vI τ6 1703 (upd (eI τ6 1703) 2 (bI w))) 1705 = eJ τ 1705 ∧ ((∀ a k, fI (vI τ6 1703 (upd (eI τ6 1703) 2 (bI w))) a k = fI τ a k) ∧ (∀ a k, fJ (vI τ6 1703 (upd (eI τ6 1703) 2 (bI w))) a k = fJ τ a k) ∧ (∀ a, a ≠ 1703 → eI (vI τ6 1703 (upd (eI τ6 1703) 2 (bI w))) a = eI τ a) ∧ ∀ a, eN (vI τ6 1703 (upd (eI τ6 1703) 2 (bI w))) a = eN τ a) ∧ frLy τ (vI τ6 1703 (upd (eI τ6 1703) 2 (bI w))) := fun w => by
    refine ⟨fun i hi => ⟨?_, ?_, ?_⟩, ?_, ⟨fun a k => ?_, fun a k => ?_, fun a ha => ?_, fun a => ?_⟩, frLy_trans l6 (frSg_Ly frSg_v)⟩
    · show eJ τ6 1704 i = _
      rw [s36.2.2.2.2.1, d3.2.2.2.2.1 1704 (by decide), b3.2.2.2.2.1 1704 (by decide)]; exact a2 i hi
    · show eJ τ6 1706 i = _
      rw [s36.2.2.2.2.1, d3.2.2.2.2.1 1706 (by decide)]; exact b2 i hi
    · show eJ τ6 1707 i = _
      rw [s36.2.2.2.2.1]; exact d2 i hi
    · show eJ τ6 1705 = _
      rw [s36.2.2.2.2.1, d3.2.2.2.2.1 1705 (by decide), b3.2.2.2.2.1 1705 (by decide), a3.2.2.2.2.1 1705 (by decide)]
    · show fI τ6 a k = _
      rw [s36.1, d3.1, b3.1, a3.1]
    · show fJ τ6 a k = _
      rw [s36.2.1, d3.2.1, b3.2.1, a3.2.1]
    · rw [eI_v_ne ha, s36.2.2.2.1 a ha, d3.2.2.2.1, b3.2.2.2.1, a3.2.2.2.1]
    · show eN τ6 a = _
      rw [s36.2.2.2.2.2, d3.2.2.2.2.2, b3.2.2.2.2.2, a3.2.2.2.2.2]
  have main : ∃ w : Bool, w = (A || decide (0 < ns)) ∧ f_Layout_findSegments_176 F c 1700 (cH sk L τ6) = f_Layout_findSegments_202 F c 1703 (nI 2) (bI w) (cH sk L τ6) := by
    unfold f_Layout_findSegments_176 f_Layout_findSegments_197
    rw [C2r4 o (GR_r (v := 1703) hR6 (by decide)), bs, bs, c_aI (G1703 hS) (by decide) (by decide) (by decide), bs, v2]
    cases A with
    | true => rw [if_neg (show ¬ bI true = 0 by decide)]; exact ⟨true, rfl, rfl⟩
    | false =>
      rw [if_pos (show bI false = 0 from rfl), C2g12 o, bs, h126]
      by_cases cn : ns ≤ 0
      · rw [if_pos (show nI ns ≤ 0 from nI_le (b := 0) cn (by decide))]
        exact ⟨false, by rw [decide_eq_false (by omega)]; rfl, rfl⟩
      · rw [if_neg (show ¬ nI ns ≤ 0 from nI_ge (a := 0) (by omega) hns)]
        exact ⟨true, by rw [decide_eq_true (by omega)]; rfl, rfl⟩
  obtain ⟨w, w1, w2⟩ := main
  obtain ⟨u1', u2', u3'⟩ := fin w w1
  refine ⟨_, ?_, u2', u3', post w⟩
  unfold f_Layout_findSegments
  rw [C2r5 o (GR_r (v := 1704) hR (by decide)), bs, a1, xb_mk, C2r7 o (GR_r (v := 1706) hR1 (by decide)), bs, b1, xb_mk, C2r8 o (GR_r (v := 1707) hR2 (by decide)), bs, d1, xb_mk, e1]
  unfold f_Layout_findSegments_44
  rw [g1]
  unfold f_Layout_findSegments_112
  rw [j1, w2]
  exact u1'
end CSGB
end
section
/-! up of the class -/
theorem and_up {x k : Nat} (hk : k ≤ 64) (hx : x < 2 ^ 64) : x &&& (2 ^ 64 - 2 ^ k) = x / 2 ^ k * 2 ^ k := by
  have e : 2 ^ 64 - 2 ^ k = (2 ^ (64 - k) - 1) * 2 ^ k := by
    rw [Nat.sub_mul, Nat.one_mul, ← Nat.pow_add, show 64 - k + k = 64 by omega]
  apply Nat.eq_of_testBit_eq
  intro i
  rw [Nat.testBit_and, e, Nat.testBit_mul_two_pow, Nat.testBit_mul_two_pow, Nat.testBit_two_pow_sub_one, Nat.testBit_div_two_pow]
  by_cases c : k ≤ i
  · rw [decide_eq_true c, Bool.true_and, Bool.true_and, show i - k + k = i by omega]
    by_cases c2 : i - k < 64 - k
    · rw [decide_eq_true c2, Bool.and_true]
    · rw [decide_eq_false c2, Bool.and_false]
      have : x < 2 ^ i := Nat.lt_of_lt_of_le hx (Nat.pow_le_pow_right (by decide) (by omega))
      exact (Nat.testBit_lt_two_pow this).symm
  · rw [decide_eq_false c, Bool.false_and, Bool.and_false, Bool.false_and]
theorem k_up {F : Nat} {c : px_CT} {ph : px_H} {v k : Nat} (hk : k ≤ 32) (hv : v < 2 ^ 61) : f_H_up F c (lN v) (lN (2 ^ k)) ph = some (lN (upN v (2 ^ k)), ph) := by
  have h1 : 1 ≤ 2 ^ k := Nat.one_le_two_pow
  have h2 : 2 ^ k ≤ 2 ^ 32 := Nat.pow_le_pow_right (by decide) hk
  unfold f_H_up upN
  rw [lN_add, lN_sub (by omega)]
  congr 2
  apply Int64.toBitVec_inj.mp
  apply BitVec.eq_of_toNat_eq
  show (BitVec.ofNat 64 (v + 2 ^ k - 1) &&& - BitVec.ofNat 64 (2 ^ k)).toNat = (BitVec.ofNat 64 ((v + 2 ^ k - 1) / 2 ^ k * 2 ^ k)).toNat
  have h3 : (v + 2 ^ k - 1) / 2 ^ k * 2 ^ k ≤ v + 2 ^ k - 1 := Nat.div_mul_le_self _ _
  rw [BitVec.toNat_and, BitVec.toNat_neg, BitVec.toNat_ofNat, BitVec.toNat_ofNat, BitVec.toNat_ofNat, Nat.mod_eq_of_lt (show v + 2 ^ k - 1 < 2 ^ 64 by omega), Nat.mod_eq_of_lt (show 2 ^ k < 2 ^ 64 by omega), Nat.mod_eq_of_lt (show 2 ^ 64 - 2 ^ k < 2 ^ 64 by omega), Nat.mod_eq_of_lt (show (v + 2 ^ k - 1) / 2 ^ k * 2 ^ k < 2 ^ 64 by omega)]
  exact and_up (by omega) (by omega)
end
section
/-! layGroup of the class -/
def fr11 (τ τ' : px_TT) : Prop := (∀ a k, fI τ' a k = fI τ a k) ∧ (∀ a k, (a < 152 ∨ 1688 ≤ a ∨ k ≠ 11) → fJ τ' a k = fJ τ a k) ∧ (∀ a k, fN τ' a k = fN τ a k) ∧ (∀ a, eI τ' a = eI τ a) ∧ (∀ a, eJ τ' a = eJ τ a) ∧ ∀ a, eN τ' a = eN τ a
theorem fr11_refl {τ : px_TT} : fr11 τ τ := ⟨fun _ _ => rfl, fun _ _ _ => rfl, fun _ _ => rfl, fun _ => rfl, fun _ => rfl, fun _ => rfl⟩
theorem fr11_trans {τ τ1 τ2 : px_TT} (h : fr11 τ τ1) (g : fr11 τ1 τ2) : fr11 τ τ2 := ⟨fun a k => (g.1 a k).trans (h.1 a k), fun a k x => (g.2.1 a k x).trans (h.2.1 a k x), fun a k => (g.2.2.1 a k).trans (h.2.2.1 a k), fun a => (g.2.2.2.1 a).trans (h.2.2.2.1 a), fun a => (g.2.2.2.2.1 a).trans (h.2.2.2.2.1 a), fun a => (g.2.2.2.2.2 a).trans (h.2.2.2.2.2 a)⟩
theorem fr11_Ly {τ τ' : px_TT} (f : fr11 τ τ') : frLy τ τ' := ⟨fun a k _ _ _ => f.1 a k, fun a k _ _ _ => f.1 a k, fun a k _ _ _ h => f.2.1 a k h, fun a k h _ => f.2.1 a k (by omega), f.2.2.1, fun a _ => f.2.2.2.1 a, fun a _ => f.2.2.2.2.1 a, fun a _ => f.2.2.2.2.2 a⟩
theorem isP_pow0 : ∀ i, i < 65 → ∀ j, j < 64 → isP (64 * i + j) = true → 64 * i + j = 2 ^ Nat.log2 (64 * i + j) ∧ Nat.log2 (64 * i + j) ≤ 32 := by decide +kernel
theorem isP_pow (v : Nat) (hv : v < 4097) (h : isP v = true) : v = 2 ^ Nat.log2 v ∧ Nat.log2 v ≤ 32 := by
  have := isP_pow0 (v / 64) (by omega) (v % 64) (by omega)
  rw [show 64 * (v / 64) + v % 64 = v by omega] at this
  exact this h
theorem eObj_p {b : Nat → Nat} {n i : Nat} (h : eObj b n = 0) (hi : i < oS b) (hk : oK b i = true) : oA b i = 0 ∨ isP (oA b i) = true := by
  unfold eObj at h
  by_cases c1 : n < 64 ∨ oH b = false
  · rw [if_pos c1] at h; cases h
  · rw [if_neg c1] at h
    by_cases c2 : 1 ≤ oS b ∧ oS b ≤ 24 ∧ oR b + 64 * oS b ≤ n ∧ oT b 0 = 0
    · rw [if_neg (fun q => q c2)] at h
      by_cases c3 : fst0 (eSec b n) 0 (oS b) = 0
      · exact (eSec_w (fst0_0 c3 i (Nat.zero_le _) (by omega))).2.2 hk
      · rw [if_pos c3] at h; exact absurd h c3
    · rw [if_pos c2] at h; cases h
section CGR
variable {F : Nat} {c : px_CT} {sk : Nat → Nat × Nat × Nat} {L : Nat} {own : Nat → Nat × Nat} {fs : px_FS} {s : px_TK} {xs : px_NL} {ST rn : Nat → Bool} {ll : List Nat} {g : Nat} {th : Bool} {D : Nat → Prop}
theorem cnd_c {tb : Nat → Nat → Nat} {x : Nat} : cnd tb g x = (decide (oG (tb (x / 24)) (x % 24) = g) && !sS tb x) := by
  unfold cnd
  by_cases e : oG (tb (x / 24)) (x % 24) = g
  · rw [decide_eq_true e, Bool.true_and, Bool.true_and]
    by_cases e1 : g = 1
    · rw [decide_eq_true e1, Bool.true_and]
    · rw [decide_eq_false e1, Bool.false_and]
      cases hs : sS tb x with
      | false => rfl
      | true =>
        unfold sS oStr oStr0 at hs
        rw [Bool.and_eq_true] at hs
        have := (of_decide_eq_true hs.1).2.1
        omega
  · rw [decide_eq_false e, Bool.false_and, Bool.false_and]
theorem k_lg_6 (hF : 65536 < F) (hc : KT c) (hk : STk fs s ST) (hl : llS2 s ST ll) (hnd : ll.Nodup) (hg : g < 6) (hD : ∀ x, D x → cnd (tB fs s.2.2.1) g x = false) : ∀ (d P f : Nat) (τ : px_TT) (G : px_PG), P + d = ll.length → d < f → TKe sk L own τ fs s xs ST rn → COr τ ll → eI τ 1703 (sgO g) = bI th → G.1 + d * 20480 < 2 ^ 40 → (∀ (Q x : Nat), ll[Q]? = some x → (D x ∨ (Q < P ∧ cnd (tB fs s.2.2.1) g x = true)) → fJ τ (152 + x) 11 = lN (G.2.1 x)) → ∃ τ', f_Layout_layGroup_6 F c f 1700 (nI g) (lN G.1) (nI P) (cH sk L τ) = some (lN ((ll.drop P).foldl (pg1 (tB fs s.2.2.1) g th) G).1, cH sk L τ') ∧ (∀ x, x ∈ ll → (D x ∨ cnd (tB fs s.2.2.1) g x = true) → fJ τ' (152 + x) 11 = lN (((ll.drop P).foldl (pg1 (tB fs s.2.2.1) g th) G).2.1 x)) ∧ fr11 τ τ' := by
  have hl1 := hl.1
  intro d
  induction d with
  | zero =>
    intro P f τ G hP hf h ho ht hb hA
    obtain ⟨f, rfl⟩ : ∃ x, f = x + 1 := ⟨f - 1, by omega⟩
    rw [List.drop_of_length_le (by omega)]
    refine ⟨τ, ?_, fun x hx hd => ?_, fr11_refl⟩
    · unfold f_Layout_layGroup_6 f_Layout_layGroup_95
      rw [C2g11 (G1700 h.1), bs, ho.1, if_pos (nI_le (by omega) (by omega))]
      rfl
    · obtain ⟨Q, hQ⟩ := List.getElem?_of_mem hx
      have := (List.getElem?_eq_some_iff.mp hQ).1
      exact hA Q x hQ (hd.elim Or.inl (fun q => Or.inr ⟨by omega, q⟩))
  | succ d ih =>
    intro P f τ G hP hf h ho ht hb hA
    obtain ⟨f, rfl⟩ : ∃ x, f = x + 1 := ⟨f - 1, by omega⟩
    have hS := h.1
    have hR := h.2.1
    have o := G1700 hS
    have hPl : P < ll.length := by omega
    have hx := List.getElem?_eq_getElem hPl
    have hdr : ll.drop P = ll[P] :: ll.drop (P + 1) := List.drop_eq_getElem_cons hPl
    have huq : ∀ Q, ll[Q]? = some ll[P] → Q = P := fun Q hQ => by
      have l1 := (List.getElem?_eq_some_iff.mp hQ).1
      have e1 := (List.getElem?_eq_some_iff.mp hQ).2
      exact (List.getElem_inj hnd (h₀ := l1) (h₁ := hPl)).mp e1
    generalize ll[P] = x at hx hdr huq
    obtain ⟨hxT, hxS⟩ := hl.2 x (List.mem_of_getElem? hx)
    obtain ⟨p1, p2, p3, p4⟩ := TKe_part h hxT
    obtain ⟨t4, t5, t6, t7, t10, tS⟩ := TKe_pt h hk hxT hxS
    obtain ⟨q, _, _, _, _, he, _⟩ := TKe_ob h (show x / 24 < s.2.2.1.length by omega)
    have hK := ((Bool.and_eq_true _ _).mp (hk x hxT hxS).1).2
    obtain ⟨hz, ha⟩ := eObj_a he tS hK
    have hap := eObj_p he tS hK
    have hT := BK_T (s := s) h.2.2.2.2.1.1
    rw [hdr, List.foldl_cons]
    obtain ⟨g1, hg1⟩ : ∃ g1, g1 = oG (tB fs s.2.2.1 (x / 24)) (x % 24) := ⟨_, rfl⟩
    have hg16 : g1 < 6 := by rw [hg1]; unfold oG; repeat (first | omega | split)
    have ecn := cnd_c (g := g) (tb := tB fs s.2.2.1) (x := x)
    rw [← hg1] at t4 ecn
    have hb1 := ar_pg3 hb
    unfold f_Layout_layGroup_6 f_Layout_layGroup_89
    rw [C2g11 o, bs, ho.1, if_neg (nI_ge hPl (by omega)), c_o o, bs, k_partAt hS hR ho hl1 hx, xb_mk, bs, C8g4 p1, bs, t4, nI_add]
    have no : cnd (tB fs s.2.2.1) g x = false → ∃ τ', f_Layout_layGroup_6 F c f 1700 (nI g) (lN G.1) (nI (P + 1)) (cH sk L τ) = some (lN ((ll.drop (P + 1)).foldl (pg1 (tB fs s.2.2.1) g th) (pg1 (tB fs s.2.2.1) g th G x)).1, cH sk L τ') ∧ (∀ x', x' ∈ ll → (D x' ∨ cnd (tB fs s.2.2.1) g x' = true) → fJ τ' (152 + x') 11 = lN (((ll.drop (P + 1)).foldl (pg1 (tB fs s.2.2.1) g th) (pg1 (tB fs s.2.2.1) g th G x)).2.1 x')) ∧ fr11 τ τ' := fun e => by
      have ep : pg1 (tB fs s.2.2.1) g th G x = G := by unfold pg1; rw [if_neg (by rw [e]; decide)]
      rw [ep]
      exact ih (P + 1) f τ G (by omega) (by omega) h ho ht (Nat.lt_of_le_of_lt (Nat.add_le_add_left (Nat.mul_le_mul_right _ (Nat.le_succ d)) _) hb) (fun Q y hy hd => hA Q y hy (hd.imp id (fun w => ⟨by
        by_cases eQ : Q = P
        · rw [eQ, hx] at hy
          have hy : x = y := Option.some.inj hy
          rw [← hy, e] at w
          exact nomatch w.2
        · omega, w.2⟩)))
    by_cases cg : g1 = g
    · rw [if_pos (by rw [cg]), C8g10 p1, bs, t10]
      cases hsS : sS (tB fs s.2.2.1) x with
      | true =>
        rw [if_neg (show ¬ bI true = 0 by decide)]
        exact no (by rw [ecn, hsS, Bool.not_true, Bool.and_false])
      | false =>
        have hcn : cnd (tB fs s.2.2.1) g x = true := by rw [ecn, hsS, decide_eq_true cg]; rfl
        have hDx : ¬ D x := fun w => by rw [hD x w] at hcn; cases hcn
        have ep : pg1 (tB fs s.2.2.1) g th G x = (pgA (tB fs s.2.2.1) th G.1 x + zS (tB fs s.2.2.1) x, fun y => if y = x then pgA (tB fs s.2.2.1) th G.1 x else G.2.1 y, if g = 3 then some (G.2.2.getD (pgA (tB fs s.2.2.1) th G.1 x)) else G.2.2) := by unfold pg1; rw [if_pos hcn]
        have hpa : pgA (tB fs s.2.2.1) th G.1 x ≤ G.1 + 4096 := by
          unfold pgA
          split
          · rename_i w
            have := (upN_le (v := G.1) (a := alS (tB fs s.2.2.1) x) (by omega)).2
            have ha' : alS (tB fs s.2.2.1) x ≤ 4096 := ha
            omega
          · omega
        obtain ⟨A, hA1⟩ : ∃ A, A = pgA (tB fs s.2.2.1) th G.1 x := ⟨_, rfl⟩
        have hz' : zS (tB fs s.2.2.1) x ≤ 16384 := hz
        have hb2 := ar_pg2 hb hpa hz'
        rw [← hA1] at ep hpa hb2
        have put : ∃ τ', f_Layout_layGroup_72 F c (f_Layout_layGroup_6 F c f) 1700 (nI g) (nI P) (some (152 + x)) (some (152 + x)) (lN A) (cH sk L τ) = some (lN ((ll.drop (P + 1)).foldl (pg1 (tB fs s.2.2.1) g th) (pg1 (tB fs s.2.2.1) g th G x)).1, cH sk L τ') ∧ (∀ x', x' ∈ ll → (D x' ∨ cnd (tB fs s.2.2.1) g x' = true) → fJ τ' (152 + x') 11 = lN (((ll.drop (P + 1)).foldl (pg1 (tB fs s.2.2.1) g th) (pg1 (tB fs s.2.2.1) g th G x)).2.1 x')) ∧ fr11 τ τ' := by
          obtain ⟨τ1, hτ1⟩ : ∃ y, y = tJ τ (152 + x) 11 (lN A) := ⟨_, rfl⟩
          have f1 : fr11 τ τ1 := by
            rw [hτ1]
            exact ⟨fun _ _ => rfl, fun a k w => tJ_ne (by omega), fun _ _ => rfl, fun _ => rfl, fun _ => rfl, fun _ => rfl⟩
          rw [ep]
          obtain ⟨τ', j1, j2, j3⟩ := ih (P + 1) f τ1 (A + zS (tB fs s.2.2.1) x, fun y => if y = x then A else G.2.1 y, if g = 3 then some (G.2.2.getD A) else G.2.2) (by omega) (by omega) (TKe_Ly h (fr11_Ly f1)) (COr_fx ho (f1.1 1700 11) (f1.2.2.2.2.2 1701)) (by rw [f1.2.2.2.1]; exact ht) hb2 (fun Q y hy hd => by
            show fJ τ1 (152 + y) 11 = lN (if y = x then A else G.2.1 y)
            by_cases ey : y = x
            · rw [if_pos ey, ey, hτ1, tJ_at]
            · rw [if_neg ey, hτ1, tJ_ne (Or.inl (by omega))]
              refine hA Q y hy (hd.imp id (fun w => ⟨?_, w.2⟩))
              by_cases eQ : Q = P
              · rw [eQ, hx] at hy
                exact absurd (Option.some.inj hy).symm ey
              · omega)
          refine ⟨τ', ?_, j2, fr11_trans f1 j3⟩
          unfold f_Layout_layGroup_72 f_Layout_layGroup_89
          rw [bs, C8p11 p1, bs, ← hτ1, bs, C8g11 p1, bs, show fJ τ1 (152 + x) 11 = lN A by rw [hτ1, tJ_at], C8g5 p1, bs, f1.1, t5, nI_l (by omega), lN_add, nI_add]
          exact j1
        rw [if_pos (show bI false = 0 from rfl), C2r4 o (GR_r (v := 1703) hR (by decide)), bs, c_o o, bs, k_segmentOf hc p1 hg16 t4, xb_mk, c_aI (G1703 hS) (by decide) (by decide) (by have := (sgO_l g1 hg16).2; omega), bs, cg, ht]
        cases eth : th with
        | false =>
          rw [if_pos (show bI false = 0 from rfl)]
          have eA : A = G.1 := by rw [hA1]; unfold pgA; rw [if_neg (fun w => by rw [eth] at w; exact nomatch w.1)]
          rw [← eA]
          rw [eth] at put
          exact put
        | true =>
          rw [if_neg (show ¬ bI true = 0 by decide), C8g6 p1, bs, t6, nI_l (by split <;> omega)]
          have eU : f_H_up F c (lN G.1) (lN (if oA (tB fs s.2.2.1 (x / 24)) (x % 24) < 1 then 1 else oA (tB fs s.2.2.1 (x / 24)) (x % 24))) (cH sk L τ) = some (lN A, cH sk L τ) := by
            rw [hA1]
            unfold pgA
            have eal : alS (tB fs s.2.2.1) x = oA (tB fs s.2.2.1 (x / 24)) (x % 24) := rfl
            rw [eal]
            generalize oA (tB fs s.2.2.1 (x / 24)) (x % 24) = a at *
            by_cases c0 : a ≤ 1
            · have e1 : (if a < 1 then 1 else a) = 2 ^ 0 := by split <;> omega
              rw [e1, if_neg (fun w => by omega), k_up (k := 0) (by decide) (by omega)]
              unfold upN
              rw [show (2 : Nat) ^ 0 = 1 from rfl, Nat.div_one, Nat.mul_one, Nat.add_sub_cancel]
            · have hp2 := hap.resolve_left (by omega)
              obtain ⟨w1, w2⟩ := isP_pow a (by omega) hp2
              rw [if_neg (by omega), if_pos ⟨eth, by omega⟩]
              generalize Nat.log2 a = k at *
              rw [w1]
              exact k_up w2 (by omega)
          rw [eU, xb_mk]
          rw [eth] at put
          exact put
    · rw [if_neg (show ¬ nI g1 = nI g from fun w => cg ((nI_eq (by omega) (by omega)).mp w))]
      exact no (by rw [ecn, decide_eq_false cg, Bool.false_and])
end CGR
end
section
/-! firstOf of the class; the commons' alignments -/
section CFO
variable {F : Nat} {c : px_CT} {sk : Nat → Nat × Nat × Nat} {L : Nat} {τ : px_TT} {own : Nat → Nat × Nat} {fs : px_FS} {s : px_TK} {xs : px_NL} {ST rn : Nat → Bool} {ll : List Nat} {g : Nat}
theorem k_fo_2 {p : Nat → Bool} (hp : ∀ x, x ∈ ll → (p x = true ↔ oG (tB fs s.2.2.1 (x / 24)) (x % 24) = g)) (hk : STk fs s ST) (hl : llS2 s ST ll) (hg : g < 6) (h : TKe sk L own τ fs s xs ST rn) (ho : COr τ ll) : ∀ (d P f : Nat), P + d = ll.length → d < f → f_Layout_firstOf_2 F c f 1700 (nI g) (nI P) (cH sk L τ) = some (((ll.drop P).find? p).map (fun x => 152 + x), cH sk L τ) := by
  have hl1 := hl.1
  have hS := h.1
  have hR := h.2.1
  have o := G1700 hS
  intro d
  induction d with
  | zero =>
    intro P f hP hf
    obtain ⟨f, rfl⟩ : ∃ x, f = x + 1 := ⟨f - 1, by omega⟩
    unfold f_Layout_firstOf_2 f_Layout_firstOf_34
    rw [C2g11 o, bs, ho.1, if_pos (nI_le (by omega) (by omega)), List.drop_of_length_le (by omega)]
    rfl
  | succ d ih =>
    intro P f hP hf
    obtain ⟨f, rfl⟩ : ∃ x, f = x + 1 := ⟨f - 1, by omega⟩
    have hPl : P < ll.length := by omega
    have hx := List.getElem?_eq_getElem hPl
    have hdr : ll.drop P = ll[P] :: ll.drop (P + 1) := List.drop_eq_getElem_cons hPl
    generalize ll[P] = x at hx hdr
    have hpx := hp x (List.mem_of_getElem? hx)
    obtain ⟨hxT, hxS⟩ := hl.2 x (List.mem_of_getElem? hx)
    obtain ⟨p1, p2, p3, p4⟩ := TKe_part h hxT
    obtain ⟨t4, t5, t6, t7, t10, tS⟩ := TKe_pt h hk hxT hxS
    have hg16 : oG (tB fs s.2.2.1 (x / 24)) (x % 24) < 6 := by unfold oG; repeat (first | omega | split)
    generalize oG (tB fs s.2.2.1 (x / 24)) (x % 24) = g1 at t4 hg16 hpx
    have kpa := k_partAt (F := F) (c := c) hS hR ho hl1 hx
    unfold f_Layout_firstOf_2 f_Layout_firstOf_22
    rw [C2g11 o, bs, ho.1, if_neg (nI_ge hPl (by omega)), c_o o, bs, kpa, xb_mk, bs, C8g4 p1, bs, t4, hdr, List.find?_cons]
    by_cases cg : g1 = g
    · rw [if_pos (by rw [cg]), hpx.mpr cg, c_o o, bs, kpa, xb_mk]
      rfl
    · have hf : p x = false := Bool.eq_false_iff.mpr (fun w => cg (hpx.mp w))
      rw [if_neg (show ¬ nI g1 = nI g from fun w => cg ((nI_eq (by omega) (by omega)).mp w)), hf, nI_add]
      exact ih (P + 1) f (by omega) (by omega)
theorem k_firstOf {p : Nat → Bool} (hp : ∀ x, x ∈ ll → (p x = true ↔ oG (tB fs s.2.2.1 (x / 24)) (x % 24) = g)) (hF : 65536 < F) (hk : STk fs s ST) (hl : llS2 s ST ll) (hg : g < 6) (h : TKe sk L own τ fs s xs ST rn) (ho : COr τ ll) : f_Layout_firstOf F c 1700 (nI g) (cH sk L τ) = some ((ll.find? p).map (fun x => 152 + x), cH sk L τ) := by
  have hl1 := hl.1
  exact k_fo_2 hp hk hl hg h ho ll.length 0 F (Nat.zero_add _) (by omega)
/-- a common's alignment is a power of two -/
def cmQ (x : List Nat × px_NR) : Prop := x.2.1 = 2 → isP x.2.2.2.2.2.2.2 = true
theorem cmQ_tk (dr : Nat → Bool) (t : Nat) (b : Nat → Nat) (k : Nat) (s : px_TS) (hy : yOK b k = true) (h : AL cmQ s.2.1) : AL cmQ (tk1 dr t b k s).2.1 := by
  by_cases cB : yB b k = 0
  · have e : tk1 dr t b k s = s := by unfold tk1; rw [if_pos cB]
    rw [e]; exact h
  have hE : AL cmQ (entL (yT b k) s.2.1) := AL_ent h (fun q => nomatch q)
  have hv : sOf dr t b k = 2 → isP (yV b k) = true := fun e => (((of_decide_eq_true hy).2.2.2 cB).2.2 (sOf_2 e)).1
  have h1 : ∀ i, AL cmQ (setR (entL (yT b k) s.2.1) i (fun r => (r.1, (r.2.1 || decide (yB b k = 1)), r.2.2))) := fun i => AL_setR hE (fun x hx q => hE i x hx q)
  have h2 : ∀ i, AL cmQ (setR (entL (yT b k) s.2.1) i (cmS (sOf dr t b k) t k (yZ b k) (yV b k))) := fun i => AL_setR hE (fun x hx q => by
    have q : (cmS (sOf dr t b k) t k (yZ b k) (yV b k) x.2).1 = 2 := q
    show isP (cmS (sOf dr t b k) t k (yZ b k) (yV b k) x.2).2.2.2.2.2.2 = true
    have hx1 := hE i x hx
    generalize sOf dr t b k = S at *
    generalize yZ b k = z at *
    generalize yV b k = v at *
    unfold cmS at q ⊢
    by_cases c1 : x.2.1 < S
    · rw [if_pos c1] at q ⊢
      have q : S = 2 := q
      show isP (if S = 2 then v else 0) = true
      rw [if_pos q]; exact hv q
    · rw [if_neg c1] at q ⊢
      by_cases c2 : S = 2 ∧ x.2.1 = 2
      · rw [if_pos c2] at q ⊢
        show isP (if v ≤ x.2.2.2.2.2.2.2 then x.2.2.2.2.2.2.2 else v) = true
        by_cases c3 : v ≤ x.2.2.2.2.2.2.2
        · rw [if_pos c3]; exact hx1 c2.2
        · rw [if_neg c3]; exact hv c2.1
      · rw [if_neg c2] at q ⊢
        exact hx1 q)
  rw [tk1_G]
  generalize sOf dr t b k = S at *
  generalize yT b k = Y at *
  generalize cmS S t k (yZ b k) (yV b k) = g at *
  generalize hf : (fun r : px_NR => (r.1, (r.2.1 || decide (yB b k = 1)), r.2.2)) = f0 at *
  generalize yB b k = B at *
  unfold tkG
  by_cases c0 : B = 0
  · rw [if_pos c0]; exact h
  · rw [if_neg c0]
    by_cases c1 : s.1 = 1
    · rw [if_pos c1]; exact hE
    · rw [if_neg c1]
      have hc : AL cmQ (comG S Y f0 g (s.2.1, s.2.2.1)).2.1 := by
        unfold comG
        by_cases d1 : S = 0
        · rw [if_pos d1]; exact h1 _
        · rw [if_neg d1]
          split
          · exact hE
          · exact h2 _
      split
      · exact hc
      · exact hc
theorem cmQ_0 {od : List Nat} (hf : FSo fs) (h : ST0 xs od) : AL cmQ (ownL (taL fs xs od).1.2.1) := by
  have h1 : AL cmQ (taL fs xs od).1.2.1 := TK_inv (P := fun s => AL cmQ s.2.1) cmQ_tk hf (fun i x hx q => by
    have := (h.1 i x hx).2.1.2
    have q : x.2.1 = 2 := q
    omega)
  exact AL_own (fun k _ x _ _ q => nomatch q) h1
end CFO
end
section
/-! the commons, laid out by the class -/
def fr14 (τ τ' : px_TT) : Prop := (∀ a k, fI τ' a k = fI τ a k) ∧ (∀ a k, a < 1815 → (a ≠ 1700 ∨ k ≠ 15) → fJ τ' a k = fJ τ a k) ∧ (∀ a k, 1815 ≤ a → k ≠ 14 → fJ τ' a k = fJ τ a k) ∧ (∀ a k, fN τ' a k = fN τ a k) ∧ (∀ a, eI τ' a = eI τ a) ∧ (∀ a, eJ τ' a = eJ τ a) ∧ ∀ a, eN τ' a = eN τ a
theorem fr14_refl {τ : px_TT} : fr14 τ τ := ⟨fun _ _ => rfl, fun _ _ _ _ => rfl, fun _ _ _ _ => rfl, fun _ _ => rfl, fun _ => rfl, fun _ => rfl, fun _ => rfl⟩
theorem fr14_trans {τ τ1 τ2 : px_TT} (h : fr14 τ τ1) (g : fr14 τ1 τ2) : fr14 τ τ2 := ⟨fun a k => (g.1 a k).trans (h.1 a k), fun a k x y => (g.2.1 a k x y).trans (h.2.1 a k x y), fun a k x y => (g.2.2.1 a k x y).trans (h.2.2.1 a k x y), fun a k => (g.2.2.2.1 a k).trans (h.2.2.2.1 a k), fun a => (g.2.2.2.2.1 a).trans (h.2.2.2.2.1 a), fun a => (g.2.2.2.2.2.1 a).trans (h.2.2.2.2.2.1 a), fun a => (g.2.2.2.2.2.2 a).trans (h.2.2.2.2.2.2 a)⟩
theorem fr14_Ly {τ τ' : px_TT} (f : fr14 τ τ') : frLy τ τ' := ⟨fun a k _ _ _ => f.1 a k, fun a k _ _ _ => f.1 a k, fun a k x _ y _ => f.2.1 a k x (Or.inl y), fun a k x y => f.2.2.1 a k x y, f.2.2.2.1, fun a _ => f.2.2.2.2.1 a, fun a _ => f.2.2.2.2.2.1 a, fun a _ => f.2.2.2.2.2.2 a⟩
section CCM
variable {F : Nat} {c : px_CT} {sk : Nat → Nat × Nat × Nat} {L : Nat} {own : Nat → Nat × Nat} {fs : px_FS} {s : px_TK} {xs : px_NL} {ST rn : Nat → Bool} {th on : Bool} {rn0 : Nat → Bool}
theorem bsV_le {o : Option Nat} (h : ∀ v, o = some v → v < 2 ^ 40) : (lN 0 ≤ bsV o) ↔ o.isSome = true := by
  cases o with
  | none => exact ⟨fun w => absurd w (by decide), fun w => nomatch w⟩
  | some v =>
    have := h v rfl
    exact ⟨fun _ => rfl, fun _ => (pk_lLE (a := 0) (b := v) (by decide) (by omega)).mpr (Nat.zero_le _)⟩
theorem k_ld_111 (hF : 65536 < F) (hok : okL xs) (hcm : cmOK xs) (hcq : AL cmQ xs) (hrn : ∀ i, rn i = (!on || rn0 i)) : ∀ (d P f : Nat) (τ : px_TT) (G : px_PG), P + d = s.1.2.2.1.length → d < f → TKe sk L own τ fs s xs ST rn → eI τ 1703 2 = bI th → fJ τ 1700 15 = bsV G.2.2 → G.1 + d * 20480 < 2 ^ 40 → (∀ v, G.2.2 = some v → v < 2 ^ 40) → (∀ n, n ∈ s.1.2.2.1.take P → cB xs on rn0 n = true → fJ τ (pN τ 149 n) 14 = lN (G.2.1 n)) → ∃ τ', f_Layout_layData_111 F c f 1700 (lN G.1) (nI P) (cH sk L τ) = f_Layout_layData_212 F c 1700 (lN ((s.1.2.2.1.drop P).foldl (pc1 xs on rn0 th) G).1) (cH sk L τ') ∧ fJ τ' 1700 15 = bsV ((s.1.2.2.1.drop P).foldl (pc1 xs on rn0 th) G).2.2 ∧ (∀ n, n ∈ s.1.2.2.1 → cB xs on rn0 n = true → fJ τ' (pN τ 149 n) 14 = lN (((s.1.2.2.1.drop P).foldl (pc1 xs on rn0 th) G).2.1 n)) ∧ fr14 τ τ' := by
  intro d
  induction d with
  | zero =>
    intro P f τ G hP hf h ht h15 hb hv hA
    obtain ⟨f, rfl⟩ : ∃ x, f = x + 1 := ⟨f - 1, by omega⟩
    have hol := h.2.2.2.2.1.1.2.2.2.1
    have hT := BK_T (s := s) h.2.2.2.2.1.1
    rw [List.drop_of_length_le (by omega)]
    refine ⟨τ, ?_, h15, fun n hn => hA n (by rw [List.take_of_length_le (by omega)]; exact hn), fr14_refl⟩
    unfold f_Layout_layData_111
    rw [C2r0 (G1700 h.1) (GR_r (v := 147) h.2.1 (by decide)), bs, C3g15 (G147 h.1), bs, h.2.2.2.1.2.1.2.2.1, if_pos (nI_le (by omega) (by omega))]
    rfl
  | succ d ih =>
    intro P f τ G hP hf h ht h15 hb hv hA
    obtain ⟨f, rfl⟩ : ∃ x, f = x + 1 := ⟨f - 1, by omega⟩
    have hol := h.2.2.2.2.1.1.2.2.2.1
    have hT := BK_T (s := s) h.2.2.2.2.1.1
    have hS := h.1
    have hR := h.2.1
    have o := G1700 hS
    have hPl : P < s.1.2.2.1.length := by omega
    have hx := List.getElem?_eq_getElem hPl
    have hdr : s.1.2.2.1.drop P = s.1.2.2.1[P] :: s.1.2.2.1.drop (P + 1) := List.drop_eq_getElem_cons hPl
    have htk : s.1.2.2.1.take (P + 1) = s.1.2.2.1.take P ++ [s.1.2.2.1[P]] := by rw [List.take_succ, hx]; rfl
    generalize s.1.2.2.1[P] = D at hx hdr htk
    obtain ⟨q1, q2⟩ := h.2.2.2.1.2.1.2.2.2 P D hx
    obtain ⟨k1, k2, k3, k4, k5⟩ := k_laid (F := F) (c := c) h hok q1
    have ecB : cB xs on rn0 D = (decide (stN xs D = 2) && rn D) := by unfold cB; rw [hrn D]
    rw [hdr, List.foldl_cons]
    unfold f_Layout_layData_111 f_Layout_layData_206
    rw [C2r0 o (GR_r (v := 147) hR (by decide)), bs, C3g15 (G147 hS), bs, h.2.2.2.1.2.1.2.2.1, if_neg (nI_ge hPl (by omega)), bs, c_o (G147 hS), bs, k_definedAt h hx, xb_mk, k1, xb_mk, nI_add, ← ecB]
    cases e : cB xs on rn0 D with
    | false =>
      have ep : pc1 xs on rn0 th G D = G := by unfold pc1; rw [if_neg (by rw [e]; decide)]
      rw [if_pos (show bI false = 0 from rfl), ep]
      exact ih (P + 1) f τ G (by omega) (by omega) h ht h15 (Nat.lt_of_le_of_lt (Nat.add_le_add_left (Nat.mul_le_mul_right _ (Nat.le_succ d)) _) hb) hv (fun n hn hc => by
        rw [htk] at hn
        rcases List.mem_append.mp hn with w | w
        · exact hA n w hc
        · rw [List.mem_singleton] at w
          rw [w, e] at hc
          cases hc)
    | true =>
      have hst : stN xs D = 2 := of_decide_eq_true ((Bool.and_eq_true _ _).mp (by rw [← ecB]; exact e)).1
      obtain ⟨⟨c1, c2⟩, c3⟩ := hcm D q1 hst
      obtain ⟨j8, j7⟩ := k3 hst
      obtain ⟨A, hA1⟩ : ∃ A, A = pcA xs th G.1 D := ⟨_, rfl⟩
      have ep : pc1 xs on rn0 th G D = (A + cmZ xs D, fun y => if y = D then A else G.2.1 y, some (G.2.2.getD A)) := by unfold pc1; rw [if_pos e, ← hA1]
      have hb1 := ar_pg3 hb
      have hpa : A ≤ G.1 + 4096 := by
        rw [hA1]
        unfold pcA
        split
        · have := (upN_le (v := G.1) (a := cmV xs D) c1).2
          omega
        · omega
      have hb2 := ar_pg2 hb hpa c3
      have hvA : G.2.2.getD A < 2 ^ 40 := by
        cases eo : G.2.2 with
        | none => show A < _; omega
        | some v => exact hv v eo
      have zq := (h.2.2.2.1.1 149 D _ (Or.inr (Or.inr rfl)) (CLm_at h.2.2.2.1.2.1 (List.getElem?_eq_getElem q1)).2.1).1
      obtain ⟨p, hp⟩ : ∃ p, p = pN τ 149 D := ⟨_, rfl⟩
      rw [← hp] at k2 j8 j7 zq ⊢
      have put : ∃ τ', f_Layout_layData_166 F c (f_Layout_layData_111 F c f) 1700 (nI P) (some p) (some p) (lN A) (cH sk L τ) = f_Layout_layData_212 F c 1700 (lN ((s.1.2.2.1.drop (P + 1)).foldl (pc1 xs on rn0 th) (pc1 xs on rn0 th G D)).1) (cH sk L τ') ∧ fJ τ' 1700 15 = bsV ((s.1.2.2.1.drop (P + 1)).foldl (pc1 xs on rn0 th) (pc1 xs on rn0 th G D)).2.2 ∧ (∀ n, n ∈ s.1.2.2.1 → cB xs on rn0 n = true → fJ τ' (pN τ 149 n) 14 = lN (((s.1.2.2.1.drop (P + 1)).foldl (pc1 xs on rn0 th) (pc1 xs on rn0 th G D)).2.1 n)) ∧ fr14 τ τ' := by
        obtain ⟨τ1, hτ1⟩ : ∃ y, y = tJ τ p 14 (lN A) := ⟨_, rfl⟩
        have e15 : fJ τ1 1700 15 = bsV G.2.2 := by rw [hτ1, tJ_ne (Or.inl (by omega))]; exact h15
        obtain ⟨τ2, hτ2⟩ : ∃ y, y = tJ τ1 1700 15 (lN (G.2.2.getD A)) := ⟨_, rfl⟩
        have f2 : fr14 τ τ2 := by
          rw [hτ2, hτ1]
          exact ⟨fun _ _ => rfl, fun a k w1 w2 => (tJ_ne w2).trans (tJ_ne (Or.inl (by omega))), fun a k w1 w2 => (tJ_ne (Or.inl (by omega))).trans (tJ_ne (Or.inr w2)), fun _ _ => rfl, fun _ => rfl, fun _ => rfl, fun _ => rfl⟩
        have eP : ∀ n, pN τ2 149 n = pN τ 149 n := fun n => by unfold pN; rw [f2.2.2.2.2.2.2]
        have e14 : ∀ n, n < xs.length → fJ τ2 (pN τ 149 n) 14 = if n = D then lN A else fJ τ (pN τ 149 n) 14 := fun n hn => by
          have z2 := (CLm_at h.2.2.2.1.2.1 (List.getElem?_eq_getElem hn)).2.1
          have hge := (h.2.2.2.1.1 149 n _ (Or.inr (Or.inr rfl)) z2).1
          rw [hτ2, tJ_ne (Or.inl (by omega)), hτ1]
          by_cases en : n = D
          · rw [if_pos en, en, ← hp, tJ_at]
          · have zD := (CLm_at h.2.2.2.1.2.1 (List.getElem?_eq_getElem q1)).2.1
            have hne : pN τ 149 n ≠ p := by rw [hp]; exact NP_ne h.2.2.2.1.1 (Or.inr (Or.inr rfl)) (Or.inr (Or.inr rfl)) z2 zD (fun w => en w.2)
            rw [if_neg en, tJ_ne (Or.inl hne)]
        rw [ep]
        obtain ⟨τ', j1, j2, j3, j4⟩ := ih (P + 1) f τ2 (A + cmZ xs D, fun y => if y = D then A else G.2.1 y, some (G.2.2.getD A)) (by omega) (by omega) (TKe_Ly h (fr14_Ly f2)) (by rw [f2.2.2.2.2.1]; exact ht) (by rw [hτ2, tJ_at]; rfl) hb2 (fun v w => by cases w; exact hvA) (fun n hn hc => by
          have hnx : n < xs.length := by
            obtain ⟨i, hi⟩ := List.getElem?_of_mem (List.mem_of_mem_take hn)
            exact (h.2.2.2.1.2.1.2.2.2 i n hi).1
          rw [eP, e14 n hnx]
          show (if n = D then lN A else fJ τ (pN τ 149 n) 14) = lN (if n = D then A else G.2.1 n)
          by_cases en : n = D
          · rw [if_pos en, if_pos en]
          · rw [if_neg en, if_neg en]
            rw [htk] at hn
            rcases List.mem_append.mp hn with w | w
            · exact hA n w hc
            · exact absurd (List.mem_singleton.mp w) en)
        refine ⟨τ', ?_, j2, fun n hn hc => by rw [← eP n]; exact j3 n hn hc, fr14_trans f2 j4⟩
        unfold f_Layout_layData_166 f_Layout_layData_203 f_Layout_layData_206
        rw [bs, C5p14 k2, bs, ← hτ1, bs, C5g14 k2, bs, show fJ τ1 p 14 = lN A by rw [hτ1, tJ_at], C5g8 k2, bs, show fJ τ1 p 8 = lN (cmZ xs D) by rw [hτ1, tJ_ne (Or.inr (by decide))]; exact j8, C2g15 o, bs, e15, lN_add]
        cases eo : G.2.2 with
        | none =>
          have hle : ¬ lN 0 ≤ bsV (none : Option Nat) := by decide
          rw [if_neg hle, bs, show (none : Option Nat).getD A = A from rfl] at *
          rw [eo, show (none : Option Nat).getD A = A from rfl] at hτ2
          rw [C2p15 o, bs, ← hτ2, nI_add]
          rw [eo] at j1
          exact j1
        | some v =>
          have hle : lN 0 ≤ bsV (some v) := (bsV_le (o := some v) (fun w e => by cases e; exact hv v eo)).mpr rfl
          rw [if_pos hle, bs]
          rw [eo] at hτ2 j1
          have hτ2 : τ2 = tJ τ1 1700 15 (bsV (some v)) := hτ2
          rw [C2p15 o, bs, ← hτ2, nI_add]
          exact j1
      rw [if_neg (show ¬ bI true = 0 by decide), C2r4 o (GR_r (v := 1703) hR (by decide)), bs, c_aI (G1703 hS) (by decide) (by decide) (by decide), bs, ht]
      cases eth : th with
      | false =>
        have eA : A = G.1 := by rw [hA1]; unfold pcA; rw [if_neg (by rw [eth]; decide)]
        rw [if_pos (show bI false = 0 from rfl), ← eA]
        rw [eth] at put
        exact put
      | true =>
        have hp2 := hcq D _ (List.getElem?_eq_getElem q1) (by rw [stN_at (List.getElem?_eq_getElem q1)] at hst; exact hst)
        have ecv : cmV xs D = xs[D].2.2.2.2.2.2.2 := by unfold cmV; rw [List.getD_eq_getElem?_getD, List.getElem?_eq_getElem q1]; rfl
        rw [← ecv] at hp2
        obtain ⟨w1, w2⟩ := isP_pow (cmV xs D) (by omega) hp2
        have eU : f_H_up F c (lN G.1) (lN (cmV xs D)) (cH sk L τ) = some (lN A, cH sk L τ) := by
          rw [hA1]
          unfold pcA
          rw [if_pos eth]
          generalize Nat.log2 (cmV xs D) = k at w1 w2
          rw [w1]
          exact k_up w2 (by omega)
        rw [if_neg (show ¬ bI true = 0 by decide), bs, C5g7 k2, bs, j7, eU, xb_mk]
        rw [eth] at put
        exact put
end CCM
end
section
/-! addressIn of the class's pool -/
section CAI
variable {F : Nat} {c : px_CT} {sk : Nat → Nat × Nat × Nat} {L : Nat} {τ : px_TT} {C : Nat → Nat} {A Z ss p : Nat} {cpf : List Nat}
theorem k_ai_63 (hS : GS sk L) (hR : GR τ) (hb : CB τ C) (h71 : fI τ 7 1 = nI ss) (hss : ss ≤ 65536) (hp : ob sk L 8 p) (h7 : fI τ p 7 = nI A) {a4 : Int32} : ∀ (d f : Nat), A + d ≤ ss → d < f → f_Pool_addressIn_63 F c f 1697 (some p) a4 (nI (A + d)) (cH sk L τ) = f_Pool_addressIn_92 F c 1697 (some p) a4 (nI (frm C A d)) (cH sk L τ) := by
  have o := G1697 hS
  intro d
  induction d with
  | zero =>
    intro f hd hf
    obtain ⟨f, rfl⟩ : ∃ x, f = x + 1 := ⟨f - 1, by omega⟩
    unfold f_Pool_addressIn_63
    rw [bs, C8g7 hp, bs, h7, if_pos (nI_le (by omega) (by omega))]
    rfl
  | succ d ih =>
    intro f hd hf
    obtain ⟨f, rfl⟩ : ∃ x, f = x + 1 := ⟨f - 1, by omega⟩
    have hC := CB_lt hb (A + d)
    unfold f_Pool_addressIn_63
    rw [bs, C8g7 hp, bs, h7, if_neg (nI_ge (by omega) (by omega)), C9r0 o (GR_r (v := 7) hR (by decide)), bs, c_o (G7 hS), bs, pk_sub (by omega), show A + (d + 1) - 1 = A + d by omega, k_at8 hS hR hb h71 hss (by omega), xb_mk, frm_s]
    by_cases c0 : C (A + d) = 0
    · rw [if_pos (show nI (C (A + d)) = 0 by rw [c0]; rfl), if_pos c0, show A + d + 1 = A + (d + 1) by omega]
    · rw [if_neg (show ¬ nI (C (A + d)) = 0 from fun q => c0 ((nI_eq (b := 0) (by omega) (by decide)).mp q)), if_neg c0, nI_back, pk_sub (by omega), show A + (d + 1) - 1 = A + d by omega]
      exact ih f (by omega) (by omega)
theorem k_ai_96 (hS : GS sk L) (hR : GR τ) (hb : CB τ C) (h71 : fI τ 7 1 = nI ss) (hss : ss ≤ 65536) (hA : A + Z ≤ ss) (hp : ob sk L 8 p) (h7 : fI τ p 7 = nI A) (h5 : fI τ p 5 = nI Z) (hz : C (A + (Z - 1)) = 0) {a4 a5 : Int32} : ∀ (d j f : Nat), j + d = Z → 0 < d → d < f → f_Pool_addressIn_96 F c f 1697 (some p) a4 a5 (nI (A + j)) (cH sk L τ) = f_Pool_addressIn_130 F c 1697 a4 a5 (nI (A + nxt C A j d)) (cH sk L τ) := by
  have o := G1697 hS
  intro d
  induction d with
  | zero => intro j f _ h; omega
  | succ d ih =>
    intro j f hj _ hf
    obtain ⟨f, rfl⟩ : ∃ x, f = x + 1 := ⟨f - 1, by omega⟩
    have hC := CB_lt hb (A + j)
    unfold f_Pool_addressIn_96
    rw [bs, C8g7 hp, bs, h7, C8g5 hp, bs, h5, nI_add, pk_sub (by omega), nxt_s]
    by_cases cl : d = 0
    · have ej : j = Z - 1 := by omega
      rw [if_pos (nI_le (by omega) (by omega)), if_pos (by rw [ej]; exact hz)]
    · rw [if_neg (nI_ge (by omega) (by omega)), C9r0 o (GR_r (v := 7) hR (by decide)), bs, c_o (G7 hS), bs, k_at8 hS hR hb h71 hss (by omega), xb_mk]
      by_cases c0 : C (A + j) = 0
      · rw [if_pos (show nI (C (A + j)) = 0 by rw [c0]; rfl), if_pos c0]
      · rw [if_neg (show ¬ nI (C (A + j)) = 0 from fun q => c0 ((nI_eq (b := 0) (by omega) (by decide)).mp q)), if_neg c0, nI_add, show A + j + 1 = A + (j + 1) by omega]
        exact ih (j + 1) f (by omega) (by omega) (by omega)
/-- the pool is looked through -/
theorem k_ai_148 {f e at0 pa : Nat} (hS : GS sk L) (hR : GR τ) (hF : 65536 < F) (hb : CB τ C) (hpl : CPl τ C cpf) (h : isSt C f e) (hat : f ≤ at0 ∧ at0 ≤ e) (hpa : pa < 2 ^ 40) (h5 : fJ τ 1697 5 = lN pa) : ∀ (d i n off : Nat), i + d = cpf.length → d < n → off + psz C (cpf.drop i) ≤ 2 ^ 32 → f_Pool_addressIn_148 F c n 1697 (nI at0) (nI f) (nI e) (nI (e + 1 - f)) (lN (pa + off)) (nI i) (cH sk L τ) = some (match peO C off (cpf.drop i) (st C f) with
    | some y => lN (pa + y) - lN (e + 1 - at0)
    | none => lN (pa + psz C cpf), cH sk L τ) := by
  have o := G1697 hS
  have hl := stL_len hpl.2.2.1
  have hpz := psz_le cpf hpl.2.2.1.2
  have he := h.1
  intro d
  induction d with
  | zero =>
    intro i n off hi hd hof
    obtain ⟨n, rfl⟩ : ∃ x, n = x + 1 := ⟨n - 1, by omega⟩
    unfold f_Pool_addressIn_148 f_Pool_addressIn_213
    rw [C9g3 o, bs, hpl.1, if_pos (nI_le (by omega) (by omega)), C9g5 o, bs, h5, C9g4 o, bs, hpl.2.1, nI_l (by omega), lN_add, List.drop_of_length_le (by omega)]
    rfl
  | succ d ih =>
    intro i n off hi hd hof
    obtain ⟨n, rfl⟩ : ∃ x, n = x + 1 := ⟨n - 1, by omega⟩
    have hil : i < cpf.length := by omega
    have hg := List.getElem?_eq_getElem hil
    have hdr : cpf.drop i = cpf[i] :: cpf.drop (i + 1) := List.drop_eq_getElem_cons hil
    generalize cpf[i] = g at hg hdr
    obtain ⟨e', g1, g2, g3, g4⟩ := CPl_at hpl hg
    have gl := isSt_len g1
    have gle := g1.2.1
    have elen : e' + 1 - g = (st C g).length + 1 := by omega
    have hpe : peO C off (g :: cpf.drop (i + 1)) (st C f) = if sufB (st C f) (st C g) = true then some (off + ((st C g).length + 1)) else peO C (off + ((st C g).length + 1)) (cpf.drop (i + 1)) (st C f) := rfl
    have hps : psz C (g :: cpf.drop (i + 1)) = (st C g).length + 1 + psz C (cpf.drop (i + 1)) := rfl
    rw [hdr, hps] at hof
    rw [hdr, hpe]
    have hie := k_isEnd (F := F) (c := c) hS hR hF hb h g1
    unfold f_Pool_addressIn_148 f_Pool_addressIn_195
    rw [C9g3 o, bs, hpl.1, if_neg (nI_ge hil (by omega)), C9r2 o (GR_r (v := 1699) hR (by decide)), bs, c_aI (G1699 hS) (by decide) (by decide) (by omega), bs, C9r1 o (GR_r (v := 1698) hR (by decide)), bs, c_aI (G1698 hS) (by decide) (by decide) (by omega), bs, bs, c_aI (G1699 hS) (by decide) (by decide) (by omega), bs, c_o o, bs, g3, g4, hie, xb_mk, nI_l (by omega), lN_add, elen]
    cases hs : sufB (st C f) (st C g) with
    | true =>
      rw [if_neg (show ¬ bI true = 0 by decide), if_pos rfl, nI_add, pk_sub (by omega), nI_l (by omega), Nat.add_assoc]
    | false =>
      rw [if_pos (show bI false = 0 from rfl), if_neg (by decide), nI_add, Nat.add_assoc]
      exact ih (i + 1) n (off + ((st C g).length + 1)) (by omega) (by omega) (by omega)
end CAI
end
section
/-! addressIn of the class's pool, whole -/
section CAJ
variable {F : Nat} {c : px_CT} {sk : Nat → Nat × Nat × Nat} {L : Nat} {τ : px_TT} {C : Nat → Nat} {A Z ss p : Nat} {cpf : List Nat}
theorem nxt_no {B : Nat → Nat} {q : Nat} : ∀ (d j : Nat), j ≤ nxt B q j d ∧ nxt B q j d ≤ j + d ∧ ∀ i, j ≤ i → i < nxt B q j d → B (q + i) ≠ 0
  | 0, j => ⟨Nat.le_refl _, Nat.le_refl _, fun i h1 h2 => by have h2 : i < j := h2; omega⟩
  | d + 1, j => by
    rw [nxt_s]
    by_cases c0 : B (q + j) = 0
    · rw [if_pos c0]; exact ⟨Nat.le_refl _, by omega, fun i h1 h2 => by omega⟩
    · rw [if_neg c0]
      obtain ⟨a1, a2, a3⟩ := nxt_no (B := B) (q := q) d (j + 1)
      refine ⟨by omega, by omega, fun i h1 h2 => ?_⟩
      by_cases e : i = j
      · rw [e]; exact c0
      · exact a3 i (by omega) h2
theorem frm_same {B : Nat → Nat} {q V : Nat} : ∀ (d : Nat), (∀ i, V ≤ i → i < V + d → B (q + i) ≠ 0) → frm B q (V + d) = frm B q V
  | 0, _ => rfl
  | d + 1, h => by
    rw [show V + (d + 1) = V + d + 1 by omega, frm_s, if_neg (h (V + d) (by omega) (by omega))]
    exact frm_same d (fun i h1 h2 => h i h1 (by omega))
theorem peO_ge {B : Nat → Nat} {u : List Nat} {y : Nat} : ∀ {l : List Nat} {off : Nat}, peO B off l u = some y → off + (u.length + 1) ≤ y
  | [], off, h => by cases h
  | f :: l, off, h => by
    have h : (if sufB u (st B f) = true then some (off + ((st B f).length + 1)) else peO B (off + ((st B f).length + 1)) l u) = some y := h
    by_cases c0 : sufB u (st B f) = true
    · rw [if_pos c0] at h
      have h : off + ((st B f).length + 1) = y := Option.some.inj h
      have := sufB_len c0
      omega
    · rw [if_neg c0] at h
      have := peO_ge h
      omega
theorem k_addressIn_s {V pa y : Nat} (hS : GS sk L) (hR : GR τ) (hF : 65536 < F) (hb : CB τ C) (h71 : fI τ 7 1 = nI ss) (hss : ss ≤ 65536) (hA : A + Z ≤ ss) (hp : ob sk L 8 p) (h7 : fI τ p 7 = nI A) (h5 : fI τ p 5 = nI Z) (h9 : fI τ p 9 = bI true) (h10 : fI τ p 10 = bI true) (hz : C (A + (Z - 1)) = 0) (hpl : CPl τ C cpf) (hpa : pa < 2 ^ 40) (hj5 : fJ τ 1697 5 = lN pa) (hV : V < Z) (hy : peO C 0 cpf (st C (frm C A (nxt C A V (Z - V)))) = some y) : f_Pool_addressIn F c 1697 (some p) (lN V) (cH sk L τ) = some (lN (pa + (y - (nxt C A V (Z - V) + 1 - V))), cH sk L τ) := by
  obtain ⟨m1, m2, m3⟩ := nxt_0 (B := C) (p := A) hz (Z - V) V (by omega) (by omega)
  obtain ⟨n1, n2, n3⟩ := nxt_no (B := C) (q := A) (Z - V) V
  obtain ⟨m, hm⟩ : ∃ m, m = nxt C A V (Z - V) := ⟨_, rfl⟩
  have hfs := frm_same (B := C) (q := A) (V := V) (m - V) (fun i h1 h2 => n3 i h1 (by omega))
  rw [show V + (m - V) = m by omega] at hfs
  rw [← hm] at m1 m2 m3 n1 n2 n3 hy ⊢
  have hst := frm_st (C := C) (A := A) (j := m) (by omega) m1
  obtain ⟨q1, q2, q3⟩ := frm_le (B := C) (p := A) V
  have hlen := isSt_len hst
  have hye := peO_le (B := C) (l := cpf) (off := 0) hy
  have hl := stL_len hpl.2.2.1
  have hpz := psz_le cpf hpl.2.2.1.2
  have hyg := peO_ge hy
  rw [hfs] at hst hlen hy hyg
  have k148 := k_ai_148 (F := F) (c := c) (at0 := A + V) hS hR hF hb hpl hst (by omega) hpa hj5 cpf.length 0 F 0 (Nat.zero_add _) (by omega) (by rw [List.drop_zero]; omega)
  rw [List.drop_zero, hy, Nat.add_zero pa] at k148
  unfold f_Pool_addressIn
  rw [bs, C8g9 hp, bs, h9, if_neg (show ¬ bI true = 0 by decide), C8g10 hp, bs, h10, if_neg (show ¬ bI true = 0 by decide), if_neg (show ¬ lN V < lN 0 from fun w => by have := (lt31 (by omega) (by decide)).mp w; omega), C8g5 hp, bs, h5, nI_l (by omega), if_pos ((lt31 (by omega) (by omega)).mpr hV), C8g7 hp, bs, h7, lN_i, nI_add, k_ai_63 hS hR hb h71 hss hp h7 V F (by omega) (by omega)]
  unfold f_Pool_addressIn_92
  rw [k_ai_96 hS hR hb h71 hss hA hp h7 h5 hz (Z - V) V F (by omega) (by omega) (by omega), ← hm]
  unfold f_Pool_addressIn_130
  rw [C9g5 (G1697 hS), bs, hj5, nI_add, pk_sub (by omega), show A + m + 1 - frm C A V = A + m + 1 - frm C A V from rfl, k148]
  congr 2
  show lN (pa + y) - lN (A + m + 1 - (A + V)) = _
  rw [lN_sub (by omega), show pa + y - (A + m + 1 - (A + V)) = pa + (y - (m + 1 - V)) by omega]
end CAJ
end
section
/-! pure: what the groups' laying keeps; the order of groups -/
section CPU
variable {tb : Nat → Nat → Nat} {g : Nat} {th : Bool} {ad : Nat → Nat}
theorem cnd_q {x : Nat} (h : g ≠ 1) : cnd tb g x = decide (oG (tb (x / 24)) (x % 24) = g) := by
  unfold cnd
  rw [decide_eq_false h, Bool.false_and, Bool.not_false, Bool.and_true]
theorem pg1_n {G : px_PG} {x : Nat} (h : cnd tb g x = false) : pg1 tb g th G x = G := by
  unfold pg1; rw [if_neg (by rw [h]; decide)]
theorem pg1_y {G : px_PG} {x : Nat} (h : cnd tb g x = true) : ∃ v, pg1 tb g th G x = (v + zS tb x, fun y => if y = x then v else G.2.1 y, if g = 3 then some (G.2.2.getD v) else G.2.2) := ⟨pgA tb th G.1 x, by unfold pg1; rw [if_pos h]⟩
theorem pg_no : ∀ (l : List Nat) (G : px_PG), (∀ x, x ∈ l → cnd tb g x = false) → l.foldl (pg1 tb g th) G = G
  | [], _, _ => rfl
  | x :: l, G, h => by
    rw [List.foldl_cons, pg1_n (h x List.mem_cons_self)]
    exact pg_no l G (fun y hy => h y (List.mem_cons_of_mem _ hy))
theorem pg_k {x : Nat} (h : cnd tb g x = false) : ∀ (l : List Nat) (G : px_PG), (l.foldl (pg1 tb g th) G).2.1 x = G.2.1 x
  | [], _ => rfl
  | y :: l, G => by
    rw [List.foldl_cons, pg_k h l]
    cases hy : cnd tb g y with
    | false => rw [pg1_n hy]
    | true =>
      obtain ⟨v, e⟩ := pg1_y (th := th) (G := G) hy
      rw [e]
      show (if x = y then v else G.2.1 x) = G.2.1 x
      rw [if_neg (fun q => by rw [q, hy] at h; cases h)]
theorem pg_last {l1 l2 : List Nat} {x : Nat} {G : px_PG} (h : cnd tb g x = true) (h2 : ∀ y, y ∈ l2 → cnd tb g y = false) : ((l1 ++ x :: l2).foldl (pg1 tb g th) G).1 = ((l1 ++ x :: l2).foldl (pg1 tb g th) G).2.1 x + zS tb x := by
  rw [List.foldl_append, List.foldl_cons, pg_no l2 _ h2]
  obtain ⟨v, e⟩ := pg1_y (th := th) (G := l1.foldl (pg1 tb g th) G) h
  rw [e]
  show v + zS tb x = (if x = x then v else _) + zS tb x
  rw [if_pos rfl]
theorem pg_out {x : Nat} : ∀ (l : List Nat) (G : px_PG), x ∉ l → (l.foldl (pg1 tb g th) G).2.1 x = G.2.1 x
  | [], _, _ => rfl
  | y :: l, G, h => by
    rw [List.foldl_cons, pg_out l _ (fun q => h (List.mem_cons_of_mem _ q))]
    cases hy : cnd tb g y with
    | false => rw [pg1_n hy]
    | true =>
      obtain ⟨v, e⟩ := pg1_y (th := th) (G := G) hy
      rw [e]
      show (if x = y then v else G.2.1 x) = G.2.1 x
      rw [if_neg (fun q => h (by rw [q]; exact List.mem_cons_self))]
theorem pg_some : ∀ (l : List Nat) (G : px_PG) (v : Nat), G.2.2 = some v → (l.foldl (pg1 tb 3 th) G).2.2 = some v
  | [], _, _, h => h
  | y :: l, G, v, h => by
    rw [List.foldl_cons]
    refine pg_some l _ v ?_
    cases hy : cnd tb 3 y with
    | false => rw [pg1_n hy]; exact h
    | true =>
      obtain ⟨w, e⟩ := pg1_y (th := th) (G := G) hy
      rw [e]
      show (if 3 = 3 then some (G.2.2.getD w) else G.2.2) = some v
      rw [if_pos rfl, h]
      rfl
theorem pg_fst : ∀ (l : List Nat) (G : px_PG), l.Nodup → G.2.2 = none → (l.foldl (pg1 tb 3 th) G).2.2 = (l.find? (cnd tb 3)).map (l.foldl (pg1 tb 3 th) G).2.1
  | [], _, _, h => h
  | y :: l, G, hn, h => by
    obtain ⟨n1, n2⟩ := List.nodup_cons.mp hn
    rw [List.foldl_cons, List.find?_cons]
    cases hy : cnd tb 3 y with
    | false =>
      rw [pg1_n hy]
      exact pg_fst l G n2 h
    | true =>
      obtain ⟨w, e⟩ := pg1_y (th := th) (G := G) hy
      show _ = some _
      rw [pg_out l _ n1, e]
      show _ = some (if y = y then w else G.2.1 y)
      rw [if_pos (show y = y from rfl)]
      refine pg_some l _ w ?_
      show (if 3 = 3 then some (G.2.2.getD w) else G.2.2) = some w
      rw [if_pos rfl, h]
      rfl
theorem lst_ex (p : Nat → Bool) : ∀ (l : List Nat), (∀ y, y ∈ l → p y = false) ∨ ∃ l1 x l2, l = l1 ++ x :: l2 ∧ p x = true ∧ ∀ y, y ∈ l2 → p y = false
  | [] => Or.inl (fun _ h => nomatch h)
  | a :: l => by
    rcases lst_ex p l with h | ⟨l1, x, l2, e, h1, h2⟩
    · cases ha : p a with
      | false => exact Or.inl (fun y hy => (List.mem_cons.mp hy).elim (fun q => by rw [q]; exact ha) (h y))
      | true => exact Or.inr ⟨[], a, l, rfl, ha, h⟩
    · exact Or.inr ⟨a :: l1, x, l2, by rw [e]; rfl, h1, h2⟩
theorem ft1_n {s : px_FT} {x : Nat} (h : ¬ 4 ≤ oG (tb (x / 24)) (x % 24)) : ft1 tb ad s x = s := by unfold ft1; rw [if_neg h]
theorem ft_no : ∀ (l : List Nat) (s : px_FT), (∀ x, x ∈ l → ¬ 4 ≤ oG (tb (x / 24)) (x % 24)) → l.foldl (ft1 tb ad) s = s
  | [], _, _ => rfl
  | x :: l, s, h => by
    rw [List.foldl_cons, ft1_n (h x List.mem_cons_self)]
    exact ft_no l s (fun y hy => h y (List.mem_cons_of_mem _ hy))
theorem ft_last {l1 l2 : List Nat} {x : Nat} {s : px_FT} (h : 4 ≤ oG (tb (x / 24)) (x % 24)) (h2 : ∀ y, y ∈ l2 → ¬ 4 ≤ oG (tb (y / 24)) (y % 24)) : ((l1 ++ x :: l2).foldl (ft1 tb ad) s).1 = true ∧ ((l1 ++ x :: l2).foldl (ft1 tb ad) s).2.1 = ad x + zS tb x := by
  rw [List.foldl_append, List.foldl_cons, ft_no l2 _ h2]
  generalize l1.foldl (ft1 tb ad) s = s1
  unfold ft1
  rw [if_pos h]
  exact ⟨rfl, rfl⟩
/-- no section of group 4 behind one of group 5 -/
def srt (tb : Nat → Nat → Nat) (l : List Nat) : Prop := l.Pairwise (fun x y => ¬ (oG (tb (x / 24)) (x % 24) = 5 ∧ oG (tb (y / 24)) (y % 24) = 4))
theorem oG_5 {b : Nat → Nat} {i : Nat} : oG b i ≤ 5 := by unfold oG; repeat (first | omega | split)
theorem tp_eq {ll : List Nat} {th : Bool} {H : px_PG} {G4 G5 : px_PG} (hs : srt tb ll) (e4 : G4 = ll.foldl (pg1 tb 4 th) H) (e5 : G5 = ll.foldl (pg1 tb 5 th) (G4.1, G4.2.1, none)) (ha : ∀ x, x ∈ ll → 4 ≤ oG (tb (x / 24)) (x % 24) → ad x = G5.2.1 x) : (ll.foldl (ft1 tb ad) (false, 0, 1, 0)).1 = true → (ll.foldl (ft1 tb ad) (false, 0, 1, 0)).2.1 = G5.1 := by
  intro ht
  rcases lst_ex (cnd tb 5) ll with h5 | ⟨l1, x, l2, e, h1, h2⟩
  · have g5 := pg_no (th := th) ll (G4.1, G4.2.1, none) h5
    rw [← e5] at g5
    rcases lst_ex (cnd tb 4) ll with h4 | ⟨l1, x, l2, e, h1, h2⟩
    · exfalso
      rw [ft_no ll _ (fun x hx => by
        have w4 := h4 x hx
        have w5 := h5 x hx
        rw [cnd_q (by decide)] at w4 w5
        have w4 := of_decide_eq_false w4
        have w5 := of_decide_eq_false w5
        have := oG_5 (b := tb (x / 24)) (i := x % 24)
        omega)] at ht
      cases ht
    · have c1 := h1
      rw [cnd_q (by decide)] at c1
      have c1 := of_decide_eq_true c1
      have hx : x ∈ ll := by rw [e]; exact List.mem_append.mpr (Or.inr List.mem_cons_self)
      rw [e, (ft_last (by omega) (fun y hy => by
        have hy' : y ∈ ll := by rw [e]; exact List.mem_append.mpr (Or.inr (List.mem_cons_of_mem _ hy))
        have w4 := h2 y hy
        have w5 := h5 y hy'
        rw [cnd_q (by decide)] at w4 w5
        have w4 := of_decide_eq_false w4
        have w5 := of_decide_eq_false w5
        have := oG_5 (b := tb (y / 24)) (i := y % 24)
        omega)).2, ha x hx (by omega), g5]
      have := pg_last (th := th) (G := H) (l1 := l1) h1 h2
      rw [← e, ← e4] at this
      exact this.symm
  · have c1 := h1
    rw [cnd_q (by decide)] at c1
    have c1 := of_decide_eq_true c1
    have hx : x ∈ ll := by rw [e]; exact List.mem_append.mpr (Or.inr List.mem_cons_self)
    have hp : ∀ y, y ∈ l2 → ¬ oG (tb (y / 24)) (y % 24) = 4 := fun y hy w => by
      unfold srt at hs
      rw [e] at hs
      exact (List.pairwise_cons.mp (List.pairwise_append.mp hs).2.1).1 y hy ⟨c1, w⟩
    have := pg_last (th := th) (G := (G4.1, G4.2.1, none)) (l1 := l1) h1 h2
    rw [← e, ← e5] at this
    rw [this, ← ha x hx (by omega), e]
    exact (ft_last (by omega) (fun y hy => by
      have w5 := h2 y hy
      rw [cnd_q (by decide)] at w5
      have w5 := of_decide_eq_false w5
      have := oG_5 (b := tb (y / 24)) (i := y % 24)
      have := hp y hy
      omega)).2
theorem ft_1 : ∀ (l : List Nat) (s : px_FT), (l.foldl (ft1 tb ad) s).1 = (s.1 || l.any (fun x => decide (4 ≤ oG (tb (x / 24)) (x % 24))))
  | [], s => by rw [List.foldl_nil, List.any_nil, Bool.or_false]
  | x :: l, s => by
    rw [List.foldl_cons, ft_1 l, List.any_cons]
    by_cases c : 4 ≤ oG (tb (x / 24)) (x % 24)
    · rw [decide_eq_true c, Bool.true_or, Bool.or_true]
      unfold ft1
      rw [if_pos c]
      rfl
    · rw [ft1_n c, decide_eq_false c, Bool.false_or]
end CPU
section CSR
variable {T : Nat} {tb : Nat → Nat → Nat} {sy : Nat → Nat → Bool}
def srU (tb : Nat → Nat → Nat) (u : Nat) (l : List Nat) : Prop := srt tb l ∧ ∀ x, x ∈ l → ∃ v, v ≤ u ∧ oG (tb (x / 24)) (x % 24) = gOf v
theorem srU_3 {u t i : Nat} {l : List Nat} (hu : u < 6) (hi : i < 24) (h : srU tb u l) : srU tb u (lay3 tb sy (gOf u) t i l) := by
  unfold lay3
  by_cases c : sy t i = true ∧ oG (tb t) i = gOf u
  · rw [if_pos c]
    have e1 : (24 * t + i) / 24 = t := by omega
    have e2 : (24 * t + i) % 24 = i := by omega
    refine ⟨List.pairwise_append.mpr ⟨h.1, List.pairwise_singleton _ _, fun x hx y hy w => ?_⟩, fun x hx => ?_⟩
    · rw [List.mem_singleton.mp hy, e1, e2, c.2] at w
      obtain ⟨v, v1, v2⟩ := h.2 x hx
      have w1 : gOf v = 5 := v2.symm.trans w.1
      have w2 := w.2
      unfold gOf at w1 w2
      repeat (first | omega | split at w1 | split at w2)
    · rcases List.mem_append.mp hx with hx | hx
      · exact h.2 x hx
      · rw [List.mem_singleton.mp hx, e1, e2]
        exact ⟨u, Nat.le_refl _, c.2⟩
  · rw [if_neg c]; exact h
theorem srt_lay (hS : ∀ t, t < T → oS (tb t) ≤ 24) : srt tb (layL T tb sy) := by
  have key : ∀ (c u : Nat) (l : List Nat), u + c = 6 → (srt tb l ∧ ∀ x, x ∈ l → ∃ v, v < u ∧ oG (tb (x / 24)) (x % 24) = gOf v) → srt tb (itr (lay1 T tb sy) u c l) := by
    intro c
    induction c with
    | zero => intro u l _ h; exact h.1
    | succ c ih =>
      intro u l hu h
      rw [itr_s]
      have h1 : srU tb u (lay1 T tb sy u l) := by
        unfold lay1
        refine itr_inv (P := srU tb u) (a := 0) (e := T) (fun t l _ ht hl => ?_) T 0 l (Nat.le_refl _) (by omega) ⟨h.1, fun x hx => (h.2 x hx).elim (fun v w => ⟨v, by omega, w.2⟩)⟩
        unfold lay2
        have := hS t ht
        by_cases c0 : oS (tb t) = 0
        · rw [c0]; exact hl
        · exact itr_inv (P := srU tb u) (a := 1) (e := oS (tb t)) (fun i l _ hi hl => srU_3 (by omega) (by omega) hl) _ 1 l (Nat.le_refl _) (by omega) hl
      exact ih (u + 1) _ (by omega) ⟨h1.1, fun x hx => (h1.2 x hx).elim (fun v w => ⟨v, by omega, w.2⟩)⟩
  exact key 6 0 [] rfl ⟨List.Pairwise.nil, fun _ h => nomatch h⟩
end CSR
end
section
/-! the threads' template, laid out by the class -/
/-- a frame: longs may change at J, elements of rows of longs at E -/
def frJE (J E : Nat → Nat → Prop) (τ τ' : px_TT) : Prop := (∀ a k, fI τ' a k = fI τ a k) ∧ (∀ a k, ¬ J a k → fJ τ' a k = fJ τ a k) ∧ (∀ a k, fN τ' a k = fN τ a k) ∧ (∀ a, eI τ' a = eI τ a) ∧ (∀ a i, ¬ E a i → eJ τ' a i = eJ τ a i) ∧ ∀ a, eN τ' a = eN τ a
section CFQ
variable {J E J' E' : Nat → Nat → Prop} {τ τ1 τ2 : px_TT}
theorem frJE_refl : frJE J E τ τ := ⟨fun _ _ => rfl, fun _ _ _ => rfl, fun _ _ => rfl, fun _ => rfl, fun _ _ _ => rfl, fun _ => rfl⟩
theorem frJE_trans (h : frJE J E τ τ1) (g : frJE J E τ1 τ2) : frJE J E τ τ2 := ⟨fun a k => (g.1 a k).trans (h.1 a k), fun a k x => (g.2.1 a k x).trans (h.2.1 a k x), fun a k => (g.2.2.1 a k).trans (h.2.2.1 a k), fun a => (g.2.2.2.1 a).trans (h.2.2.2.1 a), fun a i x => (g.2.2.2.2.1 a i x).trans (h.2.2.2.2.1 a i x), fun a => (g.2.2.2.2.2 a).trans (h.2.2.2.2.2 a)⟩
theorem frJE_mono (h : frJE J E τ τ1) (hJ : ∀ a k, J a k → J' a k) (hE : ∀ a k, E a k → E' a k) : frJE J' E' τ τ1 := ⟨h.1, fun a k x => h.2.1 a k (fun w => x (hJ a k w)), h.2.2.1, h.2.2.2.1, fun a i x => h.2.2.2.2.1 a i (fun w => x (hE a i w)), h.2.2.2.2.2⟩
theorem frJE_J {a k : Nat} {v : Int64} (h : J a k) : frJE J E τ (tJ τ a k v) := ⟨fun _ _ => rfl, fun x y w => tJ_ne (by
    by_cases e : x = a
    · exact Or.inr (fun e2 => w (by rw [e, e2]; exact h))
    · exact Or.inl e), fun _ _ => rfl, fun _ => rfl, fun _ _ _ => rfl, fun _ => rfl⟩
theorem eJ_up {a i : Nat} {v : Int64} : eJ (vJ τ a (vp_updL (eJ τ a) i v)) a i = v := by rw [eJ_v_eq]; exact vp_eq
theorem eJ_un {a i x y : Nat} {v : Int64} (h : x ≠ a ∨ y ≠ i) : eJ (vJ τ a (vp_updL (eJ τ a) i v)) x y = eJ τ x y := by
  by_cases e : x = a
  · rw [e, eJ_v_eq, vp_ne (h.resolve_left (fun q => q e))]
  · rw [eJ_v_ne e]
theorem frJE_E {a i : Nat} {v : Int64} (h : E a i) : frJE J E τ (vJ τ a (vp_updL (eJ τ a) i v)) := ⟨fun _ _ => rfl, fun _ _ _ => rfl, fun _ _ => rfl, fun _ => rfl, fun x y w => eJ_un (by
    by_cases e : x = a
    · exact Or.inr (fun e2 => w (by rw [e, e2]; exact h))
    · exact Or.inl e), fun _ => rfl⟩
theorem frJE_Ly (h : frJE J E τ τ1) (hJ : ∀ a k, J a k → a = 1697 ∨ a = 1700 ∨ (152 ≤ a ∧ a < 1688 ∧ k = 11) ∨ (1815 ≤ a ∧ k = 14)) (hE : ∀ a i, E a i → 1704 ≤ a ∧ a ≤ 1707) : frLy τ τ1 := ⟨fun a k _ _ _ => h.1 a k, fun a k _ _ _ => h.1 a k, fun a k h1 h2 h3 h4 => h.2.1 a k (fun w => by have := hJ a k w; omega), fun a k h1 h2 => h.2.1 a k (fun w => by have := hJ a k w; omega), h.2.2.1, fun a _ => h.2.2.2.1 a, fun a h1 => funext (fun i => h.2.2.2.2.1 a i (fun w => by have := hE a i w; omega)), fun a _ => h.2.2.2.2.2 a⟩
def J11 (a k : Nat) : Prop := 152 ≤ a ∧ a < 1688 ∧ k = 11
def J14 (a k : Nat) : Prop := (a = 1700 ∧ k = 15) ∨ (1815 ≤ a ∧ k = 14)
def E0 (_ _ : Nat) : Prop := False
theorem fr11_Q (h : fr11 τ τ1) : frJE J11 E0 τ τ1 := ⟨h.1, fun a k w => h.2.1 a k (by unfold J11 at w; omega), h.2.2.1, h.2.2.2.1, fun a i _ => by rw [h.2.2.2.2.1], h.2.2.2.2.2⟩
theorem fr14_Q (h : fr14 τ τ1) : frJE J14 E0 τ τ1 := ⟨h.1, fun a k w => by
    unfold J14 at w
    by_cases e : a < 1815
    · exact h.2.1 a k e (by omega)
    · exact h.2.2.1 a k (by omega) (by omega), h.2.2.2.1, h.2.2.2.2.1, fun a i _ => by rw [h.2.2.2.2.2.1], h.2.2.2.2.2.2⟩
def J16 (a k : Nat) : Prop := a = 1700 ∧ (k = 16 ∨ k = 17)
def E3 (a i : Nat) : Prop := 1704 ≤ a ∧ a ≤ 1707 ∧ i = 3
end CFQ
section CTP
variable {F : Nat} {c : px_CT} {sk : Nat → Nat × Nat × Nat} {L : Nat} {own : Nat → Nat × Nat} {fs : px_FS} {s : px_TK} {xs : px_NL} {ST rn : Nat → Bool} {ll : List Nat}
theorem isP_1 {v : Nat} (h : isP v = true) : 1 ≤ v ∧ v ≤ 4096 := ⟨(of_decide_eq_true h).1, (of_decide_eq_true h).2.1⟩
theorem k_lt_60 {ad : Nat → Nat} {a1 a3 : Int64} {a5 : Option Nat} {a6 : Int32} (hk : STk fs s ST) (hl : llS2 s ST ll) : ∀ (d P f : Nat) (τ : px_TT) (u : px_FT), P + d = ll.length → d < f → TKe sk L own τ fs s xs ST rn → COr τ ll → fJ τ 1700 16 = lN u.2.2.1 → isP u.2.2.1 = true → ∃ τ', f_Layout_layTemplate_60 F c f 1700 a1 a3 a5 a6 (nI P) (cH sk L τ) = f_Layout_layTemplate_116 F c 1700 a1 a3 a5 a6 (cH sk L τ') ∧ fJ τ' 1700 16 = lN ((ll.drop P).foldl (ft1 (tB fs s.2.2.1) ad) u).2.2.1 ∧ isP ((ll.drop P).foldl (ft1 (tB fs s.2.2.1) ad) u).2.2.1 = true ∧ frJE J16 E0 τ τ' := by
  have hl1 := hl.1
  intro d
  induction d with
  | zero =>
    intro P f τ u hP hf h ho h16 hu
    obtain ⟨f, rfl⟩ : ∃ x, f = x + 1 := ⟨f - 1, by omega⟩
    rw [List.drop_of_length_le (by omega)]
    refine ⟨τ, ?_, h16, hu, frJE_refl⟩
    unfold f_Layout_layTemplate_60
    rw [C2g11 (G1700 h.1), bs, ho.1, if_pos (nI_le (by omega) (by omega))]
  | succ d ih =>
    intro P f τ u hP hf h ho h16 hu
    obtain ⟨f, rfl⟩ : ∃ x, f = x + 1 := ⟨f - 1, by omega⟩
    have hS := h.1
    have hR := h.2.1
    have o := G1700 hS
    have hPl : P < ll.length := by omega
    have hx := List.getElem?_eq_getElem hPl
    have hdr : ll.drop P = ll[P] :: ll.drop (P + 1) := List.drop_eq_getElem_cons hPl
    generalize ll[P] = x at hx hdr
    obtain ⟨hxT, hxS⟩ := hl.2 x (List.mem_of_getElem? hx)
    obtain ⟨p1, p2, p3, p4⟩ := TKe_part h hxT
    obtain ⟨t4, t5, t6, t7, t10, tS⟩ := TKe_pt h hk hxT hxS
    obtain ⟨q, _, _, _, _, he, _⟩ := TKe_ob h (show x / 24 < s.2.2.1.length by omega)
    have hK := ((Bool.and_eq_true _ _).mp (hk x hxT hxS).1).2
    have ha := (eObj_a he tS hK).2
    have hap := eObj_p he tS hK
    obtain ⟨u1, u2⟩ := isP_1 hu
    rw [hdr, List.foldl_cons]
    have hg := oG_5 (b := tB fs s.2.2.1 (x / 24)) (i := x % 24)
    have hput : ∀ u' : px_FT, isP u'.2.2.1 = true → ∃ τ', f_Layout_layTemplate_107 F c (f_Layout_layTemplate_60 F c f) 1700 a1 a3 a5 a6 (nI P) 1700 (lN u'.2.2.1) (cH sk L τ) = f_Layout_layTemplate_116 F c 1700 a1 a3 a5 a6 (cH sk L τ') ∧ fJ τ' 1700 16 = lN ((ll.drop (P + 1)).foldl (ft1 (tB fs s.2.2.1) ad) u').2.2.1 ∧ isP ((ll.drop (P + 1)).foldl (ft1 (tB fs s.2.2.1) ad) u').2.2.1 = true ∧ frJE J16 E0 τ τ' := fun u' hu' => by
      have f1 : frJE J16 E0 τ (tJ τ 1700 16 (lN u'.2.2.1)) := frJE_J ⟨rfl, Or.inl rfl⟩
      obtain ⟨τ', j1, j2, j3, j4⟩ := ih (P + 1) f (tJ τ 1700 16 (lN u'.2.2.1)) u' (by omega) (by omega) (TKe_Ly h (frJE_Ly f1 (fun a k w => by unfold J16 at w; omega) (fun a k w => w.elim))) (COr_fx ho rfl rfl) tJ_at hu'
      refine ⟨τ', ?_, j2, j3, frJE_trans f1 j4⟩
      unfold f_Layout_layTemplate_107
      rw [C2p16 o, bs, nI_add]
      exact j1
    unfold f_Layout_layTemplate_60
    rw [C2g11 o, bs, ho.1, if_neg (nI_ge hPl (by omega)), c_o o, bs, k_partAt hS hR ho hl1 hx, xb_mk, bs, C8g4 p1, bs, t4]
    by_cases c4 : 4 ≤ oG (tB fs s.2.2.1 (x / 24)) (x % 24)
    · have e1 : (if lN (if oA (tB fs s.2.2.1 (x / 24)) (x % 24) < 1 then 1 else oA (tB fs s.2.2.1 (x / 24)) (x % 24)) < lN u.2.2.1 then lN u.2.2.1 else lN (if oA (tB fs s.2.2.1 (x / 24)) (x % 24) < 1 then 1 else oA (tB fs s.2.2.1 (x / 24)) (x % 24))) = lN (ft1 (tB fs s.2.2.1) ad u x).2.2.1 ∧ isP (ft1 (tB fs s.2.2.1) ad u x).2.2.1 = true := by
        unfold ft1
        rw [if_pos c4]
        show _ = lN (if oA (tB fs s.2.2.1 (x / 24)) (x % 24) ≤ u.2.2.1 then u.2.2.1 else oA (tB fs s.2.2.1 (x / 24)) (x % 24)) ∧ isP (if oA (tB fs s.2.2.1 (x / 24)) (x % 24) ≤ u.2.2.1 then u.2.2.1 else oA (tB fs s.2.2.1 (x / 24)) (x % 24)) = true
        generalize oA (tB fs s.2.2.1 (x / 24)) (x % 24) = A at *
        generalize u.2.2.1 = U at *
        have hA' : (if A < 1 then 1 else A) < 2 ^ 31 := by split <;> omega
        constructor
        · by_cases w : (if A < 1 then 1 else A) < U
          · rw [if_pos ((lt31 hA' (by omega)).mpr w), if_pos (by split at w <;> omega)]
          · rw [if_neg (fun z => w ((lt31 hA' (by omega)).mp z))]
            congr 1
            split at w
            · rw [if_pos (by omega), if_pos (by omega)]; omega
            · rw [if_neg (by omega)]
              split <;> omega
        · by_cases w : A ≤ U
          · rw [if_pos w]; exact hu
          · rw [if_neg w]; exact hap.resolve_left (by omega)
      rw [if_neg (fun w => by have := (nI_ltI (by omega) (by decide)).mp w; omega), C2g16 o, bs, h16, C8g6 p1, bs, t6, nI_l (by split <;> omega), e1.1]
      exact hput _ e1.2
    · rw [if_pos ((nI_ltI (by omega) (by decide)).mpr (by omega)), C2g16 o, bs, h16, ft1_n c4]
      exact hput u hu
theorem k_lt_173 {τ : px_TT} {p e5 U : Nat} {v : Int64} (hS : GS sk L) (hR : GR τ) (hp : ob sk L 8 p) (h16 : fJ τ 1700 16 = lN U) (hU : isP U = true) (he5 : e5 < 2 ^ 61) : ∃ τ', f_Layout_layTemplate_173 F c 1700 (lN e5) (some p) 1706 (nI 3) v (cH sk L τ) = some ((), cH sk L τ') ∧ fJ τ' 1700 17 = lN (upN e5 U) ∧ frJE J16 E3 τ τ' := by
  have o := G1700 hS
  obtain ⟨u1, u2⟩ := isP_1 hU
  obtain ⟨w1, w2⟩ := isP_pow U (by omega) hU
  obtain ⟨τ1, hτ1⟩ : ∃ y, y = vJ τ 1706 (vp_updL (eJ τ 1706) 3 v) := ⟨_, rfl⟩
  obtain ⟨τ2, hτ2⟩ : ∃ y, y = vJ τ1 1707 (vp_updL (eJ τ1 1707) 3 (lN e5 - fJ τ1 p 11)) := ⟨_, rfl⟩
  have f1 : frJE J16 E3 τ τ1 := by rw [hτ1]; exact frJE_E ⟨by decide, by decide, rfl⟩
  have f2 : frJE J16 E3 τ1 τ2 := by rw [hτ2]; exact frJE_E ⟨by decide, by decide, rfl⟩
  have e16 : fJ τ2 1700 16 = lN U := by rw [hτ2, hτ1]; exact h16
  refine ⟨tJ τ2 1700 17 (lN (upN e5 U)), ?_, tJ_at, frJE_trans (frJE_trans f1 f2) (frJE_J ⟨rfl, Or.inr rfl⟩)⟩
  unfold f_Layout_layTemplate_173
  rw [c_sJ (G1706 hS) (by decide) (by decide), bs, ← hτ1, C2r8 o (q := 1707) (by rw [f1.2.2.1]; exact GR_r (v := 1707) hR (by decide)), bs, bs, C8g11 hp, bs, c_sJ (G1707 hS) (by decide) (by decide), bs, ← hτ2, C2g16 o, bs, e16]
  generalize Nat.log2 U = k at w1 w2
  rw [w1, k_up w2 he5, xb_mk, C2p17 o, bs]
theorem k_lt_116 {τ : px_TT} {p e5 U : Nat} {a1 : Int64} {a6 : Int32} (hS : GS sk L) (hR : GR τ) (hp : ob sk L 8 p) (h16 : fJ τ 1700 16 = lN U) (hU : isP U = true) (he5 : e5 < 2 ^ 61) : ∃ τ', f_Layout_layTemplate_116 F c 1700 a1 (lN e5) (some p) a6 (cH sk L τ) = some ((), cH sk L τ') ∧ fJ τ' 1700 17 = lN (upN e5 U) ∧ frJE J16 E3 τ τ' := by
  have o := G1700 hS
  obtain ⟨τ1, hτ1⟩ : ∃ y, y = vJ τ 1705 (vp_updL (eJ τ 1705) 3 (fJ τ p 11)) := ⟨_, rfl⟩
  obtain ⟨τ2, hτ2⟩ : ∃ y, y = vJ τ1 1704 (vp_updL (eJ τ1 1704) 3 (eJ τ1 1704 2 + fJ τ1 p 11 - eJ τ1 1705 2)) := ⟨_, rfl⟩
  have f1 : frJE J16 E3 τ τ1 := by rw [hτ1]; exact frJE_E ⟨by decide, by decide, rfl⟩
  have f2 : frJE J16 E3 τ1 τ2 := by rw [hτ2]; exact frJE_E ⟨by decide, by decide, rfl⟩
  have e16 : fJ τ2 1700 16 = lN U := by rw [hτ2, hτ1]; exact h16
  have hLy := frJE_Ly (frJE_trans f1 f2) (fun a k w => Or.inr (Or.inl w.1)) (fun a k w => ⟨w.1, w.2.1⟩)
  have hR2 := GR_Ly hR hLy
  have hR1 := GR_Ly hR (frJE_Ly f1 (fun a k w => Or.inr (Or.inl w.1)) (fun a k w => ⟨w.1, w.2.1⟩))
  have go : ∀ v, ∃ τ', f_Layout_layTemplate_173 F c 1700 (lN e5) (some p) 1706 (nI 3) v (cH sk L τ2) = some ((), cH sk L τ') ∧ fJ τ' 1700 17 = lN (upN e5 U) ∧ frJE J16 E3 τ τ' := fun v => by
    obtain ⟨τ', j1, j2, j3⟩ := k_lt_173 (F := F) (c := c) (v := v) hS hR2 hp e16 hU he5
    exact ⟨τ', j1, j2, frJE_trans (frJE_trans f1 f2) j3⟩
  unfold f_Layout_layTemplate_116
  rw [C2r6 o (GR_r (v := 1705) hR (by decide)), bs, bs, C8g11 hp, bs, c_sJ (G1705 hS) (by decide) (by decide), bs, ← hτ1, C2r5 o (GR_r (v := 1704) hR1 (by decide)), bs, bs, c_aJ (G1704 hS) (by decide) (by decide), bs, C8g11 hp, bs, C2r6 o (GR_r (v := 1705) hR1 (by decide)), bs, c_aJ (G1705 hS) (by decide) (by decide), bs, c_sJ (G1704 hS) (by decide) (by decide), bs, ← hτ2, C2r7 o (GR_r (v := 1706) hR2 (by decide)), bs]
  by_cases c6 : a6 = 0
  · rw [if_pos c6]; exact go _
  · rw [if_neg c6, C8g11 hp, bs]; exact go _
/-- the template -/
theorem k_layTemplate {τ : px_TT} {ad : Nat → Nat} {fe bg2 e5 : Nat} (hF : 65536 < F) (hk : STk fs s ST) (hl : llS2 s ST ll) (h : TKe sk L own τ fs s xs ST rn) (ho : COr τ ll) (hb : eJ τ 1705 2 = lN bg2) (he5 : e5 < 2 ^ 61) (hFT : (ll.foldl (ft1 (tB fs s.2.2.1) ad) (false, 0, 1, 0)).1 = true → (ll.foldl (ft1 (tB fs s.2.2.1) ad) (false, 0, 1, 0)).2.1 = e5) : ∃ τ', f_Layout_layTemplate F c 1700 (lN fe) (lN e5) (cH sk L τ) = some ((), cH sk L τ') ∧ fJ τ' 1700 17 = lN (tpN bg2 (ll.foldl (ft1 (tB fs s.2.2.1) ad) (false, 0, 1, 0))) ∧ frJE J16 E3 τ τ' := by
  have hl1 := hl.1
  have hS := h.1
  have hR := h.2.1
  have o := G1700 hS
  have kf4 := k_firstOf (F := F) (c := c) (p := fun x => decide (oG (tB fs s.2.2.1 (x / 24)) (x % 24) = 4)) (g := 4) (fun x _ => decide_eq_true_iff) hF hk hl (by decide) h ho
  have kf5 := k_firstOf (F := F) (c := c) (p := fun x => decide (oG (tB fs s.2.2.1 (x / 24)) (x % 24) = 5)) (g := 5) (fun x _ => decide_eq_true_iff) hF hk hl (by decide) h ho
  obtain ⟨τ1, hτ1⟩ : ∃ y, y = tJ τ 1700 16 (lN 1) := ⟨_, rfl⟩
  obtain ⟨τ2, hτ2⟩ : ∃ y, y = tJ τ1 1700 17 (lN bg2) := ⟨_, rfl⟩
  have f2 : frJE J16 E0 τ τ2 := by
    rw [hτ2, hτ1]
    exact frJE_trans (frJE_J ⟨rfl, Or.inl rfl⟩) (frJE_J ⟨rfl, Or.inr rfl⟩)
  have h2 := TKe_Ly h (frJE_Ly f2 (fun a k w => Or.inr (Or.inl w.1)) (fun a k w => w.elim))
  have ho2 : COr τ2 ll := COr_fx ho (f2.1 1700 11) (f2.2.2.2.2.2 1701)
  have ft := ft_1 (tb := tB fs s.2.2.1) (ad := ad) ll (false, 0, 1, 0)
  generalize hFTd : ll.foldl (ft1 (tB fs s.2.2.1) ad) (false, 0, 1, 0) = FT at *
  rw [Bool.false_or] at ft
  have pre : ∀ (a6 : Int32) (s0 : Option Nat), f_Layout_layTemplate_34 F c 1700 (lN fe) (lN e5) a6 s0 (cH sk L τ) = (match s0 with
    | none => some ((), cH sk L τ2)
    | some p5 => f_Layout_layTemplate_60 F c F 1700 (lN fe) (lN e5) (some p5) a6 (nI 0) (cH sk L τ2)) := fun a6 s0 => by
    unfold f_Layout_layTemplate_34
    rw [C2p16 o, bs, ← hτ1, C2r6 o (q := 1705) (by rw [hτ1]; exact GR_r (v := 1705) hR (by decide)), bs, c_aJ (G1705 hS) (by decide) (by decide), bs, show eJ τ1 1705 2 = lN bg2 by rw [hτ1]; exact hb, C2p17 o, bs, ← hτ2]
    cases s0 <;> rfl
  have some' : ∀ (a6 : Int32) (x : Nat), x ∈ ll → 4 ≤ oG (tB fs s.2.2.1 (x / 24)) (x % 24) → ∃ τ', f_Layout_layTemplate_34 F c 1700 (lN fe) (lN e5) a6 (some (152 + x)) (cH sk L τ) = some ((), cH sk L τ') ∧ fJ τ' 1700 17 = lN (tpN bg2 FT) ∧ frJE J16 E3 τ τ' := fun a6 x hxm hg4 => by
    have hft : FT.1 = true := by rw [ft]; exact List.any_eq_true.mpr ⟨x, hxm, decide_eq_true hg4⟩
    obtain ⟨hxT, hxS⟩ := hl.2 x hxm
    obtain ⟨p1, _⟩ := TKe_part h hxT
    obtain ⟨τ3, j1, j2, j3, j4⟩ := k_lt_60 (F := F) (c := c) (ad := ad) (a1 := lN fe) (a3 := lN e5) (a5 := some (152 + x)) (a6 := a6) hk hl ll.length 0 F τ2 (false, 0, 1, 0) (Nat.zero_add _) (by omega) h2 ho2 (by rw [hτ2, tJ_ne (Or.inr (by decide)), hτ1, tJ_at]) (by decide)
    rw [List.drop_zero, hFTd] at j2 j3
    have f3 : frJE J16 E3 τ τ3 := frJE_mono (frJE_trans f2 j4) (fun _ _ w => w) (fun _ _ w => w.elim)
    obtain ⟨τ4, l1, l2, l3⟩ := k_lt_116 (F := F) (c := c) (a1 := lN fe) (a6 := a6) hS (GR_Ly hR (frJE_Ly f3 (fun a k w => Or.inr (Or.inl w.1)) (fun a k w => ⟨w.1, w.2.1⟩))) p1 j2 j3 he5
    refine ⟨τ4, ?_, ?_, frJE_trans f3 l3⟩
    · rw [pre]
      exact j1.trans l1
    · rw [l2]
      unfold tpN
      rw [if_pos hft, hFT hft]
  have find5 : ∀ (P : Nat → Bool) (x : Nat), ll.find? P = some x → x ∈ ll ∧ P x = true := fun P x w => ⟨List.mem_of_find?_eq_some w, List.find?_some w⟩
  unfold f_Layout_layTemplate
  rw [c_o o, bs, kf4, xb_mk]
  cases e4 : ll.find? (fun x => decide (oG (tB fs s.2.2.1 (x / 24)) (x % 24) = 4)) with
  | some x =>
    obtain ⟨w1, w2⟩ := find5 _ _ e4
    have w2 := of_decide_eq_true w2
    show ∃ τ', f_Layout_layTemplate_17 F c 1700 (lN fe) (lN e5) (some (152 + x)) (nI 1) (cH sk L τ) = _ ∧ _
    unfold f_Layout_layTemplate_17
    rw [if_neg (show ¬ nI 1 = 0 by decide)]
    exact some' _ x w1 (by omega)
  | none =>
    show ∃ τ', f_Layout_layTemplate_17 F c 1700 (lN fe) (lN e5) none (nI 0) (cH sk L τ) = _ ∧ _
    unfold f_Layout_layTemplate_17
    rw [if_pos (show nI 0 = 0 from rfl), c_o o, bs, kf5, xb_mk]
    cases e5' : ll.find? (fun x => decide (oG (tB fs s.2.2.1 (x / 24)) (x % 24) = 5)) with
    | some x =>
      obtain ⟨w1, w2⟩ := find5 _ _ e5'
      have w2 := of_decide_eq_true w2
      exact some' _ x w1 (by omega)
    | none =>
      have w4 := List.find?_eq_none.mp e4
      have w5 := List.find?_eq_none.mp e5'
      have hf : FT.1 = false := by
        rw [ft]
        refine List.any_eq_false.mpr (fun x hx => ?_)
        have z4 := w4 x hx
        have z5 := w5 x hx
        rw [decide_eq_true_iff] at z4 z5 ⊢
        have := oG_5 (b := tB fs s.2.2.1 (x / 24)) (i := x % 24)
        omega
      refine ⟨τ2, pre _ none, ?_, frJE_mono f2 (fun _ _ w => w) (fun _ _ w => w.elim)⟩
      unfold tpN
      rw [if_neg (by rw [hf]; decide), hτ2, tJ_at]
end CTP
end
section
/-! layData of the class -/
theorem pcs_b {xs : px_NL} {on : Bool} {rn : Nat → Bool} {th : Bool} (hcm : cmOK xs) : ∀ (l : List Nat) (s : px_PG), (∀ x, x ∈ l → x < xs.length) → (∀ v, s.2.2 = some v → v ≤ s.1) → ∀ v, (l.foldl (pc1 xs on rn th) s).2.2 = some v → v ≤ (l.foldl (pc1 xs on rn th) s).1 := by
  intro l
  induction l with
  | nil => intro s _ h v hv; exact h v hv
  | cons x l ih =>
    intro s hz h
    rw [List.foldl_cons]
    refine ih _ (fun y hy => hz y (List.mem_cons_of_mem _ hy)) (fun v hv => ?_)
    have hm := pc1_m (on := on) (rn := rn) (th := th) (s := s) (hz x List.mem_cons_self) hcm
    unfold pc1 at hv hm ⊢
    by_cases c : cB xs on rn x = true
    · rw [if_pos c] at hv hm ⊢
      have hv : s.2.2.getD (pcA xs th s.1 x) = v := Option.some.inj hv
      have hm : s.1 ≤ pcA xs th s.1 x + cmZ xs x ∧ _ := hm
      show v ≤ pcA xs th s.1 x + cmZ xs x
      cases e : s.2.2 with
      | none => rw [e] at hv; have hv : pcA xs th s.1 x = v := hv; omega
      | some w => rw [e] at hv; have hv : w = v := hv; have := h w e; omega
    · rw [if_neg c] at hv ⊢
      exact h v hv
section CDT
variable {F : Nat} {c : px_CT} {sk : Nat → Nat × Nat × Nat} {L : Nat} {own : Nat → Nat × Nat} {fs : px_FS} {s : px_TK} {xs : px_NL} {ST rn : Nat → Bool} {ll : List Nat} {th on : Bool} {rn0 : Nat → Bool} {D : Nat → Prop}
theorem TKe_Z {τ : px_TT} (h : TKe sk L own τ fs s xs ST rn) (hk : STk fs s ST) (hl : llS2 s ST ll) : ∀ x, x ∈ ll → zS (tB fs s.2.2.1) x ≤ 16384 ∧ alS (tB fs s.2.2.1) x ≤ 4096 := fun x hx => by
  obtain ⟨hxT, hxS⟩ := hl.2 x hx
  obtain ⟨_, _, _, _, _, tS⟩ := TKe_pt h hk hxT hxS
  obtain ⟨q, _, _, _, _, he, _⟩ := TKe_ob h (show x / 24 < s.2.2.1.length by omega)
  exact eObj_a he tS ((Bool.and_eq_true _ _).mp (hk x hxT hxS).1).2
theorem k_layGroup {τ : px_TT} {g : Nat} {G : px_PG} (hF : 65536 < F) (hc : KT c) (hk : STk fs s ST) (hl : llS2 s ST ll) (hnd : ll.Nodup) (hg : g < 6) (hD : ∀ x, D x → cnd (tB fs s.2.2.1) g x = false) (h : TKe sk L own τ fs s xs ST rn) (ho : COr τ ll) (ht : eI τ 1703 (sgO g) = bI th) (hb : G.1 < 2 ^ 39) (hA : ∀ x, x ∈ ll → D x → fJ τ (152 + x) 11 = lN (G.2.1 x)) : ∃ τ', f_Layout_layGroup F c 1700 (nI g) (lN G.1) (cH sk L τ) = some (lN (ll.foldl (pg1 (tB fs s.2.2.1) g th) G).1, cH sk L τ') ∧ (∀ x, x ∈ ll → (D x ∨ cnd (tB fs s.2.2.1) g x = true) → fJ τ' (152 + x) 11 = lN ((ll.foldl (pg1 (tB fs s.2.2.1) g th) G).2.1 x)) ∧ frJE J11 E0 τ τ' := by
  have hl1 := hl.1
  have h6 := ar_6 (K := 0) hl1
  obtain ⟨τ', j1, j2, j3⟩ := k_lg_6 (F := F) (c := c) (th := th) hF hc hk hl hnd hg hD ll.length 0 F τ G (Nat.zero_add _) (by omega) h ho ht (by omega) (fun Q x hx hd => hd.elim (fun w => hA x (List.mem_of_getElem? hx) w) (fun w => by omega))
  rw [List.drop_zero] at j1 j2
  exact ⟨τ', j1, j2, fr11_Q j3⟩
def J63 (a k : Nat) : Prop := J11 a k ∨ J14 a k
def E63 (a i : Nat) : Prop := (a = 1706 ∨ a = 1707) ∧ i = 2
theorem J63_Ly (a k : Nat) (w : J63 a k) : a = 1697 ∨ a = 1700 ∨ (152 ≤ a ∧ a < 1688 ∧ k = 11) ∨ (1815 ≤ a ∧ k = 14) := by unfold J63 J11 J14 at w; omega
theorem E63_Ly (a i : Nat) (w : E63 a i) : 1704 ≤ a ∧ a ≤ 1707 := by unfold E63 at w; omega
theorem k_dt_63 {τ : px_TT} {e bg2 : Nat} {ad : Nat → Nat} {G3 CM : px_PG} (hF : 65536 < F) (hc : KT c) (hk : STk fs s ST) (hl : llS2 s ST ll) (hnd : ll.Nodup) (hok : okL xs) (hcm : cmOK xs) (hcq : AL cmQ xs) (hrn : ∀ i, rn i = (!on || rn0 i)) (hod : ∀ d, d ∈ s.1.2.2.1 → d < xs.length) (h : TKe sk L own τ fs s xs ST rn) (ho : COr τ ll) (ht : eI τ 1703 2 = bI th) (hb2 : eJ τ 1705 2 = lN bg2) (hbe : bg2 ≤ e) (he : e < 2 ^ 38) (hD : ∀ x, D x → cnd (tB fs s.2.2.1) 3 x = false) (hA : ∀ x, x ∈ ll → D x → fJ τ (152 + x) 11 = lN (ad x)) (e3 : G3 = ll.foldl (pg1 (tB fs s.2.2.1) 3 th) (e, ad, none)) (eC : CM = s.1.2.2.1.foldl (pc1 xs on rn0 th) (G3.1, (fun _ => 0), G3.2.2)) : ∃ τ', f_Layout_layData_63 F c 1700 (lN e) (cH sk L τ) = some ((), cH sk L τ') ∧ (∀ x, x ∈ ll → (D x ∨ cnd (tB fs s.2.2.1) 3 x = true) → fJ τ' (152 + x) 11 = lN (G3.2.1 x)) ∧ fJ τ' 1700 15 = lN (CM.2.2.getD CM.1) ∧ (eJ τ' 1706 2 = lN (e - bg2) ∧ eJ τ' 1707 2 = lN (CM.1 - bg2)) ∧ (∀ n, n ∈ s.1.2.2.1 → cB xs on rn0 n = true → fJ τ' (pN τ 149 n) 14 = lN (CM.2.1 n)) ∧ frJE J63 E63 τ τ' := by
  have hl1 := hl.1
  have h6 := ar_6 (K := 0) hl1
  have hS := h.1
  have hR := h.2.1
  have o := G1700 hS
  have hZ := TKe_Z h hk hl
  have hol := h.2.2.2.2.1.1.2.2.2.1
  have hT := BK_T (s := s) h.2.2.2.2.1.1
  have hoq : s.1.2.2.1.length * 20480 ≤ 4096 * 20480 := Nat.mul_le_mul_right _ (by omega)
  obtain ⟨τ1, hτ1⟩ : ∃ y, y = vJ τ 1706 (vp_updL (eJ τ 1706) 2 (lN (e - bg2))) := ⟨_, rfl⟩
  have f1 : frJE J63 E63 τ τ1 := by rw [hτ1]; exact frJE_E ⟨Or.inl rfl, rfl⟩
  have h1 := TKe_Ly h (frJE_Ly f1 J63_Ly E63_Ly)
  have ho1 : COr τ1 ll := COr_fx ho (f1.1 1700 11) (f1.2.2.2.2.2 1701)
  obtain ⟨τ2, a1, a2, a3⟩ := k_layGroup (F := F) (c := c) (g := 3) (th := th) (D := D) (G := (e, ad, none)) hF hc hk hl hnd (by decide) hD h1 ho1 (by rw [f1.2.2.2.1]; exact ht) (show e < _ by omega) (fun x hx hd => by rw [hτ1]; exact hA x hx hd)
  rw [← e3] at a1 a2
  have f2 : frJE J63 E63 τ τ2 := frJE_trans f1 (frJE_mono a3 (fun _ _ w => Or.inl w) (fun _ _ w => w.elim))
  have h2 := TKe_Ly h (frJE_Ly f2 J63_Ly E63_Ly)
  have ho2 : COr τ2 ll := COr_fx ho (f2.1 1700 11) (f2.2.2.2.2.2 1701)
  have kf := k_firstOf (F := F) (c := c) (p := cnd (tB fs s.2.2.1) 3) (g := 3) (fun x _ => by rw [cnd_q (by decide)]; exact decide_eq_true_iff) hF hk hl (by decide) h2 ho2
  have hbs := pg_fst (tb := tB fs s.2.2.1) (th := th) ll (e, ad, none) hnd rfl
  have hm3 := pgs_m (g := 3) (th := th) ll (e, ad, none) hZ
  have hb3 := pgs_b (g := 3) (th := th) ll (e, ad, none) hZ (fun v hv => nomatch hv)
  rw [← e3] at hbs hm3 hb3
  have hm3 : e ≤ G3.1 ∧ G3.1 ≤ e + ll.length * 20480 := hm3
  have hmC := pcs_m (on := on) (rn := rn0) (th := th) hcm s.1.2.2.1 (G3.1, (fun _ => 0), G3.2.2) hod
  have hbC := pcs_b (on := on) (rn := rn0) (th := th) hcm s.1.2.2.1 (G3.1, (fun _ => 0), G3.2.2) hod hb3
  rw [← eC] at hmC hbC
  have hmC : G3.1 ≤ CM.1 ∧ CM.1 ≤ G3.1 + s.1.2.2.1.length * 20480 := hmC
  obtain ⟨τ3, hτ3⟩ : ∃ y, y = tJ τ2 1700 15 (bsV G3.2.2) := ⟨_, rfl⟩
  have f3 : frJE J63 E63 τ τ3 := frJE_trans f2 (by rw [hτ3]; exact frJE_J (Or.inr (Or.inl ⟨rfl, rfl⟩)))
  have h3 := TKe_Ly h (frJE_Ly f3 J63_Ly E63_Ly)
  have eP : ∀ n, pN τ3 149 n = pN τ 149 n := fun n => by unfold pN; rw [f3.2.2.2.2.2]
  obtain ⟨τ4, b1, b2, b3, b4⟩ := k_ld_111 (F := F) (c := c) (th := th) (on := on) (rn0 := rn0) hF hok hcm hcq hrn s.1.2.2.1.length 0 F τ3 (G3.1, (fun _ => 0), G3.2.2) (Nat.zero_add _) (by omega) h3 (by rw [f3.2.2.2.1]; exact ht) (by rw [hτ3, tJ_at]) (show G3.1 + _ < _ by omega) (fun v hv => by have := hb3 v hv; omega) (fun n hn => by rw [List.take_zero] at hn; cases hn)
  rw [List.drop_zero, ← eC] at b1 b2 b3
  have f4 : frJE J63 E63 τ τ4 := frJE_trans f3 (frJE_mono (fr14_Q b4) (fun _ _ w => Or.inr w) (fun _ _ w => w.elim))
  have ebs : (if lN 0 ≤ bsV CM.2.2 then bsV CM.2.2 else lN CM.1) = lN (CM.2.2.getD CM.1) := by
    cases ec : CM.2.2 with
    | none => rw [if_neg (show ¬ lN 0 ≤ bsV none by decide)]; rfl
    | some v => rw [if_pos ((bsV_le (o := some v) (fun w q => by cases q; have := hbC v ec; omega)).mpr rfl)]; rfl
  obtain ⟨τ5, hτ5⟩ : ∃ y, y = tJ τ4 1700 15 (lN (CM.2.2.getD CM.1)) := ⟨_, rfl⟩
  obtain ⟨τ6, hτ6⟩ : ∃ y, y = vJ τ5 1707 (vp_updL (eJ τ5 1707) 2 (lN (CM.1 - bg2))) := ⟨_, rfl⟩
  have f5 : frJE J63 E63 τ τ5 := frJE_trans f4 (by rw [hτ5]; exact frJE_J (Or.inr (Or.inl ⟨rfl, rfl⟩)))
  have f6 : frJE J63 E63 τ τ6 := frJE_trans f5 (by rw [hτ6]; exact frJE_E ⟨Or.inr rfl, rfl⟩)
  have hR5 := GR_Ly hR (frJE_Ly f5 J63_Ly E63_Ly)
  have b5 : eJ τ5 1705 2 = lN bg2 := by rw [f5.2.2.2.2.1 _ _ (fun w => by unfold E63 at w; omega)]; exact hb2
  have tail : f_Layout_layData_212 F c 1700 (lN CM.1) (cH sk L τ4) = some ((), cH sk L τ6) := by
    have t230 : f_Layout_layData_230 F c 1700 (lN CM.1) 1700 (lN (CM.2.2.getD CM.1)) (cH sk L τ4) = some ((), cH sk L τ6) := by
      unfold f_Layout_layData_230
      rw [C2p15 o, bs, ← hτ5, C2r8 o (GR_r (v := 1707) hR5 (by decide)), bs, C2r6 o (GR_r (v := 1705) hR5 (by decide)), bs, c_aJ (G1705 hS) (by decide) (by decide), bs, b5, lN_sub (by omega), c_sJ (G1707 hS) (by decide) (by decide), bs, ← hτ6]
    unfold f_Layout_layData_212
    rw [C2g15 o, bs, b2]
    by_cases w : lN 0 ≤ bsV CM.2.2
    · rw [if_pos w] at ebs ⊢
      rw [bs, ebs]
      exact t230
    · rw [if_neg w] at ebs ⊢
      rw [ebs]
      rw [← ebs] at t230
      rw [← ebs]
      exact t230
  refine ⟨τ6, ?_, fun x hx hd => ?_, ?_, ⟨?_, ?_⟩, fun n hn hc => ?_, f6⟩
  · unfold f_Layout_layData_63
    rw [C2r7 o (GR_r (v := 1706) hR (by decide)), bs, C2r6 o (GR_r (v := 1705) hR (by decide)), bs, c_aJ (G1705 hS) (by decide) (by decide), bs, hb2, lN_sub (by omega), c_sJ (G1706 hS) (by decide) (by decide), bs, ← hτ1, c_o o, bs, a1, xb_mk, c_o o, bs, kf, xb_mk]
    have t105 : f_Layout_layData_105 F c 1700 (lN G3.1) 1700 (bsV G3.2.2) (cH sk L τ2) = some ((), cH sk L τ6) := by
      unfold f_Layout_layData_105
      rw [C2p15 o, bs, ← hτ3]
      exact b1.trans tail
    cases ef : ll.find? (cnd (tB fs s.2.2.1) 3) with
    | none =>
      rw [ef] at hbs
      rw [hbs] at t105
      exact t105
    | some x =>
      rw [ef] at hbs
      have hxm := List.mem_of_find?_eq_some ef
      have hxc := List.find?_some ef
      obtain ⟨p1, _⟩ := TKe_part h (hl.2 x hxm).1
      show (xgJ (cH sk L τ2) 8 11 (152 + x)).bind _ = _
      rw [C8g11 p1, bs, a2 x hxm (Or.inr hxc)]
      rw [hbs] at t105
      exact t105
  · have hx1 := (hl.2 x hx).1
    rw [hτ6]
    show fJ τ5 (152 + x) 11 = _
    rw [hτ5, tJ_ne (Or.inl (by omega)), b4.2.1 _ _ (by omega) (Or.inl (by omega)), hτ3, tJ_ne (Or.inl (by omega))]
    exact a2 x hx hd
  · rw [hτ6]
    show fJ τ5 1700 15 = _
    rw [hτ5, tJ_at]
  · rw [hτ6, eJ_un (Or.inl (by decide)), hτ5]
    show eJ τ4 1706 2 = _
    rw [b4.2.2.2.2.2.1, hτ3]
    show eJ τ2 1706 2 = _
    rw [a3.2.2.2.2.1 _ _ (fun w => w), hτ1, eJ_up]
  · rw [hτ6, eJ_up]
  · have hge := (h.2.2.2.1.1 149 n _ (Or.inr (Or.inr rfl)) (CLm_at h.2.2.2.1.2.1 (List.getElem?_eq_getElem (hod n hn))).2.1).1
    rw [hτ6]
    show fJ τ5 (pN τ 149 n) 14 = _
    rw [hτ5, tJ_ne (Or.inl (by omega)), ← eP]
    exact b3 n hn hc
end CDT
end
