/-! findSlot of the class -/
section CSM
variable {F : Nat} {c : px_CT} {sk : Nat → Nat × Nat × Nat} {L : Nat} {τ : px_TT} {own : Nat → Nat × Nat} {fs : px_FS} {s : px_TK} {xs : px_NL} {ST rn : Nat → Bool} {t i j : Nat} {th : Bool} {sl : List Nat}
/-- a name's slot, or a local symbol's, has been written -/
theorem SLc_add {T z : Nat} {tb : Nat → Nat → Nat} {τ τ' : px_TT} (hc : SLc T tb xs τ sl) (hno : ixB (skE tb xs z) 0 sl = none) (e12 : fI τ' 1700 12 = nI (sl.length + 1)) (e08 : eI τ' 1708 = upd (eI τ 1708) sl.length (nI z)) (eP : ∀ P, pN τ' 149 P = pN τ 149 P) (hn : ∀ P, nmZ tb xs z = some P → P < xs.length ∧ fI τ' (pN τ 149 P) (15 + z % 2) = nI (sl.length + 1)) (hn2 : ∀ P, P < xs.length → ∀ th, th < 2 → ¬ (nmZ tb xs z = some P ∧ th = z % 2) → fI τ' (pN τ 149 P) (15 + th) = fI τ (pN τ 149 P) (15 + th)) (hl : nmZ tb xs z = none → eI τ' 1709 = upd (eI τ 1709) z (nI (sl.length + 1))) (hl2 : nmZ tb xs z ≠ none → eI τ' 1709 = eI τ 1709) : SLc T tb xs τ' (sl ++ [z]) := by
  refine ⟨by rw [List.length_append, List.length_singleton]; exact e12, fun k y hy => ?_, fun P hP th hth => ?_, fun y hy hny => ?_⟩
  · rw [e08]
    by_cases ck : k < sl.length
    · rw [List.getElem?_append_left ck] at hy
      rw [upd_ne (by omega)]
      exact hc.2.1 k y hy
    · have ek : k = sl.length := by
        have := (List.getElem?_eq_some_iff.mp hy).1
        rw [List.length_append, List.length_singleton] at this
        omega
      rw [ek, List.getElem?_append_right (Nat.le_refl _), Nat.sub_self] at hy
      have hy : z = y := Option.some.inj hy
      rw [ek, upd_eq, hy]
  · rw [eP, sNo_app]
    by_cases cz : nmZ tb xs z = some P ∧ th = z % 2
    · have hno2 := hno
      rw [skE_n cz.1, ← cz.2] at hno2
      rw [hno2, if_neg (by decide), if_pos (show pnB tb xs P th z = true by unfold pnB; rw [decide_eq_true cz.1, decide_eq_true cz.2.symm]; rfl), cz.2]
      exact (hn P cz.1).2
    · rw [hn2 P hP th hth cz, hc.2.2.1 P hP th hth]
      congr 1
      cases e : ixB (pnB tb xs P th) 0 sl with
      | some i => rfl
      | none =>
        rw [if_neg (by decide), if_neg (fun q => by
          unfold pnB at q
          rw [Bool.and_eq_true] at q
          exact cz ⟨of_decide_eq_true q.1, (of_decide_eq_true q.2).symm⟩)]
        exact sNo_0.mpr e
  · rw [sNo_app]
    by_cases cz : nmZ tb xs z = none
    · rw [hl cz]
      by_cases ey : y = z
      · have hno2 := hno
        rw [skE_l cz, ← ey] at hno2
        rw [hno2, if_neg (by decide), if_pos (by rw [ey]; exact decide_eq_true rfl), ey, upd_eq]
      · rw [upd_ne ey, hc.2.2.2 y hy hny]
        congr 1
        cases e : ixB (fun v => decide (v = y)) 0 sl with
        | some i => rfl
        | none =>
          rw [if_neg (by decide), if_neg (fun q => ey (of_decide_eq_true q).symm)]
          exact sNo_0.mpr e
    · rw [hl2 cz, hc.2.2.2 y hy hny]
      congr 1
      cases e : ixB (fun v => decide (v = y)) 0 sl with
      | some i => rfl
      | none =>
        rw [if_neg (by decide), if_neg (fun q => by
          have q : z = y := of_decide_eq_true q
          rw [q] at cz
          exact cz hny)]
        exact sNo_0.mpr e
theorem k_fs_101 (h : TKe sk L own τ fs s xs ST rn) (hc : SLc s.2.2.1.length (tB fs s.2.2.1) xs τ sl) (hN : SLN s.2.2.1.length (tB fs s.2.2.1)) (hI : SLI s.2.2.1.length (tB fs s.2.2.1) sl) (ht : t < s.2.2.1.length) (hj : j < oM (tB fs s.2.2.1 t)) : ∃ τ', f_Layout_findSlot_101 F c 1700 (nI t) (bI th) (nI j) (cH sk L τ) = some ((), cH sk L τ') ∧ SLc s.2.2.1.length (tB fs s.2.2.1) xs τ' (sl1 (tB fs s.2.2.1) xs (zz t j th) sl) ∧ frSl τ τ' := by
  obtain ⟨q, q1, q2, hD, hcb, he, hp, hRS, h89⟩ := TKe_ob h ht
  obtain ⟨hyo, hS24, hM64⟩ := TKe_ys h t ht
  have hS := h.1
  have hR := h.2.1
  have hT := BK_T (s := s) h.2.2.2.2.1.1
  have o := G1700 hS
  obtain ⟨y1, y2⟩ := hRS j (by omega)
  obtain ⟨z1, z2, z3, z4⟩ := zz_m (t := t) (th := th) (show j < 64 by omega)
  obtain ⟨n1, n2⟩ := nmZ_z (xs := xs) (tb := tB fs s.2.2.1) (t := t) (th := th) (show j < 64 by omega) hj
  have hz8 := z4 (by omega)
  have hsl := hN sl hI
  have hzv : zz t j th / 2 / 64 < s.2.2.1.length ∧ zz t j th / 2 % 64 < oM (tB fs s.2.2.1 (zz t j th / 2 / 64)) := by rw [z1, z2]; exact ⟨ht, hj⟩
  have hsn := sNo_le (p := skE (tB fs s.2.2.1) xs (zz t j th)) (sl := sl)
  unfold f_Layout_findSlot_101 f_Layout_findSlot_214 sl1
  rw [c_o o, bs, k_slotOf h hc ht hj, xb_mk]
  cases ei : ixB (skE (tB fs s.2.2.1) xs (zz t j th)) 0 sl with
  | some p =>
    rw [if_neg (show ¬ nI (sNo (skE (tB fs s.2.2.1) xs (zz t j th)) sl) = 0 from fun w => by
      have := (nI_eq (b := 0) (by omega) (by decide)).mp w
      rw [sNo_0.mp this] at ei
      cases ei), if_pos (show (some p).isSome = true from rfl)]
    exact ⟨τ, rfl, hc, frSl_refl⟩
  | none =>
    rw [if_pos (show nI (sNo (skE (tB fs s.2.2.1) xs (zz t j th)) sl) = 0 by rw [sNo_0.mpr ei]; rfl), if_neg (by decide), C2g12 o, bs, hc.1, C2r9 o (GR_r (v := 1708) hR (by decide)), bs, c_l (G1708 hS) (by decide), bs, if_neg (nI_ge (by omega) (by omega)), c_o o, bs, k_slotKey hS hR (by omega) (by omega), xb_mk, C2r9 o (GR_r (v := 1708) hR (by decide)), bs, C2g12 o, bs, hc.1, c_sI (G1708 hS) (by decide) (by decide) (by omega), bs]
    obtain ⟨z, hz⟩ : ∃ z, z = zz t j th := ⟨_, rfl⟩
    rw [← hz] at n1 n2 z3 hz8 ei ⊢
    obtain ⟨τ1, hτ1⟩ : ∃ x, x = vI τ 1708 (upd (eI τ 1708) sl.length (nI z)) := ⟨_, rfl⟩
    have e1 : fI τ1 1700 12 = nI sl.length := by rw [hτ1]; exact hc.1
    rw [← hτ1, C2g12 o, bs, e1, nI_add, C2p12 o, bs]
    obtain ⟨τ2, hτ2⟩ : ∃ x, x = tI τ1 1700 12 (nI (sl.length + 1)) := ⟨_, rfl⟩
    rw [← hτ2]
    have f2 : frSl τ τ2 := by rw [hτ2, hτ1]; exact frSl_trans (frSl_v (by decide)) frSl_12
    have h2 := TKe_Ly h f2.1
    have hR2 := h2.2.1
    have e12 : fI τ2 1700 12 = nI (sl.length + 1) := by rw [hτ2, tI_at]
    have e08 : eI τ2 1708 = upd (eI τ 1708) sl.length (nI z) := by rw [hτ2, hτ1]; exact eI_v_eq
    have e09 : eI τ2 1709 = eI τ 1709 := by rw [hτ2, hτ1]; exact eI_v_ne (by decide)
    have eN2 : eN τ2 1692 = eN τ 1692 := f2.1.2.2.2.2.2.2.2 1692 (by decide)
    have eP2 : ∀ P, pN τ2 149 P = pN τ 149 P := fun P => by unfold pN; rw [f2.1.2.2.2.2.2.2.2 149 (by decide)]
    have eI2 : ∀ a k, (a ≠ 1700 ∨ k ≠ 12) → fI τ2 a k = fI τ a k := fun a k w => by rw [hτ2, tI_ne w, hτ1]; rfl
    have hge : ∀ P, P < xs.length → 1815 ≤ pN τ 149 P := fun P hP => (h.2.2.2.1.1 149 P _ (Or.inr (Or.inr rfl)) (CLm_at h.2.2.2.1.2.1 (List.getElem?_eq_getElem hP)).2.1).1
    rw [C2r0 o (GR_r (v := 147) hR2 (by decide)), bs, c_o (G147 hS), bs, k_nameOf hS hR2 (by omega) (by omega), eN2, y1, xb_mk]
    unfold syN
    by_cases ch : hsN (tB fs s.2.2.1 t) j = true
    · obtain ⟨x, hx, _, _⟩ := plc_ix (y2 ch)
      have hPl := (List.getElem?_eq_some_iff.mp hx).1
      obtain ⟨w1, w2, w3, w4⟩ := CLm_at h.2.2.2.1.2.1 hx
      have n1 := n1 ch
      rw [if_pos ch]
      obtain ⟨P, hP⟩ : ∃ P, P = plc (yT (tB fs s.2.2.1 t) j) (xs.map Prod.fst) := ⟨_, rfl⟩
      rw [← hP] at hx hPl w2 w3 n1 ⊢
      obtain ⟨kf, hkf⟩ : ∃ kf, kf = 15 + z % 2 := ⟨_, rfl⟩
      have fin : ∀ τ3, τ3 = tI τ2 (pN τ 149 P) (15 + z % 2) (nI (sl.length + 1)) → SLc s.2.2.1.length (tB fs s.2.2.1) xs τ3 (sl ++ [z]) ∧ frSl τ τ3 := fun τ3 hτ3 => by
        have f3 : frSl τ2 τ3 := by rw [hτ3]; exact frSl_p ⟨hge P hPl, by omega⟩
        refine ⟨SLc_add hc ei (by rw [hτ3, tI_ne (Or.inl (by have := hge P hPl; omega))]; exact e12) (by rw [hτ3]; exact e08) (fun P' => by rw [hτ3]; exact eP2 P') (fun P' hP' => ?_) (fun P' hP' th' hth' hne => ?_) (fun w => by rw [n1] at w; cases w) (fun _ => by rw [hτ3]; exact e09), frSl_trans f2 f3⟩
        · rw [n1] at hP'
          have hP' : P = P' := Option.some.inj hP'
          rw [← hP']
          exact ⟨hPl, by rw [hτ3, tI_at]⟩
        · rw [hτ3]
          have hne2 : pN τ 149 P' ≠ pN τ 149 P ∨ 15 + th' ≠ 15 + z % 2 := by
            by_cases c1 : P' = P
            · right
              intro w
              exact hne ⟨by rw [n1, c1], by omega⟩
            · left
              exact NP_ne h.2.2.2.1.1 (Or.inr (Or.inr rfl)) (Or.inr (Or.inr rfl)) (CLm_at h.2.2.2.1.2.1 (List.getElem?_eq_getElem hP')).2.1 w2 (fun w => c1 w.2)
          rw [tI_ne hne2, eI2 _ _ (Or.inl (by have := hge P' hP'; omega))]
      cases th with
      | false =>
        have hz2 : z % 2 = 0 := by rw [z3, if_neg (by decide)]
        show ∃ τ', (if bI false = 0 then (xgI (cH sk L τ2) 2 12 1700).bind _ else (xgI (cH sk L τ2) 2 12 1700).bind _) = _ ∧ _
        rw [if_pos (show bI false = 0 from rfl), C2g12 o, bs, e12, C5p15 w3, bs]
        exact ⟨_, rfl, fin _ (by rw [hz2])⟩
      | true =>
        have hz2 : z % 2 = 1 := by rw [z3, if_pos rfl]
        show ∃ τ', (if bI true = 0 then (xgI (cH sk L τ2) 2 12 1700).bind _ else (xgI (cH sk L τ2) 2 12 1700).bind _) = _ ∧ _
        rw [if_neg (show ¬ bI true = 0 by decide), C2g12 o, bs, e12, C5p16 w3, bs]
        exact ⟨_, rfl, fin _ (by rw [hz2])⟩
    · have n2 := n2 ch
      rw [if_neg ch]
      show ∃ τ', ((xgR (cH sk L τ2) 2 10 1700).bind _) = _ ∧ _
      rw [C2r10 o (GR_r (v := 1709) hR2 (by decide)), bs, C2g12 o, bs, e12, c_sI (G1709 hS) (by decide) (by decide) hz8, bs]
      refine ⟨_, rfl, SLc_add hc ei e12 (by rw [← e08]; exact eI_v_ne (by decide)) (fun P => eP2 P) (fun P hP => by rw [n2] at hP; cases hP) (fun P hP th' _ _ => eI2 _ _ (Or.inl (by have := hge P hP; omega))) (fun _ => by rw [← e09]; exact eI_v_eq) (fun w => absurd n2 w), frSl_trans f2 (frSl_v (by decide))⟩
end CSM
