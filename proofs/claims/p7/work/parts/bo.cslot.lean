/-! findSlots of the class: its loops -/
section CSN
variable {F : Nat} {c : px_CT} {sk : Nat → Nat × Nat × Nat} {L : Nat} {τ : px_TT} {own : Nat → Nat × Nat} {fs : px_FS} {s : px_TK} {xs : px_NL} {ST rn : Nat → Bool} {t i j : Nat} {sl : List Nat}
theorem zz_zOf {k how : Nat} : zz t k (decide (how = 22)) = zOf t k how := by
  unfold zz zOf
  by_cases e : how = 22
  · rw [decide_eq_true e, if_pos rfl, if_pos e]
  · rw [decide_eq_false e, if_neg (show ¬ false = true by decide), if_neg e]
theorem k_findSlot (h : TKe sk L own τ fs s xs ST rn) (hk : STk fs s ST) (hF : 8 < F) (hW : WP s.2.2.1.length (tB fs s.2.2.1) s.2.1.1 xs) (hc : SLc s.2.2.1.length (tB fs s.2.2.1) xs τ sl) (hN : SLN s.2.2.1.length (tB fs s.2.2.1)) (hI : SLI s.2.2.1.length (tB fs s.2.2.1) sl) (ht : t < s.2.2.1.length) (hi : i < oS (tB fs s.2.2.1 t)) (hs : isS (tB fs s.2.2.1 t) i = true) (hst : ST (24 * t + oI (tB fs s.2.2.1 t) i) = true) (hj : j < sN (tB fs s.2.2.1 t) i) : ∃ τ', f_Layout_findSlot F c 1700 (nI t) (nI (sP (tB fs s.2.2.1 t) i j)) (some (152 + (24 * t + oI (tB fs s.2.2.1 t) i))) (cH sk L τ) = some ((), cH sk L τ') ∧ SLc s.2.2.1.length (tB fs s.2.2.1) xs τ' (fsJ (tB fs s.2.2.1) s.2.1.1 xs t i j sl) ∧ SLI s.2.2.1.length (tB fs s.2.2.1) (fsJ (tB fs s.2.2.1) s.2.1.1 xs t i j sl) ∧ frSl τ τ' := by
  obtain ⟨q, q1, q2, hD, hcb, he, hp, hRS, h89⟩ := TKe_ob h ht
  have hS := h.1
  have hR := h.2.1
  have o := G1700 hS
  have o147 := G147 hS
  have oq := hD.1.1.1.1.1
  have hT := BK_T (s := s) h.2.2.2.2.1.1
  obtain ⟨hyo, hS24, hM64⟩ := TKe_ys h t ht
  obtain ⟨hpl, hy⟩ := s_place he hi hs hj
  obtain ⟨s1, s2, s3, s4⟩ := k_site (F := F) (c := c) hD hF hcb hpl
  have hsit := eSit_0 he (isS_1 he hs) hi hs
  have hH := wd_42 (sOK_0w (hsit.2.2.2.2.2 j hj)).1
  have kob := k_object (F := F) (c := c) h q1
  have ksh := k_isShort (F := F) (c := c) h hk hF hW ht hi hs hst hj
  have k101 : ∀ th, ∃ τ', f_Layout_findSlot_101 F c 1700 (nI t) (bI th) (nI (sY (tB fs s.2.2.1 t) i j)) (cH sk L τ) = some ((), cH sk L τ') ∧ SLc s.2.2.1.length (tB fs s.2.2.1) xs τ' (sl1 (tB fs s.2.2.1) xs (zz t (sY (tB fs s.2.2.1 t) i j) th) sl) ∧ frSl τ τ' := fun th => k_fs_101 h hc hN hI ht hy
  have hSLI : ∀ th, SLI s.2.2.1.length (tB fs s.2.2.1) (sl1 (tB fs s.2.2.1) xs (zz t (sY (tB fs s.2.2.1 t) i j) th) sl) := fun th => by
    obtain ⟨z1, z2, _, _⟩ := zz_m (t := t) (th := th) (show sY (tB fs s.2.2.1 t) i j < 64 by omega)
    exact (SLI_1 hI (by rw [z1, z2]; exact ⟨ht, hy⟩)).1
  have hsk0 : ¬ (sH (tB fs s.2.2.1 t) i j = 41 ∨ sH (tB fs s.2.2.1 t) i j = 42) → skY (tB fs s.2.2.1) s.2.1.1 xs t i j = 0 := fun w => by unfold skY; rw [if_neg (fun v => w v.1)]
  have zq : ∀ th, th = decide (sH (tB fs s.2.2.1 t) i j = 22) → zz t (sY (tB fs s.2.2.1 t) i j) th = zOf t (sY (tB fs s.2.2.1 t) i j) (sH (tB fs s.2.2.1 t) i j) := fun th e => by rw [e]; exact zz_zOf
  have yes : isSl (sH (tB fs s.2.2.1 t) i j) = true → skY (tB fs s.2.2.1) s.2.1.1 xs t i j = 0 → fsJ (tB fs s.2.2.1) s.2.1.1 xs t i j sl = sl1 (tB fs s.2.2.1) xs (zOf t (sY (tB fs s.2.2.1 t) i j) (sH (tB fs s.2.2.1 t) i j)) sl := fun a b => by unfold fsJ; rw [if_pos ⟨a, b⟩]
  have non : ¬ (isSl (sH (tB fs s.2.2.1 t) i j) = true ∧ skY (tB fs s.2.2.1) s.2.1.1 xs t i j = 0) → fsJ (tB fs s.2.2.1) s.2.1.1 xs t i j sl = sl := fun a => by unfold fsJ; rw [if_neg a]
  unfold f_Layout_findSlot
  rw [C2r0 o (GR_r (v := 147) hR (by decide)), bs, c_o o147, bs, kob, xb_mk, bs, c_o oq, bs, nI_add, s2, xb_mk, lN_i]
  generalize sH (tB fs s.2.2.1 t) i j = H at *
  generalize skY (tB fs s.2.2.1) s.2.1.1 xs t i j = K at *
  generalize fsJ (tB fs s.2.2.1) s.2.1.1 xs t i j sl = J at *
  generalize sY (tB fs s.2.2.1 t) i j = Y at *
  generalize sP (tB fs s.2.2.1 t) i j = X at *
  have e76 : ∀ (th v : Bool), f_Layout_findSlot_76 F c 1700 (nI t) (nI X) (some (10 + 2 * q)) (bI th) (bI v) (cH sk L τ) = if (th || v) = true then f_Layout_findSlot_101 F c 1700 (nI t) (bI th) (nI Y) (cH sk L τ) else some ((), cH sk L τ) := fun th v => by
    unfold f_Layout_findSlot_76 f_Layout_findSlot_214
    rw [bs, c_o oq, bs, nI_add, s3, xb_mk, lN_i]
    cases th with
    | true => rw [if_neg (show ¬ bI true = 0 by decide), Bool.true_or, if_pos rfl]
    | false =>
      rw [if_pos (show bI false = 0 from rfl), Bool.false_or]
      cases v with
      | true => rw [if_neg (show ¬ bI true = 0 by decide), if_pos rfl]
      | false => rw [if_pos (show bI false = 0 from rfl), if_neg (by decide)]
  have fin : ∀ (th : Bool) (ph : Option (Unit × px_H)), th = decide (H = 22) → ph = f_Layout_findSlot_101 F c 1700 (nI t) (bI th) (nI Y) (cH sk L τ) → isSl H = true → K = 0 → ∃ τ', ph = some ((), cH sk L τ') ∧ SLc s.2.2.1.length (tB fs s.2.2.1) xs τ' J ∧ SLI s.2.2.1.length (tB fs s.2.2.1) J ∧ frSl τ τ' := fun th ph e1 e2 e3 e4 => by
    obtain ⟨τ', a1, a2, a3⟩ := k101 th
    have hsi := hSLI th
    rw [zq th e1, ← yes e3 e4] at a2 hsi
    exact ⟨τ', by rw [e2]; exact a1, a2, hsi, a3⟩
  have fino : ∀ (ph : Option (Unit × px_H)), ph = some ((), cH sk L τ) → ¬ (isSl H = true ∧ K = 0) → ∃ τ', ph = some ((), cH sk L τ') ∧ SLc s.2.2.1.length (tB fs s.2.2.1) xs τ' J ∧ SLI s.2.2.1.length (tB fs s.2.2.1) J ∧ frSl τ τ' := fun ph e1 e2 => by
    rw [non e2]
    exact ⟨τ, e1, hc, hI, frSl_refl⟩
  have eN1 : ∀ v, v < 2 ^ 31 → ((nI H = nI v) ↔ H = v) := fun v hv => nI_eq (by omega) hv
  unfold f_Layout_findSlot_35 f_Layout_findSlot_58 f_Layout_findSlot_71 f_Layout_findSlot_75
  by_cases c22 : H = 22
  · rw [if_pos ((eN1 22 (by decide)).mpr c22), if_neg (fun w => by have := (eN1 9 (by decide)).mp w; omega), if_neg (fun w => by have := (eN1 41 (by decide)).mp w; omega), if_neg (fun w => by have := (eN1 42 (by decide)).mp w; omega)]
    exact fin true _ (decide_eq_true c22).symm (by have := e76 true false; rw [Bool.true_or, if_pos rfl] at this; exact this) (decide_eq_true (by omega)) (hsk0 (by omega))
  · rw [if_neg (fun w => c22 ((eN1 22 (by decide)).mp w))]
    have d22 : false = decide (H = 22) := (decide_eq_false c22).symm
    have e101 := e76 false true
    rw [Bool.false_or, if_pos rfl] at e101
    have e214 := e76 false false
    rw [Bool.false_or, if_neg (by decide)] at e214
    by_cases c9 : H = 9
    · rw [if_pos ((eN1 9 (by decide)).mpr c9)]
      exact fin false _ d22 e101 (decide_eq_true (by omega)) (hsk0 (by omega))
    · rw [if_neg (fun w => c9 ((eN1 9 (by decide)).mp w))]
      have sh : (H = 41 ∨ H = 42) → ∃ τ', ((xgR (cH sk L τ) 2 0 1700).bind fun t1 => (xo (cH sk L τ) 3 t1).bind fun _ => xb (f_Link_isShort F c t1 (nI t) (nI X) (some (152 + (24 * t + oI (tB fs s.2.2.1 t) i))) (cH sk L τ)) fun t2 ph3 => if t2 = 0 then f_Layout_findSlot_76 F c 1700 (nI t) (nI X) (some (10 + 2 * q)) (nI 0) (nI 1) ph3 else f_Layout_findSlot_76 F c 1700 (nI t) (nI X) (some (10 + 2 * q)) (nI 0) (nI 0) ph3) = some ((), cH sk L τ') ∧ SLc s.2.2.1.length (tB fs s.2.2.1) xs τ' J ∧ SLI s.2.2.1.length (tB fs s.2.2.1) J ∧ frSl τ τ' := fun w => by
        rw [C2r0 o (GR_r (v := 147) hR (by decide)), bs, c_o o147, bs, ksh, xb_mk]
        by_cases cK : K = 0
        · rw [decide_eq_false (fun v => v cK), if_pos (show bI false = 0 from rfl)]
          exact fin false _ d22 e101 (decide_eq_true (by omega)) cK
        · rw [decide_eq_true cK, if_neg (show ¬ bI true = 0 by decide)]
          exact fino _ e214 (fun v => cK v.2)
      by_cases c41 : H = 41
      · rw [if_pos ((eN1 41 (by decide)).mpr c41)]
        exact sh (Or.inl c41)
      · rw [if_neg (fun w => c41 ((eN1 41 (by decide)).mp w))]
        by_cases c42 : H = 42
        · rw [if_pos ((eN1 42 (by decide)).mpr c42)]
          exact sh (Or.inr c42)
        · rw [if_neg (fun w => c42 ((eN1 42 (by decide)).mp w))]
          exact fino _ e214 (fun v => by have := of_decide_eq_true v.1; omega)
end CSN
