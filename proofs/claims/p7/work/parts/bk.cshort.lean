/-! stayingTarget, isShort of the class -/
section CSH
variable {F : Nat} {c : px_CT} {sk : Nat → Nat × Nat × Nat} {L : Nat} {τ : px_TT} {own : Nat → Nat × Nat} {fs : px_FS} {s : px_TK} {xs : px_NL} {ST rn : Nat → Bool} {t i j : Nat}
theorem k_stayT (h : TKe sk L own τ fs s xs ST rn) (hF : 8 < F) (ht : t < s.2.2.1.length) (hi : i < oS (tB fs s.2.2.1 t)) : f_Link_stayingTarget F c 147 (nI t) (nI i) (cH sk L τ) = some (if isS (tB fs s.2.2.1 t) i = true ∧ ST (24 * t + oI (tB fs s.2.2.1 t) i) = true then some (152 + (24 * t + oI (tB fs s.2.2.1 t) i)) else none, cH sk L τ) := by
  obtain ⟨q, q1, q2, hD, hcb, he, hp, hRS, h89⟩ := TKe_ob h ht
  have hS := h.1
  have hR := h.2.1
  have o147 := G147 hS
  have oq := hD.1.1.1.1.1
  have hT := BK_T (s := s) h.2.2.2.2.1.1
  obtain ⟨hyo, hS24, hM64⟩ := TKe_ys h t ht
  unfold f_Link_stayingTarget f_Link_stayingTarget_38
  rw [c_o o147, bs, k_object h q1, xb_mk, bs, c_o oq, bs]
  by_cases cs : isS (tB fs s.2.2.1 t) i = true
  · obtain ⟨k1, k2, k3⟩ := k_sitesOf (F := F) (c := c) hD hF hcb hi cs
    have hoI := (eSit_0 he (isS_1 he cs) hi cs).1
    rw [k3, xb_mk, if_pos (nI_pos' (by omega)), c_o o147, bs, k_part hS hR (by omega) (by omega), xb_mk, bs, C8g9 (G_part hS (show 24 * t + oI (tB fs s.2.2.1 t) i < 1536 by omega)), bs, (hp _ (by omega)).2.2.2.2.1]
    cases e : ST (24 * t + oI (tB fs s.2.2.1 t) i) with
    | false => rw [if_pos (show bI false = 0 from rfl), if_neg (fun q => nomatch q.2)]
    | true => rw [if_neg (show ¬ bI true = 0 by decide), if_pos ⟨cs, rfl⟩]
  · rw [k_target0 hD hF hcb hi cs, xb_mk, if_neg (show ¬ 0 ≤ Int32.ofInt (-1) by decide), if_neg (fun q => cs q.1)]
theorem wd_42 {x : Nat} (h : wd x ≠ 16) : x ≤ 42 := by
  unfold wd at h
  split at h
  · omega
  · split at h
    · omega
    · split at h
      · omega
      · exact absurd rfl h
theorem isN_T {tb : Nat → Nat → Nat} {dr : Nat → Bool} {k : Nat} (hS : oS (tb t) ≤ 24) : isN tb t (wNo dr t (tb t) k) = (secT tb dr t (wNo dr t (tb t) k)).isSome := by
  have hdr : 0 < wNo dr t (tb t) k → wNo dr t (tb t) k < oS (tb t) → dr (24 * t + wNo dr t (tb t) k) = false := by
    unfold wNo
    by_cases c : 0 < yW (tb t) k ∧ yW (tb t) k < 24 ∧ dr (24 * t + yW (tb t) k) = true
    · rw [if_pos c]; intro h; omega
    · rw [if_neg c]
      intro h1 h2
      exact Bool.eq_false_iff.mpr (fun q => c ⟨h1, by omega, q⟩)
  generalize wNo dr t (tb t) k = w at *
  unfold isN secT
  by_cases c : 0 < w ∧ w < oS (tb t)
  · rw [decide_eq_true c, Bool.true_and]
    cases e : oK (tb t) w with
    | true => rw [if_pos ⟨c.1, c.2, rfl, hdr c.1 c.2⟩]; rfl
    | false => rw [if_neg (fun q => nomatch q.2.2.1)]; rfl
  · rw [decide_eq_false c, Bool.false_and, if_neg (fun q => c ⟨q.1, q.2.1⟩)]
    rfl
/-- inside: in a section, or a common -/
theorem inY_c (h : TKe sk L own τ fs s xs ST rn) (hW : WP s.2.2.1.length (tB fs s.2.2.1) s.2.1.1 xs) (ht : t < s.2.2.1.length) (hj : j < oM (tB fs s.2.2.1 t)) : (hsN (tB fs s.2.2.1 t) j = true → ∃ x, xs[plc (yT (tB fs s.2.2.1 t) j) (xs.map Prod.fst)]? = some x ∧ inY (tB fs s.2.2.1) s.2.1.1 xs t j = ((secY (tB fs s.2.2.1) s.2.1.1 xs t j).isSome || decide (fI τ (pN τ 149 (plc (yT (tB fs s.2.2.1 t) j) (xs.map Prod.fst))) 5 = nI 3))) ∧ (¬ hsN (tB fs s.2.2.1 t) j = true → inY (tB fs s.2.2.1) s.2.1.1 xs t j = (secY (tB fs s.2.2.1) s.2.1.1 xs t j).isSome) := by
  obtain ⟨q, q1, q2, hD, hcb, he, hp, hRS, h89⟩ := TKe_ob h ht
  have hys := TKe_ys h
  obtain ⟨y1, y2⟩ := hRS j (by have := (hys t ht).2.2; omega)
  constructor
  · intro ch
    obtain ⟨m1, m2, m3⟩ := of_decide_eq_true ch
    obtain ⟨x, hx, hxw, _⟩ := plc_ix (y2 ch)
    refine ⟨x, hx, ?_⟩
    unfold inY secY
    rw [if_neg (by omega), if_neg m3, if_neg (by omega), if_neg m3, hx]
    show inN (tB fs s.2.2.1) s.2.1.1 x.2 = ((secN (tB fs s.2.2.1) s.2.1.1 x.2).isSome || _)
    obtain ⟨P, hP⟩ : ∃ P, P = plc (yT (tB fs s.2.2.1 t) j) (xs.map Prod.fst) := ⟨_, rfl⟩
    rw [← hP] at hx ⊢
    obtain ⟨⟨c1, c2, d1, d2, d3, d4, d5⟩, _⟩ := h.2.2.2.1.2.1.2.1 P x hx
    have hb := hW.2.2.1 P x hx
    have h4 := h.2.2.2.2.2.1 P x hx
    unfold inN secN
    by_cases e2 : x.2.1 = 2
    · rw [if_pos e2, (d3 e2).1, decide_eq_true rfl, Bool.or_true]
    · rw [if_neg e2]
      unfold byP at hb
      cases e : x.2.2.2.2.1 with
      | none =>
        rw [e] at hb
        have hb : x.2.1 = 0 ∨ x.2.1 = 3 ∨ x.2.1 = 4 := hb
        show false = (false || _)
        rw [Bool.false_or, decide_eq_false]
        rcases hb with z | z | z
        · rw [d1 z]; decide
        · rw [(d4 (Or.inr z) e).1]; decide
        · rw [(d2 z).1]; decide
      | some qq =>
        rw [e] at hb
        obtain ⟨t', k'⟩ := qq
        have hb1 : t' < s.2.2.1.length := hb.1
        have hb5 : x.2.1 ≠ 0 := hb.2.2.2.2.1
        have hsf : sOf s.2.1.1 t' (tB fs s.2.2.1 t') k' = x.2.1 := hb.2.2.2.1
        have hs3 := sOf_3 (dr := s.2.1.1) (t := t') (b := tB fs s.2.2.1 t') (k := k')
        have c13 : x.2.1 = 1 ∨ x.2.1 = 3 := by omega
        show (decide (x.2.1 = 1 ∨ x.2.1 = 3) && isN (tB fs s.2.2.1) t' (wNo s.2.1.1 t' (tB fs s.2.2.1 t') k')) = ((if x.2.1 = 1 ∨ x.2.1 = 3 then secT (tB fs s.2.2.1) s.2.1.1 t' (wNo s.2.1.1 t' (tB fs s.2.2.1 t') k') else none).isSome || _)
        rw [decide_eq_true c13, Bool.true_and, if_pos c13, isN_T (hys t' hb1).2.1]
        have hne : ¬ fI τ (pN τ 149 P) 5 = nI 3 := by
          obtain ⟨_, e5, e6⟩ := d5 c13 t' k' e
          by_cases w : yW (tB fs s.2.2.1 t') k' = 65521
          · rw [e5 w]; decide
          · rw [(e6 w).1]; decide
        rw [decide_eq_false hne, Bool.or_false]
  · intro ch
    unfold inY secY
    by_cases z : j = 0
    · rw [if_pos z, if_pos z]; rfl
    · by_cases z2 : yB (tB fs s.2.2.1 t) j = 0
      · rw [if_neg z, if_neg z, if_pos z2, if_pos z2]
        exact isN_T (hys t ht).2.1
      · exact absurd (decide_eq_true (show 1 ≤ j ∧ j < oM (tB fs s.2.2.1 t) ∧ yB (tB fs s.2.2.1 t) j ≠ 0 from ⟨by omega, hj, z2⟩)) ch
end CSH
