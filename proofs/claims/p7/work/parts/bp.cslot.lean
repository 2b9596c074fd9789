/-! findSlots of the class, whole -/
section CSO
variable {F : Nat} {c : px_CT} {sk : Nat → Nat × Nat × Nat} {L : Nat} {τ : px_TT} {own : Nat → Nat × Nat} {fs : px_FS} {s : px_TK} {xs : px_NL} {ST rn : Nat → Bool} {t i q : Nat}
/-- what holds while slots are found -/
def FSs (sk : Nat → Nat × Nat × Nat) (L : Nat) (own : Nat → Nat × Nat) (fs : px_FS) (s : px_TK) (xs : px_NL) (ST rn : Nat → Bool) (τ : px_TT) (sl : List Nat) : Prop := TKe sk L own τ fs s xs ST rn ∧ SLc s.2.2.1.length (tB fs s.2.2.1) xs τ sl ∧ SLI s.2.2.1.length (tB fs s.2.2.1) sl
theorem k_fl_109 {k41 : Nat → Int32 → px_H → Option (Unit × px_H)} {k63 : Nat → Int32 → Option Nat → Int32 → px_H → Option (Unit × px_H)} (hk : STk fs s ST) (hF : 65536 < F) (hW : WP s.2.2.1.length (tB fs s.2.2.1) s.2.1.1 xs) (hN : SLN s.2.2.1.length (tB fs s.2.2.1)) (ht : t < s.2.2.1.length) (hi : i < oS (tB fs s.2.2.1 t)) (hs : isS (tB fs s.2.2.1 t) i = true) (hst : ST (24 * t + oI (tB fs s.2.2.1 t) i) = true) (hsN : sN (tB fs s.2.2.1 t) i < 2 ^ 30) : ∀ (d j f : Nat) (τ : px_TT) (sl : List Nat), j + d = sN (tB fs s.2.2.1 t) i → d < f → FSs sk L own fs s xs ST rn τ sl → ∃ τ', f_Layout_findSlots_109 F c k41 k63 f 1700 (nI t) (some (10 + 2 * q)) (nI i) (some (152 + (24 * t + oI (tB fs s.2.2.1 t) i))) (nI (sN (tB fs s.2.2.1 t) i)) (nI (oP (tB fs s.2.2.1 t) i)) (nI j) (cH sk L τ) = k63 1700 (nI t) (some (10 + 2 * q)) (nI (i + 1)) (cH sk L τ') ∧ FSs sk L own fs s xs ST rn τ' (itr (fsJ (tB fs s.2.2.1) s.2.1.1 xs t i) j d sl) ∧ frSl τ τ' := by
  intro d
  induction d with
  | zero =>
    intro j f τ sl hj hf h
    obtain ⟨f, rfl⟩ : ∃ x, f = x + 1 := ⟨f - 1, by omega⟩
    refine ⟨τ, ?_, h, frSl_refl⟩
    unfold f_Layout_findSlots_109 f_Layout_findSlots_137
    rw [if_pos (nI_le (by omega) (by omega)), nI_add]
  | succ d ih =>
    intro j f τ sl hj hf h
    obtain ⟨f, rfl⟩ : ∃ x, f = x + 1 := ⟨f - 1, by omega⟩
    obtain ⟨τ1, a1, a2, a3, a4⟩ := k_findSlot (F := F) (c := c) (j := j) h.1 hk (by omega) hW h.2.1 hN h.2.2 ht hi hs hst (by omega)
    obtain ⟨τ', j1, j2, j3⟩ := ih (j + 1) f τ1 _ (by omega) (by omega) ⟨TKe_Ly h.1 a4.1, a2, a3⟩
    refine ⟨τ', ?_, by rw [itr_s]; exact j2, frSl_trans a4 j3⟩
    unfold f_Layout_findSlots_109
    rw [if_neg (nI_ge (by omega) (by omega)), c_o (G1700 h.1.1), bs, pk_mul, nI_add, show oP (tB fs s.2.2.1 t) i + 24 * j = sP (tB fs s.2.2.1 t) i j from rfl, a1, xb_mk, nI_add]
    exact j1
theorem k_fl_63 {k41 : Nat → Int32 → px_H → Option (Unit × px_H)} (hk : STk fs s ST) (hF : 65536 < F) (hW : WP s.2.2.1.length (tB fs s.2.2.1) s.2.1.1 xs) (hN : SLN s.2.2.1.length (tB fs s.2.2.1)) (hq : s.2.2.1[t]? = some q) {sy : Nat → Nat → Bool} (hsy : ∀ i, i < oS (tB fs s.2.2.1 t) → isS (tB fs s.2.2.1 t) i = true → ST (24 * t + oI (tB fs s.2.2.1 t) i) = sy t (oI (tB fs s.2.2.1 t) i)) : ∀ (d i f : Nat) (τ : px_TT) (sl : List Nat), i + d = oS (tB fs s.2.2.1 t) → d < f → FSs sk L own fs s xs ST rn τ sl → ∃ τ', f_Layout_findSlots_63 F c k41 f 1700 (nI t) (some (10 + 2 * q)) (nI i) (cH sk L τ) = k41 1700 (nI (t + 1)) (cH sk L τ') ∧ FSs sk L own fs s xs ST rn τ' (itr (fsI (tB fs s.2.2.1) s.2.1.1 xs sy t) i d sl) ∧ frSl τ τ' := by
  have ht := (List.getElem?_eq_some_iff.mp hq).1
  intro d
  induction d with
  | zero =>
    intro i f τ sl hi hf h
    obtain ⟨f, rfl⟩ : ∃ x, f = x + 1 := ⟨f - 1, by omega⟩
    obtain ⟨q', q1, q2, hD, hcb, he, hp, hRS, h89⟩ := TKe_ob h.1 ht
    have eq' : q' = q := by rw [hq] at q1; exact (Option.some.inj q1).symm
    rw [eq'] at hD hcb q2
    have hS24 := (TKe_ys h.1 t ht).2.1
    refine ⟨τ, ?_, h, frSl_refl⟩
    unfold f_Layout_findSlots_63 f_Layout_findSlots_143
    rw [bs, C7g8 hD.1.1.1.1.1, bs, hD.1.1.1.2.2.2.2, hcb, if_pos (nI_le (by omega) (by omega)), nI_add]
  | succ d ih =>
    intro i f τ sl hi hf h
    obtain ⟨f, rfl⟩ : ∃ x, f = x + 1 := ⟨f - 1, by omega⟩
    obtain ⟨q', q1, q2, hD, hcb, he, hp, hRS, h89⟩ := TKe_ob h.1 ht
    have eq' : q' = q := by rw [hq] at q1; exact (Option.some.inj q1).symm
    rw [eq'] at hD hcb q2
    have hS24 := (TKe_ys h.1 t ht).2.1
    have hiS : i < oS (tB fs s.2.2.1 t) := by omega
    have oq := hD.1.1.1.1.1
    have kP := (cD_sec (F := F) (c := c) (s := i) hD (by omega) (by rw [hcb]; exact hiS)).2.2
    rw [hcb] at kP
    rw [itr_s]
    unfold f_Layout_findSlots_63
    rw [bs, C7g8 oq, bs, hD.1.1.1.2.2.2.2, hcb, if_neg (nI_ge hiS (by omega)), C2r0 (G1700 h.1.1) (GR_r (v := 147) h.1.2.1 (by decide)), bs, c_o (G147 h.1.1), bs, k_stayT h.1 (by omega) ht hiS, xb_mk]
    by_cases cs : isS (tB fs s.2.2.1 t) i = true ∧ ST (24 * t + oI (tB fs s.2.2.1 t) i) = true
    · obtain ⟨k1, k2, k3⟩ := k_sitesOf (F := F) (c := c) hD (by omega) hcb hiS cs.1
      have hz := (eSit_0 he (isS_1 he cs.1) hiS cs.1).2.2.2.1
      have hn : bsO fs q + tNf fs s.2.2.1 t ≤ 65536 := hD.1.1.1.1.2.2.2.2.2.2.2.2.1
      have hsN : sN (tB fs s.2.2.1 t) i < 65536 := by unfold sN; omega
      obtain ⟨τ1, b1, b2, b3⟩ := k_fl_109 (F := F) (c := c) (k41 := k41) (k63 := f_Layout_findSlots_63 F c k41 f) (q := q) hk hF hW hN ht hiS cs.1 cs.2 (by omega) (sN (tB fs s.2.2.1 t) i) 0 F τ sl (Nat.zero_add _) (by omega) h
      have efs : fsI (tB fs s.2.2.1) s.2.1.1 xs sy t i sl = itr (fsJ (tB fs s.2.2.1) s.2.1.1 xs t i) 0 (sN (tB fs s.2.2.1 t) i) sl := by
        unfold fsI
        rw [if_pos ⟨cs.1, by rw [← hsy i hiS cs.1]; exact cs.2⟩]
      rw [← efs] at b2
      obtain ⟨τ', j1, j2, j3⟩ := ih (i + 1) f τ1 _ (by omega) (by omega) b2
      refine ⟨τ', ?_, j2, frSl_trans b3 j3⟩
      rw [if_pos cs]
      show ((xo (cH sk L τ) 7 (10 + 2 * q)).bind _) = _
      rw [c_o oq, bs, k1, xb_mk]
      unfold f_Layout_findSlots_96
      rw [bs, c_o oq, bs, kP, xb_mk, lN_i, b1]
      exact j1
    · have efs : fsI (tB fs s.2.2.1) s.2.1.1 xs sy t i sl = sl := by
        unfold fsI
        rw [if_neg (fun w => cs ⟨w.1, by rw [hsy i hiS w.1]; exact w.2⟩)]
      obtain ⟨τ', j1, j2, j3⟩ := ih (i + 1) f τ sl (by omega) (by omega) h
      rw [efs]
      refine ⟨τ', ?_, j2, j3⟩
      rw [if_neg cs]
      show f_Layout_findSlots_96 F c k41 (f_Layout_findSlots_63 F c k41 f) 1700 (nI t) (some (10 + 2 * q)) (nI i) none (nI 0) (cH sk L τ) = _
      obtain ⟨F', rfl⟩ : ∃ x, F = x + 1 := ⟨F - 1, by omega⟩
      unfold f_Layout_findSlots_96
      rw [bs, c_o oq, bs, kP, xb_mk]
      unfold f_Layout_findSlots_109 f_Layout_findSlots_137
      rw [if_pos (show nI 0 ≤ nI 0 by decide), nI_add]
      exact j1
theorem fsI_0 {tb : Nat → Nat → Nat} {dr : Nat → Bool} {sy : Nat → Nat → Bool} {n : Nat} (he : eObj (tb t) n = 0) (sl : List Nat) : itr (fsI tb dr xs sy t) 0 (oS (tb t)) sl = fsT tb dr xs sy t sl := by
  have h1 := (eObj_0 he).1.1.2.1.1
  have e0 : fsI tb dr xs sy t 0 sl = sl := by
    unfold fsI
    rw [if_neg (fun w => by have := isS_1 he w.1; omega)]
  unfold fsT
  obtain ⟨m, hm⟩ : ∃ m, oS (tb t) = m + 1 := ⟨oS (tb t) - 1, by omega⟩
  rw [hm, itr_s, e0, Nat.add_sub_cancel]
theorem k_fl_41 (hk : STk fs s ST) (hF : 65536 < F) (hW : WP s.2.2.1.length (tB fs s.2.2.1) s.2.1.1 xs) (hN : SLN s.2.2.1.length (tB fs s.2.2.1)) {sy : Nat → Nat → Bool} (hsy : ∀ t, t < s.2.2.1.length → ∀ i, i < oS (tB fs s.2.2.1 t) → isS (tB fs s.2.2.1 t) i = true → ST (24 * t + oI (tB fs s.2.2.1 t) i) = sy t (oI (tB fs s.2.2.1 t) i)) : ∀ (d t f : Nat) (τ : px_TT) (sl : List Nat), t + d = s.2.2.1.length → d < f → FSs sk L own fs s xs ST rn τ sl → ∃ τ', f_Layout_findSlots_41 F c f 1700 (nI t) (cH sk L τ) = some ((), cH sk L τ') ∧ FSs sk L own fs s xs ST rn τ' (itr (fsT (tB fs s.2.2.1) s.2.1.1 xs sy) t d sl) ∧ frSl τ τ' := by
  intro d
  induction d with
  | zero =>
    intro t f τ sl ht hf h
    obtain ⟨f, rfl⟩ : ∃ x, f = x + 1 := ⟨f - 1, by omega⟩
    have hT := BK_T (s := s) h.1.2.2.2.2.1.1
    refine ⟨τ, ?_, h, frSl_refl⟩
    unfold f_Layout_findSlots_41 f_Layout_findSlots_149
    rw [C2r0 (G1700 h.1.1) (GR_r (v := 147) h.1.2.1 (by decide)), bs, C3g14 (G147 h.1.1), bs, h.1.2.2.2.1.2.2.1, if_pos (nI_le (by omega) (by omega))]
  | succ d ih =>
    intro t f τ sl ht hf h
    obtain ⟨f, rfl⟩ : ∃ x, f = x + 1 := ⟨f - 1, by omega⟩
    have hT := BK_T (s := s) h.1.2.2.2.2.1.1
    have htl : t < s.2.2.1.length := by omega
    obtain ⟨q, q1, q2, hD, hcb, he, hp, hRS, h89⟩ := TKe_ob h.1 htl
    have hS24 := (TKe_ys h.1 t htl).2.1
    obtain ⟨τ1, b1, b2, b3⟩ := k_fl_63 (F := F) (c := c) (k41 := f_Layout_findSlots_41 F c f) hk hF hW hN q1 (hsy t htl) (oS (tB fs s.2.2.1 t)) 0 F τ sl (Nat.zero_add _) (by omega) h
    rw [fsI_0 he] at b2
    obtain ⟨τ', j1, j2, j3⟩ := ih (t + 1) f τ1 _ (by omega) (by omega) b2
    refine ⟨τ', ?_, by rw [itr_s]; exact j2, frSl_trans b3 j3⟩
    unfold f_Layout_findSlots_41
    rw [C2r0 (G1700 h.1.1) (GR_r (v := 147) h.1.2.1 (by decide)), bs, C3g14 (G147 h.1.1), bs, h.1.2.2.2.1.2.2.1, if_neg (nI_ge htl (by omega)), bs, c_o (G147 h.1.1), bs, k_object h.1 q1, xb_mk, b1]
    exact j1
/-- the first N rows of the local symbols' slots are emptied -/
theorem k_fill9_10 {N : Nat} (hS : GS sk L) (hN : N ≤ 8192) : ∀ (d k f : Nat) (τ : px_TT), k + d = N → d < f → (∀ z, z < k → eI τ 1709 z = nI 0) → ∃ τ', f_Arrays_fill_10 F c f 1709 (nI N) (nI 0) (nI k) (cH sk L τ) = some ((), cH sk L τ') ∧ (∀ z, z < N → eI τ' 1709 z = nI 0) ∧ (∃ g, τ' = vI τ 1709 g) := by
  intro d
  induction d with
  | zero =>
    intro k f τ hk hf hz
    obtain ⟨f, rfl⟩ : ∃ x, f = x + 1 := ⟨f - 1, by omega⟩
    refine ⟨τ, ?_, fun z h => hz z (by omega), eI τ 1709, (vI_self τ 1709).symm⟩
    unfold f_Arrays_fill_10 f_Arrays_fill_27
    rw [if_pos (nI_le (by omega) (by omega))]
  | succ d ih =>
    intro k f τ hk hf hz
    obtain ⟨f, rfl⟩ : ∃ x, f = x + 1 := ⟨f - 1, by omega⟩
    obtain ⟨τ', j1, j2, g, j3⟩ := ih (k + 1) f (vI τ 1709 (upd (eI τ 1709) k (nI 0))) (by omega) (by omega) (fun z h => by
      rw [eI_v_eq]
      by_cases e : z = k
      · rw [e, upd_eq]
      · rw [upd_ne e]; exact hz z (by omega))
    refine ⟨τ', ?_, j2, g, by rw [j3, vI_vI]⟩
    unfold f_Arrays_fill_10
    rw [if_neg (nI_ge (by omega) (by omega)), c_sI (G1709 hS) (by decide) (by decide) (by omega), bs, nI_add]
    exact j1
theorem k_findSlots {rc : Bool} {R : Nat → Bool} (hr : STr fs s rc R ST) (hF : 65536 < F) (hW : WP s.2.2.1.length (tB fs s.2.2.1) s.2.1.1 xs) (hN : SLN s.2.2.1.length (tB fs s.2.2.1)) (h : TKe sk L own τ fs s xs ST rn) (hz : Z15 τ xs) : ∃ τ', f_Layout_findSlots F c 1700 (cH sk L τ) = some ((), cH sk L τ') ∧ FSs sk L own fs s xs ST rn τ' (slL s.2.2.1.length (tB fs s.2.2.1) s.2.1.1 xs (sta (tB fs s.2.2.1) s.2.1.1 rc R)) ∧ frSl τ τ' := by
  have hS := h.1
  have hR := h.2.1
  have o := G1700 hS
  have hT := BK_T (s := s) h.2.2.2.2.1.1
  obtain ⟨τ1, hτ1⟩ : ∃ x, x = tJ (tI τ 1700 12 (nI 0)) 1700 13 (lN 0) := ⟨_, rfl⟩
  have f1 : frSl τ τ1 := by rw [hτ1]; exact frSl_trans frSl_12 (frSl_13)
  obtain ⟨τ2, a1, a2, g, a3⟩ := k_fill9_10 (F := F) (c := c) (N := 128 * s.2.2.1.length) hS (by omega) (128 * s.2.2.1.length) 0 F τ1 (Nat.zero_add _) (by omega) (fun z hz => by omega)
  have f2 : frSl τ τ2 := frSl_trans f1 (by rw [a3]; exact frSl_v (by decide))
  have h2 := TKe_Ly h f2.1
  have hs2 : FSs sk L own fs s xs ST rn τ2 [] := by
    refine ⟨h2, ⟨?_, (fun i z hz => by rw [List.getElem?_nil] at hz; cases hz), fun P hP th hth => ?_, fun z hz _ => ?_⟩, List.Pairwise.nil, fun z hz => nomatch hz⟩
    · rw [a3]
      show fI τ1 1700 12 = _
      rw [hτ1]
      show fI (tI τ 1700 12 (nI 0)) 1700 12 = _
      rw [tI_at]; rfl
    · have ep : pN τ2 149 P = pN τ 149 P := by unfold pN; rw [f2.1.2.2.2.2.2.2.2 149 (by decide)]
      have hge := (h.2.2.2.1.1 149 P _ (Or.inr (Or.inr rfl)) (CLm_at h.2.2.2.1.2.1 (List.getElem?_eq_getElem hP)).2.1).1
      have ef : fI τ2 (pN τ 149 P) (15 + th) = fI τ (pN τ 149 P) (15 + th) := by
        rw [a3]
        show fI τ1 _ _ = _
        rw [hτ1]
        show fI (tI τ 1700 12 (nI 0)) _ _ = _
        rw [tI_ne (Or.inl (by omega))]
      rw [ep, ef]
      obtain ⟨z1, z2⟩ := hz P hP
      have hth : th = 0 ∨ th = 1 := by omega
      rcases hth with e | e
      · rw [e]; exact z1
      · rw [e]; exact z2
    · exact a2 z hz
  obtain ⟨τ3, b1, b2, b3⟩ := k_fl_41 (F := F) (c := c) (sy := sta (tB fs s.2.2.1) s.2.1.1 rc R) (STr_k hr) hF hW hN (fun t ht i hi his => by
    obtain ⟨q, q1, q2, hD, hcb, he, _⟩ := TKe_ob h ht
    have hoI := (eSit_0 he (isS_1 he his) hi his).1
    have h24 := (TKe_ys h t ht).2.1
    rw [hr _ (by omega), show (24 * t + oI (tB fs s.2.2.1 t) i) / 24 = t by omega, show (24 * t + oI (tB fs s.2.2.1 t) i) % 24 = oI (tB fs s.2.2.1 t) i by omega]
    unfold kpB sta
    rw [decide_eq_true hoI, Bool.true_and]) s.2.2.1.length 0 F τ2 [] (Nat.zero_add _) (by omega) hs2
  refine ⟨τ3, ?_, b2, frSl_trans f2 b3⟩
  have hR1 := GR_Ly hR f1.1
  unfold f_Layout_findSlots
  rw [C2p12 o, bs, C2p13 o, bs, ← hτ1, C2r10 o (GR_r (v := 1709) hR1 (by decide)), bs, C2r0 o (GR_r (v := 147) hR1 (by decide)), bs, C3g14 (G147 hS), bs, (f1.1.1 147 14 (by decide) (by decide) (by decide)).trans h.2.2.2.1.2.2.1, bs, c_l (G1709 hS) (by decide), bs, pk_mul, pk_mul, show 2 * s.2.2.1.length * 64 = 128 * s.2.2.1.length by omega, if_neg (nI_nlt (by omega) (by decide))]
  unfold f_Arrays_fill
  rw [c_l (G1709 hS) (by decide), bs]
  unfold f_Arrays_rangeCheck
  rw [if_pos (show nI 0 ≤ nI (128 * s.2.2.1.length) from nI_le (Nat.zero_le _) (by omega)), if_pos (show (0 : Int32) ≤ nI 0 by decide), if_pos (nI_le (by omega) (by decide)), xb_mk, a1, xb_mk]
  exact b1
end CSO
