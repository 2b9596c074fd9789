/-! pack of the class: what it counts (steps spelled out by sf/pp.py) -/
section CPK
variable {F : Nat} {c : px_CT} {sk : Nat → Nat × Nat × Nat} {L : Nat} {own : Nat → Nat × Nat} {τ0 τ : px_TT} {fs : List (Nat × (Nat → Nat))} {gs : List (List Nat × Int64)} {ws : List (List Nat)} {n : Nat} {b : Nat → Nat} {a : Int32} {Y : px_Y} {q o n' r A : Nat} {b' : Nat → Nat}
theorem k_isObject (hS : GS sk L) (hf : CF sk L τ fs) (hq : q < 64) : f_Scribe_isObject F c (some (10 + 2 * q)) (cH sk L τ) = some (bI (isOb fs q), cH sk L τ) := by
  unfold f_Scribe_isObject f_Scribe_isObject_16 f_Scribe_isObject_21
  rw [bs, C7g4 (G_of hS hq), bs, bs]
  cases hob : obAt fs q with
  | none =>
    rw [CF_no hf hob hq, isOb_n hob, if_neg (by decide), if_neg (by decide)]
    exact xz_b false _
  | some y =>
    obtain ⟨o, n, b, z⟩ := y
    obtain ⟨_, ⟨x, hx, e4⟩, _⟩ := CF_ob hf hob
    rw [e4, isOb_o hob]
    cases z with
    | true =>
      rw [obAt_z hob hx, if_neg (by decide), if_neg (by decide)]
      exact xz_b false _
    | false =>
      cases isAr x.2 x.1 with
      | true =>
        rw [if_neg (by decide), if_pos (show nI (mkd true false) = nI 2 from rfl)]
        exact xz_b true _
      | false =>
        rw [if_pos (show nI (mkd false false) = nI 1 from rfl)]
        exact xz_b true _
/-- a symbol that is packed -/
theorem z_def {j : Nat} (hF : 65540 < F) (hC : CV sk L own τ0 fs gs ws n b a Y) (hob : obAt fs q = some (o, n', b', false)) (hj1 : 1 ≤ j) (hj : j < oM b') (hI : SI none sk L τ0 τ) : f_ObjectFile_isDefining F c (10 + 2 * q) (nI j) (cH sk L τ) = some (bI (pkD b' j), cH sk L τ) := by
  have hCt := CV_SI hC hI
  obtain ⟨h64, _, e5, h6, h7, hd⟩ := CF_ob hCt.2.2.2.1 hob
  have hD := hd rfl
  have he : eObj b' n' = 0 := by
    have w := hD.2.2
    rw [e5] at w
    exact w
  have hy := (eObj_0 he).2.1 j hj1 hj
  have hw := yOK_W hy
  have h24 := (eObj_0 he).1.1.2.1.2
  have hb : yB b' j < 16 := by
    by_cases e : yB b' j = 0
    · omega
    · have := (yOK_n hy e).1
      omega
  have k := k_isDefining (F := F) (c := c) (j := j) hD.1 (by omega) hj1 (by rw [e5]; exact hj) (by rw [e5]; exact hb) (by rw [e5]; omega)
  rw [e5] at k
  exact k
theorem z_pk38 {J : px_TT → Prop} {V : Int32 → Prop} {k11 : Nat → Nat → Nat → Int32 → Int32 → Int32 → Int32 → px_H → Option (Int32 × px_H)} {a3 a6 : Int32} {N Lt : Nat} (hF : 65540 < F) (hC : CV sk L own τ0 fs gs ws n b a Y) (hob : obAt fs q = some (o, n', b', false)) (hK : ∀ τ, SI none sk L τ0 τ → (∀ k, fN τ 0 k = fN τ0 0 k) → Sf sk L J V (k11 1713 r 9 a3 (nI (N + sumT (pkN (pkD b')) (pkM (oM b')))) (nI (Lt + sumT (pkLb b') (pkM (oM b')))) (a6 + nI 1) (cH sk L τ))) : ∀ (d j f : Nat) (τ : px_TT), j + d = pkM (oM b') → 1 ≤ j → d < f → SI none sk L τ0 τ → (∀ k, fN τ 0 k = fN τ0 0 k) → Sf sk L J V (f_Scribe_writePacked_38 F c k11 f 1713 r 9 a3 (nI (N + sumT (pkN (pkD b')) j)) (nI (Lt + sumT (pkLb b') j)) a6 (some (10 + 2 * q)) (nI j) (cH sk L τ)) := by
  have h0 := (CV_S4 hC).1.1.1
  have o13 := G1713 hC.1
  have o47 := G147 hC.1
  have o95 : ob sk L 5 1695 := GS_o hC.1 (by decide) (by decide)
  have hM64 : oM b' ≤ 64 := by
    obtain ⟨_, _, e5, _, _, hd⟩ := CF_ob hC.2.2.2.1 hob
    have w := (hd rfl).2.2
    rw [e5] at w
    exact w2_M (eObj_0 w).1
  have hMx : pkM (oM b') ≤ 64 := by unfold pkM; split <;> omega
  obtain ⟨m1, m2, m3⟩ := pkM_1 (oM b')
  intro d
  induction d with
  | zero =>
    intro j f τ hj h1 hf hI hN
    obtain ⟨f, rfl⟩ : ∃ y, f = y + 1 := ⟨f - 1, by omega⟩
    obtain rfl : j = pkM (oM b') := by omega
    have hCt := CV_SI hC hI
    obtain ⟨_, _, e5, _, _, hd⟩ := CF_ob hCt.2.2.2.1 hob
    have hs := (hd rfl).1
    have k5 := hs.2.1.2.1
    rw [e5] at k5
    unfold f_Scribe_writePacked_38 f_Scribe_writePacked_105
    rw [bs, C7g11 hs.1.1.1.1, bs, k5, if_pos (nI_le (by omega) (by omega))]
    exact hK τ hI hN
  | succ d ih =>
    intro j f τ hj h1 hf hI hN
    obtain ⟨f, rfl⟩ : ∃ y, f = y + 1 := ⟨f - 1, by omega⟩
    have hjM := m3 j h1 (by omega)
    obtain ⟨o1, k5, k1, _, _, P, e4, hn⟩ := z_sym (F := F) (c := c) hF hC hob h1 hjM hI
    have kd := z_def (F := F) (c := c) hF hC hob h1 hjM hI
    have e5 : sumT (pkN (pkD b')) (j + 1) = sumT (pkN (pkD b')) j + pkN (pkD b') j := rfl
    have e6 : sumT (pkLb b') (j + 1) = sumT (pkLb b') j + pkLb b' j := rfl
    have go := fun τ hI hN => ih (j + 1) f τ (by omega) (by omega) (by omega) hI hN
    rw [e5, e6] at go
    unfold f_Scribe_writePacked_38 f_Scribe_writePacked_105 f_Scribe_writePacked_99
    rw [bs, C7g11 o1, bs, k5, if_neg (nI_ge (by omega) (by omega)), c_o o1, bs, kd, xb_mk]
    cases hD : pkD b' j with
    | false =>
      rw [if_pos (show bI false = 0 from rfl), nI_add]
      rw [pkN_f hD, show pkLb b' j = 0 by unfold pkLb; rw [if_neg (by omega), if_neg (by rw [hD]; decide)]] at go
      exact go τ hI hN
    | true =>
      have hB : yB b' j ≠ 0 := fun w => (of_decide_eq_true hD) (Or.inl w)
      obtain ⟨⟨y1, y2⟩, τ5, e5', f5, l5⟩ := hn hB
      have hR := GR_Z h0.2.1 hI.1
      have i5 := SI_N hI f5 (Or.inr rfl)
      have hR5 := GR_Z h0.2.1 i5.1
      rw [if_neg (show ¬ bI true = 0 by decide)]
      rw [pkN_t h1 hD, show pkLb b' j = yL b' j + 1 by unfold pkLb; rw [if_neg (by omega), if_pos hD], ← Nat.add_assoc, ← Nat.add_assoc Lt] at go
      rw [C11r0 o13 (GR_r (v := 147) hR (by decide)), bs, C3r11 o47 (GR_r (v := 1695) hR (by decide)), bs, C11r2 o13 (GR_r (v := 7) hR (by decide)), bs, c_o o1, bs, e4, xb_mk, c_o o95, bs, e5', xb_mk, C11r0 o13 (GR_r (v := 147) hR5 (by decide)), bs, C3r11 o47 (GR_r (v := 1695) hR5 (by decide)), bs, C5g3 o95, bs, l5, nI_add, nI_add, nI_add, nI_add]
      exact go τ5 i5 (fun k => (f5.2.2.1 0 k).trans (hN k))
theorem obL_t {i : Nat} (h : isOb fs i = true) : obL fs (i + 1) = obL fs i ++ [i] := by
  have e : obL fs (i + 1) = if isOb fs i = true then obL fs i ++ [i] else obL fs i := rfl
  rw [e, if_pos h]
theorem obL_f {i : Nat} (h : isOb fs i = false) : obL fs (i + 1) = obL fs i := by
  have e : obL fs (i + 1) = if isOb fs i = true then obL fs i ++ [i] else obL fs i := rfl
  rw [e, if_neg (by rw [h]; decide)]
theorem sum_1 (g : Nat → Nat) (l : List Nat) (i : Nat) : ((l ++ [i]).map g).sum = (l.map g).sum + g i := by
  rw [List.map_append, List.sum_append]
  show _ + (g i + 0) = _
  rw [Nat.add_zero]
/-- the class counts objects, names, letters -/
theorem z_pk11 {J : px_TT → Prop} {V : Int32 → Prop} (hF : 65540 < F) (hC : CV sk L own τ0 fs gs ws n b a Y) (hT : ∀ τ, SI none sk L τ0 τ → (∀ k, fN τ 0 k = fN τ0 0 k) → Sf sk L J V (f_Scribe_writePacked_111 F c 1713 r 9 (nI (obL fs 64).length) (nI ((obL fs 64).map (pn1 fs)).sum) (nI ((obL fs 64).map (pl1 fs)).sum) (cH sk L τ))) : ∀ (d i f : Nat) (τ : px_TT), i + d = 64 → d < f → SI none sk L τ0 τ → (∀ k, fN τ 0 k = fN τ0 0 k) → Sf sk L J V (f_Scribe_writePacked_11 F c f 1713 r 9 (nI (obL fs i).length) (nI ((obL fs i).map (pn1 fs)).sum) (nI ((obL fs i).map (pl1 fs)).sum) (nI i) (cH sk L τ)) := by
  intro d
  induction d with
  | zero =>
    intro i f τ hi hf hI hN
    obtain ⟨f, rfl⟩ : ∃ y, f = y + 1 := ⟨f - 1, by omega⟩
    obtain rfl : i = 64 := by omega
    unfold f_Scribe_writePacked_11
    rw [c_l (G9 hC.1) (by decide), bs, if_pos (nI_le (Nat.le_refl _) (by decide))]
    exact hT τ hI hN
  | succ d ih =>
    intro i f τ hi hf hI hN
    obtain ⟨f, rfl⟩ : ∃ y, f = y + 1 := ⟨f - 1, by omega⟩
    have hi64 : i < 64 := by omega
    have hCt := CV_SI hC hI
    have go := fun τ hI hN => ih (i + 1) f τ (by omega) (by omega) hI hN
    unfold f_Scribe_writePacked_11
    rw [c_l (G9 hC.1) (by decide), bs, if_neg (nI_ge hi64 (by decide)), c_aN (G9 hC.1) (Or.inl rfl) (by decide) hi64, bs, (hCt.2.1.2.1 _ hi64).2.2.1, k_isObject hC.1 hCt.2.2.2.1 hi64, xb_mk]
    cases hob : isOb fs i with
    | false =>
      rw [if_pos (show bI false = 0 from rfl)]
      unfold f_Scribe_writePacked_105
      rw [nI_add]
      rw [obL_f hob] at go
      exact go τ hI hN
    | true =>
      obtain ⟨o, n', b', eo, eV⟩ := isOb_t hob
      rw [if_neg (show ¬ bI true = 0 by decide), nI_add]
      rw [obL_t hob, sum_1, sum_1, List.length_append, List.length_singleton] at go
      have p1 : pn1 fs i = sumT (pkN (pkD b')) (pkM (oM b')) := by unfold pn1; rw [eV]
      have p2 : pl1 fs i = sumT (pkLb b') (pkM (oM b')) := by unfold pl1; rw [eV]
      rw [p1, p2] at go
      obtain ⟨m1, m2, m3⟩ := pkM_1 (oM b')
      have hM64 : oM b' ≤ 64 := by
        obtain ⟨_, _, e5, _, _, hd⟩ := CF_ob hC.2.2.2.1 eo
        have w := (hd rfl).2.2
        rw [e5] at w
        exact w2_M (eObj_0 w).1
      have hMx : pkM (oM b') ≤ 64 := by unfold pkM; split <;> omega
      have z0 : sumT (pkN (pkD b')) 1 = 0 := rfl
      have z1 : sumT (pkLb b') 1 = 0 := rfl
      have w := z_pk38 (F := F) (c := c) (r := r) (J := J) (V := V) (k11 := f_Scribe_writePacked_11 F c f) (a3 := nI ((obL fs i).length + 1)) (a6 := nI i) (N := ((obL fs i).map (pn1 fs)).sum) (Lt := ((obL fs i).map (pl1 fs)).sum) hF hC eo (fun τ hI hN => by rw [nI_add]; exact go τ hI hN) (pkM (oM b') - 1) 1 F τ (by omega) (Nat.le_refl _) (by omega) hI hN
      rw [z0, z1, Nat.add_zero, Nat.add_zero] at w
      exact w
end CPK
