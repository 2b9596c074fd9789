/-! the class packs: the index and the objects, with sizes (steps spelled out by sf/pp.py) -/
section SZE
variable {F : Nat} {c : px_CT} {sk : Nat → Nat × Nat × Nat} {L : Nat} {zb : Option Nat} {τ0 τ τ' : px_TT} {r A n cc k : Nat}
theorem sz_copy {S N q m : Nat} (hr : TRw r A n) (hS : ar sk L 0 N S) (hN : N ≤ 65536) (hB : ∀ k, isB (eI τ S k)) (hqm : q + m ≤ N) (hI : SZ zb sk L τ0 r n cc τ) : Sf sk L (SZ zb sk L τ0 r n (cc + m)) Any (f_Row_copy F c r S (nI q) (nI m) (cH sk L τ)) := sz_Rw hI.1 hI.2.2 hr (k_copyZ hS hN hB hqm (SI_row hI.1 hr) hI.2.1)
theorem k_putAll_2Z {j m : Nat} {l : List Nat} (hj : j < pg_nc) (hkB : ki_B (c j).1 = true) (hkv : kv c j l) (hl : l.length = m) (hm : m < 2 ^ 30) (hF : 1 < F) : ∀ (d i f : Nat) (τ : px_TT) (cc : Nat), i + d = m → d < f → rowOK sk L τ r A n → rz τ r n cc → ∃ τ', f_Row_putAll_2 F c f r j (nI i) (cH sk L τ) = some ((), cH sk L τ') ∧ rowOK sk L τ' r A n ∧ frRw r A τ τ' ∧ rz τ' r n (cc + d) := by
  intro d
  induction d with
  | zero =>
    intro i f τ cc hi hf h hz
    obtain ⟨f, rfl⟩ : ∃ x, f = x + 1 := ⟨f - 1, by omega⟩
    refine ⟨τ, ?_, h, frRw_refl, hz⟩
    unfold f_Row_putAll_2 f_Row_putAll_23
    rw [xkl_at hkv hj, bs, hl, if_pos (nI_le (by omega) (by omega))]
  | succ d ih =>
    intro i f τ cc hi hf h hz
    obtain ⟨f, rfl⟩ : ∃ x, f = x + 1 := ⟨f - 1, by omega⟩
    obtain ⟨τ1, a1, a2, a3, a4⟩ := k_putZ (F := F) (c := c) (v := (nI (l.getD i 0)).toInt64) (k := 1) hF (by decide) h hz
    obtain ⟨τ', g1, g2, g3, g4⟩ := ih (i + 1) f τ1 (cc + 1) (by omega) (by omega) a2 a4
    refine ⟨τ', ?_, g2, frRw_trans a3 g3, by rw [show cc + (d + 1) = cc + 1 + d by omega]; exact g4⟩
    unfold f_Row_putAll_2
    rw [xkl_at hkv hj, bs, hl, if_neg (nI_ge (by omega) (by omega)), xkB_at hkv hj hkB (by omega) (by omega), bs, c_o h.1, bs, a1, xb_mk, nI_add]
    exact g1
theorem sz_putAr (hK : KT c) (hF : 65540 < F) (hr : TRw r A n) (hI : SZ zb sk L τ0 r n cc τ) : Sf sk L (SZ zb sk L τ0 r n (cc + 8)) Any (f_Row_putAll F c r 1 (cH sk L τ)) := sz_Rw hI.1 hI.2.2 hr (k_putAll_2Z (by decide) hK.1.1 hK.1.2 rfl (by decide) (by omega) 8 0 F τ cc rfl (by omega) (SI_row hI.1 hr) hI.2.1)
end SZE
theorem nI_od (v : Nat) (hv : v < 2 ^ 31) : nI v &&& nI 1 = nI (v % 2) := pk_andN (by omega) 1 (by decide)
section CPV
variable {F : Nat} {c : px_CT} {sk : Nat → Nat × Nat × Nat} {L : Nat} {own : Nat → Nat × Nat} {τ0 τ : px_TT} {fs : List (Nat × (Nat → Nat))} {gs : List (List Nat × Int64)} {ws : List (List Nat)} {n : Nat} {b : Nat → Nat} {a : Int32} {Y : px_Y} {q o n' r A cc : Nat} {b' : Nat → Nat}
theorem z_isO (hC : CV sk L own τ0 fs gs ws n b a Y) (hq : q < 64) (hI : SI none sk L τ0 τ) : f_Scribe_isObject F c (some (10 + 2 * q)) (cH sk L τ) = some (bI (isOb fs q), cH sk L τ) := k_isObject hC.1 (CV_SI hC hI).2.2.2.1 hq
theorem z_ob56 (hC : CV sk L own τ0 fs gs ws n b a Y) (hob : obAt fs q = some (o, n', b', false)) (hI : SI none sk L τ0 τ) : q < 64 ∧ ob sk L 7 (10 + 2 * q) ∧ fI τ (10 + 2 * q) 5 = nI (bsO fs q) ∧ fI τ (10 + 2 * q) 6 = nI n' ∧ bsO fs q + n' ≤ 65536 ∧ (∀ k, isB (eI τ 8 k)) ∧ fI τ (10 + 2 * q) 11 = nI (oM b') := by
  obtain ⟨h64, _, e5, _, _, hd⟩ := CF_ob (CV_SI hC hI).2.2.2.1 hob
  have hD := (hd rfl).1
  obtain ⟨h1, _, _, _, _, h6, h7, h8, h9, h10⟩ := hD.1.1.1
  have h11 := hD.2.1.2.1
  rw [e5] at h11
  exact ⟨h64, h1, h7, h8, h9, h10, h11⟩
theorem z_M (hC : CV sk L own τ0 fs gs ws n b a Y) (hob : obAt fs q = some (o, n', b', false)) : pkM (oM b') ≤ 64 := by
  have hM64 : oM b' ≤ 64 := by
    obtain ⟨_, _, e5, _, _, hd⟩ := CF_ob hC.2.2.2.1 hob
    have w := (hd rfl).2.2
    rw [e5] at w
    exact w2_M (eObj_0 w).1
  unfold pkM
  split <;> omega
/-- an object's names in the index: where -/
theorem z_wi70 {J : px_TT → Prop} {k54 : Nat → Nat → Nat → Int32 → Int32 → Int32 → px_H → Option (Unit × px_H)} {a5 a6 : Int32} (hF : 65540 < F) (hC : CV sk L own τ0 fs gs ws n b a Y) (hob : obAt fs q = some (o, n', b', false)) (hr : TRw r A 65536) (hK : ∀ a6 τ, SZ none sk L τ0 r 65536 (cc + 4 * sumT (pkN (pkD b')) (pkM (oM b'))) τ → Sf sk L J Any (k54 1713 r 9 a5 a6 (nI (q + 1)) (cH sk L τ))) : ∀ (d j f : Nat) (τ : px_TT), j + d = pkM (oM b') → 1 ≤ j → d < f → SZ none sk L τ0 r 65536 (cc + 4 * sumT (pkN (pkD b')) j) τ → Sf sk L J Any (f_Scribe_writeIndex_70 F c k54 f 1713 r 9 a5 a6 (nI q) (some (10 + 2 * q)) (nI j) (cH sk L τ)) := by
  have hMx := z_M hC hob
  obtain ⟨m1, m2, m3⟩ := pkM_1 (oM b')
  have ht : isOb fs q = true := isOb_o hob
  intro d
  induction d with
  | zero =>
    intro j f τ hj h1 hf hI
    obtain ⟨f, rfl⟩ : ∃ y, f = y + 1 := ⟨f - 1, by omega⟩
    obtain rfl : j = pkM (oM b') := by omega
    obtain ⟨h64, o1, _, k6, _, _, k5⟩ := z_ob56 hC hob hI.1
    unfold f_Scribe_writeIndex_70 f_Scribe_writeIndex_110 f_Scribe_writeIndex_140
    rw [z_isO hC h64 hI.1, ht, xb_mk, if_neg (show ¬ bI true = 0 by decide), bs, C7g11 o1, bs, k5, if_pos (nI_le (by omega) (by omega)), z_isO hC h64 hI.1, ht, xb_mk, if_neg (show ¬ bI true = 0 by decide), bs, C7g6 o1, bs, bs, nI_add q 1]
    exact hK _ τ hI
  | succ d ih =>
    intro j f τ hj h1 hf hI
    obtain ⟨f, rfl⟩ : ∃ y, f = y + 1 := ⟨f - 1, by omega⟩
    have hjM := m3 j h1 (by omega)
    obtain ⟨h64, o1, _, k6, _, _, k5⟩ := z_ob56 hC hob hI.1
    have kd := z_def (F := F) (c := c) hF hC hob h1 hjM hI.1
    have e5 : sumT (pkN (pkD b')) (j + 1) = sumT (pkN (pkD b')) j + pkN (pkD b') j := rfl
    have go := fun τ hI => ih (j + 1) f τ (by omega) (by omega) (by omega) hI
    rw [e5] at go
    have orr := (SI_row hI.1 hr).1
    unfold f_Scribe_writeIndex_70 f_Scribe_writeIndex_104
    rw [z_isO hC h64 hI.1, ht, xb_mk, if_neg (show ¬ bI true = 0 by decide), bs, C7g11 o1, bs, k5, if_neg (nI_ge (by omega) (by omega)), c_o o1, bs, kd, xb_mk]
    cases hD : pkD b' j with
    | false =>
      rw [if_pos (show bI false = 0 from rfl), nI_add]
      rw [pkN_f hD] at go
      exact go τ hI
    | true =>
      rw [if_neg (show ¬ bI true = 0 by decide), c_o orr, bs]
      rw [pkN_t h1 hD, Nat.mul_add, ← Nat.add_assoc] at go
      refine sz_x (sz_high hF hr hI) (fun _ τ1 _ i1 => ?_)
      rw [nI_add]
      exact go τ1 i1
/-- no object there -/
theorem z_wi70n {J : px_TT → Prop} {k54 : Nat → Nat → Nat → Int32 → Int32 → Int32 → px_H → Option (Unit × px_H)} {a5 a6 : Int32} {f j : Nat} (hf : 0 < f) (hC : CV sk L own τ0 fs gs ws n b a Y) (hq : q < 64) (hn : isOb fs q = false) (hI : SI none sk L τ0 τ) (hK : ∀ a6, Sf sk L J Any (k54 1713 r 9 a5 a6 (nI (q + 1)) (cH sk L τ))) : Sf sk L J Any (f_Scribe_writeIndex_70 F c k54 f 1713 r 9 a5 a6 (nI q) (some (10 + 2 * q)) (nI j) (cH sk L τ)) := by
  obtain ⟨f, rfl⟩ : ∃ y, f = y + 1 := ⟨f - 1, by omega⟩
  unfold f_Scribe_writeIndex_70 f_Scribe_writeIndex_110 f_Scribe_writeIndex_140
  rw [z_isO hC hq hI, hn, xb_mk, if_pos (show bI false = 0 from rfl), z_isO hC hq hI, hn, xb_mk, if_pos (show bI false = 0 from rfl), nI_add q 1]
  exact hK _
theorem z_wi54 {J : px_TT → Prop} {a5 : Int32} (hF : 65540 < F) (hC : CV sk L own τ0 fs gs ws n b a Y) (hr : TRw r A 65536) (hT : ∀ τ, SZ none sk L τ0 r 65536 (cc + 4 * ((obL fs 64).map (pn1 fs)).sum) τ → Sf sk L J Any (f_Scribe_writeIndex_149 F c 1713 r 9 a5 (cH sk L τ))) : ∀ (d i f : Nat) (a6 : Int32) (τ : px_TT), i + d = 64 → d < f → SZ none sk L τ0 r 65536 (cc + 4 * ((obL fs i).map (pn1 fs)).sum) τ → Sf sk L J Any (f_Scribe_writeIndex_54 F c f 1713 r 9 a5 a6 (nI i) (cH sk L τ)) := by
  intro d
  induction d with
  | zero =>
    intro i f a6 τ hi hf hI
    obtain ⟨f, rfl⟩ : ∃ y, f = y + 1 := ⟨f - 1, by omega⟩
    obtain rfl : i = 64 := by omega
    unfold f_Scribe_writeIndex_54
    rw [c_l (G9 hC.1) (by decide), bs, if_pos (nI_le (Nat.le_refl _) (by decide))]
    exact hT τ hI
  | succ d ih =>
    intro i f a6 τ hi hf hI
    obtain ⟨f, rfl⟩ : ∃ y, f = y + 1 := ⟨f - 1, by omega⟩
    have hi64 : i < 64 := by omega
    have hCt := CV_SI hC hI.1
    have go := fun a6 τ hI => ih (i + 1) f a6 τ (by omega) (by omega) hI
    unfold f_Scribe_writeIndex_54
    rw [c_l (G9 hC.1) (by decide), bs, if_neg (nI_ge hi64 (by decide)), c_aN (G9 hC.1) (Or.inl rfl) (by decide) hi64, bs, (hCt.2.1.2.1 _ hi64).2.2.1]
    cases hob : isOb fs i with
    | false =>
      rw [obL_f hob] at go
      exact z_wi70n (by omega) hC hi64 hob hI.1 (fun a6 => go a6 τ hI)
    | true =>
      obtain ⟨o, n', b', eo, eV⟩ := isOb_t hob
      rw [obL_t hob, sum_1] at go
      have p1 : pn1 fs i = sumT (pkN (pkD b')) (pkM (oM b')) := by unfold pn1; rw [eV]
      rw [p1, Nat.mul_add, ← Nat.add_assoc] at go
      obtain ⟨m1, m2, m3⟩ := pkM_1 (oM b')
      have hMx := z_M hC eo
      have z0 : sumT (pkN (pkD b')) 1 = 0 := rfl
      refine z_wi70 (cc := cc + 4 * ((obL fs i).map (pn1 fs)).sum) hF hC eo hr go (pkM (oM b') - 1) 1 F τ (by omega) (Nat.le_refl _) (by omega) ?_
      rw [z0]
      exact hI
/-- an object's names in the index: their letters -/
theorem z_wi168 {J : px_TT → Prop} {k152 : Nat → Nat → Nat → Int32 → Int32 → px_H → Option (Unit × px_H)} {a5 : Int32} (hF : 65540 < F) (hC : CV sk L own τ0 fs gs ws n b a Y) (hob : obAt fs q = some (o, n', b', false)) (hr : TRw r A 65536) (hK : ∀ τ, SZ none sk L τ0 r 65536 (cc + sumT (pkLb b') (pkM (oM b'))) τ → Sf sk L J Any (k152 1713 r 9 a5 (nI (q + 1)) (cH sk L τ))) : ∀ (d j f : Nat) (τ : px_TT), j + d = pkM (oM b') → 1 ≤ j → d < f → SZ none sk L τ0 r 65536 (cc + sumT (pkLb b') j) τ → Sf sk L J Any (f_Scribe_writeIndex_168 F c k152 f 1713 r 9 a5 (nI q) (some (10 + 2 * q)) (nI j) (cH sk L τ)) := by
  have h0 := (CV_S4 hC).1.1.1
  have o13 := G1713 hC.1
  have o47 := G147 hC.1
  have o95 : ob sk L 5 1695 := GS_o hC.1 (by decide) (by decide)
  have hrne : r ≠ 1695 := by
    unfold TRw at hr
    omega
  have hMx := z_M hC hob
  obtain ⟨m1, m2, m3⟩ := pkM_1 (oM b')
  have ht : isOb fs q = true := isOb_o hob
  intro d
  induction d with
  | zero =>
    intro j f τ hj h1 hf hI
    obtain ⟨f, rfl⟩ : ∃ y, f = y + 1 := ⟨f - 1, by omega⟩
    obtain rfl : j = pkM (oM b') := by omega
    obtain ⟨h64, o1, _, k6, _, _, k5⟩ := z_ob56 hC hob hI.1
    unfold f_Scribe_writeIndex_168 f_Scribe_writeIndex_240
    rw [z_isO hC h64 hI.1, ht, xb_mk, if_neg (show ¬ bI true = 0 by decide), bs, C7g11 o1, bs, k5, if_pos (nI_le (by omega) (by omega)), nI_add q 1]
    exact hK τ hI
  | succ d ih =>
    intro j f τ hj h1 hf hI
    obtain ⟨f, rfl⟩ : ∃ y, f = y + 1 := ⟨f - 1, by omega⟩
    have hjM := m3 j h1 (by omega)
    obtain ⟨h64, o1, _, _, _, _, k5⟩ := z_ob56 hC hob hI.1
    obtain ⟨_, _, _, _, _, P, e4, hn⟩ := z_sym (F := F) (c := c) hF hC hob h1 hjM hI.1
    have kd := z_def (F := F) (c := c) hF hC hob h1 hjM hI.1
    have e5 : sumT (pkLb b') (j + 1) = sumT (pkLb b') j + pkLb b' j := rfl
    have go := fun τ hI => ih (j + 1) f τ (by omega) (by omega) (by omega) hI
    rw [e5] at go
    have orr := (SI_row hI.1 hr).1
    unfold f_Scribe_writeIndex_168 f_Scribe_writeIndex_234
    rw [z_isO hC h64 hI.1, ht, xb_mk, if_neg (show ¬ bI true = 0 by decide), bs, C7g11 o1, bs, k5, if_neg (nI_ge (by omega) (by omega)), c_o o1, bs, kd, xb_mk]
    cases hD : pkD b' j with
    | false =>
      rw [if_pos (show bI false = 0 from rfl), nI_add]
      rw [show pkLb b' j = 0 by unfold pkLb; rw [if_neg (by omega), if_neg (by rw [hD]; decide)]] at go
      exact go τ hI
    | true =>
      have hB : yB b' j ≠ 0 := fun w => (of_decide_eq_true hD) (Or.inl w)
      obtain ⟨⟨y1, y2⟩, τ5, e5', f5, l5⟩ := hn hB
      have hR := GR_Z h0.2.1 hI.1.1
      have i5 : SZ none sk L τ0 r 65536 (cc + sumT (pkLb b') j) τ5 := ⟨SI_N hI.1 f5 (Or.inr rfl), rz_fr hI.2.1 (fun k => f5.1 r k (Or.inl hrne)), fun k => (f5.2.2.1 0 k).trans (hI.2.2 k)⟩
      have hR5 := GR_Z h0.2.1 i5.1.1
      rw [if_neg (show ¬ bI true = 0 by decide)]
      rw [show pkLb b' j = yL b' j + 1 by unfold pkLb; rw [if_neg (by omega), if_pos hD], ← Nat.add_assoc, ← Nat.add_assoc] at go
      rw [C11r0 o13 (GR_r (v := 147) hR (by decide)), bs, C3r11 o47 (GR_r (v := 1695) hR (by decide)), bs, C11r2 o13 (GR_r (v := 7) hR (by decide)), bs, c_o o1, bs, e4, xb_mk, c_o o95, bs, e5', xb_mk, C11r0 o13 (GR_r (v := 147) hR5 (by decide)), bs, C3r11 o47 (GR_r (v := 1695) hR5 (by decide)), bs, c_o o95, bs]
      refine sz_x (sz_wto hF hr o95 (Ne.symm hrne) (by omega) l5 i5) (fun _ τ6 _ i6 => ?_)
      rw [c_o orr, bs]
      refine sz_x (sz_put hF hr (by decide) i6) (fun _ τ7 _ i7 => ?_)
      rw [nI_add]
      exact go τ7 i7
theorem z_wi168n {J : px_TT → Prop} {k152 : Nat → Nat → Nat → Int32 → Int32 → px_H → Option (Unit × px_H)} {a5 : Int32} {f j : Nat} (hf : 0 < f) (hC : CV sk L own τ0 fs gs ws n b a Y) (hq : q < 64) (hn : isOb fs q = false) (hI : SI none sk L τ0 τ) (hK : Sf sk L J Any (k152 1713 r 9 a5 (nI (q + 1)) (cH sk L τ))) : Sf sk L J Any (f_Scribe_writeIndex_168 F c k152 f 1713 r 9 a5 (nI q) (some (10 + 2 * q)) (nI j) (cH sk L τ)) := by
  obtain ⟨f, rfl⟩ : ∃ y, f = y + 1 := ⟨f - 1, by omega⟩
  unfold f_Scribe_writeIndex_168 f_Scribe_writeIndex_240
  rw [z_isO hC hq hI, hn, xb_mk, if_pos (show bI false = 0 from rfl), nI_add q 1]
  exact hK
theorem z_wi152 {v : Nat} (hF : 65540 < F) (hv : v < 2 ^ 31) (hC : CV sk L own τ0 fs gs ws n b a Y) (hr : TRw r A 65536) : ∀ (d i f : Nat) (τ : px_TT), i + d = 64 → d < f → SZ none sk L τ0 r 65536 (cc + ((obL fs i).map (pl1 fs)).sum) τ → Sf sk L (SZ none sk L τ0 r 65536 (cc + ((obL fs 64).map (pl1 fs)).sum + v % 2)) Any (f_Scribe_writeIndex_152 F c f 1713 r 9 (nI v) (nI i) (cH sk L τ)) := by
  intro d
  induction d with
  | zero =>
    intro i f τ hi hf hI
    obtain ⟨f, rfl⟩ : ∃ y, f = y + 1 := ⟨f - 1, by omega⟩
    obtain rfl : i = 64 := by omega
    have orr := (SI_row hI.1 hr).1
    unfold f_Scribe_writeIndex_152 f_Scribe_writeIndex_246 f_Scribe_writeIndex_262
    rw [c_l (G9 hC.1) (by decide), bs, if_pos (nI_le (Nat.le_refl _) (by decide)), nI_od v hv]
    by_cases c2 : v % 2 = 1
    · rw [if_pos (by rw [c2]), c_o orr, bs, c2]
      exact sz_x (sz_put hF hr (by decide) hI) (fun _ τ7 _ i7 => sf_r any i7)
    · rw [if_neg (fun w => c2 ((nI_eq (by omega) (by decide)).mp w)), show v % 2 = 0 by omega, Nat.add_zero]
      exact sf_r any hI
  | succ d ih =>
    intro i f τ hi hf hI
    obtain ⟨f, rfl⟩ : ∃ y, f = y + 1 := ⟨f - 1, by omega⟩
    have hi64 : i < 64 := by omega
    have hCt := CV_SI hC hI.1
    have go := fun τ hI => ih (i + 1) f τ (by omega) (by omega) hI
    unfold f_Scribe_writeIndex_152
    rw [c_l (G9 hC.1) (by decide), bs, if_neg (nI_ge hi64 (by decide)), c_aN (G9 hC.1) (Or.inl rfl) (by decide) hi64, bs, (hCt.2.1.2.1 _ hi64).2.2.1]
    cases hob : isOb fs i with
    | false =>
      rw [obL_f hob] at go
      exact z_wi168n (by omega) hC hi64 hob hI.1 (go τ hI)
    | true =>
      obtain ⟨o, n', b', eo, eV⟩ := isOb_t hob
      rw [obL_t hob, sum_1] at go
      have p1 : pl1 fs i = sumT (pkLb b') (pkM (oM b')) := by unfold pl1; rw [eV]
      rw [p1, ← Nat.add_assoc] at go
      obtain ⟨m1, m2, m3⟩ := pkM_1 (oM b')
      have hMx := z_M hC eo
      have z0 : sumT (pkLb b') 1 = 0 := rfl
      refine z_wi168 (cc := cc + ((obL fs i).map (pl1 fs)).sum) hF hC eo hr go (pkM (oM b') - 1) 1 F τ (by omega) (Nat.le_refl _) (by omega) ?_
      rw [z0]
      exact hI
/-- the index -/
theorem z_index {N Lt : Nat} (hF : 65540 < F) (hC : CV sk L own τ0 fs gs ws n b a Y) (hr : TRw r A 65536) (eN' : ((obL fs 64).map (pn1 fs)).sum = N) (eL' : ((obL fs 64).map (pl1 fs)).sum = Lt) (hv : 4 + 4 * N + Lt ≤ 99999) (hI : SZ none sk L τ0 r 65536 8 τ) : Sf sk L (SZ none sk L τ0 r 65536 (68 + (4 + 4 * N + Lt + (4 + 4 * N + Lt) % 2))) Any (f_Scribe_writeIndex F c 1713 r 9 (nI N) (nI Lt) (cH sk L τ)) := by
  have orr := (SI_row hI.1 hr).1
  have em : nI 4 * nI N = nI (4 * N) := (Int32.ofNat_mul 4 N).symm
  unfold f_Scribe_writeIndex
  rw [em, nI_add, nI_add, c_o orr, bs]
  refine sz_x (sz_put hF hr (by decide) hI) (fun _ τ1 _ i1 => ?_)
  rw [C10g1 orr, bs, (i1.2.1.1 (by decide)).1, show nI (8 + 1) - nI 1 = nI 8 from rfl]
  refine sz_x (sz_ahead (k := 1) (p := 8) hF hr (by decide) (by decide) (by decide) hv (fun _ => rfl) i1) (fun _ τ2 _ i2 => ?_)
  rw [c_o orr, bs]
  refine sz_x (sz_high hF hr i2) (fun _ τ3 _ i3 => ?_)
  rw [C10g1 orr, bs]
  have o0 : ((obL fs 0).map (pn1 fs)).sum = 0 := rfl
  have o1 : ((obL fs 0).map (pl1 fs)).sum = 0 := rfl
  refine z_wi54 (cc := 72) hF hC hr (fun τ4 i4 => ?_) 64 0 F _ τ3 rfl (by omega) (by rw [o0]; exact i3)
  unfold f_Scribe_writeIndex_149
  rw [eN'] at i4
  have w := z_wi152 (cc := 72 + 4 * N) (v := 4 + 4 * N + Lt) (c := c) hF (by omega) hC hr 64 0 F τ4 rfl (by omega) (by rw [o1]; exact i4)
  rw [eL', show 72 + 4 * N + Lt + (4 + 4 * N + Lt) % 2 = 68 + (4 + 4 * N + Lt + (4 + 4 * N + Lt) % 2) by omega] at w
  exact w
/-- the objects -/
theorem z_wo5 (hF : 65540 < F) (hC : CV sk L own τ0 fs gs ws n b a Y) (hr : TRw r A 65536) : ∀ (d i f : Nat) (a3 : Int32) (τ : px_TT), i + d = 64 → d < f → SZ none sk L τ0 r 65536 (cc + ((obL fs i).map (pz1 fs)).sum) τ → Sf sk L (SZ none sk L τ0 r 65536 (cc + ((obL fs 64).map (pz1 fs)).sum)) Any (f_Scribe_writeObjects_5 F c f 1713 r 9 a3 (nI i) (cH sk L τ)) := by
  have h0 := (CV_S4 hC).1.1.1
  have o13 := G1713 hC.1
  intro d
  induction d with
  | zero =>
    intro i f a3 τ hi hf hI
    obtain ⟨f, rfl⟩ : ∃ y, f = y + 1 := ⟨f - 1, by omega⟩
    obtain rfl : i = 64 := by omega
    unfold f_Scribe_writeObjects_5 f_Scribe_writeObjects_118
    rw [c_l (G9 hC.1) (by decide), bs, if_pos (nI_le (Nat.le_refl _) (by decide))]
    exact sf_r any hI
  | succ d ih =>
    intro i f a3 τ hi hf hI
    obtain ⟨f, rfl⟩ : ∃ y, f = y + 1 := ⟨f - 1, by omega⟩
    have hi64 : i < 64 := by omega
    have hCt := CV_SI hC hI.1
    have go := fun a3 τ hI => ih (i + 1) f a3 τ (by omega) (by omega) hI
    have orr := (SI_row hI.1 hr).1
    unfold f_Scribe_writeObjects_5 f_Scribe_writeObjects_109 f_Scribe_writeObjects_112
    rw [c_l (G9 hC.1) (by decide), bs, if_neg (nI_ge hi64 (by decide)), c_aN (G9 hC.1) (Or.inl rfl) (by decide) hi64, bs, (hCt.2.1.2.1 _ hi64).2.2.1, z_isO hC hi64 hI.1, xb_mk]
    cases hob : isOb fs i with
    | false =>
      rw [obL_f hob] at go
      rw [if_pos (show bI false = 0 from rfl), nI_add i 1]
      exact go a3 τ hI
    | true =>
      obtain ⟨o, n', b', eo, eV⟩ := isOb_t hob
      rw [obL_t hob, sum_1] at go
      have p1 : pz1 fs i = 60 + n' + n' % 2 := by unfold pz1; rw [eV]; rfl
      rw [p1] at go
      have hsz := (SI_row hI.1 hr).2.2.2.2.1
      generalize hcc : cc + ((obL fs i).map (pz1 fs)).sum = c0 at *
      have go' : ∀ (a3 : Int32) (τ : px_TT), SZ none sk L τ0 r 65536 (c0 + 60 + n' + n' % 2) τ → Sf sk L (SZ none sk L τ0 r 65536 (cc + ((obL fs 64).map (pz1 fs)).sum)) Any (f_Scribe_writeObjects_5 F c f 1713 r 9 a3 (nI (i + 1)) (cH sk L τ)) := fun a3 τ w => go a3 τ (by rw [← Nat.add_assoc, hcc, ← Nat.add_assoc, ← Nat.add_assoc]; exact w)
      obtain ⟨z, hz, ez⟩ := hsz
      rw [if_neg (show ¬ bI true = 0 by decide), C10g1 orr, bs, c_o orr, bs]
      refine sz_x (sz_put hF hr (by decide) hI) (fun _ τ1 _ i1 => ?_)
      rw [c_o orr, bs]
      refine sz_x (sz_put hF hr (by decide) i1) (fun _ τ2 _ i2 => ?_)
      rw [c_o orr, bs]
      refine sz_x (sz_put hF hr (by decide) i2) (fun _ τ3 _ i3 => ?_)
      obtain ⟨_, q1, _, q6, q9, _, _⟩ := z_ob56 hC eo i3.1
      rw [bs, C7g6 q1, bs, q6, ez]
      refine sz_x (sz_ahead (k := 3) (p := z) hF hr (by decide) (by decide) hz (by omega) (fun w => by have e := rz_z hI.2.1 (Nat.le_refl _) hz ez (by omega); omega) i3) (fun _ τ4 _ i4 => ?_)
      obtain ⟨_, _, s5, s6, _, s8, _⟩ := z_ob56 hC eo i4.1
      have hR4 : GR τ4 := GR_Z h0.2.1 i4.1.1
      rw [C11r2 o13 (GR_r (v := 7) hR4 (by decide)), bs, C10r0 (G7 hC.1) (R7_0 hR4), bs, C7g5 q1, bs, s5, C7g6 q1, bs, s6, c_o orr, bs]
      refine sz_x (sz_copy hr (G8 hC.1) (Nat.le_refl _) s8 q9 i4) (fun _ τ5 _ i5 => ?_)
      obtain ⟨_, _, _, s6', _, _, _⟩ := z_ob56 hC eo i5.1
      rw [show c0 + 1 + 1 + 1 + (60 - 3) + n' = c0 + 60 + n' by omega] at i5
      rw [C7g6 q1, bs, s6', nI_od n' (by omega)]
      by_cases c2 : n' % 2 = 1
      · rw [if_pos (by rw [c2]), c_o orr, bs]
        refine sz_x (sz_put hF hr (by decide) i5) (fun _ τ6 _ i6 => ?_)
        rw [nI_add i 1]
        exact go' _ τ6 (by rw [c2]; exact i6)
      · rw [if_neg (fun w => c2 ((nI_eq (by omega) (by decide)).mp w)), nI_add i 1]
        exact go' _ τ5 (by rw [show n' % 2 = 0 by omega]; exact i5)
end CPV
