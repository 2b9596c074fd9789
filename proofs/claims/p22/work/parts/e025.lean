section
/-! the class's merge: what it counts (steps spelled out by sf/pp.py) -/
/-- the names listed so far -/
def NL (τ0 : px_TT) (N lc : Nat) (ls : List Nat) (τ : px_TT) : Prop := (fI τ 1713 7 = nI lc ∧ fI τ 1713 6 = nI ls.length) ∧ ls.Nodup ∧ (∀ i, i ∈ ls → i < N) ∧ (∀ i, i < N → (fI τ (pN τ0 149 i) 17 = 0 ↔ i ∉ ls)) ∧ ∀ (k i : Nat), ls[k]? = some i → k < 64 → eN τ 1717 k = some (pN τ0 149 i)
def NLc (sk : Nat → Nat × Nat × Nat) (L : Nat) (τ0 : px_TT) (N lc : Nat) (C : Nat → Prop) (τ : px_TT) : Prop := SI none sk L τ0 τ ∧ ∃ ls, NL τ0 N lc ls τ ∧ ∀ i, i < N → C i → i ∈ ls
section CMX
variable {F : Nat} {c : px_CT} {sk : Nat → Nat × Nat × Nat} {L : Nat} {τ0 τ : px_TT} {own : Nat → Nat × Nat} {fs : px_FS} {s : px_TK} {xs : px_NL} {ST rn : Nat → Bool} {ws : List (List Nat)} {t : Nat} {J : px_TT → Prop} {V : Int32 → Prop}
theorem z_obj (h3 : S3 sk L own τ0 fs s xs ST rn ws) (ht : t < s.2.2.1.length) : ∃ q, q < 64 ∧ ob sk L 7 (10 + 2 * q) ∧ ∀ τ, SI none sk L τ0 τ → f_Link_object F c 147 (nI t) (cH sk L τ) = some (some (10 + 2 * q), cH sk L τ) ∧ fI τ (10 + 2 * q) 8 = nI (oS (tB fs s.2.2.1 t)) ∧ fI τ (10 + 2 * q) 11 = nI (oM (tB fs s.2.2.1 t)) ∧ cD sk L τ (10 + 2 * q) (11 + 2 * q) (bsO fs q) (tNf fs s.2.2.1 t) (eI τ 8) ∧ cb (eI τ 8) (bsO fs q) (tNf fs s.2.2.1 t) = tB fs s.2.2.1 t := by
  obtain ⟨q, q1, q2, _⟩ := TKe_ob h3.2.1 ht
  refine ⟨q, q2, G_of h3.1.1.1.1 q2, fun τ hI => ?_⟩
  have hk := TKe_Zf h3.2.1 hI.1
  obtain ⟨q', q1', q2', hD, hcb, he, hp, hRS, h89⟩ := TKe_ob hk ht
  rw [q1] at q1'
  injection q1' with e
  subst e
  refine ⟨k_object hk q1, ?_, ?_, hD, hcb⟩
  · rw [← hcb]; exact hD.1.1.1.2.2.2.2
  · rw [← hcb]
    obtain ⟨⟨hG, hY, hw⟩, _, _⟩ := hD
    exact hY.2.1
theorem z_tkn (h3 : S3 sk L own τ0 fs s xs ST rn ws) (hI : SI none sk L τ0 τ) : fI τ 147 14 = nI s.2.2.1.length := by
  rw [SI_147 hI (by decide)]
  exact h3.2.1.2.2.2.1.2.2.1
theorem z_np59 {k4 : Nat → Int32 → Int32 → px_H → Option (Int32 × px_H)} {S : Nat × Nat} (h3 : S3 sk L own τ0 fs s xs ST rn ws) (hF : 65540 < F) (ht : t < s.2.2.1.length) (hk : ∀ τ, SI none sk L τ0 τ → Sf sk L J V (k4 1713 (nI S.1) (nI (t + 1)) (cH sk L τ))) : ∀ (d i f : Nat) (u : Nat × Nat) (τ : px_TT), i + d = oS (tB fs s.2.2.1 t) → d < f → itr (mg1 (tB fs s.2.2.1 t) (mgq (tB fs s.2.2.1 t) ST t)) i d u = S → SI none sk L τ0 τ → Sf sk L J V (f_Scribe_numberParts_59 F c k4 f 1713 (nI u.1) (nI t) (nI i) (cH sk L τ)) := by
  have h0 := h3.1.1.1
  have o13 := G1713 h0.1
  have o47 := G147 h0.1
  have hy := (TKe_ys h3.2.1 t ht).2.1
  obtain ⟨q, q2, o7, hq⟩ := z_obj (F := F) (c := c) h3 ht
  intro d
  induction d with
  | zero =>
    intro i f u τ hj hf eS hI
    obtain ⟨f, rfl⟩ : ∃ y, f = y + 1 := ⟨f - 1, by omega⟩
    obtain ⟨e1, e8, _⟩ := hq τ hI
    rw [itr_0] at eS
    subst eS
    unfold f_Scribe_numberParts_59 f_Scribe_numberParts_100
    rw [C11r0 o13 (GR_r (v := 147) (GR_Z h0.2.1 hI.1) (by decide)), bs, c_o o47, bs, e1, xb_mk, bs, C7g8 o7, bs, e8, if_pos (nI_le (by omega) (by omega)), nI_add]
    exact hk _ hI
  | succ d ih =>
    intro i f u τ hj hf eS hI
    obtain ⟨f, rfl⟩ : ∃ y, f = y + 1 := ⟨f - 1, by omega⟩
    obtain ⟨e1, e8, _⟩ := hq τ hI
    have hk2 := k_stayT (F := F) (c := c) (i := i) (TKe_Zf h3.2.1 hI.1) (by omega) ht (by omega)
    rw [itr_s] at eS
    unfold f_Scribe_numberParts_59 f_Scribe_numberParts_92
    rw [C11r0 o13 (GR_r (v := 147) (GR_Z h0.2.1 hI.1) (by decide)), bs, c_o o47, bs, e1, xb_mk, bs, C7g8 o7, bs, e8, if_neg (nI_ge (by omega) (by omega)), C11r0 o13 (GR_r (v := 147) (GR_Z h0.2.1 hI.1) (by decide)), bs, c_o o47, bs, hk2, xb_mk]
    by_cases cc : isS (tB fs s.2.2.1 t) i = true ∧ ST (24 * t + oI (tB fs s.2.2.1 t) i) = true
    · have em : mgq (tB fs s.2.2.1 t) ST t i = true := by unfold mgq; rw [cc.1, cc.2]; rfl
      rw [mg1_t em] at eS
      rw [if_pos cc]
      dsimp only
      rw [nI_add, nI_add]
      exact ih (i + 1) f _ τ (by omega) (by omega) eS hI
    · have em : mgq (tB fs s.2.2.1 t) ST t i = false := by
        unfold mgq
        rw [Bool.and_eq_false_iff]
        cases e2 : isS (tB fs s.2.2.1 t) i with
        | false => exact Or.inl rfl
        | true => exact Or.inr (Bool.eq_false_iff.mpr (fun w => cc ⟨e2, w⟩))
      rw [mg1_f em] at eS
      rw [if_neg cc]
      dsimp only
      rw [nI_add, nI_add, Nat.add_zero]
      exact ih (i + 1) f u τ (by omega) (by omega) eS hI
theorem z_np17 {k4 : Nat → Int32 → Int32 → px_H → Option (Int32 × px_H)} {S U : Nat × Nat} (h3 : S3 sk L own τ0 fs s xs ST rn ws) (hF : 65540 < F) (ht : t < s.2.2.1.length) (eU : itr (mg1 (tB fs s.2.2.1 t) (mgq (tB fs s.2.2.1 t) ST t)) 0 (oS (tB fs s.2.2.1 t)) U = S) (hk : ∀ τ, SI none sk L τ0 τ → Sf sk L J V (k4 1713 (nI S.1) (nI (t + 1)) (cH sk L τ))) : ∀ (d i f : Nat) (u : Nat × Nat) (τ : px_TT), i + d = 24 → d < f → itr (mg1 (tB fs s.2.2.1 t) (mgp ST t)) i d u = U → SI none sk L τ0 τ → Sf sk L J V (f_Scribe_numberParts_17 F c k4 f 1713 (nI u.1) (nI t) (nI i) (cH sk L τ)) := by
  have h0 := h3.1.1.1
  have o13 := G1713 h0.1
  have o47 := G147 h0.1
  have hT := S3_T h3
  have hy := (TKe_ys h3.2.1 t ht).2.1
  intro d
  induction d with
  | zero =>
    intro i f u τ hj hf eS hI
    obtain ⟨f, rfl⟩ : ∃ y, f = y + 1 := ⟨f - 1, by omega⟩
    rw [itr_0] at eS
    subst eS
    unfold f_Scribe_numberParts_17 f_Scribe_numberParts_57
    rw [if_pos (nI_le (by omega) (by omega))]
    exact z_np59 h3 hF ht hk _ 0 F u τ (Nat.zero_add _) (by omega) eU hI
  | succ d ih =>
    intro i f u τ hj hf eS hI
    obtain ⟨f, rfl⟩ : ∃ y, f = y + 1 := ⟨f - 1, by omega⟩
    obtain ⟨op, p9, _⟩ := TKe_part (TKe_Zf h3.2.1 hI.1) (x := 24 * t + i) (by omega)
    rw [itr_s] at eS
    unfold f_Scribe_numberParts_17 f_Scribe_numberParts_51
    rw [if_neg (nI_ge (by omega) (by omega)), C11r0 o13 (GR_r (v := 147) (GR_Z h0.2.1 hI.1) (by decide)), bs, c_o o47, bs, k_part h0.1 (GR_Z h0.2.1 hI.1) (by omega) (by omega), xb_mk, bs, C8g9 op, bs, p9]
    cases es : ST (24 * t + i) with
    | false =>
      rw [mg1_f (p := mgp ST t) es] at eS
      rw [if_pos (show bI false = 0 from rfl), nI_add]
      exact ih (i + 1) f u τ (by omega) (by omega) eS hI
    | true =>
      rw [mg1_t (p := mgp ST t) es] at eS
      rw [if_neg (show ¬ bI true = 0 by decide), c_pI op (by decide) (by decide), bs, nI_add, nI_add]
      exact ih (i + 1) f _ _ (by omega) (by omega) eS (SI_tI hI (by omega))
theorem z_np4 {S : Nat × Nat} (h3 : S3 sk L own τ0 fs s xs ST rn ws) (hF : 65540 < F) (hST : ∀ x, ST x = (kpB (tB fs s.2.2.1 (x / 24)) (x % 24) && !s.2.1.1 x)) : ∀ (d t f : Nat) (u : Nat × Nat) (τ : px_TT), t + d = s.2.2.1.length → d < f → itr (mgO (tB fs s.2.2.1) ST) t d u = S → SI none sk L τ0 τ → Sf sk L (SI none sk L τ0) (fun v => v = nI (S.1 + 2)) (f_Scribe_numberParts_4 F c f 1713 (nI u.1) (nI t) (cH sk L τ)) := by
  have h0 := h3.1.1.1
  have o13 := G1713 h0.1
  have o47 := G147 h0.1
  have hT := S3_T h3
  intro d
  induction d with
  | zero =>
    intro t f u τ hj hf eS hI
    obtain ⟨f, rfl⟩ : ∃ y, f = y + 1 := ⟨f - 1, by omega⟩
    rw [itr_0] at eS
    subst eS
    unfold f_Scribe_numberParts_4 f_Scribe_numberParts_106
    rw [C11r0 o13 (GR_r (v := 147) (GR_Z h0.2.1 hI.1) (by decide)), bs, C3g14 o47, bs, z_tkn h3 hI, if_pos (nI_le (by omega) (by omega)), c_pI o13 (by decide) (by decide), bs, nI_add]
    exact sf_r rfl (SI_tI hI (by omega))
  | succ d ih =>
    intro t f u τ hj hf eS hI
    obtain ⟨f, rfl⟩ : ∃ y, f = y + 1 := ⟨f - 1, by omega⟩
    have ht : t < s.2.2.1.length := by omega
    obtain ⟨_, _, _, _, _, he, _⟩ := TKe_ob h3.2.1 ht
    have hy := (TKe_ys h3.2.1 t ht).2.1
    rw [itr_s] at eS
    have hp : ∀ i, i < 24 → mgp ST t i = (kpB (tB fs s.2.2.1 t) i && !s.2.1.1 (24 * t + i)) := fun i hi => by
      unfold mgp
      rw [hST, show (24 * t + i) / 24 = t by omega, show (24 * t + i) % 24 = i by omega]
    have c1 : itr (mg1 (tB fs s.2.2.1 t) (mgp ST t)) 0 24 u = itr (mg1 (tB fs s.2.2.1 t) (mgp ST t)) 1 (oS (tB fs s.2.2.1 t) - 1) u := itr_cut (eObj_S1 he) hy (fun s' => mg1_f (by rw [hp 0 (by decide)]; unfold kpB; rw [oK_0f he, Bool.and_false, Bool.false_and])) (fun i s' h1 h2 => mg1_f (by rw [hp i h2]; unfold kpB; rw [decide_eq_false (by omega), Bool.false_and, Bool.false_and]))
    have c2 : ∀ U, itr (mg1 (tB fs s.2.2.1 t) (mgq (tB fs s.2.2.1 t) ST t)) 0 (oS (tB fs s.2.2.1 t)) U = itr (mg1 (tB fs s.2.2.1 t) (mgq (tB fs s.2.2.1 t) ST t)) 1 (oS (tB fs s.2.2.1 t) - 1) U := fun U => itr_cut (eObj_S1 he) (Nat.le_refl _) (fun s' => mg1_f (by unfold mgq; rw [isS_0 he, Bool.false_and])) (fun i s' h1 h2 => absurd h1 (by omega))
    unfold f_Scribe_numberParts_4
    rw [C11r0 o13 (GR_r (v := 147) (GR_Z h0.2.1 hI.1) (by decide)), bs, C3g14 o47, bs, z_tkn h3 hI, if_neg (nI_ge (by omega) (by omega))]
    refine z_np17 h3 hF ht (S := mgO (tB fs s.2.2.1) ST t u) (U := itr (mg1 (tB fs s.2.2.1 t) (mgp ST t)) 0 24 u) (by rw [c2, c1]; rfl) (fun τ hI => ?_) 24 0 F u τ rfl (by omega) rfl hI
    exact ih (t + 1) f _ τ (by omega) (by omega) eS hI
theorem z_nparts (h3 : S3 sk L own τ0 fs s xs ST rn ws) (hF : 65540 < F) (hST : ∀ x, ST x = (kpB (tB fs s.2.2.1 (x / 24)) (x % 24) && !s.2.1.1 x)) (hI : SI none sk L τ0 τ) : Sf sk L (SI none sk L τ0) (fun v => v = nI ((mgT s.2.2.1.length (tB fs s.2.2.1) ST).1 + 2)) (f_Scribe_numberParts F c 1713 (cH sk L τ)) := by
  have hT := S3_T h3
  exact z_np4 h3 hF hST s.2.2.1.length 0 F (1, 64) τ (Nat.zero_add _) (by omega) rfl hI
/-! names -/
theorem z_nmAt (h3 : S3 sk L own τ0 fs s xs ST rn ws) {i : Nat} (hi : i < xs.length) : eN τ0 149 i = some (pN τ0 149 i) ∧ Nmo sk L τ0 (pN τ0 149 i) := by
  obtain ⟨n1, n2, n3, n4, n5, n6, n7⟩ := h3.2.1.2.2.2.1.2.1.1
  exact ⟨(n7 i _ (by rw [List.getElem?_map, List.getElem?_eq_getElem hi]; rfl)).2.1, TKe_Nmo h3.2.1 h3.2.2.1 hi⟩
theorem z_nmNe (h3 : S3 sk L own τ0 fs s xs ST rn ws) {i j : Nat} (hi : i < xs.length) (hj : j < xs.length) (h : i ≠ j) : pN τ0 149 i ≠ pN τ0 149 j := NP_ne h3.2.1.2.2.2.1.1 (Or.inr (Or.inr rfl)) (Or.inr (Or.inr rfl)) (z_nmAt h3 hi).1 (z_nmAt h3 hj).1 (fun w => h w.2)
theorem z_listN {i lc : Nat} {ls : List Nat} (h3 : S3 sk L own τ0 fs s xs ST rn ws) (hi : i < xs.length) (h1 : 1 ≤ lc) (h2 : lc ≤ 8192) (hI : SI none sk L τ0 τ) (hN : NL τ0 xs.length lc ls τ) : Sf sk L (fun τ' => SI none sk L τ0 τ' ∧ NL τ0 xs.length lc (if i ∈ ls then ls else ls ++ [i]) τ') Any (f_Scribe_listName F c 1713 (some (pN τ0 149 i)) (cH sk L τ)) := by
  have h0 := h3.1.1.1
  have o13 := G1713 h0.1
  have hA : ar sk L 5 64 1717 := GS_a h0.1 (by decide) (by decide)
  obtain ⟨_, hp⟩ := z_nmAt h3 hi
  have op := hp.2.1
  have hge := hp.1
  have hxl : xs.length ≤ 4128 := by have := h3.2.1.2.2.2.1.2.1.1.2.2.2.1; rw [List.length_map] at this; exact this
  obtain ⟨⟨n7, n6⟩, n1, n2, n3, n4⟩ := hN
  have hll : ls.length ≤ 4128 := by
    have w := List.Nodup.length_le_of_subset (l₂ := List.range xs.length) n1 (fun x hx => List.mem_range.mpr (n2 x hx))
    rw [List.length_range] at w
    omega
  unfold f_Scribe_listName
  dsimp only
  rw [C5g17 op, bs]
  by_cases hm : i ∈ ls
  · rw [if_neg (fun w => ((n3 i hi).mp w) hm)]
    unfold f_Scribe_listName_11
    refine sf_r any ⟨hI, ?_⟩
    rw [if_pos hm]
    exact ⟨⟨n7, n6⟩, n1, n2, n3, n4⟩
  · rw [if_pos ((n3 i hi).mpr hm), C11g7 o13, bs, C11g6 o13, bs, n7, n6, nI_add, c_pI op (by decide) (by decide), bs]
    have hI1 : SI none sk L τ0 (tI τ (pN τ0 149 i) 17 (nI (lc + ls.length))) := SI_tI hI (Or.inr (Or.inr (Or.inr (Or.inr (Or.inl ⟨hge, rfl⟩)))))
    have g6 : fI (tI τ (pN τ0 149 i) 17 (nI (lc + ls.length))) 1713 6 = nI ls.length := (tI_ne (Or.inl (by omega))).trans n6
    have g7 : fI (tI τ (pN τ0 149 i) 17 (nI (lc + ls.length))) 1713 7 = nI lc := (tI_ne (Or.inl (by omega))).trans n7
    have g17 : ∀ j, j < xs.length → (fI (tI τ (pN τ0 149 i) 17 (nI (lc + ls.length))) (pN τ0 149 j) 17 = 0 ↔ j ∉ ls ++ [i]) := fun j hj => by
      by_cases e : j = i
      · subst e
        rw [tI_at]
        exact ⟨fun w => absurd ((nI_eq (b := 0) (by omega) (by decide)).mp w) (by omega), fun w => absurd (List.mem_append_right _ (List.mem_singleton.mpr rfl)) w⟩
      · rw [tI_ne (Or.inl (z_nmNe h3 hj hi e)), n3 j hj, List.mem_append, List.mem_singleton]
        exact ⟨fun w v => v.elim w e, fun w v => w (Or.inl v)⟩
    have gN : eN (tI τ (pN τ0 149 i) 17 (nI (lc + ls.length))) 1717 = eN τ 1717 := rfl
    generalize tI τ (pN τ0 149 i) 17 (nI (lc + ls.length)) = τ1 at *
    have hR1 := GR_Z h0.2.1 hI1.1
    have hnd : (ls ++ [i]).Nodup := List.nodup_append.mpr ⟨n1, List.nodup_cons.mpr ⟨List.not_mem_nil, List.nodup_nil⟩, fun x hx y hy e => hm (by rw [← List.mem_singleton.mp hy, ← e]; exact hx)⟩
    have hlt : ∀ x, x ∈ ls ++ [i] → x < xs.length := fun x hx => by
      rcases List.mem_append.mp hx with e | e
      · exact n2 x e
      · rw [List.mem_singleton.mp e]; exact hi
    rw [C11g6 o13, bs, C11r5 o13 (GR_r (v := 1717) hR1 (by decide)), bs, c_l hA (by decide), bs, g6]
    by_cases c64 : 64 ≤ ls.length
    · rw [if_pos (nI_le c64 (by omega))]
      unfold f_Scribe_listName_47
      rw [C11g6 o13, bs, g6, nI_add, c_pI o13 (by decide) (by decide), bs]
      refine sf_r any ⟨SI_cnt hI1, ?_⟩
      rw [if_neg hm]
      refine ⟨⟨(tI_ne (Or.inr (by decide))).trans g7, by rw [tI_at, List.length_append, List.length_singleton]⟩, hnd, hlt, fun j hj => ?_, fun k j hk h64 => ?_⟩
      · rw [tI_ne (Or.inl (by have := (z_nmAt h3 hj).2.1; omega))]; exact g17 j hj
      · show eN τ1 1717 k = _
        rw [gN]
        refine n4 k j ?_ h64
        rw [List.getElem?_append_left (by omega)] at hk
        exact hk
    · rw [if_neg (nI_ge (by omega) (by omega)), bs, bs, c_sO hA (Or.inr (Or.inl rfl)) (by decide) (by omega) op, bs]
      have hI2 : SI none sk L τ0 (vN τ1 1717 (va_up (eN τ1 1717) ls.length (some (pN τ0 149 i)))) := ⟨frZ_trans hI1.1 frZ_vN, hI1.2.1, hI1.2.2.1, hI1.2.2.2.1, fun N hN => by cases hN⟩
      unfold f_Scribe_listName_47
      rw [C11g6 o13, bs, show fI (vN τ1 1717 (va_up (eN τ1 1717) ls.length (some (pN τ0 149 i)))) 1713 6 = nI ls.length from g6, nI_add, c_pI o13 (by decide) (by decide), bs]
      refine sf_r any ⟨SI_cnt hI2, ?_⟩
      rw [if_neg hm]
      refine ⟨⟨(tI_ne (Or.inr (by decide))).trans g7, by rw [tI_at, List.length_append, List.length_singleton]⟩, hnd, hlt, fun j hj => ?_, fun k j hk h64 => ?_⟩
      · rw [tI_ne (Or.inl (by have := (z_nmAt h3 hj).2.1; omega))]; exact g17 j hj
      · show eN (vN τ1 1717 (va_up (eN τ1 1717) ls.length (some (pN τ0 149 i)))) 1717 k = _
        rw [show eN (vN τ1 1717 (va_up (eN τ1 1717) ls.length (some (pN τ0 149 i)))) 1717 = va_up (eN τ1 1717) ls.length (some (pN τ0 149 i)) from (u1_eq : u1 τ1.2.2.2.2.2 1717 _ 1717 = _)]
        by_cases e : k = ls.length
        · rw [e, va_up_a]
          rw [e, List.getElem?_append_right (Nat.le_refl _), Nat.sub_self] at hk
          rw [← Option.some.inj hk]
        · rw [va_up_n e, gN]
          have hk' := (List.getElem?_eq_some_iff.mp hk).1
          rw [List.length_append, List.length_singleton] at hk'
          refine n4 k j ?_ h64
          rw [List.getElem?_append_left (by omega)] at hk
          exact hk
theorem z_list1 {i lc : Nat} {C : Nat → Prop} (h3 : S3 sk L own τ0 fs s xs ST rn ws) (hi : i < xs.length) (h1 : 1 ≤ lc) (h2 : lc ≤ 8192) (hI : NLc sk L τ0 xs.length lc C τ) : Sf sk L (NLc sk L τ0 xs.length lc (fun x => C x ∨ x = i)) Any (f_Scribe_listName F c 1713 (some (pN τ0 149 i)) (cH sk L τ)) := by
  obtain ⟨hS, ls, hN, hC⟩ := hI
  obtain ⟨v, τ', e, _, hS', hN'⟩ := z_listN (F := F) (c := c) h3 hi h1 h2 hS hN
  refine ⟨v, τ', e, any, hS', _, hN', fun x hx hc => ?_⟩
  by_cases hm : i ∈ ls
  · rw [if_pos hm]
    rcases hc with e | e
    · exact hC x hx e
    · rw [e]; exact hm
  · rw [if_neg hm]
    rcases hc with e | e
    · exact List.mem_append_left _ (hC x hx e)
    · rw [e]; exact List.mem_append_right _ (List.mem_singleton.mpr rfl)
theorem NLc_mono {N lc : Nat} {C C' : Nat → Prop} (h : NLc sk L τ0 N lc C τ) (hc : ∀ i, i < N → C' i → C i) : NLc sk L τ0 N lc C' τ := by
  obtain ⟨hS, ls, hN, hC⟩ := h
  exact ⟨hS, ls, hN, fun i hi w => hC i hi (hc i hi w)⟩
theorem z_list0 {lc N : Nat} {C : Nat → Prop} (hI : NLc sk L τ0 N lc C τ) : Sf sk L (NLc sk L τ0 N lc C) Any (f_Scribe_listName F c 1713 none (cH sk L τ)) := by
  unfold f_Scribe_listName f_Scribe_listName_11
  exact sf_r any hI
/-- all that is listed: of the order, wished, symbols' -/
def mgC (fs : px_FS) (s : px_TK) (xs : px_NL) (ws : List (List Nat)) (no nw nt nj : Nat) (i : Nat) : Prop := (∃ k, k < no ∧ s.1.2.2.1[k]? = some i) ∨ (∃ k w, k < nw ∧ ws[k]? = some w ∧ i = plc w (xs.map Prod.fst)) ∨ ∃ t j, (t < nt ∨ (t = nt ∧ j < nj)) ∧ t < s.2.2.1.length ∧ j < 64 ∧ hsN (tB fs s.2.2.1 t) j = true ∧ i = plc (yT (tB fs s.2.2.1 t) j) (xs.map Prod.fst)
theorem z_ns260 {lc : Nat} {k247 : Nat → Int32 → px_H → Option (Int32 × px_H)} (h3 : S3 sk L own τ0 fs s xs ST rn ws) (hF : 65540 < F) (ht : t < s.2.2.1.length) (h1 : 1 ≤ lc) (h2 : lc ≤ 8192) (hk : ∀ τ, NLc sk L τ0 xs.length lc (mgC fs s xs ws s.1.2.2.1.length ws.length (t + 1) 0) τ → Sf sk L J V (k247 1713 (nI (t + 1)) (cH sk L τ))) : ∀ (d j f : Nat) (τ : px_TT), j + d = 64 → d < f → NLc sk L τ0 xs.length lc (mgC fs s xs ws s.1.2.2.1.length ws.length t j) τ → Sf sk L J V (f_Scribe_numberSymbols_260 F c k247 f 1713 (nI t) (nI j) (cH sk L τ)) := by
  have h0 := h3.1.1.1
  have o13 := G1713 h0.1
  have o47 := G147 h0.1
  have hT := S3_T h3
  obtain ⟨_, _, _, _, _, _, _, hRS, _⟩ := TKe_ob h3.2.1 ht
  intro d
  induction d with
  | zero =>
    intro j f τ hj hf hI
    obtain ⟨f, rfl⟩ : ∃ y, f = y + 1 := ⟨f - 1, by omega⟩
    obtain rfl : j = 64 := by omega
    unfold f_Scribe_numberSymbols_260 f_Scribe_numberSymbols_285
    rw [if_pos (nI_le (by omega) (by omega)), nI_add]
    refine hk _ (NLc_mono hI (fun i _ w => ?_))
    rcases w with w | w | ⟨t', j', w1, w2, w3, w4⟩
    · exact Or.inl w
    · exact Or.inr (Or.inl w)
    · exact Or.inr (Or.inr ⟨t', j', by omega, w2, w3, w4⟩)
  | succ d ih =>
    intro j f τ hj hf hI
    obtain ⟨f, rfl⟩ : ∃ y, f = y + 1 := ⟨f - 1, by omega⟩
    have hR := GR_Z h0.2.1 hI.1.1
    have e92 : eN τ 1692 (64 * t + j) = syN τ0 (tB fs s.2.2.1 t) xs j := by rw [hI.1.1.2.2.2.2.2 1692 (by decide)]; exact (hRS j (by omega)).1
    unfold f_Scribe_numberSymbols_260
    rw [if_neg (nI_ge (by omega) (by omega)), C11r0 o13 (GR_r (v := 147) hR (by decide)), bs, c_o o47, bs, k_nameOf h0.1 hR (by omega) (by omega), xb_mk, e92, c_o o13, bs, nI_add]
    have next : ∀ τ, NLc sk L τ0 xs.length lc (mgC fs s xs ws s.1.2.2.1.length ws.length t (j + 1)) τ → Sf sk L J V (f_Scribe_numberSymbols_260 F c k247 f 1713 (nI t) (nI (j + 1)) (cH sk L τ)) := fun τ hI => ih (j + 1) f τ (by omega) (by omega) hI
    unfold syN
    by_cases ch : hsN (tB fs s.2.2.1 t) j = true
    · rw [if_pos ch]
      have hl := plc_lt ((hRS j (by omega)).2 ch)
      rw [List.length_map] at hl
      refine sz_x (z_list1 h3 hl h1 h2 hI) (fun _ τ1 _ i1 => next τ1 (NLc_mono i1 (fun i _ w => ?_)))
      rcases w with w | w | ⟨t', j', w1, w2, w3, w4, w5⟩
      · exact Or.inl (Or.inl w)
      · exact Or.inl (Or.inr (Or.inl w))
      · by_cases e : t' = t ∧ j' = j
        · obtain ⟨rfl, rfl⟩ := e
          exact Or.inr w5
        · exact Or.inl (Or.inr (Or.inr ⟨t', j', by omega, w2, w3, w4, w5⟩))
    · rw [if_neg ch]
      refine sz_x (z_list0 hI) (fun _ τ1 _ i1 => next τ1 (NLc_mono i1 (fun i _ w => ?_)))
      rcases w with w | w | ⟨t', j', w1, w2, w3, w4, w5⟩
      · exact Or.inl w
      · exact Or.inr (Or.inl w)
      · by_cases e : t' = t ∧ j' = j
        · obtain ⟨rfl, rfl⟩ := e
          exact absurd w4 ch
        · exact Or.inr (Or.inr ⟨t', j', by omega, w2, w3, w4, w5⟩)
theorem z_ns247 {lc : Nat} (h3 : S3 sk L own τ0 fs s xs ST rn ws) (hF : 65540 < F) (h1 : 1 ≤ lc) (h2 : lc ≤ 8192) (hall : ∀ i, i < xs.length → mgC fs s xs ws s.1.2.2.1.length ws.length s.2.2.1.length 0 i) : ∀ (d t f : Nat) (τ : px_TT), t + d = s.2.2.1.length → d < f → NLc sk L τ0 xs.length lc (mgC fs s xs ws s.1.2.2.1.length ws.length t 0) τ → Sf sk L (NLc sk L τ0 xs.length lc (fun _ => True)) (fun v => v = nI (lc + xs.length)) (f_Scribe_numberSymbols_247 F c f 1713 (nI t) (cH sk L τ)) := by
  have h0 := h3.1.1.1
  have o13 := G1713 h0.1
  have o47 := G147 h0.1
  have hT := S3_T h3
  intro d
  induction d with
  | zero =>
    intro t f τ hj hf hI
    obtain ⟨f, rfl⟩ : ∃ y, f = y + 1 := ⟨f - 1, by omega⟩
    obtain rfl : t = s.2.2.1.length := by omega
    have hA := NLc_mono hI (C' := fun _ => True) (fun i hi _ => hall i hi)
    obtain ⟨hS, ls, ⟨⟨n7, n6⟩, n1, n2, n3, n4⟩, hC⟩ := hA
    have hlen := (all_sum (f := fun _ => 0) xs.length ls n1 n2 (fun x hx => hC x hx trivial)).2
    unfold f_Scribe_numberSymbols_247 f_Scribe_numberSymbols_291
    rw [C11r0 o13 (GR_r (v := 147) (GR_Z h0.2.1 hS.1) (by decide)), bs, C3g14 o47, bs, z_tkn h3 hS, if_pos (nI_le (by omega) (by omega)), C11g7 o13, bs, C11g6 o13, bs, n7, n6, hlen, nI_add]
    exact sf_r rfl ⟨hS, ls, ⟨⟨n7, n6⟩, n1, n2, n3, n4⟩, hC⟩
  | succ d ih =>
    intro t f τ hj hf hI
    obtain ⟨f, rfl⟩ : ∃ y, f = y + 1 := ⟨f - 1, by omega⟩
    unfold f_Scribe_numberSymbols_247
    rw [C11r0 o13 (GR_r (v := 147) (GR_Z h0.2.1 hI.1.1) (by decide)), bs, C3g14 o47, bs, z_tkn h3 hI.1, if_neg (nI_ge (by omega) (by omega))]
    exact z_ns260 h3 hF (by omega) h1 h2 (fun τ hτ => ih (t + 1) f τ (by omega) (by omega) hτ) 64 0 F τ rfl (by omega) hI
theorem z_ns200 {lc : Nat} (h3 : S3 sk L own τ0 fs s xs ST rn ws) (hF : 65540 < F) (h1 : 1 ≤ lc) (h2 : lc ≤ 8192) (hall : ∀ i, i < xs.length → mgC fs s xs ws s.1.2.2.1.length ws.length s.2.2.1.length 0 i) (hws : ∀ w, w ∈ ws → w ∈ xs.map Prod.fst) : ∀ (d k f : Nat) (τ : px_TT), k + d = ws.length → d < f → NLc sk L τ0 xs.length lc (mgC fs s xs ws s.1.2.2.1.length k 0 0) τ → Sf sk L (NLc sk L τ0 xs.length lc (fun _ => True)) (fun v => v = nI (lc + xs.length)) (f_Scribe_numberSymbols_200 F c f 1713 (nI k) (cH sk L τ)) := by
  have h0 := h3.1.1.1
  have hS0 := h0.1
  have o13 := G1713 h0.1
  have o47 := G147 h0.1
  have hT := S3_T h3
  obtain ⟨n1, n2, n3, n4, n5, n6, n7⟩ := id h3.2.2.2
  have hwl : ws.length ≤ 16 := n4
  have hxl : xs.length ≤ 4128 := by have := h3.2.1.2.2.2.1.2.1.1.2.2.2.1; rw [List.length_map] at this; exact this
  have e2 : ∀ τ, SI none sk L τ0 τ → fI τ 143 2 = nI ws.length := fun τ hI => (hI.1.1 143 2 (Zc_no (by omega)) (by omega) (by omega) (by omega) (by omega)).trans n6
  intro d
  induction d with
  | zero =>
    intro k f τ hk hf hI
    obtain ⟨f, rfl⟩ : ∃ y, f = y + 1 := ⟨f - 1, by omega⟩
    obtain rfl : k = ws.length := by omega
    have hR := GR_Z h0.2.1 hI.1.1
    unfold f_Scribe_numberSymbols_200 f_Scribe_numberSymbols_245
    rw [C11r0 o13 (GR_r (v := 147) hR (by decide)), bs, C3r2 o47 (GR_r (v := 143) hR (by decide)), bs, C6g2 (G143 hS0), bs, e2 τ hI.1, if_pos (nI_le (by omega) (by omega))]
    exact z_ns247 h3 hF h1 h2 hall s.2.2.1.length 0 F τ (Nat.zero_add _) (by omega) hI
  | succ d ih =>
    intro k f τ hk hf hI
    obtain ⟨f, rfl⟩ : ∃ y, f = y + 1 := ⟨f - 1, by omega⟩
    have hR := GR_Z h0.2.1 hI.1.1
    have hkw : ws[k]? = some ws[k] := List.getElem?_eq_getElem (by omega)
    obtain ⟨ok, ej, eo, em⟩ := n7 k _ hkw
    have ej : eN τ0 144 k = some (pN τ0 144 k) := ej
    have eo : ob sk L 5 (pN τ0 144 k) := eo
    have em : isNm τ0 (pN τ0 144 k) ws[k] := em
    have hmem := hws _ (List.mem_of_getElem? hkw)
    obtain ⟨x, x1, x2, x3⟩ := plc_ix hmem
    have hl := plc_lt hmem
    rw [List.length_map] at hl
    have hTk := TKe_Zf h3.2.1 hI.1.1
    have hns := hTk.2.2.2.1.2.1.1
    have hge := (h3.2.1.2.2.2.1.1 144 k _ (Or.inr (Or.inl rfl)) ej).1
    have em' : isNm τ (pN τ0 144 k) ws[k] := isNm_mv em (fun j _ => hI.1.1.2.1 _ j (Zc_no (by omega)) (by omega)) (hI.1.1.1 _ 3 (Zc_no (by omega)) (by omega) (by omega) (by omega) (by omega))
    have kf := k_find (F := F) (c := c) hns eo em' ok (by rw [List.length_map]; omega)
    rw [x3] at kf
    have eAt : f_Names_at F c 143 (nI k) (cH sk L τ) = some (some (pN τ0 144 k), cH sk L τ) := by
      unfold f_Names_at f_Names_at_31 f_Names_at_44
      rw [if_neg (nI_pos (by omega)), C6g2 (G143 hS0), bs, e2 τ hI.1, if_neg (nI_ge (by omega) (by omega)), C6r0 (G143 hS0) (GR_r (v := 144) hR (by decide)), bs, c_l (G144 hS0) (by decide), bs, if_neg (nI_ge (by omega) (by omega)), bs, c_aN (G144 hS0) (Or.inr (Or.inl rfl)) (by decide) (by omega), bs, hI.1.1.2.2.2.2.2 144 (by decide), ej]
    have kf : f_Names_find F c 148 (some (pN τ0 144 k)) (cH sk L τ) = some (some (pN τ 149 (plc ws[k] (xs.map Prod.fst))), cH sk L τ) := kf
    rw [pN_SI hI.1 (by decide)] at kf
    unfold f_Scribe_numberSymbols_200
    rw [C11r0 o13 (GR_r (v := 147) hR (by decide)), bs, C3r2 o47 (GR_r (v := 143) hR (by decide)), bs, C6g2 (G143 hS0), bs, e2 τ hI.1, if_neg (nI_ge (by omega) (by omega)), bs, C3r3 o47 (GR_r (v := 148) hR (by decide)), bs, bs, C3r2 o47 (GR_r (v := 143) hR (by decide)), bs, c_o (G143 hS0), bs, eAt, xb_mk, c_o (G148 hS0), bs, kf, xb_mk, c_o o13, bs, nI_add]
    refine sz_x (z_list1 h3 hl h1 h2 hI) (fun _ τ1 _ i1 => ih (k + 1) f τ1 (by omega) (by omega) (NLc_mono i1 (fun i _ w => ?_)))
    rcases w with w | ⟨k', w', w1, w2, w3⟩ | ⟨t', j', w1, w2⟩
    · exact Or.inl (Or.inl w)
    · by_cases e : k' = k
      · subst e
        rw [hkw] at w2
        rw [← Option.some.inj w2] at w3
        exact Or.inr w3
      · exact Or.inl (Or.inr (Or.inl ⟨k', w', by omega, w2, w3⟩))
    · omega
theorem z_ns169 {lc : Nat} (h3 : S3 sk L own τ0 fs s xs ST rn ws) (hF : 65540 < F) (h1 : 1 ≤ lc) (h2 : lc ≤ 8192) (hall : ∀ i, i < xs.length → mgC fs s xs ws s.1.2.2.1.length ws.length s.2.2.1.length 0 i) (hws : ∀ w, w ∈ ws → w ∈ xs.map Prod.fst) (hod : ∀ d, d ∈ s.1.2.2.1 → d < xs.length) : ∀ (d k f : Nat) (τ : px_TT), k + d = s.1.2.2.1.length → d < f → NLc sk L τ0 xs.length lc (mgC fs s xs ws k 0 0 0) τ → Sf sk L (NLc sk L τ0 xs.length lc (fun _ => True)) (fun v => v = nI (lc + xs.length)) (f_Scribe_numberSymbols_169 F c f 1713 (nI k) (cH sk L τ)) := by
  have h0 := h3.1.1.1
  have hS0 := h0.1
  have o13 := G1713 h0.1
  have o47 := G147 h0.1
  have hT := S3_T h3
  have hwl : ws.length ≤ 16 := h3.2.2.2.2.2.2.1
  have hol : s.1.2.2.1.length ≤ 4128 := by
    have := h3.2.1.2.2.2.2.1.1.2.2.2.1
    omega
  obtain ⟨_, _, c15, c93⟩ := h3.2.1.2.2.2.1.2.1
  have e15 : ∀ τ, SI none sk L τ0 τ → fI τ 147 15 = nI s.1.2.2.1.length := fun τ hI => (SI_147 hI (by decide)).trans c15
  intro d
  induction d with
  | zero =>
    intro k f τ hk hf hI
    obtain ⟨f, rfl⟩ : ∃ y, f = y + 1 := ⟨f - 1, by omega⟩
    obtain rfl : k = s.1.2.2.1.length := by omega
    have hR := GR_Z h0.2.1 hI.1.1
    unfold f_Scribe_numberSymbols_169 f_Scribe_numberSymbols_198
    rw [C11r0 o13 (GR_r (v := 147) hR (by decide)), bs, C3g15 o47, bs, e15 τ hI.1, if_pos (nI_le (by omega) (by omega))]
    exact z_ns200 h3 hF h1 h2 hall hws ws.length 0 F τ (Nat.zero_add _) (by omega) hI
  | succ d ih =>
    intro k f τ hk hf hI
    obtain ⟨f, rfl⟩ : ∃ y, f = y + 1 := ⟨f - 1, by omega⟩
    have hR := GR_Z h0.2.1 hI.1.1
    have hkd : s.1.2.2.1[k]? = some s.1.2.2.1[k] := List.getElem?_eq_getElem (by omega)
    have hd := hod _ (List.mem_of_getElem? hkd)
    have d2 : eN τ 1693 k = some (pN τ0 149 s.1.2.2.1[k]) := by rw [hI.1.1.2.2.2.2.2 1693 (by decide)]; exact (c93 k _ hkd).2
    have eD : f_Link_definedAt F c 147 (nI k) (cH sk L τ) = some (some (pN τ0 149 s.1.2.2.1[k]), cH sk L τ) := by
      unfold f_Link_definedAt f_Link_definedAt_31 f_Link_definedAt_47
      rw [if_neg (nI_n0 (by omega)), C3g15 o47, bs, e15 τ hI.1, if_neg (nI_ge (by omega) (by omega)), C3r9 o47 (GR_r (v := 1693) hR (by decide)), bs, c_l (G1693 hS0) (by decide), bs, if_neg (nI_ge (by omega) (by decide)), bs, c_aN (G1693 hS0) (Or.inr (Or.inl rfl)) (by decide) (by omega), bs, d2]
    unfold f_Scribe_numberSymbols_169
    rw [C11r0 o13 (GR_r (v := 147) hR (by decide)), bs, C3g15 o47, bs, e15 τ hI.1, if_neg (nI_ge (by omega) (by omega)), bs, c_o o47, bs, eD, xb_mk, c_o o13, bs, nI_add]
    refine sz_x (z_list1 h3 hd h1 h2 hI) (fun _ τ1 _ i1 => ih (k + 1) f τ1 (by omega) (by omega) (NLc_mono i1 (fun i _ w => ?_)))
    rcases w with ⟨k', w1, w2⟩ | ⟨k', w', w1, w2⟩ | ⟨t', j', w1, w2⟩
    · by_cases e : k' = k
      · subst e
        rw [hkd] at w2
        exact Or.inr (Option.some.inj w2).symm
      · exact Or.inl (Or.inl ⟨k', by omega, w2⟩)
    · omega
    · omega
theorem z_ns132 {lc : Nat} (h3 : S3 sk L own τ0 fs s xs ST rn ws) (hF : 65540 < F) (h1 : 1 ≤ lc) (h2 : lc ≤ 8192) (hall : ∀ i, i < xs.length → mgC fs s xs ws s.1.2.2.1.length ws.length s.2.2.1.length 0 i) (hws : ∀ w, w ∈ ws → w ∈ xs.map Prod.fst) (hod : ∀ d, d ∈ s.1.2.2.1 → d < xs.length) : ∀ (d k f : Nat) (τ : px_TT), k + d = xs.length → d < f → SI none sk L τ0 τ → fI τ 1713 7 = nI lc → fI τ 1713 6 = nI 0 → (∀ i, i < k → fI τ (pN τ0 149 i) 17 = 0) → Sf sk L (NLc sk L τ0 xs.length lc (fun _ => True)) (fun v => v = nI (lc + xs.length)) (f_Scribe_numberSymbols_132 F c f 1713 (nI k) (cH sk L τ)) := by
  have h0 := h3.1.1.1
  have hS0 := h0.1
  have o13 := G1713 h0.1
  have o47 := G147 h0.1
  obtain ⟨n1, n2, n3, n4, n5, n6, n7⟩ := h3.2.1.2.2.2.1.2.1.1
  rw [List.length_map] at n4 n6
  have hol : s.1.2.2.1.length ≤ 4128 := by
    have := h3.2.1.2.2.2.2.1.1.2.2.2.1
    have := S3_T h3
    omega
  have e2 : ∀ τ, SI none sk L τ0 τ → fI τ 148 2 = nI xs.length := fun τ hI => (hI.1.1 148 2 (Zc_no (by omega)) (by omega) (by omega) (by omega) (by omega)).trans n6
  intro d
  induction d with
  | zero =>
    intro k f τ hk hf hI e7 e6 hz
    obtain ⟨f, rfl⟩ : ∃ y, f = y + 1 := ⟨f - 1, by omega⟩
    obtain rfl : k = xs.length := by omega
    have hR := GR_Z h0.2.1 hI.1
    unfold f_Scribe_numberSymbols_132 f_Scribe_numberSymbols_167
    rw [C11r0 o13 (GR_r (v := 147) hR (by decide)), bs, C3r3 o47 (GR_r (v := 148) hR (by decide)), bs, C6g2 (G148 hS0), bs, e2 τ hI, if_pos (nI_le (by omega) (by omega))]
    refine z_ns169 h3 hF h1 h2 hall hws hod s.1.2.2.1.length 0 F τ (Nat.zero_add _) (by omega) ⟨hI, [], ⟨⟨e7, e6⟩, List.nodup_nil, fun i h => (by cases h), fun i hi => ⟨fun _ h => (by cases h), fun _ => hz i hi⟩, fun k i h => (by cases h)⟩, fun i _ w => ?_⟩
    rcases w with ⟨k', w1, w2⟩ | ⟨k', w', w1, w2⟩ | ⟨t', j', w1, w2⟩
    · omega
    · omega
    · omega
  | succ d ih =>
    intro k f τ hk hf hI e7 e6 hz
    obtain ⟨f, rfl⟩ : ∃ y, f = y + 1 := ⟨f - 1, by omega⟩
    have hR := GR_Z h0.2.1 hI.1
    obtain ⟨ek, hp⟩ := z_nmAt h3 (show k < xs.length by omega)
    have hge := hp.1
    have eAt : f_Names_at F c 148 (nI k) (cH sk L τ) = some (some (pN τ0 149 k), cH sk L τ) := by
      unfold f_Names_at f_Names_at_31 f_Names_at_44
      rw [if_neg (nI_pos (by omega)), C6g2 (G148 hS0), bs, e2 τ hI, if_neg (nI_ge (by omega) (by omega)), C6r0 (G148 hS0) (GR_r (v := 149) hR (by decide)), bs, c_l (G149 hS0) (by decide), bs, if_neg (nI_ge (by omega) (by omega)), bs, c_aN (G149 hS0) (Or.inr (Or.inl rfl)) (by decide) (by omega), bs, hI.1.2.2.2.2.2 149 (by decide), ek]
    unfold f_Scribe_numberSymbols_132
    rw [C11r0 o13 (GR_r (v := 147) hR (by decide)), bs, C3r3 o47 (GR_r (v := 148) hR (by decide)), bs, C6g2 (G148 hS0), bs, e2 τ hI, if_neg (nI_ge (by omega) (by omega)), bs, C3r3 o47 (GR_r (v := 148) hR (by decide)), bs, c_o (G148 hS0), bs, eAt, xb_mk, bs, c_pI hp.2.1 (by decide) (by decide), bs, nI_add]
    refine ih (k + 1) f _ (by omega) (by omega) (SI_tI hI (Or.inr (Or.inr (Or.inr (Or.inr (Or.inl ⟨hge, rfl⟩)))))) ((tI_ne (Or.inl (by omega))).trans e7) ((tI_ne (Or.inl (by omega))).trans e6) (fun i hi => ?_)
    by_cases e : pN τ0 149 i = pN τ0 149 k
    · rw [e, tI_at]; rfl
    · rw [tI_ne (Or.inl e)]
      refine hz i ?_
      by_cases e2 : i = k
      · subst e2; exact absurd rfl e
      · omega
theorem z_ns27 {lc : Nat} {k4 : Nat → Int32 → Int32 → px_H → Option (Int32 × px_H)} (h3 : S3 sk L own τ0 fs s xs ST rn ws) (hF : 65540 < F) (ht : t < s.2.2.1.length) {q : Nat} (o7 : ob sk L 7 (10 + 2 * q)) (hq : ∀ τ, SI none sk L τ0 τ → fI τ (10 + 2 * q) 11 = nI (oM (tB fs s.2.2.1 t))) (hk : ∀ τ, SI none sk L τ0 τ → Sf sk L J V (k4 1713 (nI lc) (nI (t + 1)) (cH sk L τ))) : ∀ (d j f u : Nat) (τ : px_TT), j + d = oM (tB fs s.2.2.1 t) → d < f → itr (lc1 (tB fs s.2.2.1 t)) j d u = lc → SI none sk L τ0 τ → Sf sk L J V (f_Scribe_numberSymbols_27 F c k4 f 1713 (nI u) (nI t) (some (10 + 2 * q)) (nI j) (cH sk L τ)) := by
  have h0 := h3.1.1.1
  have o13 := G1713 h0.1
  have o47 := G147 h0.1
  have hT := S3_T h3
  have hy := (TKe_ys h3.2.1 t ht).2.2
  intro d
  induction d with
  | zero =>
    intro j f u τ hj hf eS hI
    obtain ⟨f, rfl⟩ : ∃ y, f = y + 1 := ⟨f - 1, by omega⟩
    rw [itr_0] at eS
    subst eS
    unfold f_Scribe_numberSymbols_27 f_Scribe_numberSymbols_114
    rw [bs, C7g11 o7, bs, hq τ hI, if_pos (nI_le (by omega) (by omega)), nI_add]
    exact hk τ hI
  | succ d ih =>
    intro j f u τ hj hf eS hI
    obtain ⟨f, rfl⟩ : ∃ y, f = y + 1 := ⟨f - 1, by omega⟩
    have hR := GR_Z h0.2.1 hI.1
    obtain ⟨kn, _, h64⟩ := k_nameOf2 (F := F) (c := c) (j := j) (TKe_Zf h3.2.1 hI.1) ht (by omega)
    rw [itr_s] at eS
    have next : ∀ (u' : Nat) τ, lc1 (tB fs s.2.2.1 t) j u = u' → SI none sk L τ0 τ → Sf sk L J V (f_Scribe_numberSymbols_27 F c k4 f 1713 (nI u') (nI t) (some (10 + 2 * q)) (nI (j + 1)) (cH sk L τ)) := fun u' τ e hI => ih (j + 1) f u' τ (by omega) (by omega) (by rw [← e]; exact eS) hI
    unfold f_Scribe_numberSymbols_27
    rw [bs, C7g11 o7, bs, hq τ hI, if_neg (nI_ge (by omega) (by omega)), if_neg (nI_ge (by omega) (by omega)), C11r0 o13 (GR_r (v := 147) hR (by decide)), bs, c_o o47, bs, kn, xb_mk]
    unfold syN
    by_cases ch : hsN (tB fs s.2.2.1 t) j = true
    · rw [if_pos ch]
      dsimp only
      have e1 : lc1 (tB fs s.2.2.1 t) j u = u := by unfold lc1; rw [ch, if_neg (fun w => by cases w.2)]
      unfold f_Scribe_numberSymbols_61 f_Scribe_numberSymbols_88 f_Scribe_numberSymbols_89 f_Scribe_numberSymbols_105 f_Scribe_numberSymbols_106
      rw [C11r4 o13 (GR_r (v := 1716) hR (by decide)), bs, if_pos (show (nI 0 : Int32) = 0 from rfl), show nI t * nI 64 = nI (t * 64) from (Int32.ofNat_mul t 64).symm, nI_add]
      refine sw_sI h0 hI (by omega) (fun τ1 i1 => ?_)
      rw [if_pos (show (nI 0 : Int32) = 0 from rfl), nI_add, nI_add, Nat.add_zero]
      exact next u τ1 e1 i1
    · rw [if_neg ch]
      dsimp only
      have ch := Bool.eq_false_iff.mpr ch
      by_cases cj : 1 ≤ j
      · have e1 : lc1 (tB fs s.2.2.1 t) j u = u + 1 := by unfold lc1; rw [if_pos ⟨cj, ch⟩]
        unfold f_Scribe_numberSymbols_61 f_Scribe_numberSymbols_89 f_Scribe_numberSymbols_106
        rw [C11r4 o13 (GR_r (v := 1716) hR (by decide)), bs, if_neg (show ¬ (nI 1 : Int32) = 0 by decide), if_neg (show ¬ nI j ≤ 0 from nI_ge (a := 0) (by omega) (by omega)), show nI t * nI 64 = nI (t * 64) from (Int32.ofNat_mul t 64).symm, nI_add]
        refine sw_sI h0 hI (by omega) (fun τ1 i1 => ?_)
        rw [if_neg (show ¬ (nI 1 : Int32) = 0 by decide), if_neg (show ¬ nI j ≤ 0 from nI_ge (a := 0) (by omega) (by omega)), nI_add, nI_add]
        exact next (u + 1) τ1 e1 i1
      · obtain rfl : j = 0 := by omega
        have e1 : lc1 (tB fs s.2.2.1 t) 0 u = u := by unfold lc1; rw [if_neg (by omega)]
        unfold f_Scribe_numberSymbols_61 f_Scribe_numberSymbols_88 f_Scribe_numberSymbols_89 f_Scribe_numberSymbols_105 f_Scribe_numberSymbols_106
        rw [C11r4 o13 (GR_r (v := 1716) hR (by decide)), bs, if_neg (show ¬ (nI 1 : Int32) = 0 by decide), if_pos (show (nI 0 : Int32) ≤ 0 by decide), show nI t * nI 64 = nI (t * 64) from (Int32.ofNat_mul t 64).symm, nI_add]
        refine sw_sI h0 hI (by omega) (fun τ1 i1 => ?_)
        rw [if_neg (show ¬ (nI 1 : Int32) = 0 by decide), if_pos (show (nI 0 : Int32) ≤ 0 by decide), nI_add, nI_add, Nat.add_zero]
        exact next u τ1 e1 i1
theorem lc_b {b : Nat → Nat} : ∀ (d j u : Nat), itr (lc1 b) j d u ≤ u + d ∧ u ≤ itr (lc1 b) j d u := by
  intro d
  induction d with
  | zero => intro j u; rw [itr_0]; omega
  | succ d ih =>
    intro j u
    rw [itr_s]
    have h := ih (j + 1) (lc1 b j u)
    have h1 : lc1 b j u = u ∨ lc1 b j u = u + 1 := by
      unfold lc1
      split
      · exact Or.inr rfl
      · exact Or.inl rfl
    omega
theorem lcT_b {tb : Nat → Nat → Nat} {T : Nat} (hM : ∀ t, t < T → oM (tb t) ≤ 64) : ∀ (d t u : Nat), t + d ≤ T → itr (lcO tb) t d u ≤ u + 64 * d ∧ u ≤ itr (lcO tb) t d u := by
  intro d
  induction d with
  | zero => intro t u _; rw [itr_0]; omega
  | succ d ih =>
    intro t u h
    rw [itr_s]
    have h1 := ih (t + 1) (lcO tb t u) (by omega)
    have h2 := lc_b (b := tb t) (oM (tb t) - 1) 1 u
    have h3 := hM t (by omega)
    have h4 : lcO tb t u = itr (lc1 (tb t)) 1 (oM (tb t) - 1) u := rfl
    omega
theorem z_ns4 {lc : Nat} (h3 : S3 sk L own τ0 fs s xs ST rn ws) (hF : 65540 < F) (h1 : 1 ≤ lc) (h2 : lc ≤ 8192) (hall : ∀ i, i < xs.length → mgC fs s xs ws s.1.2.2.1.length ws.length s.2.2.1.length 0 i) (hws : ∀ w, w ∈ ws → w ∈ xs.map Prod.fst) (hod : ∀ d, d ∈ s.1.2.2.1 → d < xs.length) : ∀ (d t f u : Nat) (τ : px_TT), t + d = s.2.2.1.length → d < f → itr (lcO (tB fs s.2.2.1)) t d u = lc → SI none sk L τ0 τ → Sf sk L (NLc sk L τ0 xs.length lc (fun _ => True)) (fun v => v = nI (lc + xs.length)) (f_Scribe_numberSymbols_4 F c f 1713 (nI u) (nI t) (cH sk L τ)) := by
  have h0 := h3.1.1.1
  have o13 := G1713 h0.1
  have o47 := G147 h0.1
  have hT := S3_T h3
  have hxl : xs.length ≤ 4128 := by have := h3.2.1.2.2.2.1.2.1.1.2.2.2.1; rw [List.length_map] at this; exact this
  intro d
  induction d with
  | zero =>
    intro t f u τ hj hf eS hI
    obtain ⟨f, rfl⟩ : ∃ y, f = y + 1 := ⟨f - 1, by omega⟩
    rw [itr_0] at eS
    subst eS
    unfold f_Scribe_numberSymbols_4 f_Scribe_numberSymbols_120
    rw [C11r0 o13 (GR_r (v := 147) (GR_Z h0.2.1 hI.1) (by decide)), bs, C3g14 o47, bs, z_tkn h3 hI, if_pos (nI_le (by omega) (by omega)), c_pI o13 (by decide) (by decide), bs, c_pI o13 (by decide) (by decide), bs]
    exact z_ns132 h3 hF h1 h2 hall hws hod xs.length 0 F _ (Nat.zero_add _) (by omega) (SI_cnt (SI_tI hI (by omega))) ((tI_ne (Or.inr (by decide))).trans tI_at) tI_at (fun i hi => absurd hi (Nat.not_lt_zero i))
  | succ d ih =>
    intro t f u τ hj hf eS hI
    obtain ⟨f, rfl⟩ : ∃ y, f = y + 1 := ⟨f - 1, by omega⟩
    have ht : t < s.2.2.1.length := by omega
    have hy := (TKe_ys h3.2.1 t ht).2.2
    obtain ⟨q, q2, o7, hq⟩ := z_obj (F := F) (c := c) h3 ht
    rw [itr_s] at eS
    unfold f_Scribe_numberSymbols_4
    rw [C11r0 o13 (GR_r (v := 147) (GR_Z h0.2.1 hI.1) (by decide)), bs, C3g14 o47, bs, z_tkn h3 hI, if_neg (nI_ge (by omega) (by omega)), bs, c_o o47, bs, (hq τ hI).1, xb_mk]
    exact z_ns27 h3 hF ht o7 (fun τ hI => (hq τ hI).2.2.1) (lc := lcO (tB fs s.2.2.1) t u) (fun τ hI => ih (t + 1) f _ τ (by omega) (by omega) eS hI) _ 0 F u τ (Nat.zero_add _) (by omega) lc_cut hI
theorem z_nsyms (h3 : S3 sk L own τ0 fs s xs ST rn ws) (hF : 65540 < F) (hall : ∀ i, i < xs.length → mgC fs s xs ws s.1.2.2.1.length ws.length s.2.2.1.length 0 i) (hws : ∀ w, w ∈ ws → w ∈ xs.map Prod.fst) (hod : ∀ d, d ∈ s.1.2.2.1 → d < xs.length) (hI : SI none sk L τ0 τ) : Sf sk L (NLc sk L τ0 xs.length (lcT s.2.2.1.length (tB fs s.2.2.1)) (fun _ => True)) (fun v => v = nI (lcT s.2.2.1.length (tB fs s.2.2.1) + xs.length)) (f_Scribe_numberSymbols F c 1713 (cH sk L τ)) := by
  have hT := S3_T h3
  have hb := lcT_b (tb := tB fs s.2.2.1) (T := s.2.2.1.length) (fun t ht => (TKe_ys h3.2.1 t ht).2.2) s.2.2.1.length 0 1 (by omega)
  have e : lcT s.2.2.1.length (tB fs s.2.2.1) = itr (lcO (tB fs s.2.2.1)) 0 s.2.2.1.length 1 := rfl
  exact z_ns4 h3 hF (by omega) (by omega) hall hws hod s.2.2.1.length 0 F 1 τ (Nat.zero_add _) (by omega) rfl hI
end CMX
end
section
/-! the class's merge: how many bytes it writes (steps spelled out by sf/pp.py) -/
/-- .. and the scribe's own cells are as they were at τ1 -/
def SQm (sk : Nat → Nat × Nat × Nat) (L : Nat) (τ0 τ1 : px_TT) (r cc U : Nat) (τ : px_TT) : Prop := ((SI none sk L τ0 τ ∧ rz τ r 65536 cc ∧ True) ∧ rz τ 1714 1536 U) ∧ (∀ k, fI τ 1713 k = fI τ1 1713 k) ∧ eN τ 1717 = eN τ1 1717
section CMZ
variable {F : Nat} {c : px_CT} {sk : Nat → Nat × Nat × Nat} {L : Nat} {τ0 τ1 τ : px_TT} {own : Nat → Nat × Nat} {fs : px_FS} {s : px_TK} {xs : px_NL} {ST rn : Nat → Bool} {ws : List (List Nat)} {t r A cc U : Nat}
theorem y_r {β : Type} {m : Option (β × px_H)} {v : β} {cc' : Nat} (hr : TRw r A 65536) (hI : SQm sk L τ0 τ1 r cc U τ) (h : ∃ τ', m = some (v, cH sk L τ') ∧ rowOK sk L τ' r A 65536 ∧ frRw r A τ τ' ∧ rz τ' r 65536 cc') : Sf sk L (SQm sk L τ0 τ1 r cc' U) Any m := by
  obtain ⟨τ', e, h1, h2, h3⟩ := h
  have hr' : r ≠ 1714 ∧ r ≠ 1713 := by unfold TRw at hr; omega
  exact ⟨v, τ', e, any, ⟨⟨SI_Rw hI.1.1.1 hr h2 h1, h3, trivial⟩, rz_fr hI.1.2 (fun k => h2.1 1714 k (Or.inl (Ne.symm hr'.1)))⟩, fun k => (h2.1 1713 k (Or.inl (Ne.symm hr'.2))).trans (hI.2.1 k), (h2.2.2.2.2.2 1717).trans hI.2.2⟩
theorem y_14 {β : Type} {m : Option (β × px_H)} {v : β} {U' : Nat} (hr : TRw r A 65536) (hI : SQm sk L τ0 τ1 r cc U τ) (h : ∃ τ', m = some (v, cH sk L τ') ∧ rowOK sk L τ' 1714 1715 1536 ∧ frRw 1714 1715 τ τ' ∧ rz τ' 1714 1536 U') : Sf sk L (SQm sk L τ0 τ1 r cc U') Any m := by
  obtain ⟨τ', e, h1, h2, h3⟩ := h
  have hr' : r ≠ 1714 := by unfold TRw at hr; omega
  exact ⟨v, τ', e, any, ⟨⟨SI_Rw hI.1.1.1 T14 h2 h1, rz_fr hI.1.1.2.1 (fun k => h2.1 r k (Or.inl hr')), trivial⟩, h3⟩, fun k => (h2.1 1713 k (Or.inl (by decide))).trans (hI.2.1 k), (h2.2.2.2.2.2 1717).trans hI.2.2⟩
theorem y_put {v : Int64} {k : Nat} (hF : 65540 < F) (hr : TRw r A 65536) (hk : k ≤ 8) (hI : SQm sk L τ0 τ1 r cc U τ) : Sf sk L (SQm sk L τ0 τ1 r (cc + k) U) Any (f_Row_put F c r (nI k) v (cH sk L τ)) := y_r hr hI (k_putZ (by omega) (by omega) (SI_row hI.1.1.1 hr) hI.1.1.2.1)
theorem y_pu4 {v : Int64} {k : Nat} (hF : 65540 < F) (hr : TRw r A 65536) (hk : k ≤ 8) (hI : SQm sk L τ0 τ1 r cc U τ) : Sf sk L (SQm sk L τ0 τ1 r cc (U + k)) Any (f_Row_put F c 1714 (nI k) v (cH sk L τ)) := y_14 hr hI (k_putZ (by omega) (by omega) (SI_row hI.1.1.1 T14) hI.1.2)
theorem y_set {v : Int64} {k : Nat} {p : Int32} (hF : 65540 < F) (hr : TRw r A 65536) (hk : k ≤ 8) (hI : SQm sk L τ0 τ1 r cc U τ) : Sf sk L (SQm sk L τ0 τ1 r cc U) Any (f_Row_set F c r p (nI k) v (cH sk L τ)) := by
  obtain ⟨τ', e, h1, h2, h3⟩ := k_setZ (F := F) (c := c) (v := v) (k := k) (p := p) (by omega) (by omega) (SI_row hI.1.1.1 hr)
  exact y_r hr hI ⟨τ', e, h1, h2, rz_fr hI.1.1.2.1 (fun k => h3 r k)⟩
theorem y_wto {p w : Nat} (hF : 65540 < F) (hr : TRw r A 65536) (hp : ob sk L 5 p) (hpr : p ≠ r) (hw : w ≤ 24) (ew : fI τ p 3 = nI w) (hI : SQm sk L τ0 τ1 r cc U τ) : Sf sk L (SQm sk L τ0 τ1 r (cc + w) U) Any (f_Name_writeTo F c p r (cH sk L τ)) := y_r hr hI (k_writeToZ (by omega) hp hpr hw ew (SI_row hI.1.1.1 hr) hI.1.1.2.1)
theorem y_fill {w : Int32} {k : Nat} (hF : 65540 < F) (hr : TRw r A 65536) (hk : 1 ≤ k) (hk2 : k ≤ 64) (hI : SQm sk L τ0 τ1 r cc U τ) : Sf sk L (SQm sk L τ0 τ1 r (cc + k) U) Any (f_Row_fillTo F c r ((fI τ r 1 + nI k).toInt64) w (cH sk L τ)) := by
  have hro := SI_row hI.1.1.1 hr
  obtain ⟨z, hz, ez⟩ := hro.2.2.2.2.1
  have hn := hro.2.2.1
  rw [ez, nI_add, nI_l (by omega)]
  exact y_r hr hI (k_fillToZ (by omega) (by omega) hro hI.1.1.2.1 hk (fun q => by rw [rz_z hI.1.1.2.1 hn hz ez q]))
theorem y_copy {S N q m : Nat} (hr : TRw r A 65536) (hS : ar sk L 0 N S) (hN : N ≤ 65536) (hB : ∀ k, isB (eI τ S k)) (hqm : q + m ≤ N) (hI : SQm sk L τ0 τ1 r cc U τ) : Sf sk L (SQm sk L τ0 τ1 r (cc + m) U) Any (f_Row_copy F c r S (nI q) (nI m) (cH sk L τ)) := y_r hr hI (k_copyZ hS hN hB hqm (SI_row hI.1.1.1 hr) hI.1.1.2.1)
theorem y_next (hF : 65540 < F) (hr : TRw r A 65536) (hI : SQm sk L τ0 τ1 r cc U τ) : Sf sk L (SQm sk L τ0 τ1 r (wiN cc) U) Any (f_Scribe_nextPlace F c r (cH sk L τ)) := by
  have hro := SI_row hI.1.1.1 hr
  obtain ⟨z, hz, ez⟩ := hro.2.2.2.2.1
  have hn := hro.2.2.1
  have hu := wiN_b z
  have hw := wiN_b cc
  have ex : cc ≤ 65536 → wiN z = wiN cc := fun q => by rw [rz_z hI.1.1.2.1 hn hz ez q]
  have key : Sf sk L (SQm sk L τ0 τ1 r (wiN cc) U) Any (f_Row_fillTo F c r (lN (wiN z)) (nI 0) (cH sk L τ)) := by
    by_cases ce : wiN cc = cc
    · have h := y_r hr hI (k_fill0Z (F := F) (c := c) (e := wiN z) (cc := cc) (w := nI 0) (by omega) (by omega) hro hI.1.1.2.1 (fun q => (ex q).trans ce))
      rw [ce]
      exact h
    · have h := y_r hr hI (k_fillToZ (F := F) (c := c) (e := wiN z) (cc := cc) (k := wiN cc - cc) (w := nI 0) (by omega) (by omega) hro hI.1.1.2.1 (by omega) (fun q => by rw [ex q]; omega))
      rw [show cc + (wiN cc - cc) = wiN cc by omega] at h
      exact h
  unfold f_Scribe_nextPlace
  rw [C10g1 hro.1, bs, ez, nI_l (by omega), show (8 : Int64) = lN (2 ^ 3) from rfl, k_up (by decide) (by omega), xb_mk, c_o hro.1, bs, up8]
  refine sz_x key (fun _ τ2 _ i2 => ?_)
  rw [C10g1 hro.1, bs]
  exact sf_r any i2
theorem y_sym {a1 a2 a3 : Int32} {a4 a6 : Int64} (hF : 65540 < F) (hr : TRw r A 65536) (hI : SQm sk L τ0 τ1 r cc U τ) : Sf sk L (SQm sk L τ0 τ1 r (cc + 24) U) Any (f_Scribe_putSymbol F c r a1 a2 a3 a4 a6 (cH sk L τ)) := by
  have orr := (SI_row hI.1.1.1 hr).1
  unfold f_Scribe_putSymbol
  rw [c_o orr, bs]
  refine sz_x (y_put hF hr (by decide) hI) (fun _ τ2 _ i2 => ?_)
  rw [c_o orr, bs]
  refine sz_x (y_put hF hr (by decide) i2) (fun _ τ3 _ i3 => ?_)
  rw [c_o orr, bs]
  refine sz_x (y_put hF hr (by decide) i3) (fun _ τ4 _ i4 => ?_)
  rw [c_o orr, bs]
  refine sz_x (y_put hF hr (by decide) i4) (fun _ τ5 _ i5 => ?_)
  rw [c_o orr, bs]
  refine sz_x (y_put hF hr (by decide) i5) (fun _ τ6 _ i6 => ?_)
  rw [c_o orr, bs]
  refine sz_x (y_put hF hr (by decide) i6) (fun _ τ7 _ i7 => ?_)
  exact sf_r any i7
theorem y_row {a1 a3 a5 a7 : Int64} {a9 a10 : Int32} (h0 : S0 sk L τ0) (hF : 65540 < F) (hr : TRw r A 65536) (hI : SQm sk L τ0 τ1 r cc U τ) : Sf sk L (SQm sk L τ0 τ1 r cc (U + 48)) Any (f_Scribe_putRow F c 1713 a1 a3 a5 a7 a9 a10 (cH sk L τ)) := by
  have o13 := G1713 h0.1
  have orr := (SI_row hI.1.1.1 T14).1
  have rd : ∀ τ, SI none sk L τ0 τ → fN τ 1713 3 = some 1714 := fun τ i => GR_r (GR_Z h0.2.1 i.1) (by decide)
  unfold f_Scribe_putRow
  rw [C11r3 o13 (rd _ hI.1.1.1), bs, c_o orr, bs]
  refine sz_x (y_pu4 hF hr (by decide) hI) (fun _ τ2 _ i2 => ?_)
  rw [C11r3 o13 (rd _ i2.1.1.1), bs, c_o orr, bs]
  refine sz_x (y_pu4 hF hr (by decide) i2) (fun _ τ3 _ i3 => ?_)
  rw [C11r3 o13 (rd _ i3.1.1.1), bs, c_o orr, bs]
  refine sz_x (y_pu4 hF hr (by decide) i3) (fun _ τ4 _ i4 => ?_)
  rw [C11r3 o13 (rd _ i4.1.1.1), bs, c_o orr, bs]
  refine sz_x (y_pu4 hF hr (by decide) i4) (fun _ τ5 _ i5 => ?_)
  rw [C11r3 o13 (rd _ i5.1.1.1), bs, c_o orr, bs]
  refine sz_x (y_pu4 hF hr (by decide) i5) (fun _ τ6 _ i6 => ?_)
  rw [C11r3 o13 (rd _ i6.1.1.1), bs, c_o orr, bs]
  refine sz_x (y_pu4 hF hr (by decide) i6) (fun _ τ7 _ i7 => ?_)
  rw [C11r3 o13 (rd _ i7.1.1.1), bs, c_o orr, bs]
  refine sz_x (y_pu4 hF hr (by decide) i7) (fun _ τ8 _ i8 => ?_)
  rw [C11r3 o13 (rd _ i8.1.1.1), bs, c_o orr, bs]
  refine sz_x (y_pu4 hF hr (by decide) i8) (fun _ τ9 _ i9 => ?_)
  exact sf_r any i9
theorem y_end {a1 : Int64} {a3 : Int32} (h0 : S0 sk L τ0) (hF : 65540 < F) (hr : TRw r A 65536) (hI : SQm sk L τ0 τ1 r cc U τ) : Sf sk L (SQm sk L τ0 τ1 r cc (U + 16)) Any (f_Scribe_endRow F c 1713 a1 a3 (cH sk L τ)) := by
  have o13 := G1713 h0.1
  have orr := (SI_row hI.1.1.1 T14).1
  have rd : ∀ τ, SI none sk L τ0 τ → fN τ 1713 3 = some 1714 := fun τ i => GR_r (GR_Z h0.2.1 i.1) (by decide)
  unfold f_Scribe_endRow
  rw [C11r3 o13 (rd _ hI.1.1.1), bs, c_o orr, bs]
  refine sz_x (y_pu4 hF hr (by decide) hI) (fun _ τ2 _ i2 => ?_)
  rw [C11r3 o13 (rd _ i2.1.1.1), bs, c_o orr, bs]
  refine sz_x (y_pu4 hF hr (by decide) i2) (fun _ τ3 _ i3 => ?_)
  exact sf_r any i3
/-- an object's sections -/
theorem y_mp12 {q : Nat} (h3 : S3 sk L own τ0 fs s xs ST rn ws) (hF : 65540 < F) (hr : TRw r A 65536) (ht : t < s.2.2.1.length) (hk : STk fs s ST) (o7 : ob sk L 7 (10 + 2 * q)) (hq : ∀ τ, SI none sk L τ0 τ → f_Link_object F c 147 (nI t) (cH sk L τ) = some (some (10 + 2 * q), cH sk L τ) ∧ fI τ (10 + 2 * q) 8 = nI (oS (tB fs s.2.2.1 t)) ∧ fI τ (10 + 2 * q) 11 = nI (oM (tB fs s.2.2.1 t)) ∧ cD sk L τ (10 + 2 * q) (11 + 2 * q) (bsO fs q) (tNf fs s.2.2.1 t) (eI τ 8) ∧ cb (eI τ 8) (bsO fs q) (tNf fs s.2.2.1 t) = tB fs s.2.2.1 t) (q1 : s.2.2.1.getD t 0 = q) (q2 : q < 64) {S : Nat × Nat} : ∀ (d i f : Nat) (u : Nat × Nat) (τ : px_TT), i + d = oS (tB fs s.2.2.1 t) → d < f → itr (mg1 (tB fs s.2.2.1 t) (mgp ST t)) i d u = S → SQm sk L τ0 τ1 r u.2 (64 * u.1) τ → Sf sk L (SQm sk L τ0 τ1 r S.2 (64 * S.1)) Any (f_Scribe_mergeParts_12 F c f 1713 r (nI t) (some (10 + 2 * q)) (nI i) (cH sk L τ)) := by
  have h0 := h3.1.1.1
  have o13 := G1713 h0.1
  have o47 := G147 h0.1
  have hT := S3_T h3
  have hy := (TKe_ys h3.2.1 t ht).2.1
  obtain ⟨_, _, _, _, _, he, _⟩ := TKe_ob h3.2.1 ht
  obtain ⟨hw2, _, _⟩ := eObj_0 he
  intro d
  induction d with
  | zero =>
    intro i f u τ hj hf eS hI
    obtain ⟨f, rfl⟩ : ∃ y, f = y + 1 := ⟨f - 1, by omega⟩
    rw [itr_0] at eS
    subst eS
    unfold f_Scribe_mergeParts_12 f_Scribe_mergeParts_121
    rw [bs, C7g8 o7, bs, (hq τ hI.1.1.1).2.1, if_pos (nI_le (by omega) (by omega))]
    exact sf_r any hI
  | succ d ih =>
    intro i f u τ hj hf eS hI
    obtain ⟨f, rfl⟩ : ∃ y, f = y + 1 := ⟨f - 1, by omega⟩
    have hS := hI.1.1.1
    have hTk := TKe_Zf h3.2.1 hS.1
    obtain ⟨op, p9, _⟩ := TKe_part hTk (x := 24 * t + i) (by omega)
    obtain ⟨_, e8, _, hD, hcb⟩ := hq τ hS
    have orr := (SI_row hS hr).1
    rw [itr_s] at eS
    unfold f_Scribe_mergeParts_12 f_Scribe_mergeParts_115
    rw [bs, C7g8 o7, bs, e8, if_neg (nI_ge (by omega) (by omega)), C11r0 o13 (GR_r (v := 147) (GR_Z h0.2.1 hS.1) (by decide)), bs, c_o o47, bs, k_part h0.1 (GR_Z h0.2.1 hS.1) (by omega) (by omega), xb_mk, bs, C8g9 op, bs, p9]
    cases es : ST (24 * t + i) with
    | false =>
      rw [mg1_f (p := mgp ST t) es] at eS
      rw [if_pos (show bI false = 0 from rfl), nI_add]
      exact ih (i + 1) f u τ (by omega) (by omega) eS hI
    | true =>
      rw [mg1_t (p := mgp ST t) es] at eS
      have hx : 24 * t + i < 24 * s.2.2.1.length := by omega
      have ed : (24 * t + i) / 24 = t := by omega
      have em : (24 * t + i) % 24 = i := by omega
      have hkp := (hk _ hx es).1
      rw [ed, em] at hkp
      have hkK := (Bool.and_eq_true _ _).mp hkp
      have hiS : i < oS (tB fs s.2.2.1 t) := by omega
      have hz := (eObj_a he hiS hkK.2).1
      have pt : ∀ τ, SI none sk L τ0 τ → fI τ (152 + (24 * t + i)) 5 = nI (oZ (tB fs s.2.2.1 t) i) ∧ fI τ (152 + (24 * t + i)) 7 = nI (bsO fs q + oP (tB fs s.2.2.1 t) i) := fun τ hS => by
        obtain ⟨_, p5, _, p7, _⟩ := TKe_pt (TKe_Zf h3.2.1 hS.1) hk hx es
        unfold zS at p5
        unfold cAd at p7
        rw [ed, em] at p5 p7
        rw [q1] at p7
        exact ⟨p5, p7⟩
      have kT := k_T (F := F) (c := c) (i := i) hD.1.1.1 (by omega) (by rw [hcb]; exact hiS)
      rw [hcb] at kT
      have OBQ : OBq (10 + 2 * q) := ⟨q, q2, rfl⟩
      obtain ⟨vf, kf⟩ := so_flags (F := F) (c := c) (x := nI i) h0 hF hS OBQ
      rw [if_neg (show ¬ bI true = 0 by decide), c_o o7, bs, kT, xb_mk, c_o o7, bs, kf, xb_mk]
      refine sz_x (y_next hF hr hI) (fun _ τ2 _ i2 => ?_)
      rw [C8g5 op, bs, c_o o13, bs]
      refine sz_x (y_row h0 hF hr i2) (fun _ τ3 _ i3 => ?_)
      obtain ⟨va, ka⟩ := so_align (F := F) (c := c) (x := nI i) h0 hF i3.1.1.1 OBQ
      rw [c_o o7, bs, ka, xb_mk, c_o o13, bs]
      refine sz_x (y_end h0 hF hr i3) (fun _ τ4 _ i4 => ?_)
      have eU : 64 * u.1 + 48 + 16 = 64 * (u.1 + 1) := by omega
      rw [eU] at i4
      by_cases c8 : oT (tB fs s.2.2.1 t) i = 8
      · have ez : ptZ (tB fs s.2.2.1 t) i = 0 := by unfold ptZ; rw [if_pos c8]
        rw [ez, Nat.add_zero] at eS
        rw [c8, if_pos (show lN 8 = (8 : Int64) from rfl), nI_add]
        exact ih (i + 1) f _ τ4 (by omega) (by omega) eS i4
      · have ez : ptZ (tB fs s.2.2.1 t) i = oZ (tB fs s.2.2.1 t) i := by unfold ptZ; rw [if_neg c8]
        rw [ez] at eS
        have hK1 : oT (tB fs s.2.2.1 t) i = 1 := by
          have := hkK.2
          unfold oK at this
          have := (of_decide_eq_true this).1
          omega
        have hPZ := hw2.1.2.2.2.1 i hiS (by rw [hK1]; decide) c8
        have hbn : bsO fs q + tNf fs s.2.2.1 t ≤ 65536 := hD.1.1.1.1.2.2.2.2.2.2.2.2.1
        have hS4 := i4.1.1.1
        obtain ⟨p5, p7⟩ := pt τ4 hS4
        have hCF := (TKe_Zf h3.2.1 hS4.1).2.2.1
        have hB8 : ∀ k, isB (eI τ4 8 k) := hCF.2.2.1
        rw [hK1, if_neg (show ¬ lN 1 = (8 : Int64) by decide), C11r2 o13 (GR_r (v := 7) (GR_Z h0.2.1 hS4.1) (by decide)), bs, C10r0 (G7 h0.1) (GR_r (v := 8) (GR_Z h0.2.1 hS4.1) (by decide)), bs, C8g7 op, bs, C8g5 op, bs, p5, p7, c_o orr, bs]
        refine sz_x (y_copy hr (G8 h0.1) (by decide) hB8 (by omega) i4) (fun _ τ5 _ i5 => ?_)
        rw [nI_add]
        exact ih (i + 1) f _ τ5 (by omega) (by omega) eS i5
/-- freshSymbol only reads -/
theorem so_fresh {x : Int32} (h3 : S3 sk L own τ0 fs s xs ST rn ws) (hF : 65540 < F) (ht : t < s.2.2.1.length) (hI : SI none sk L τ0 τ) : Sf sk L (fun τ' => τ' = τ) Any (f_Scribe_freshSymbol F c 1713 (nI t) x (cH sk L τ)) := by
  have h0 := h3.1.1.1
  unfold f_Scribe_freshSymbol f_Scribe_freshSymbol_52 f_Scribe_freshSymbol_53
  repeat' (first | (exact sf_r any rfl) | ((with_reducible refine sf_aIF h0 ?_ (by with_unfolding_all exact rfl) ?_ ?_ ?_ (fun m hm em => ?_)); decide; decide; decide; exact ix_of (by assumption) (by assumption)) | exact absurd (show nI 0 = 0 from rfl) (by assumption) | exact absurd (show nI 1 = 0 by assumption) (by decide) | ((with_reducible refine sf_i (fun hc => ?_) (fun hc => ?_))) | ((with_reducible refine sf_gF h0 ?_ ?_ ?_ ?_ ?_); decide; decide; decide; decide) | ((with_reducible refine sf_gI ?_ ?_ ?_ ?_); (first | assumption | exact GS_o h0.1 (by decide) (by decide) | exact RRd_o h0 (by assumption) | exact RRd_o h0 (Or.inr (by assumption)) | exact OBq_o h0 (by assumption) | exact OBq_o h0 (Obt_q (by assumption)) | exact G_part h0.1 (by assumption) | exact Nmo_o (by assumption)); decide; decide) | ((with_reducible refine sf_gJ ?_ ?_ ?_ ?_); (first | assumption | exact GS_o h0.1 (by decide) (by decide) | exact RRd_o h0 (by assumption) | exact RRd_o h0 (Or.inr (by assumption)) | exact OBq_o h0 (by assumption) | exact OBq_o h0 (Obt_q (by assumption)) | exact G_part h0.1 (by assumption) | exact Nmo_o (by assumption)); decide; decide) | ((with_reducible refine sf_gN ?_ ?_ ?_ ?_); (first | assumption | exact GS_o h0.1 (by decide) (by decide) | exact RRd_o h0 (by assumption) | exact RRd_o h0 (Or.inr (by assumption)) | exact OBq_o h0 (by assumption) | exact OBq_o h0 (Obt_q (by assumption)) | exact G_part h0.1 (by assumption) | exact Nmo_o (by assumption)); decide; decide) | ((with_reducible refine sf_gG h0 (by assumption) ?_ ?_ ?_ ?_ (by with_unfolding_all exact rfl) ?_); decide; decide; decide; decide) | ((with_reducible refine sf_o ?_ (fun l => ?_)); (first | assumption | exact GS_o h0.1 (by decide) (by decide) | exact RRd_o h0 (by assumption) | exact RRd_o h0 (Or.inr (by assumption)) | exact OBq_o h0 (by assumption) | exact OBq_o h0 (Obt_q (by assumption)) | exact G_part h0.1 (by assumption) | exact Nmo_o (by assumption))) | ((with_reducible refine sf_s ?_)) | ((with_reducible refine sf_sb (by assumption) ?_)) | ((with_reducible refine sf_r ?_ ?_); (first | exact any | assumption | exact ⟨false, rfl⟩ | exact ⟨true, rfl⟩); assumption) | ((with_reducible refine sf_z ?_ ?_ ?_); (first | exact ⟨false, rfl⟩ | exact ⟨true, rfl⟩ | assumption); (first | exact any | exact ⟨false, rfl⟩ | exact ⟨true, rfl⟩ | assumption); assumption) | ((with_reducible refine sx_name h3 (by assumption) ?_ ?_ (fun p hp => ?_)); assumption) | ((with_reducible refine sf_lF h0 ?_ (by with_unfolding_all exact rfl) ?_ ?_); decide; decide) | (dsimp only))
theorem y_ms98 {k12 : Nat → Nat → Int32 → Option Nat → Int32 → px_H → Option (Unit × px_H)} {i n q : Nat} {J : px_TT → Prop} (h3 : S3 sk L own τ0 fs s xs ST rn ws) (hF : 65540 < F) (hr : TRw r A 65536) (ht : t < s.2.2.1.length) (hq : OBq q) (hn : n ≤ 65536) (hk : ∀ τ, SQm sk L τ0 τ1 r (cc + 24 * n) U τ → Sf sk L J Any (k12 1713 r (nI t) (some q) (nI (i + 1)) (cH sk L τ))) : ∀ (d j f : Nat) (a7 : Int32) (τ : px_TT), j + d = n → d < f → SQm sk L τ0 τ1 r (cc + 24 * j) U τ → Sf sk L J Any (f_Scribe_mergeSites_98 F c k12 f 1713 r (nI t) (some q) (nI i) (nI n) a7 (nI j) (cH sk L τ)) := by
  have h0 := h3.1.1.1
  have o13 := G1713 h0.1
  have o7 := OBq_o h0 hq
  intro d
  induction d with
  | zero =>
    intro j f a7 τ hj hf hI
    obtain ⟨f, rfl⟩ : ∃ y, f = y + 1 := ⟨f - 1, by omega⟩
    obtain rfl : j = n := by omega
    unfold f_Scribe_mergeSites_98 f_Scribe_mergeSites_182
    rw [if_pos (nI_le (by omega) (by omega)), nI_add]
    exact hk _ hI
  | succ d ih =>
    intro j f a7 τ hj hf hI
    obtain ⟨f, rfl⟩ : ∃ y, f = y + 1 := ⟨f - 1, by omega⟩
    have orr := (SI_row hI.1.1.1 hr).1
    unfold f_Scribe_mergeSites_98
    obtain ⟨v1, e1⟩ := so_num (F := F) (c := c) (x := a7) (k := 8) h0 hF hI.1.1.1 hq (by decide)
    rw [if_neg (nI_ge (by omega) (by omega)), bs, c_o o7, bs, e1, xb_mk, c_o orr, bs]
    refine sz_x (y_put hF hr (by decide) hI) (fun _ τ2 _ i2 => ?_)
    obtain ⟨v2, e2⟩ := so_num (F := F) (c := c) (x := a7 + nI 8) (k := 4) h0 hF i2.1.1.1 hq (by decide)
    rw [c_o o7, bs, e2, xb_mk, c_o orr, bs]
    refine sz_x (y_put hF hr (by decide) i2) (fun _ τ3 _ i3 => ?_)
    obtain ⟨v3, e3⟩ := so_num (F := F) (c := c) (x := a7 + nI 12) (k := 4) h0 hF i3.1.1.1 hq (by decide)
    rw [c_o o7, bs, e3, xb_mk, c_o o13, bs]
    obtain ⟨v4, τ4, e4, _, rfl⟩ := so_fresh (F := F) (c := c) (x := v3.toInt32) h3 hF ht i3.1.1.1
    rw [e4, xb_mk, c_o orr, bs]
    refine sz_x (y_put hF hr (by decide) i3) (fun _ τ5 _ i5 => ?_)
    obtain ⟨v6, e6⟩ := so_num (F := F) (c := c) (x := a7 + nI 16) (k := 8) h0 hF i5.1.1.1 hq (by decide)
    rw [c_o o7, bs, e6, xb_mk, c_o orr, bs]
    refine sz_x (y_put hF hr (by decide) i5) (fun _ τ6 _ i6 => ?_)
    rw [nI_add]
    refine ih (j + 1) f _ τ6 (by omega) (by omega) ?_
    rw [show cc + 24 * (j + 1) = cc + 24 * j + 8 + 4 + 4 + 8 by omega]
    exact i6
theorem y_ms12 {q : Nat} (h3 : S3 sk L own τ0 fs s xs ST rn ws) (hF : 65540 < F) (hr : TRw r A 65536) (ht : t < s.2.2.1.length) (o7 : ob sk L 7 (10 + 2 * q)) (hq : ∀ τ, SI none sk L τ0 τ → f_Link_object F c 147 (nI t) (cH sk L τ) = some (some (10 + 2 * q), cH sk L τ) ∧ fI τ (10 + 2 * q) 8 = nI (oS (tB fs s.2.2.1 t)) ∧ fI τ (10 + 2 * q) 11 = nI (oM (tB fs s.2.2.1 t)) ∧ cD sk L τ (10 + 2 * q) (11 + 2 * q) (bsO fs q) (tNf fs s.2.2.1 t) (eI τ 8) ∧ cb (eI τ 8) (bsO fs q) (tNf fs s.2.2.1 t) = tB fs s.2.2.1 t) (q2 : q < 64) {S : Nat × Nat} : ∀ (d i f : Nat) (u : Nat × Nat) (τ : px_TT), i + d = oS (tB fs s.2.2.1 t) → d < f → itr (mg1 (tB fs s.2.2.1 t) (mgq (tB fs s.2.2.1 t) ST t)) i d u = S → SQm sk L τ0 τ1 r u.2 (64 * u.1) τ → Sf sk L (SQm sk L τ0 τ1 r S.2 (64 * S.1)) Any (f_Scribe_mergeSites_12 F c f 1713 r (nI t) (some (10 + 2 * q)) (nI i) (cH sk L τ)) := by
  have h0 := h3.1.1.1
  have o13 := G1713 h0.1
  have o47 := G147 h0.1
  have hT := S3_T h3
  have hy := (TKe_ys h3.2.1 t ht).2.1
  have OBQ : OBq (10 + 2 * q) := ⟨q, q2, rfl⟩
  obtain ⟨_, _, _, _, _, he, _⟩ := TKe_ob h3.2.1 ht
  intro d
  induction d with
  | zero =>
    intro i f u τ hj hf eS hI
    obtain ⟨f, rfl⟩ : ∃ y, f = y + 1 := ⟨f - 1, by omega⟩
    rw [itr_0] at eS
    subst eS
    unfold f_Scribe_mergeSites_12 f_Scribe_mergeSites_188
    rw [bs, C7g8 o7, bs, (hq τ hI.1.1.1).2.1, if_pos (nI_le (by omega) (by omega))]
    exact sf_r any hI
  | succ d ih =>
    intro i f u τ hj hf eS hI
    obtain ⟨f, rfl⟩ : ∃ y, f = y + 1 := ⟨f - 1, by omega⟩
    have hS := hI.1.1.1
    have hTk := TKe_Zf h3.2.1 hS.1
    obtain ⟨_, e8, _, hD, hcb⟩ := hq τ hS
    have hiS : i < oS (tB fs s.2.2.1 t) := by omega
    have hk2 := k_stayT (F := F) (c := c) (i := i) hTk (by omega) ht hiS
    rw [itr_s] at eS
    unfold f_Scribe_mergeSites_12 f_Scribe_mergeSites_182
    rw [bs, C7g8 o7, bs, e8, if_neg (nI_ge (by omega) (by omega)), C11r0 o13 (GR_r (v := 147) (GR_Z h0.2.1 hS.1) (by decide)), bs, c_o o47, bs, hk2, xb_mk]
    by_cases cc : isS (tB fs s.2.2.1 t) i = true ∧ ST (24 * t + oI (tB fs s.2.2.1 t) i) = true
    · have em : mgq (tB fs s.2.2.1 t) ST t i = true := by unfold mgq; rw [cc.1, cc.2]; rfl
      rw [mg1_t em] at eS
      rw [if_pos cc]
      dsimp only
      have hi1 : 1 ≤ i := by
        rcases Nat.eq_zero_or_pos i with e | e
        · have := cc.1; rw [e, isS_0 he] at this; cases this
        · exact e
      obtain ⟨i1, i2, i4, i5, i6, _⟩ := eSit_0 he hi1 hiS cc.1
      obtain ⟨ks, kp, _⟩ := k_sitesOf (F := F) (c := c) hD (by omega) hcb hiS cc.1
      have hn64 : tNf fs s.2.2.1 t ≤ 65536 := by have : bsO fs q + tNf fs s.2.2.1 t ≤ 65536 := hD.1.1.1.1.2.2.2.2.2.2.2.2.1; omega
      have esn : sN (tB fs s.2.2.1 t) i = oZ (tB fs s.2.2.1 t) i / 24 := rfl
      have ez : ptZ (tB fs s.2.2.1 t) i = 24 * sN (tB fs s.2.2.1 t) i := by unfold ptZ; rw [if_neg (by omega), esn]; omega
      have op := G_part h0.1 (show 24 * t + oI (tB fs s.2.2.1 t) i < 1536 by omega)
      rw [c_o o7, bs, ks, xb_mk, c_o o7, bs, kp, xb_mk]
      refine sz_x (y_next hF hr hI) (fun _ τ2 _ j2 => ?_)
      rw [C11g8 o13, bs, C8g12 op, bs, c_o o13, bs]
      refine sz_x (y_row h0 hF hr j2) (fun _ τ3 _ j3 => ?_)
      rw [c_o o13, bs]
      refine sz_x (y_end h0 hF hr j3) (fun _ τ4 _ j4 => ?_)
      have eU : 64 * u.1 + 48 + 16 = 64 * (u.1 + 1) := by omega
      rw [eU] at j4
      refine y_ms98 (cc := wiN u.2) (U := 64 * (u.1 + 1)) h3 hF hr ht OBQ (by omega) (fun τ5 j5 => ?_) (sN (tB fs s.2.2.1 t) i) 0 F _ τ4 (Nat.zero_add _) (by omega) j4
      refine ih (i + 1) f _ τ5 (by omega) (by omega) eS ?_
      rw [ez]
      exact j5
    · have em : mgq (tB fs s.2.2.1 t) ST t i = false := by
        unfold mgq
        rw [Bool.and_eq_false_iff]
        cases e2 : isS (tB fs s.2.2.1 t) i with
        | false => exact Or.inl rfl
        | true => exact Or.inr (Bool.eq_false_iff.mpr (fun w => cc ⟨e2, w⟩))
      rw [mg1_f em] at eS
      rw [if_neg cc]
      dsimp only
      rw [nI_add]
      exact ih (i + 1) f u τ (by omega) (by omega) eS hI
/-- locals and names -/
theorem y_mlocal {x : Int32} (h3 : S3 sk L own τ0 fs s xs ST rn ws) (hF : 65540 < F) (hr : TRw r A 65536) (ht : t < s.2.2.1.length) (hQ : SQm sk L τ0 τ1 r cc U τ) : Sf sk L (SQm sk L τ0 τ1 r (cc + 24) U) Any (f_Scribe_mergeLocal F c 1713 r (nI t) x (cH sk L τ)) := by
  have h0 := h3.1.1.1
  have hI := hQ.1.1.1
  unfold f_Scribe_mergeLocal f_Scribe_mergeLocal_81 f_Scribe_mergeLocal_98 f_Scribe_mergeLocal_100
  repeat' (first | (exact sz_x (y_sym hF hr hQ) (fun _ τ _ i => sf_r any i)) | exact absurd (show nI 0 = 0 from rfl) (by assumption) | exact absurd (show nI 1 = 0 by assumption) (by decide) | ((with_reducible refine sf_i (fun hc => ?_) (fun hc => ?_))) | ((with_reducible refine sf_gF h0 ?_ ?_ ?_ ?_ ?_); decide; decide; decide; decide) | ((with_reducible refine sf_gI ?_ ?_ ?_ ?_); (first | assumption | exact GS_o h0.1 (by decide) (by decide) | exact RRd_o h0 (by assumption) | exact RRd_o h0 (Or.inr (by assumption)) | exact OBq_o h0 (by assumption) | exact OBq_o h0 (Obt_q (by assumption)) | exact G_part h0.1 (by assumption) | exact Nmo_o (by assumption)); decide; decide) | ((with_reducible refine sf_gJ ?_ ?_ ?_ ?_); (first | assumption | exact GS_o h0.1 (by decide) (by decide) | exact RRd_o h0 (by assumption) | exact RRd_o h0 (Or.inr (by assumption)) | exact OBq_o h0 (by assumption) | exact OBq_o h0 (Obt_q (by assumption)) | exact G_part h0.1 (by assumption) | exact Nmo_o (by assumption)); decide; decide) | ((with_reducible refine sf_gN ?_ ?_ ?_ ?_); (first | assumption | exact GS_o h0.1 (by decide) (by decide) | exact RRd_o h0 (by assumption) | exact RRd_o h0 (Or.inr (by assumption)) | exact OBq_o h0 (by assumption) | exact OBq_o h0 (Obt_q (by assumption)) | exact G_part h0.1 (by assumption) | exact Nmo_o (by assumption)); decide; decide) | ((with_reducible refine sf_gG h0 (by assumption) ?_ ?_ ?_ ?_ (by with_unfolding_all exact rfl) ?_); decide; decide; decide; decide) | ((with_reducible refine sf_o ?_ (fun l => ?_)); (first | assumption | exact GS_o h0.1 (by decide) (by decide) | exact RRd_o h0 (by assumption) | exact RRd_o h0 (Or.inr (by assumption)) | exact OBq_o h0 (by assumption) | exact OBq_o h0 (Obt_q (by assumption)) | exact G_part h0.1 (by assumption) | exact Nmo_o (by assumption))) | ((with_reducible refine sf_s ?_)) | ((with_reducible refine sf_sb (by assumption) ?_)) | ((with_reducible refine sf_r ?_ ?_); (first | exact any | assumption | exact ⟨false, rfl⟩ | exact ⟨true, rfl⟩); assumption) | ((with_reducible refine sf_z ?_ ?_ ?_); (first | exact ⟨false, rfl⟩ | exact ⟨true, rfl⟩ | assumption); (first | exact any | exact ⟨false, rfl⟩ | exact ⟨true, rfl⟩ | assumption); assumption) | ((with_reducible refine sx_obj h3 (by assumption) ?_ (fun q hq => ?_)); assumption) | ((with_reducible refine sx_of (so_where h0 hF (by assumption) (by first | assumption | exact Obt_q (by assumption))) (fun v => ?_))) | ((with_reducible refine sx_of (so_value h0 hF (by assumption) (by first | assumption | exact Obt_q (by assumption))) (fun v => ?_))) | ((with_reducible refine sx_partI h3 (by assumption) ?_ ?_ ?_ (fun x hx => ?_)); assumption; assumption; assumption) | ((with_reducible refine sx_of (so_num h0 hF (by assumption) (by first | assumption | exact Obt_q (by assumption)) ?_) (fun v => ?_)); decide))
theorem y_mname {x : Int32} {p : Nat} (h0 : S0 sk L τ0) (hF : 65540 < F) (hr : TRw r A 65536) (hp : Nmo sk L τ0 p) (hQ : SQm sk L τ0 τ1 r cc U τ) : Sf sk L (SQm sk L τ0 τ1 r (cc + 24) U) Any (f_Scribe_mergeName F c 1713 r (some p) x (cH sk L τ)) := by
  have ho := hp.2.1
  have hI := hQ.1.1.1
  have k1 : ∃ v, f_Name_isDefinedByInput F c p (cH sk L τ) = some (v, cH sk L τ) := by
    unfold f_Name_isDefinedByInput f_Name_isDefinedByInput_24 f_Name_isDefinedByInput_29
    rw [C5g5 ho, bs, bs, bs]
    split
    · exact ⟨_, xz_1 _⟩
    · split
      · exact ⟨_, xz_1 _⟩
      · split
        · exact ⟨_, xz_1 _⟩
        · exact ⟨_, xz_0 _⟩
  have k2 : ∃ v, f_Name_isMissedOrWished F c p (cH sk L τ) = some (v, cH sk L τ) := by
    unfold f_Name_isMissedOrWished f_Name_isMissedOrWished_14 f_Name_isMissedOrWished_19
    rw [C5g10 ho, bs, C5g11 ho, bs]
    split
    · split
      · exact ⟨_, xz_0 _⟩
      · exact ⟨_, xz_1 _⟩
    · exact ⟨_, xz_1 _⟩
  unfold f_Scribe_mergeName f_Scribe_mergeName_23 f_Scribe_mergeName_46 f_Scribe_mergeName_72
  by_cases h5 : fI τ p 5 = nI 1
  · obtain ⟨x, hx, e6⟩ := Nmo_6 hI hp h5
    have key : ∀ {α : Type} {V : α → Prop} {f : Option Nat → Option (α × px_H)}, Sf sk L (SQm sk L τ0 τ1 r (cc + 24) U) V (f (some (152 + x))) → Sf sk L (SQm sk L τ0 τ1 r (cc + 24) U) V ((xgN (cH sk L τ) 5 6 p).bind f) := fun g => by
      rw [C5n6 ho, bs, e6]; exact g
    repeat' (first | (exact sz_x (y_sym hF hr hQ) (fun _ τ _ i => sf_r any i)) | ((with_reducible refine key ?_)) | ((with_reducible refine sx_of k1 (fun v => ?_))) | ((with_reducible refine sx_of k2 (fun v => ?_))) | exact absurd (show nI 0 = 0 from rfl) (by assumption) | exact absurd (show nI 1 = 0 by assumption) (by decide) | ((with_reducible refine sf_i (fun hc => ?_) (fun hc => ?_))) | ((with_reducible refine sf_gF h0 ?_ ?_ ?_ ?_ ?_); decide; decide; decide; decide) | ((with_reducible refine sf_gI ?_ ?_ ?_ ?_); (first | assumption | exact GS_o h0.1 (by decide) (by decide) | exact RRd_o h0 (by assumption) | exact RRd_o h0 (Or.inr (by assumption)) | exact OBq_o h0 (by assumption) | exact OBq_o h0 (Obt_q (by assumption)) | exact G_part h0.1 (by assumption) | exact Nmo_o (by assumption)); decide; decide) | ((with_reducible refine sf_gJ ?_ ?_ ?_ ?_); (first | assumption | exact GS_o h0.1 (by decide) (by decide) | exact RRd_o h0 (by assumption) | exact RRd_o h0 (Or.inr (by assumption)) | exact OBq_o h0 (by assumption) | exact OBq_o h0 (Obt_q (by assumption)) | exact G_part h0.1 (by assumption) | exact Nmo_o (by assumption)); decide; decide) | ((with_reducible refine sf_gN ?_ ?_ ?_ ?_); (first | assumption | exact GS_o h0.1 (by decide) (by decide) | exact RRd_o h0 (by assumption) | exact RRd_o h0 (Or.inr (by assumption)) | exact OBq_o h0 (by assumption) | exact OBq_o h0 (Obt_q (by assumption)) | exact G_part h0.1 (by assumption) | exact Nmo_o (by assumption)); decide; decide) | ((with_reducible refine sf_gG h0 (by assumption) ?_ ?_ ?_ ?_ (by with_unfolding_all exact rfl) ?_); decide; decide; decide; decide) | ((with_reducible refine sf_o ?_ (fun l => ?_)); (first | assumption | exact GS_o h0.1 (by decide) (by decide) | exact RRd_o h0 (by assumption) | exact RRd_o h0 (Or.inr (by assumption)) | exact OBq_o h0 (by assumption) | exact OBq_o h0 (Obt_q (by assumption)) | exact G_part h0.1 (by assumption) | exact Nmo_o (by assumption))) | ((with_reducible refine sf_s ?_)) | ((with_reducible refine sf_sb (by assumption) ?_)) | ((with_reducible refine sf_r ?_ ?_); (first | exact any | assumption | exact ⟨false, rfl⟩ | exact ⟨true, rfl⟩); assumption) | ((with_reducible refine sf_z ?_ ?_ ?_); (first | exact ⟨false, rfl⟩ | exact ⟨true, rfl⟩ | assumption); (first | exact any | exact ⟨false, rfl⟩ | exact ⟨true, rfl⟩ | assumption); assumption) | (dsimp only))
  · repeat' (first | (exact sz_x (y_sym hF hr hQ) (fun _ τ _ i => sf_r any i)) | (exact absurd (by assumption) h5) | ((with_reducible refine sx_of k1 (fun v => ?_))) | ((with_reducible refine sx_of k2 (fun v => ?_))) | exact absurd (show nI 0 = 0 from rfl) (by assumption) | exact absurd (show nI 1 = 0 by assumption) (by decide) | ((with_reducible refine sf_i (fun hc => ?_) (fun hc => ?_))) | ((with_reducible refine sf_gF h0 ?_ ?_ ?_ ?_ ?_); decide; decide; decide; decide) | ((with_reducible refine sf_gI ?_ ?_ ?_ ?_); (first | assumption | exact GS_o h0.1 (by decide) (by decide) | exact RRd_o h0 (by assumption) | exact RRd_o h0 (Or.inr (by assumption)) | exact OBq_o h0 (by assumption) | exact OBq_o h0 (Obt_q (by assumption)) | exact G_part h0.1 (by assumption) | exact Nmo_o (by assumption)); decide; decide) | ((with_reducible refine sf_gJ ?_ ?_ ?_ ?_); (first | assumption | exact GS_o h0.1 (by decide) (by decide) | exact RRd_o h0 (by assumption) | exact RRd_o h0 (Or.inr (by assumption)) | exact OBq_o h0 (by assumption) | exact OBq_o h0 (Obt_q (by assumption)) | exact G_part h0.1 (by assumption) | exact Nmo_o (by assumption)); decide; decide) | ((with_reducible refine sf_gN ?_ ?_ ?_ ?_); (first | assumption | exact GS_o h0.1 (by decide) (by decide) | exact RRd_o h0 (by assumption) | exact RRd_o h0 (Or.inr (by assumption)) | exact OBq_o h0 (by assumption) | exact OBq_o h0 (Obt_q (by assumption)) | exact G_part h0.1 (by assumption) | exact Nmo_o (by assumption)); decide; decide) | ((with_reducible refine sf_gG h0 (by assumption) ?_ ?_ ?_ ?_ (by with_unfolding_all exact rfl) ?_); decide; decide; decide; decide) | ((with_reducible refine sf_o ?_ (fun l => ?_)); (first | assumption | exact GS_o h0.1 (by decide) (by decide) | exact RRd_o h0 (by assumption) | exact RRd_o h0 (Or.inr (by assumption)) | exact OBq_o h0 (by assumption) | exact OBq_o h0 (Obt_q (by assumption)) | exact G_part h0.1 (by assumption) | exact Nmo_o (by assumption))) | ((with_reducible refine sf_s ?_)) | ((with_reducible refine sf_sb (by assumption) ?_)) | ((with_reducible refine sf_r ?_ ?_); (first | exact any | assumption | exact ⟨false, rfl⟩ | exact ⟨true, rfl⟩); assumption) | ((with_reducible refine sf_z ?_ ?_ ?_); (first | exact ⟨false, rfl⟩ | exact ⟨true, rfl⟩ | assumption); (first | exact any | exact ⟨false, rfl⟩ | exact ⟨true, rfl⟩ | assumption); assumption))
theorem mg_cut {tb : Nat → Nat → Nat} (h3 : S3 sk L own τ0 fs s xs ST rn ws) (hk : STk fs s ST) (ht : t < s.2.2.1.length) (u : Nat × Nat) : itr (mg1 (tB fs s.2.2.1 t) (mgp ST t)) 0 (oS (tB fs s.2.2.1 t)) u = itr (mg1 (tB fs s.2.2.1 t) (mgp ST t)) 1 (oS (tB fs s.2.2.1 t) - 1) u ∧ itr (mg1 (tB fs s.2.2.1 t) (mgq (tB fs s.2.2.1 t) ST t)) 0 (oS (tB fs s.2.2.1 t)) u = itr (mg1 (tB fs s.2.2.1 t) (mgq (tB fs s.2.2.1 t) ST t)) 1 (oS (tB fs s.2.2.1 t) - 1) u := by
  obtain ⟨_, _, _, _, _, he, _⟩ := TKe_ob h3.2.1 ht
  have h0 : mgp ST t 0 = false := by
    unfold mgp
    cases e : ST (24 * t + 0) with
    | false => rfl
    | true =>
      have w := (hk _ (by omega) e).1
      rw [show (24 * t + 0) / 24 = t by omega, show (24 * t + 0) % 24 = 0 by omega] at w
      unfold kpB at w
      rw [oK_0f he, Bool.and_false] at w
      cases w
  exact ⟨itr_cut (eObj_S1 he) (Nat.le_refl _) (fun s' => mg1_f h0) (fun i s' h1 h2 => absurd h1 (by omega)), itr_cut (eObj_S1 he) (Nat.le_refl _) (fun s' => mg1_f (by unfold mgq; rw [isS_0 he, Bool.false_and])) (fun i s' h1 h2 => absurd h1 (by omega))⟩
/-- one object, sections and sites -/
theorem y_obj (h3 : S3 sk L own τ0 fs s xs ST rn ws) (hF : 65540 < F) (hr : TRw r A 65536) (ht : t < s.2.2.1.length) (hk : STk fs s ST) {u : Nat × Nat} {k52 : Nat → Nat → Int32 → px_H → Option (Int32 × px_H)} {J : px_TT → Prop} {V : Int32 → Prop} (hK : ∀ τ, SQm sk L τ0 τ1 r (mgO (tB fs s.2.2.1) ST t u).2 (64 * (mgO (tB fs s.2.2.1) ST t u).1) τ → Sf sk L J V (k52 1713 r (nI (t + 1)) (cH sk L τ))) (hI : SQm sk L τ0 τ1 r u.2 (64 * u.1) τ) : Sf sk L J V ((xo (cH sk L τ) 11 1713).bind fun _ => xb (f_Scribe_mergeParts F c 1713 r (nI t) (cH sk L τ)) fun _ ph3 => (xo ph3 11 1713).bind fun _ => xb (f_Scribe_mergeSites F c 1713 r (nI t) ph3) fun _ ph4 => k52 1713 r (nI t + nI 1) ph4) := by
  have h0 := h3.1.1.1
  have o13 := G1713 h0.1
  have o47 := G147 h0.1
  have hy := (TKe_ys h3.2.1 t ht).2.1
  obtain ⟨q', qq1, qq2, _⟩ := TKe_ob h3.2.1 ht
  obtain ⟨q, q2, o7, hq⟩ := z_obj (F := F) (c := c) h3 ht
  have eq' : s.2.2.1.getD t 0 = q := by
    rw [List.getD_eq_getElem?_getD, qq1]
    have w := (hq τ hI.1.1.1).1
    rw [k_object (TKe_Zf h3.2.1 hI.1.1.1.1) qq1] at w
    injection w with w
    injection w with w _
    injection w with w
    show q' = q
    omega
  obtain ⟨c1, _⟩ := mg_cut (tb := tB fs s.2.2.1) h3 hk ht u
  obtain ⟨_, c2⟩ := mg_cut (tb := tB fs s.2.2.1) h3 hk ht (itr (mg1 (tB fs s.2.2.1 t) (mgp ST t)) 1 (oS (tB fs s.2.2.1 t) - 1) u)
  rw [c_o o13, bs]
  unfold f_Scribe_mergeParts
  have g1 : Sf sk L (SQm sk L τ0 τ1 r (itr (mg1 (tB fs s.2.2.1 t) (mgp ST t)) 1 (oS (tB fs s.2.2.1 t) - 1) u).2 (64 * (itr (mg1 (tB fs s.2.2.1 t) (mgp ST t)) 1 (oS (tB fs s.2.2.1 t) - 1) u).1)) Any ((xgR (cH sk L τ) 11 0 1713).bind fun t1 => (xo (cH sk L τ) 3 t1).bind fun _ => xb (f_Link_object F c t1 (nI t) (cH sk L τ)) fun t2 ph3 => f_Scribe_mergeParts_12 F c F 1713 r (nI t) t2 (nI 0) ph3) := by
    rw [C11r0 o13 (GR_r (v := 147) (GR_Z h0.2.1 hI.1.1.1.1) (by decide)), bs, c_o o47, bs, (hq τ hI.1.1.1).1, xb_mk]
    exact y_mp12 h3 hF hr ht hk o7 hq eq' q2 (oS (tB fs s.2.2.1 t)) 0 F u τ (Nat.zero_add _) (by omega) c1 hI
  refine sz_x g1 (fun _ τ2 _ i2 => ?_)
  rw [c_o o13, bs]
  unfold f_Scribe_mergeSites
  have g2 : Sf sk L (SQm sk L τ0 τ1 r (mgO (tB fs s.2.2.1) ST t u).2 (64 * (mgO (tB fs s.2.2.1) ST t u).1)) Any ((xgR (cH sk L τ2) 11 0 1713).bind fun t1 => (xo (cH sk L τ2) 3 t1).bind fun _ => xb (f_Link_object F c t1 (nI t) (cH sk L τ2)) fun t2 ph3 => f_Scribe_mergeSites_12 F c F 1713 r (nI t) t2 (nI 0) ph3) := by
    rw [C11r0 o13 (GR_r (v := 147) (GR_Z h0.2.1 i2.1.1.1.1) (by decide)), bs, c_o o47, bs, (hq τ2 i2.1.1.1).1, xb_mk]
    exact y_ms12 h3 hF hr ht o7 hq q2 (oS (tB fs s.2.2.1 t)) 0 F _ τ2 (Nat.zero_add _) (by omega) (by rw [c2]; rfl) i2
  refine sz_x g2 (fun _ τ3 _ i3 => ?_)
  rw [nI_add]
  exact hK τ3 i3
/-- symbols: the names that are listed -/
theorem y_sy134 {ls : List Nat} (h3 : S3 sk L own τ0 fs s xs ST rn ws) (hF : 65540 < F) (hr : TRw r A 65536) (e6 : fI τ1 1713 6 = nI ls.length) (hl : ls.length ≤ 63) (hls : ∀ (k i : Nat), ls[k]? = some i → eN τ1 1717 k = some (pN τ0 149 i)) (hlt : ∀ i, i ∈ ls → i < xs.length) : ∀ (d j f : Nat) (a3 : Int32) (τ : px_TT), j + d = ls.length → d < f → SQm sk L τ0 τ1 r (cc + 24 * j) U τ → Sf sk L (SQm sk L τ0 τ1 r (cc + 24 * ls.length) U) Any (f_Scribe_mergeSymbols_134 F c f 1713 r a3 (nI j) (cH sk L τ)) := by
  have h0 := h3.1.1.1
  have o13 := G1713 h0.1
  have hA : ar sk L 5 64 1717 := GS_a h0.1 (by decide) (by decide)
  intro d
  induction d with
  | zero =>
    intro j f a3 τ hj hf hI
    obtain ⟨f, rfl⟩ : ∃ y, f = y + 1 := ⟨f - 1, by omega⟩
    obtain rfl : j = ls.length := by omega
    unfold f_Scribe_mergeSymbols_134 f_Scribe_mergeSymbols_191
    rw [C11g6 o13, bs, hI.2.1 6, e6, if_pos (nI_le (by omega) (by omega))]
    exact sf_r any hI
  | succ d ih =>
    intro j f a3 τ hj hf hI
    obtain ⟨f, rfl⟩ : ∃ y, f = y + 1 := ⟨f - 1, by omega⟩
    have hjl : ls[j]? = some ls[j] := List.getElem?_eq_getElem (by omega)
    have hp := (z_nmAt h3 (hlt _ (List.mem_of_getElem? hjl))).2
    unfold f_Scribe_mergeSymbols_134 f_Scribe_mergeSymbols_185
    rw [C11g6 o13, bs, hI.2.1 6, e6, if_neg (nI_ge (by omega) (by omega)), C11r5 o13 (GR_r (v := 1717) (GR_Z h0.2.1 hI.1.1.1.1) (by decide)), bs, c_l hA (by decide), bs, if_neg (nI_ge (by omega) (by omega)), bs, c_aN hA (Or.inr (Or.inl rfl)) (by decide) (by omega), bs, hI.2.2, hls j _ hjl]
    dsimp only
    rw [c_o o13, bs]
    refine sz_x (y_mname h0 hF hr hp hI) (fun _ τ2 _ i2 => ?_)
    rw [C5g3 hp.2.1, bs, nI_add]
    refine ih (j + 1) f _ τ2 (by omega) (by omega) ?_
    rw [show cc + 24 * (j + 1) = cc + 24 * j + 24 by omega]
    exact i2
theorem y_sy86 {q lc : Nat} {J : px_TT → Prop} {k62 : Nat → Nat → Int32 → px_H → Option (Unit × px_H)} (h3 : S3 sk L own τ0 fs s xs ST rn ws) (hF : 65540 < F) (hr : TRw r A 65536) (ht : t < s.2.2.1.length) (o7 : ob sk L 7 (10 + 2 * q)) (hq : ∀ τ, SI none sk L τ0 τ → fI τ (10 + 2 * q) 11 = nI (oM (tB fs s.2.2.1 t))) (hk : ∀ τ, SQm sk L τ0 τ1 r (cc + 24 * lc) U τ → Sf sk L J Any (k62 1713 r (nI (t + 1)) (cH sk L τ))) : ∀ (d j f u : Nat) (τ : px_TT), 1 ≤ j → (j + d = oM (tB fs s.2.2.1 t) ∨ (d = 0 ∧ oM (tB fs s.2.2.1 t) ≤ j)) → j ≤ 64 → d < f → itr (lc1 (tB fs s.2.2.1 t)) j d u = lc → SQm sk L τ0 τ1 r (cc + 24 * u) U τ → Sf sk L J Any (f_Scribe_mergeSymbols_86 F c k62 f 1713 r (nI t) (some (10 + 2 * q)) (nI j) (cH sk L τ)) := by
  have h0 := h3.1.1.1
  have o13 := G1713 h0.1
  have o47 := G147 h0.1
  have hy := (TKe_ys h3.2.1 t ht).2.2
  intro d
  induction d with
  | zero =>
    intro j f u τ h1 hj h64 hf eS hI
    obtain ⟨f, rfl⟩ : ∃ y, f = y + 1 := ⟨f - 1, by omega⟩
    rw [itr_0] at eS
    subst eS
    unfold f_Scribe_mergeSymbols_86 f_Scribe_mergeSymbols_123
    rw [bs, C7g11 o7, bs, hq τ hI.1.1.1, if_pos (nI_le (by omega) (by omega)), nI_add]
    exact hk τ hI
  | succ d ih =>
    intro j f u τ h1 hj h64 hf eS hI
    obtain ⟨f, rfl⟩ : ∃ y, f = y + 1 := ⟨f - 1, by omega⟩
    have hR := GR_Z h0.2.1 hI.1.1.1.1
    obtain ⟨kn, _, h64⟩ := k_nameOf2 (F := F) (c := c) (j := j) (TKe_Zf h3.2.1 hI.1.1.1.1) ht (by omega)
    rw [itr_s] at eS
    unfold f_Scribe_mergeSymbols_86 f_Scribe_mergeSymbols_117
    rw [bs, C7g11 o7, bs, hq τ hI.1.1.1, if_neg (nI_ge (by omega) (by omega)), C11r0 o13 (GR_r (v := 147) hR (by decide)), bs, c_o o47, bs, kn, xb_mk]
    unfold syN
    by_cases ch : hsN (tB fs s.2.2.1 t) j = true
    · have e1 : lc1 (tB fs s.2.2.1 t) j u = u := by unfold lc1; rw [ch, if_neg (fun w => by cases w.2)]
      rw [e1] at eS
      rw [if_pos ch]
      dsimp only
      rw [nI_add]
      exact ih (j + 1) f u τ (by omega) (by omega) (by omega) (by omega) eS hI
    · have e1 : lc1 (tB fs s.2.2.1 t) j u = u + 1 := by unfold lc1; rw [if_pos ⟨h1, Bool.eq_false_iff.mpr ch⟩]
      rw [e1] at eS
      rw [if_neg ch]
      dsimp only
      rw [c_o o13, bs]
      refine sz_x (y_mlocal h3 hF hr ht hI) (fun _ τ2 _ i2 => ?_)
      rw [nI_add]
      refine ih (j + 1) f (u + 1) τ2 (by omega) (by omega) (by omega) (by omega) eS ?_
      rw [show cc + 24 * (u + 1) = cc + 24 * u + 24 by omega]
      exact i2
theorem y_sy62 {ls : List Nat} {lc : Nat} (h3 : S3 sk L own τ0 fs s xs ST rn ws) (hF : 65540 < F) (hr : TRw r A 65536) (e6 : fI τ1 1713 6 = nI ls.length) (hl : ls.length ≤ 63) (hls : ∀ (k i : Nat), ls[k]? = some i → eN τ1 1717 k = some (pN τ0 149 i)) (hlt : ∀ i, i ∈ ls → i < xs.length) : ∀ (d t f u : Nat) (τ : px_TT), t + d = s.2.2.1.length → d < f → itr (lcO (tB fs s.2.2.1)) t d u = lc → SQm sk L τ0 τ1 r (cc + 24 * u) U τ → Sf sk L (SQm sk L τ0 τ1 r (cc + 24 * lc + 24 * ls.length) U) Any (f_Scribe_mergeSymbols_62 F c f 1713 r (nI t) (cH sk L τ)) := by
  have h0 := h3.1.1.1
  have o13 := G1713 h0.1
  have o47 := G147 h0.1
  have hT := S3_T h3
  intro d
  induction d with
  | zero =>
    intro t f u τ hj hf eS hI
    obtain ⟨f, rfl⟩ : ∃ y, f = y + 1 := ⟨f - 1, by omega⟩
    rw [itr_0] at eS
    subst eS
    unfold f_Scribe_mergeSymbols_62 f_Scribe_mergeSymbols_129
    rw [C11r0 o13 (GR_r (v := 147) (GR_Z h0.2.1 hI.1.1.1.1) (by decide)), bs, C3g14 o47, bs, z_tkn h3 hI.1.1.1, if_pos (nI_le (by omega) (by omega))]
    exact y_sy134 h3 hF hr e6 hl hls hlt ls.length 0 F _ τ (Nat.zero_add _) (by omega) hI
  | succ d ih =>
    intro t f u τ hj hf eS hI
    obtain ⟨f, rfl⟩ : ∃ y, f = y + 1 := ⟨f - 1, by omega⟩
    have ht : t < s.2.2.1.length := by omega
    have hy := (TKe_ys h3.2.1 t ht).2.2
    obtain ⟨q, q2, o7, hq⟩ := z_obj (F := F) (c := c) h3 ht
    rw [itr_s] at eS
    unfold f_Scribe_mergeSymbols_62
    rw [C11r0 o13 (GR_r (v := 147) (GR_Z h0.2.1 hI.1.1.1.1) (by decide)), bs, C3g14 o47, bs, z_tkn h3 hI.1.1.1, if_neg (nI_ge (by omega) (by omega)), bs, c_o o47, bs, (hq τ hI.1.1.1).1, xb_mk]
    exact y_sy86 (lc := lcO (tB fs s.2.2.1) t u) h3 hF hr ht o7 (fun τ hI => (hq τ hI).2.2.1) (fun τ2 i2 => ih (t + 1) f _ τ2 (by omega) (by omega) eS i2) (oM (tB fs s.2.2.1 t) - 1) 1 F u τ (Nat.le_refl _) (by omega) (by omega) (by omega) rfl hI
theorem y_syms {ls : List Nat} {lc : Nat} (h3 : S3 sk L own τ0 fs s xs ST rn ws) (hF : 65540 < F) (hr : TRw r A 65536) (e6 : fI τ1 1713 6 = nI ls.length) (hl : ls.length ≤ 63) (hls : ∀ (k i : Nat), ls[k]? = some i → eN τ1 1717 k = some (pN τ0 149 i)) (hlt : ∀ i, i ∈ ls → i < xs.length) (elc : lcT s.2.2.1.length (tB fs s.2.2.1) = lc) (hI : SQm sk L τ0 τ1 r cc U τ) : Sf sk L (SQm sk L τ0 τ1 r (wiN cc + 24 * (lc + ls.length)) (U + 64)) Any (f_Scribe_mergeSymbols F c 1713 r (cH sk L τ)) := by
  have h0 := h3.1.1.1
  have o13 := G1713 h0.1
  have hT := S3_T h3
  have orr := (SI_row hI.1.1.1 hr).1
  unfold f_Scribe_mergeSymbols
  rw [C11g7 o13, bs, C11g6 o13, bs]
  refine sz_x (y_next hF hr hI) (fun _ τ2 _ i2 => ?_)
  rw [C11g8 o13, bs, C11g7 o13, bs, c_o o13, bs]
  refine sz_x (y_row h0 hF hr i2) (fun _ τ3 _ i3 => ?_)
  rw [c_o o13, bs]
  refine sz_x (y_end h0 hF hr i3) (fun _ τ4 _ i4 => ?_)
  rw [C10g1 orr, bs, c_o orr, bs]
  refine sz_x (y_fill hF hr (by decide) (by decide) i4) (fun _ τ5 _ i5 => ?_)
  have g := y_sy62 (F := F) (c := c) (cc := wiN cc) (lc := lc) h3 hF hr e6 hl hls hlt s.2.2.1.length 0 F 1 τ5 (Nat.zero_add _) (by omega) elc (by rw [Nat.mul_one]; exact i5)
  rw [show wiN cc + 24 * lc + 24 * ls.length = wiN cc + 24 * (lc + ls.length) by omega] at g
  exact g
/-- how long name i is -/
def lfN (xs : px_NL) (i : Nat) : Nat := ((xs.map Prod.fst).getD i []).length
theorem lfN_at (h3 : S3 sk L own τ0 fs s xs ST rn ws) {i : Nat} (hi : i < xs.length) (hI : SI none sk L τ0 τ) : fI τ (pN τ0 149 i) 3 = nI (lfN xs i) ∧ lfN xs i ≤ 20 := by
  obtain ⟨n1, n2, n3, n4, n5, n6, n7⟩ := h3.2.1.2.2.2.1.2.1.1
  have hx : (xs.map Prod.fst)[i]? = some (xs[i].1) := by rw [List.getElem?_map, List.getElem?_eq_getElem hi]; rfl
  obtain ⟨ok, _, _, em⟩ := n7 i _ hx
  have hge := (z_nmAt h3 hi).2.1
  have e : lfN xs i = xs[i].1.length := by unfold lfN; rw [List.getD_eq_getElem?_getD, hx]; rfl
  rw [e, SI_nm hI hge (by decide)]
  exact ⟨em.2.2.2, ok.1⟩
theorem y_na85 {ls : List Nat} {T : Nat} (h3 : S3 sk L own τ0 fs s xs ST rn ws) (hF : 65540 < F) (hr : TRw r A 65536) (e6 : fI τ1 1713 6 = nI ls.length) (hl : ls.length ≤ 63) (hls : ∀ (k i : Nat), ls[k]? = some i → eN τ1 1717 k = some (pN τ0 149 i)) (hlt : ∀ i, i ∈ ls → i < xs.length) : ∀ (d j f cc : Nat) (τ : px_TT), j + d = ls.length → d < f → cc + ((ls.drop j).map (fun i => lfN xs i + 1)).sum = T → SQm sk L τ0 τ1 r cc U τ → Sf sk L (SQm sk L τ0 τ1 r T U) Any (f_Scribe_mergeNames_85 F c f 1713 r (nI j) (cH sk L τ)) := by
  have h0 := h3.1.1.1
  have o13 := G1713 h0.1
  have hA : ar sk L 5 64 1717 := GS_a h0.1 (by decide) (by decide)
  have hrp : r < 1815 := by unfold TRw at hr; omega
  intro d
  induction d with
  | zero =>
    intro j f cc τ hj hf eT hI
    obtain ⟨f, rfl⟩ : ∃ y, f = y + 1 := ⟨f - 1, by omega⟩
    rw [List.drop_eq_nil_of_le (by omega), List.map_nil, List.sum_nil, Nat.add_zero] at eT
    subst eT
    unfold f_Scribe_mergeNames_85 f_Scribe_mergeNames_133
    rw [C11g6 o13, bs, hI.2.1 6, e6, if_pos (nI_le (by omega) (by omega))]
    exact sf_r any hI
  | succ d ih =>
    intro j f cc τ hj hf eT hI
    obtain ⟨f, rfl⟩ : ∃ y, f = y + 1 := ⟨f - 1, by omega⟩
    have hjl : ls[j]? = some ls[j] := List.getElem?_eq_getElem (by omega)
    have hjx := hlt _ (List.mem_of_getElem? hjl)
    have hp := (z_nmAt h3 hjx).2
    have hge := hp.1
    obtain ⟨el, hl20⟩ := lfN_at h3 hjx hI.1.1.1
    have orr := (SI_row hI.1.1.1 hr).1
    rw [drop_x hjl, List.map_cons, List.sum_cons] at eT
    unfold f_Scribe_mergeNames_85 f_Scribe_mergeNames_127
    rw [C11g6 o13, bs, hI.2.1 6, e6, if_neg (nI_ge (by omega) (by omega)), C11r5 o13 (GR_r (v := 1717) (GR_Z h0.2.1 hI.1.1.1.1) (by decide)), bs, c_l hA (by decide), bs, if_neg (nI_ge (by omega) (by omega)), bs, c_aN hA (Or.inr (Or.inl rfl)) (by decide) (by omega), bs, hI.2.2, hls j _ hjl]
    dsimp only
    rw [bs, c_aN hA (Or.inr (Or.inl rfl)) (by decide) (by omega), bs, hI.2.2, hls j _ hjl, bs, c_o hp.2.1, bs]
    refine sz_x (y_wto hF hr hp.2.1 (by omega) (by omega) el hI) (fun _ τ2 _ i2 => ?_)
    rw [c_o orr, bs]
    refine sz_x (y_put hF hr (by decide) i2) (fun _ τ3 _ i3 => ?_)
    rw [nI_add]
    exact ih (j + 1) f _ τ3 (by omega) (by omega) (by omega) i3
theorem y_na4 {ls : List Nat} {J : px_TT → Prop} (h3 : S3 sk L own τ0 fs s xs ST rn ws) (hF : 65540 < F) (e6 : fI τ 1713 6 = nI ls.length) (hl : ls.length ≤ 63) (hls : ∀ (k i : Nat), ls[k]? = some i → eN τ 1717 k = some (pN τ0 149 i)) (hlt : ∀ i, i ∈ ls → i < xs.length) (hI : SI none sk L τ0 τ) (hk : ∀ a2, Sf sk L J Any (f_Scribe_mergeNames_54 F c 1713 r a2 (cH sk L τ))) : ∀ (d j f : Nat) (a2 : Int32), j + d = ls.length → d < f → Sf sk L J Any (f_Scribe_mergeNames_4 F c f 1713 r a2 (nI j) (cH sk L τ)) := by
  have h0 := h3.1.1.1
  have o13 := G1713 h0.1
  have hA : ar sk L 5 64 1717 := GS_a h0.1 (by decide) (by decide)
  intro d
  induction d with
  | zero =>
    intro j f a2 hj hf
    obtain ⟨f, rfl⟩ : ∃ y, f = y + 1 := ⟨f - 1, by omega⟩
    unfold f_Scribe_mergeNames_4
    rw [C11g6 o13, bs, e6, if_pos (nI_le (by omega) (by omega))]
    exact hk a2
  | succ d ih =>
    intro j f a2 hj hf
    obtain ⟨f, rfl⟩ : ∃ y, f = y + 1 := ⟨f - 1, by omega⟩
    have hjl : ls[j]? = some ls[j] := List.getElem?_eq_getElem (by omega)
    have hp := (z_nmAt h3 (hlt _ (List.mem_of_getElem? hjl))).2
    unfold f_Scribe_mergeNames_4 f_Scribe_mergeNames_46
    rw [C11g6 o13, bs, e6, if_neg (nI_ge (by omega) (by omega)), C11r5 o13 (GR_r (v := 1717) (GR_Z h0.2.1 hI.1) (by decide)), bs, c_l hA (by decide), bs, if_neg (nI_ge (by omega) (by omega)), bs, c_aN hA (Or.inr (Or.inl rfl)) (by decide) (by omega), bs, hls j _ hjl]
    dsimp only
    rw [bs, c_aN hA (Or.inr (Or.inl rfl)) (by decide) (by omega), bs, hls j _ hjl, bs, C5g3 hp.2.1, bs, nI_add]
    exact ih (j + 1) f _ (by omega) (by omega)
theorem y_names {ls : List Nat} (h3 : S3 sk L own τ0 fs s xs ST rn ws) (hF : 65540 < F) (hr : TRw r A 65536) (e6 : fI τ1 1713 6 = nI ls.length) (hl : ls.length ≤ 63) (hls : ∀ (k i : Nat), ls[k]? = some i → eN τ1 1717 k = some (pN τ0 149 i)) (hlt : ∀ i, i ∈ ls → i < xs.length) (hI : SQm sk L τ0 τ1 r cc U τ) : Sf sk L (SQm sk L τ0 τ1 r (wiN cc + (1 + (ls.map (fun i => lfN xs i + 1)).sum)) (U + 64)) Any (f_Scribe_mergeNames F c 1713 r (cH sk L τ)) := by
  have h0 := h3.1.1.1
  have o13 := G1713 h0.1
  have orr := (SI_row hI.1.1.1 hr).1
  unfold f_Scribe_mergeNames
  refine y_na4 h3 hF ((hI.2.1 6).trans e6) hl (fun k i hk => by rw [hI.2.2]; exact hls k i hk) hlt hI.1.1.1 (fun a2 => ?_) ls.length 0 F _ (Nat.zero_add _) (by omega)
  unfold f_Scribe_mergeNames_54
  refine sz_x (y_next hF hr hI) (fun _ τ2 _ i2 => ?_)
  rw [c_o o13, bs]
  refine sz_x (y_row h0 hF hr i2) (fun _ τ3 _ i3 => ?_)
  rw [c_o o13, bs]
  refine sz_x (y_end h0 hF hr i3) (fun _ τ4 _ i4 => ?_)
  rw [c_o orr, bs]
  refine sz_x (y_put hF hr (by decide) i4) (fun _ τ5 _ i5 => ?_)
  exact y_na85 h3 hF hr e6 hl hls hlt ls.length 0 F (wiN cc + 1) τ5 (Nat.zero_add _) (by omega) (by rw [List.drop_zero]; omega) i5
theorem y_143 {a2 : Int32} (h0 : S0 sk L τ0) (hF : 65540 < F) (hr : TRw r A 65536) (hI : SQm sk L τ0 τ1 r cc U τ) : Sf sk L (SI none sk L τ0) (fun v => v = bI (decide (cc ≤ 8192))) (f_Scribe_writeMerged_143 F c 1713 r a2 (cH sk L τ)) := by
  have o13 := G1713 h0.1
  have orr := (SI_row hI.1.1.1 hr).1
  unfold f_Scribe_writeMerged_143
  rw [c_o orr, bs]
  refine sz_x (y_set hF hr (by decide) hI) (fun _ τ2 _ i2 => ?_)
  rw [c_o orr, bs]
  refine sz_x (y_set hF hr (by decide) i2) (fun _ τ3 _ i3 => ?_)
  rw [c_o orr, bs]
  refine sz_x (y_set hF hr (by decide) i3) (fun _ τ4 _ i4 => ?_)
  rw [c_o orr, bs]
  refine sz_x (y_set hF hr (by decide) i4) (fun _ τ5 _ i5 => ?_)
  rw [c_o orr, bs]
  refine sz_x (y_set hF hr (by decide) i5) (fun _ τ6 _ i6 => ?_)
  rw [c_o orr, bs]
  refine sz_x (y_set hF hr (by decide) i6) (fun _ τ7 _ i7 => ?_)
  rw [C11g8 o13, bs, c_o orr, bs]
  refine sz_x (y_set hF hr (by decide) i7) (fun _ τ8 _ i8 => ?_)
  rw [C11g8 o13, bs, c_o orr, bs]
  refine sz_x (y_set hF hr (by decide) i8) (fun _ τ9 _ i9 => ?_)
  have hz := i9.1.1.2.1
  unfold f_Scribe_writeMerged_248 f_Scribe_writeMerged_249
  rw [C10g2 orr, bs]
  by_cases c1 : cc ≤ 65536
  · rw [(hz.1 c1).2, if_pos (show bI false = 0 from rfl), C10g1 orr, bs, (hz.1 c1).1]
    by_cases c2 : cc ≤ 8192
    · rw [if_neg (Int32.not_lt.mpr (nI_le c2 (by decide))), decide_eq_true c2]
      exact ⟨_, τ9, xz_b true _, rfl, i9.1.1.1⟩
    · rw [if_pos (Int32.not_le.mp (nI_ge (a := 8192) (b := cc) (by omega) (by omega))), decide_eq_false c2]
      exact ⟨_, τ9, xz_b false _, rfl, i9.1.1.1⟩
  · rw [hz.2 (by omega), if_neg (show ¬ bI true = 0 by decide), decide_eq_false (by omega)]
    exact ⟨_, τ9, xz_b false _, rfl, i9.1.1.1⟩
theorem y_117 {a2 : Int32} (h0 : S0 sk L τ0) (hK : KT c) (hF : 65540 < F) (hr : TRw r A 65536) : ∀ (d j f : Nat) (τ : px_TT), j + d = 7 → d < f → SQm sk L τ0 τ1 r cc U τ → Sf sk L (SI none sk L τ0) (fun v => v = bI (decide (cc ≤ 8192))) (f_Scribe_writeMerged_117 F c f 1713 r a2 (nI j) (cH sk L τ)) := by
  intro d
  induction d with
  | zero =>
    intro j f τ hj hf hI
    obtain ⟨f, rfl⟩ : ∃ y, f = y + 1 := ⟨f - 1, by omega⟩
    obtain rfl : j = 7 := by omega
    unfold f_Scribe_writeMerged_117
    rw [xkl_at hK.2.2.1.2 (by decide), bs, if_pos (show nI [127, 69, 76, 70, 2, 1, 1].length ≤ nI 7 by decide)]
    exact y_143 h0 hF hr hI
  | succ d ih =>
    intro j f τ hj hf hI
    obtain ⟨f, rfl⟩ : ∃ y, f = y + 1 := ⟨f - 1, by omega⟩
    have orr := (SI_row hI.1.1.1 hr).1
    unfold f_Scribe_writeMerged_117
    rw [xkl_at hK.2.2.1.2 (by decide), bs, if_neg (nI_ge (show j < [127, 69, 76, 70, 2, 1, 1].length by show j < 7; omega) (by decide)), xkB_at hK.2.2.1.2 (by decide) hK.2.2.1.1 (by decide) (show j < [127, 69, 76, 70, 2, 1, 1].length by show j < 7; omega), bs, nI_add, c_o orr, bs]
    refine sz_x (y_set hF hr (by decide) hI) (fun _ τ2 _ i2 => ?_)
    exact ih (j + 1) f τ2 (by omega) (by omega) i2
theorem y_52 {ls : List Nat} {lc : Nat} {S : Nat × Nat} (h3 : S3 sk L own τ0 fs s xs ST rn ws) (hK : KT c) (hF : 65540 < F) (hr : TRw r A 65536) (hk : STk fs s ST) (e6 : fI τ1 1713 6 = nI ls.length) (hl : ls.length ≤ 63) (hls : ∀ (k i : Nat), ls[k]? = some i → eN τ1 1717 k = some (pN τ0 149 i)) (hlt : ∀ i, i ∈ ls → i < xs.length) (elc : lcT s.2.2.1.length (tB fs s.2.2.1) = lc) (hS22 : S.1 ≤ 22) : ∀ (d t f : Nat) (u : Nat × Nat) (τ : px_TT), t + d = s.2.2.1.length → d < f → itr (mgO (tB fs s.2.2.1) ST) t d u = S → SQm sk L τ0 τ1 r u.2 (64 * u.1) τ → Sf sk L (SI none sk L τ0) (fun v => v = bI (decide (wiN (wiN (wiN S.2 + 24 * (lc + ls.length)) + (1 + (ls.map (fun i => lfN xs i + 1)).sum)) + 64 * (S.1 + 2) ≤ 8192))) (f_Scribe_writeMerged_52 F c f 1713 r (nI t) (cH sk L τ)) := by
  have h0 := h3.1.1.1
  have o13 := G1713 h0.1
  have o47 := G147 h0.1
  have hT := S3_T h3
  intro d
  induction d with
  | zero =>
    intro t f u τ hj hf eS hI
    obtain ⟨f, rfl⟩ : ∃ y, f = y + 1 := ⟨f - 1, by omega⟩
    rw [itr_0] at eS
    subst eS
    have orr := (SI_row hI.1.1.1 hr).1
    unfold f_Scribe_writeMerged_52 f_Scribe_writeMerged_81
    rw [C11r0 o13 (GR_r (v := 147) (GR_Z h0.2.1 hI.1.1.1.1) (by decide)), bs, C3g14 o47, bs, z_tkn h3 hI.1.1.1, if_pos (nI_le (by omega) (by omega)), c_o o13, bs]
    refine sz_x (y_syms h3 hF hr e6 hl hls hlt elc hI) (fun _ τ2 _ i2 => ?_)
    rw [c_o o13, bs]
    refine sz_x (y_names h3 hF hr e6 hl hls hlt i2) (fun _ τ3 _ i3 => ?_)
    refine sz_x (y_next hF hr i3) (fun _ τ4 _ i4 => ?_)
    have hro := SI_row i4.1.1.1 T14
    have e1 := (i4.1.2.1 (by omega)).1
    rw [C11r3 o13 (GR_r (v := 1714) (GR_Z h0.2.1 i4.1.1.1.1) (by decide)), bs, C10r0 hro.1 hro.2.2.2.1, bs, bs, C10g1 hro.1, bs, e1, c_o orr, bs]
    refine sz_x (y_copy hr hro.2.1 (by decide) hro.2.2.2.2.2.2 (by omega) i4) (fun _ τ5 _ i5 => ?_)
    rw [show 64 * u.1 + 64 + 64 = 64 * (u.1 + 2) by omega] at i5
    exact y_117 h0 hK hF hr 7 0 F τ5 rfl (by omega) i5
  | succ d ih =>
    intro t f u τ hj hf eS hI
    obtain ⟨f, rfl⟩ : ∃ y, f = y + 1 := ⟨f - 1, by omega⟩
    rw [itr_s] at eS
    unfold f_Scribe_writeMerged_52
    rw [C11r0 o13 (GR_r (v := 147) (GR_Z h0.2.1 hI.1.1.1.1) (by decide)), bs, C3g14 o47, bs, z_tkn h3 hI.1.1.1, if_neg (nI_ge (by omega) (by omega))]
    exact y_obj h3 hF hr (by omega) hk (fun τ2 i2 => ih (t + 1) f _ τ2 (by omega) (by omega) eS i2) hI
theorem mg_hi {b : Nat → Nat} {p : Nat → Bool} : ∀ (d i : Nat) (u : Nat × Nat), (itr (mg1 b p) i d u).1 ≤ u.1 + d := by
  intro d
  induction d with
  | zero => intro i u; rw [itr_0]; exact Nat.le_refl _
  | succ d ih =>
    intro i u
    rw [itr_s]
    have h := ih (i + 1) (mg1 b p i u)
    have h1 : (mg1 b p i u).1 ≤ u.1 + 1 := by
      unfold mg1
      split
      · exact Nat.le_refl _
      · exact Nat.le_succ _
    omega
theorem mgT_bi {tb : Nat → Nat → Nat} {T : Nat} {ST : Nat → Bool} (hS : ∀ t, t < T → oS (tb t) ≤ 24) : ∀ (d t : Nat) (u : Nat × Nat), t + d ≤ T → (itr (mgO tb ST) t d u).1 ≤ u.1 + 46 * d := by
  intro d
  induction d with
  | zero => intro t u _; rw [itr_0]; omega
  | succ d ih =>
    intro t u h
    rw [itr_s]
    have h1 := ih (t + 1) (mgO tb ST t u) (by omega)
    have h2 := mg_hi (b := tb t) (p := mgp ST t) (oS (tb t) - 1) 1 u
    have h3 := mg_hi (b := tb t) (p := mgq (tb t) ST t) (oS (tb t) - 1) 1 (itr (mg1 (tb t) (mgp ST t)) 1 (oS (tb t) - 1) u)
    have h4 := hS t (by omega)
    have h5 : mgO tb ST t u = itr (mg1 (tb t) (mgq (tb t) ST t)) 1 (oS (tb t) - 1) (itr (mg1 (tb t) (mgp ST t)) 1 (oS (tb t) - 1) u) := rfl
    rw [← h5] at h3
    omega
theorem mgT_b {tb : Nat → Nat → Nat} {T : Nat} {ST : Nat → Bool} (hS : ∀ t, t < T → oS (tb t) ≤ 24) (hT : T ≤ 64) : (mgT T tb ST).1 < 2 ^ 20 := by
  have h := mgT_bi (ST := ST) hS T 0 (1, 64) (by omega)
  have e : mgT T tb ST = itr (mgO tb ST) 0 T (1, 64) := rfl
  rw [← e] at h
  have h : (mgT T tb ST).1 ≤ 1 + 46 * T := h
  omega
theorem z_merged (h3 : S3 sk L own τ0 fs s xs ST rn ws) (hK : KT c) (hF : 65540 < F) (hr : TRw r A 65536) (hST : ∀ x, ST x = (kpB (tB fs s.2.2.1 (x / 24)) (x % 24) && !s.2.1.1 x)) (hall : ∀ i, i < xs.length → mgC fs s xs ws s.1.2.2.1.length ws.length s.2.2.1.length 0 i) (hws : ∀ w, w ∈ ws → w ∈ xs.map Prod.fst) (hod : ∀ d, d ∈ s.1.2.2.1 → d < xs.length) (hI : SI none sk L τ0 τ) : Sf sk L (SI none sk L τ0) (fun v => v = bI (mgB s.2.2.1.length (tB fs s.2.2.1) ST (lfN xs) xs.length)) (f_Scribe_writeMerged F c 1713 r (cH sk L τ)) := by
  have h0 := h3.1.1.1
  have o13 := G1713 h0.1
  have hT := S3_T h3
  have hk : STk fs s ST := fun x hx hs => by
    rw [hST] at hs
    have w := (Bool.and_eq_true _ _).mp hs
    exact ⟨w.1, by simpa using w.2⟩
  have hb := lcT_b (tb := tB fs s.2.2.1) (T := s.2.2.1.length) (fun t ht => (TKe_ys h3.2.1 t ht).2.2) s.2.2.1.length 0 1 (by omega)
  have elc : lcT s.2.2.1.length (tB fs s.2.2.1) = itr (lcO (tB fs s.2.2.1)) 0 s.2.2.1.length 1 := rfl
  rw [← elc] at hb
  have hxl : xs.length ≤ 4128 := by have := h3.2.1.2.2.2.1.2.1.1.2.2.2.1; rw [List.length_map] at this; exact this
  have hmb : (mgT s.2.2.1.length (tB fs s.2.2.1) ST).1 < 2 ^ 20 := mgT_b (fun t ht => (TKe_ys h3.2.1 t ht).2.1) hT
  unfold f_Scribe_writeMerged f_Scribe_writeMerged_18
  rw [c_o o13, bs]
  refine sz_x (z_nparts h3 hF hST hI) (fun v τ2 hv i2 => ?_)
  subst hv
  by_cases cp : (mgT s.2.2.1.length (tB fs s.2.2.1) ST).1 ≤ 22
  · rw [if_neg (Int32.not_lt.mpr (nI_le (show (mgT s.2.2.1.length (tB fs s.2.2.1) ST).1 + 2 ≤ 24 by omega) (by decide))), c_o o13, bs]
    refine sz_x (z_nsyms h3 hF hall hws hod i2) (fun v τ3 hv i3 => ?_)
    subst hv
    obtain ⟨i3, ls, ⟨⟨n7, n6⟩, n1, n2, n3, n4⟩, hC⟩ := i3
    obtain ⟨hsum, hlen⟩ := all_sum (f := fun i => lfN xs i + 1) xs.length ls n1 n2 (fun x hx => hC x hx trivial)
    by_cases cs : lcT s.2.2.1.length (tB fs s.2.2.1) + xs.length ≤ 64
    · have orr := (SI_row i3 hr).1
      have o14 := (SI_row i3 T14).1
      have hr' : r ≠ 1714 ∧ r ≠ 1713 := by unfold TRw at hr; omega
      rw [if_pos (nI_le cs (by decide)), c_o orr, bs]
      obtain ⟨τ4, e4, r4, f4, z4⟩ := k_clearZ (F := F) (c := c) (SI_row i3 hr)
      have i4 := SI_Rw i3 hr f4 r4
      rw [e4, xb_mk, c_o orr, bs, show (64 : Int64) = lN 64 from rfl]
      obtain ⟨τ5, e5, r5, f5, z5⟩ := k_fillToZ (F := F) (c := c) (e := 64) (k := 64) (w := nI 0) (by omega) (by decide) (SI_row i4 hr) z4 (by decide) (fun _ => rfl)
      have i5 := SI_Rw i4 hr f5 r5
      rw [e5, xb_mk, C11r3 o13 (GR_r (v := 1714) (GR_Z h0.2.1 i5.1) (by decide)), bs, c_o o14, bs]
      obtain ⟨τ6, e6, r6, f6, z6⟩ := k_clearZ (F := F) (c := c) (SI_row i5 T14)
      have i6 := SI_Rw i5 T14 f6 r6
      rw [e6, xb_mk, C11r3 o13 (GR_r (v := 1714) (GR_Z h0.2.1 i6.1) (by decide)), bs, c_o o14, bs]
      obtain ⟨τ7, e7, r7, f7, z7⟩ := k_fillToZ (F := F) (c := c) (e := 64) (k := 64) (w := nI 0) (by omega) (by decide) (SI_row i6 T14) z6 (by decide) (fun _ => rfl)
      have i7 := SI_Rw i6 T14 f7 r7
      rw [e7, xb_mk]
      have z5' : rz τ7 r 65536 64 := by
        have z5 : rz τ5 r 65536 64 := z5
        exact rz_fr (rz_fr z5 (fun k => f6.1 r k (Or.inl hr'.1))) (fun k => f7.1 r k (Or.inl hr'.1))
      have z7' : rz τ7 1714 1536 (64 * 1) := z7
      have e13 : ∀ k, fI τ7 1713 k = fI τ3 1713 k := fun k => (f7.1 1713 k (Or.inl (by decide))).trans ((f6.1 1713 k (Or.inl (by decide))).trans ((f5.1 1713 k (Or.inl (Ne.symm hr'.2))).trans (f4.1 1713 k (Or.inl (Ne.symm hr'.2)))))
      have e17 : eN τ7 1717 = eN τ3 1717 := (f7.2.2.2.2.2 1717).trans ((f6.2.2.2.2.2 1717).trans ((f5.2.2.2.2.2 1717).trans (f4.2.2.2.2.2 1717)))
      obtain ⟨v, τ', e, hv, hi⟩ := y_52 (F := F) (c := c) (τ1 := τ3) (ls := ls) (lc := lcT s.2.2.1.length (tB fs s.2.2.1)) (S := mgT s.2.2.1.length (tB fs s.2.2.1) ST) h3 hK hF hr hk n6 (by omega) (fun k i hk' => n4 k i hk' (by have := (List.getElem?_eq_some_iff.mp hk').1; omega)) n2 rfl cp s.2.2.1.length 0 F (1, 64) τ7 (Nat.zero_add _) (by omega) rfl ⟨⟨⟨i7, z5', trivial⟩, z7'⟩, e13, e17⟩
      refine ⟨v, τ', e, hv.trans ?_, hi⟩
      rw [hlen, hsum]
      unfold mgB mgZ
      exact congrArg bI (decide_eq_decide.mpr ⟨fun w => ⟨cp, cs, w⟩, fun w => w.2.2⟩)
    · rw [if_neg (nI_ge (by omega) (by omega))]
      refine sf_r ?_ i3
      unfold mgB
      rw [decide_eq_false (fun w => cs w.2.1)]
      rfl
  · rw [if_pos (Int32.not_le.mp (nI_ge (a := 24) (b := (mgT s.2.2.1.length (tB fs s.2.2.1) ST).1 + 2) (by omega) (by omega)))]
    refine sf_r ?_ i2
    unfold mgB
    rw [decide_eq_false (fun w => cp w.1)]
    rfl
end CMZ
end
section
/-! the reference's merge: what it counts, and what it answers (steps spelled out by sf/pp.py) -/
/-- the parts so far: how many, where their bytes end; or there are too many -/
def MPx (σ : px_S) (T : Nat) (tb : Nat → Nat → Nat) (S : Nat × Nat) : Prop := (S.1 ≤ 22 ∧ (1 ≤ S.1 ∧ gI σ 123 = nI S.1 ∧ gI σ 126 = bI false) ∧ ∃ pt pi : Nat → Nat, (∀ j, 1 ≤ j → j < S.1 → MPj σ T tb j (pt j) (pi j)) ∧ plA (fun j => ptZ (tb (pt j)) (pi j)) (S.1 - 1) = S.2) ∨ (22 < S.1 ∧ gI σ 126 = bI true ∧ MPt σ T tb 22)
abbrev mgX (σ0 : px_S) (T : Nat) (tb : Nat → Nat → Nat) (S : Nat × Nat) (σ : px_S) : Prop := mgF σ0 σ ∧ MPx σ T tb S
theorem plA_c {f g : Nat → Nat} : ∀ (k : Nat), (∀ j, 1 ≤ j → j ≤ k → f j = g j) → plA f k = plA g k := by
  intro k
  induction k with
  | zero => intro _; rfl
  | succ k ih =>
    intro h
    rw [plA_s, plA_s, ih (fun j h1 h2 => h j h1 (by omega)), h (k + 1) (by omega) (Nat.le_refl _)]
section MXC
variable {F m T t i : Nat} {h : px_H} {σ0 σ : px_S} {tO tn : Nat → Nat} {tb : Nat → Nat → Nat} {dr : Nat → Bool} {xs : px_NL} {od : List Nat} {on : Bool} {R ST : Nat → Bool} {S : Nat × Nat} {I : px_S → Prop}
theorem x_part {u : Nat × Nat} (hm : m ≤ h.length) (hT : T ≤ 64) (ht : t < T) (h1 : 1 ≤ i) (hi : i < 24) (hiS : i < oS (tb t)) (hKS : oK (tb t) i = true ∨ isS (tb t) i = true) (hf : mgF σ0 σ) (hP : MPx σ T tb u) : Sm m h (mgX σ0 T tb (u.1 + 1, wiN u.2 + ptZ (tb t) i)) Any (f_M_part F m (nI t) (nI i) (mh m h σ)) := by
  unfold f_M_part
  rcases hP with ⟨p2, ⟨p1, e123, e126⟩, pt, pi, hJ, hp⟩ | ⟨p2, e126, q1, q2, e123, q4, hJ⟩
  · rw [Mg123 hm, bs, e123]
    by_cases c : u.1 = 22
    · rw [if_pos (by rw [c]), show nI 1 = bI true from rfl, e_pZ hm rfl, bs]
      refine sm_r any ⟨FR_trans hf (FR_mono (FR_I _ _ _) (by decide) (by decide) (by decide) (by decide)), Or.inr ⟨by show 22 < u.1 + 1; omega, rfl, by decide, by decide, ?_, ⟨true, rfl⟩, fun j j1 j2 => ⟨pt j, pi j, hJ j j1 (by omega)⟩⟩⟩
      rw [← c]
      exact e123
    · rw [if_neg (fun q => c ((nI_eq (by omega) (by decide)).mp q)), Mr117 hm, bs, bs, show nI 24 * nI t = nI (24 * t) from (Int32.ofNat_mul _ _).symm, nI_add, Ms117 hm (by omega), bs, Mr120 hm, bs, Mg123 hm, bs, gI_sA, e123, Ms120 hm (by omega), bs, Mr121 hm, bs, Mg123 hm, bs, gI_sA, gI_sA, e123, Ms121 hm (by omega), bs, Mg123 hm, bs, gI_sA, gI_sA, gI_sA, e123, nI_add, Mp123 hm, bs]
      refine sm_r any ⟨FR_trans (FR_trans (FR_trans (FR_trans hf (FR_mono (FR_A _ _ _) (by decide) (by decide) (by decide) (by decide))) (FR_mono (FR_A _ _ _) (by decide) (by decide) (by decide) (by decide))) (FR_mono (FR_A _ _ _) (by decide) (by decide) (by decide) (by decide))) (FR_mono (FR_I _ _ _) (by decide) (by decide) (by decide) (by decide)), Or.inl ⟨by show u.1 + 1 ≤ 22; omega, ⟨by show 1 ≤ u.1 + 1; omega, by rw [gI_sI, if_pos rfl], by rw [gI_sI, if_neg (by decide)]; exact e126⟩, fun j => if j = u.1 then t else pt j, fun j => if j = u.1 then i else pi j, fun j j1 j2 => ?_, ?_⟩⟩
      · have j2 : j < u.1 + 1 := j2
        by_cases e : j = u.1
        · subst e
          show MPj _ T tb u.1 (if u.1 = u.1 then t else pt u.1) (if u.1 = u.1 then i else pi u.1)
          rw [if_pos rfl, if_pos rfl]
          refine ⟨ht, h1, hiS, ?_, ?_, hKS⟩
          · simp [gA_sI, gA_sA, upd]
          · simp [gA_sI, gA_sA, upd]
        · show MPj _ T tb j (if j = u.1 then t else pt j) (if j = u.1 then i else pi j)
          rw [if_neg e, if_neg e]
          obtain ⟨w1, w2, w3, w4, w5, w6⟩ := hJ j j1 (by omega)
          refine ⟨w1, w2, w3, ?_, ?_, w6⟩
          · simp [gA_sI, gA_sA, upd, e, w4]
          · simp [gA_sI, gA_sA, upd, e, w5]
      · show plA (fun j => ptZ (tb (if j = u.1 then t else pt j)) (if j = u.1 then i else pi j)) (u.1 + 1 - 1) = wiN u.2 + ptZ (tb t) i
        have hc := plA_c (f := fun j => ptZ (tb (if j = u.1 then t else pt j)) (if j = u.1 then i else pi j)) (g := fun j => ptZ (tb (pt j)) (pi j)) (u.1 - 1) (fun j j1 j2 => by
          show ptZ (tb (if j = u.1 then t else pt j)) (if j = u.1 then i else pi j) = _
          rw [if_neg (by omega), if_neg (by omega)])
        rw [show u.1 + 1 - 1 = (u.1 - 1) + 1 by omega, plA_s, hc, hp, show u.1 - 1 + 1 = u.1 by omega, if_pos rfl, if_pos rfl]
  · rw [Mg123 hm, bs, e123, if_pos rfl, show nI 1 = bI true from rfl, e_pZ hm rfl, bs]
    exact sm_r any ⟨FR_trans hf (FR_mono (FR_I _ _ _) (by decide) (by decide) (by decide) (by decide)), Or.inr ⟨by show 22 < u.1 + 1; omega, rfl, q1, q2, e123, ⟨true, rfl⟩, hJ⟩⟩
theorem x_cp60 {V : Unit → Prop} {k12 : Nat → Int32 → px_H → Option (Unit × px_H)} (hm : m ≤ h.length) (hF : 24 < F) (hT : T ≤ 64) (ht : t < T) (hk : MGk σ0 T tO tn tb dr xs od on R) (hSt : ∀ t i, t < T → i < oS (tb t) → ST (24 * t + i) = sta tb dr on R t i) (hK : ∀ σ, mgX σ0 T tb S σ → Sm m h I V (k12 m (nI (t + 1)) (mh m h σ))) : ∀ (d i f : Nat) (u : Nat × Nat) (σ : px_S), i + d = oS (tb t) → 1 ≤ i → d < f → itr (mg1 (tb t) (mgq (tb t) ST t)) i d u = S → mgX σ0 T tb u σ → Sm m h I V (f_M_countParts_60 F k12 f m (nI t) (nI (tO t)) (nI i) (mh m h σ)) := by
  have hS24 := (OB_w (MGk_o hk ht)).1.2.1.2
  have he := (MGk_o hk ht).2.2.2.1
  intro d
  induction d with
  | zero =>
    intro i f u σ hi h1 hf eS hI
    obtain ⟨f, rfl⟩ : ∃ y, f = y + 1 := ⟨f - 1, by omega⟩
    have hb := MGk_o (MGk_g hk hI.1) ht
    rw [itr_0] at eS
    subst eS
    unfold f_M_countParts_60 f_M_countParts_105
    rw [e_o hm, bs, O_sec hm (by omega) hb, xb_mk, if_pos (nI_le (by omega) (by omega)), nI_add]
    exact hK σ hI
  | succ d ih =>
    intro i f u σ hi h1 hf eS hI
    obtain ⟨f, rfl⟩ : ∃ y, f = y + 1 := ⟨f - 1, by omega⟩
    have hk1 := MGk_g hk hI.1
    have hb := MGk_o hk1 ht
    have hiS : i < oS (tb t) := by omega
    rw [itr_s] at eS
    unfold f_M_countParts_60 f_M_countParts_99
    rw [e_o hm, bs, O_sec hm (by omega) hb, xb_mk, if_neg (nI_ge (by omega) (by omega)), e_o hm, bs, O_isS hm (by omega) hb hiS, xb_mk, nI_add]
    cases hs : isS (tb t) i with
    | false =>
      rw [mg1_f (show mgq (tb t) ST t i = false by unfold mgq; rw [hs, Bool.false_and])] at eS
      rw [if_pos (show bI false = 0 from rfl)]
      exact ih (i + 1) f u σ (by omega) (by omega) (by omega) eS hI
    | true =>
      have h0 := (eSit_0 he h1 hiS hs).1
      have eq' := hSt t (oI (tb t) i) ht h0
      rw [if_neg (show ¬ bI true = 0 by decide), e_o hm, bs, O_info hm (by omega) hb hiS, xb_mk, lN_i, e_o hm, bs, q_stays hm (by omega) hb hk1.1.2.1 hk1.2.1 h0, xb_mk]
      cases es : sta tb dr on R t (oI (tb t) i) with
      | false =>
        rw [mg1_f (show mgq (tb t) ST t i = false by unfold mgq; rw [eq', es, Bool.and_false])] at eS
        rw [if_pos (show bI false = 0 from rfl)]
        exact ih (i + 1) f u σ (by omega) (by omega) (by omega) eS hI
      | true =>
        rw [mg1_t (show mgq (tb t) ST t i = true by unfold mgq; rw [hs, eq', es]; rfl)] at eS
        rw [if_neg (show ¬ bI true = 0 by decide)]
        exact sm_o hm (fun _ => sm_x (x_part hm hT ht h1 (by omega) hiS (Or.inr hs) hI.1 hI.2) (fun _ σ _ hi => ih (i + 1) f _ σ (by omega) (by omega) (by omega) eS hi))
theorem x_cp28 {V : Unit → Prop} {U : Nat × Nat} {k12 : Nat → Int32 → px_H → Option (Unit × px_H)} (hm : m ≤ h.length) (hF : 65540 < F) (hT : T ≤ 64) (ht : t < T) (hk : MGk σ0 T tO tn tb dr xs od on R) (hSt : ∀ t i, t < T → i < oS (tb t) → ST (24 * t + i) = sta tb dr on R t i) (eU : itr (mg1 (tb t) (mgq (tb t) ST t)) 1 (oS (tb t) - 1) U = S) (hK : ∀ σ, mgX σ0 T tb S σ → Sm m h I V (k12 m (nI (t + 1)) (mh m h σ))) : ∀ (d i f : Nat) (u : Nat × Nat) (σ : px_S), i + d = oS (tb t) → 1 ≤ i → d < f → itr (mg1 (tb t) (mgp ST t)) i d u = U → mgX σ0 T tb u σ → Sm m h I V (f_M_countParts_28 F k12 f m (nI t) (nI (tO t)) (nI i) (mh m h σ)) := by
  have hS24 := (OB_w (MGk_o hk ht)).1.2.1.2
  intro d
  induction d with
  | zero =>
    intro i f u σ hi h1 hf eS hI
    obtain ⟨f, rfl⟩ : ∃ y, f = y + 1 := ⟨f - 1, by omega⟩
    have hb := MGk_o (MGk_g hk hI.1) ht
    rw [itr_0] at eS
    subst eS
    unfold f_M_countParts_28 f_M_countParts_58
    rw [e_o hm, bs, O_sec hm (by omega) hb, xb_mk, if_pos (nI_le (by omega) (by omega))]
    exact x_cp60 hm (by omega) hT ht hk hSt hK (oS (tb t) - 1) 1 F u σ (by omega) (Nat.le_refl _) (by omega) eU hI
  | succ d ih =>
    intro i f u σ hi h1 hf eS hI
    obtain ⟨f, rfl⟩ : ∃ y, f = y + 1 := ⟨f - 1, by omega⟩
    have hk1 := MGk_g hk hI.1
    have hb := MGk_o hk1 ht
    have hiS : i < oS (tb t) := by omega
    have eq' := hSt t i ht hiS
    rw [itr_s] at eS
    unfold f_M_countParts_28 f_M_countParts_52
    rw [e_o hm, bs, O_sec hm (by omega) hb, xb_mk, if_neg (nI_ge (by omega) (by omega)), e_o hm, bs, q_stays hm (by omega) hb hk1.1.2.1 hk1.2.1 hiS, xb_mk, nI_add]
    cases hs : sta tb dr on R t i with
    | false =>
      rw [mg1_f (show mgp ST t i = false by unfold mgp; rw [eq', hs])] at eS
      rw [if_pos (show bI false = 0 from rfl)]
      exact ih (i + 1) f u σ (by omega) (by omega) (by omega) eS hI
    | true =>
      rw [mg1_t (show mgp ST t i = true by unfold mgp; rw [eq', hs])] at eS
      rw [if_neg (show ¬ bI true = 0 by decide)]
      have hk' : oK (tb t) i = true := by
        unfold sta at hs
        rw [Bool.and_eq_true] at hs
        exact hs.1
      exact sm_o hm (fun _ => sm_x (x_part hm hT ht h1 (by omega) hiS (Or.inl hk') hI.1 hI.2) (fun _ σ _ hi => ih (i + 1) f _ σ (by omega) (by omega) (by omega) eS hi))
theorem x_cp12 (hm : m ≤ h.length) (hF : 65540 < F) (hT : T ≤ 64) (hk : MGk σ0 T tO tn tb dr xs od on R) (hSt : ∀ t i, t < T → i < oS (tb t) → ST (24 * t + i) = sta tb dr on R t i) : ∀ (d t f : Nat) (u : Nat × Nat) (σ : px_S), t + d = T → d < f → itr (mgO tb ST) t d u = S → mgX σ0 T tb u σ → Sm m h (mgX σ0 T tb S) Any (f_M_countParts_12 F f m (nI t) (mh m h σ)) := by
  intro d
  induction d with
  | zero =>
    intro t f u σ ht hf eS hI
    obtain ⟨f, rfl⟩ : ∃ y, f = y + 1 := ⟨f - 1, by omega⟩
    rw [itr_0] at eS
    subst eS
    unfold f_M_countParts_12 f_M_countParts_111
    rw [Mg14 hm, bs, (MGk_g hk hI.1).2.2.2, if_pos (nI_le (by omega) (by omega))]
    exact sm_r any hI
  | succ d ih =>
    intro t f u σ ht hf eS hI
    obtain ⟨f, rfl⟩ : ∃ y, f = y + 1 := ⟨f - 1, by omega⟩
    have hk1 := MGk_g hk hI.1
    have hb := MGk_o hk1 (show t < T by omega)
    have hS := (OB_w hb).1.2.1
    rw [itr_s] at eS
    unfold f_M_countParts_12
    rw [Mg14 hm, bs, hk1.2.2.2, if_neg (nI_ge (by omega) (by omega)), e_o hm, bs, O_obj hm hb, xb_mk]
    exact x_cp28 (S := mgO tb ST t u) (U := itr (mg1 (tb t) (mgp ST t)) 1 (oS (tb t) - 1) u) hm hF hT (by omega) hk hSt rfl (fun σ hi => ih (t + 1) f _ σ (by omega) (by omega) eS hi) (oS (tb t) - 1) 1 F u σ (by omega) (Nat.le_refl _) (by omega) rfl hI
theorem x_countParts (hm : m ≤ h.length) (hF : 65540 < F) (hT : T ≤ 64) (hk : MGk σ0 T tO tn tb dr xs od on R) (hSt : ∀ t i, t < T → i < oS (tb t) → ST (24 * t + i) = sta tb dr on R t i) : Sm m h (mgX σ0 T tb (mgT T tb ST)) Any (f_M_countParts F m (mh m h σ0)) := by
  unfold f_M_countParts
  rw [Mp123 hm, bs, show nI 0 = bI false from rfl, e_pZ hm rfl, bs]
  exact x_cp12 hm hF hT hk hSt T 0 F (1, 64) _ (Nat.zero_add _) (by omega) rfl ⟨FR_trans (FR_mono (FR_I _ _ _) (by decide) (by decide) (by decide) (by decide)) (FR_mono (FR_I _ _ _) (by decide) (by decide) (by decide) (by decide)), Or.inl ⟨(by show 1 ≤ 22; decide), ⟨Nat.le_refl _, rfl, rfl⟩, fun _ => 0, fun _ => 0, fun j h1 h2 => absurd (show j < 1 from h2) (by omega), rfl⟩⟩
/-- names that are not defined by an input -/
def c04 (xs : px_NL) (n a : Nat) : Nat := if stN xs n = 0 ∨ stN xs n = 4 then a + 1 else a
theorem x_cs119 {A : Nat} (hm : m ≤ h.length) (hF : 65540 < F) (hk : MGk σ0 T tO tn tb dr xs od on R) (h4 : AL (fun x => x.2.1 ≤ 4) xs) {f0 : Nat} (hf1 : 1 ≤ f0) : ∀ (d n f a : Nat) (σ : px_S), n + d = xs.length → d < f → a + d < 2 ^ 20 → f0 ≤ a → itr (c04 xs) n d a = A → mgS σ0 σ → gI σ 125 = nI a → MLo σ tb T 0 a → MNl σ xs.length f0 a → Sm m h (fun σ' => MSd σ0 T tb xs.length σ' ∧ gI σ' 125 = nI A) Any (f_M_countSymbols_119 F f m (nI n) (mh m h σ)) := by
  have hx : xs.length ≤ 4096 := by have := hk.1.2.2.1.2.1; rw [List.length_map] at this; exact this
  intro d
  induction d with
  | zero =>
    intro n f a σ hn hf ha hfa eA hI e125 hL hN
    obtain ⟨f, rfl⟩ : ∃ y, f = y + 1 := ⟨f - 1, by omega⟩
    have e20 : gI σ 20 = nI xs.length := by have := (MGk_s hk hI).1.2.2.1.1; rw [List.length_map] at this; exact this
    rw [itr_0] at eA
    subst eA
    unfold f_M_countSymbols_119 f_M_countSymbols_157
    rw [Mg20 hm, bs, e20, if_pos (nI_le (by omega) (by omega))]
    exact sm_r any ⟨⟨hI, f0, a, hf1, hfa, by omega, e125, hL, hN⟩, e125⟩
  | succ d ih =>
    intro n f a σ hn hf ha hfa eA hI e125 hL hN
    obtain ⟨f, rfl⟩ : ∃ y, f = y + 1 := ⟨f - 1, by omega⟩
    have hR := (MGk_s hk hI).1.2.2
    have e20 : gI σ 20 = nI xs.length := by have := hR.1.1; rw [List.length_map] at this; exact this
    have hnx : xs[n]? = some xs[n] := List.getElem?_eq_getElem (by omega)
    have e23 : gA σ 23 n = nI (stN xs n) := by rw [stN_at hnx]; exact (hR.2 n _ hnx).1
    have hs4 : stN xs n ≤ 4 := by rw [stN_at hnx]; exact h4 n _ hnx
    rw [itr_s] at eA
    have e1 : c04 xs n a = a → Sm m h (fun σ' => MSd σ0 T tb xs.length σ' ∧ gI σ' 125 = nI A) Any (f_M_countSymbols_151 F (f_M_countSymbols_119 F f) m (nI n) (mh m h σ)) := fun ec => by
      unfold f_M_countSymbols_151
      rw [nI_add]
      rw [ec] at eA
      exact ih _ _ a σ (by omega) (by omega) (by omega) hfa eA hI e125 hL hN
    have e2 : c04 xs n a = a + 1 → Sm m h (fun σ' => MSd σ0 T tb xs.length σ' ∧ gI σ' 125 = nI A) Any (f_M_countSymbols_146 F (f_M_countSymbols_119 F f) m (nI n) (mh m h σ)) := fun ec => by
      unfold f_M_countSymbols_146 f_M_countSymbols_151
      rw [nI_add]
      rw [ec] at eA
      refine sm_o hm (fun _ => sm_x (sm_numN (F := F) (n := n) (xs := xs) hm (by omega) hx (by omega) hfa hI e125 hL hN) (fun _ σ _ hi => ?_))
      obtain ⟨g1, g2, g3, g4⟩ := hi
      exact ih _ _ (a + 1) σ (by omega) (by omega) (by omega) (by omega) eA g1 g2 g3 g4
    unfold f_M_countSymbols_119
    rw [Mg20 hm, bs, e20, if_neg (nI_ge (by omega) (by omega)), Mr23 hm, bs, Ma23 hm (by omega), bs, e23]
    by_cases c0 : stN xs n = 0
    · rw [if_pos (by rw [c0]; rfl)]
      exact e2 (by unfold c04; rw [if_pos (Or.inl c0)])
    · rw [if_neg (show ¬ nI (stN xs n) = 0 from fun w => c0 ((nI_eq (b := 0) (by omega) (by decide)).mp w)), bs, Ma23 hm (by omega), bs, e23]
      by_cases c4 : stN xs n = 4
      · rw [if_pos (by rw [c4])]
        exact e2 (by unfold c04; rw [if_pos (Or.inr c4)])
      · rw [if_neg (fun w => c4 ((nI_eq (by omega) (by decide)).mp w))]
        exact e1 (by unfold c04; rw [if_neg (by omega)])
theorem x_cs93 {A : Nat} (hm : m ≤ h.length) (hF : 65540 < F) (hk : MGk σ0 T tO tn tb dr xs od on R) (h4 : AL (fun x => x.2.1 ≤ 4) xs) (hod : ∀ d, d ∈ od → d < xs.length) {f0 : Nat} (hf1 : 1 ≤ f0) : ∀ (d q f a : Nat) (σ : px_S), q + d = od.length → d < f → a + d + xs.length < 2 ^ 20 → f0 ≤ a → itr (c04 xs) 0 xs.length (a + d) = A → mgS σ0 σ → gI σ 125 = nI a → MLo σ tb T 0 a → MNl σ xs.length f0 a → Sm m h (fun σ' => MSd σ0 T tb xs.length σ' ∧ gI σ' 125 = nI A) Any (f_M_countSymbols_93 F f m (nI q) (mh m h σ)) := by
  have hx : xs.length ≤ 4096 := by have := hk.1.2.2.1.2.1; rw [List.length_map] at this; exact this
  have hl := hk.2.2.1.2.1
  intro d
  induction d with
  | zero =>
    intro q f a σ hq hf ha hfa eA hI e125 hL hN
    obtain ⟨f, rfl⟩ : ∃ y, f = y + 1 := ⟨f - 1, by omega⟩
    unfold f_M_countSymbols_93 f_M_countSymbols_117
    rw [Mg48 hm, bs, (MGk_s hk hI).2.2.1.1, if_pos (nI_le (by omega) (by omega))]
    exact x_cs119 hm hF hk h4 hf1 xs.length 0 F a σ (Nat.zero_add _) (by omega) (by omega) hfa eA hI e125 hL hN
  | succ d ih =>
    intro q f a σ hq hf ha hfa eA hI e125 hL hN
    obtain ⟨f, rfl⟩ : ∃ y, f = y + 1 := ⟨f - 1, by omega⟩
    have hx' : od[q]? = some od[q] := List.getElem?_eq_getElem (by omega)
    have hO := (MGk_s hk hI).2.2.1
    unfold f_M_countSymbols_93
    rw [Mg48 hm, bs, hO.1, if_neg (nI_ge (by omega) (by omega)), Mr49 hm, bs, Ma49 hm (by omega), bs, hO.2.2 q _ hx', nI_add]
    refine sm_o hm (fun _ => sm_x (sm_numN (F := F) (n := od[q]) (xs := xs) hm (hod _ (List.getElem_mem _)) hx (by omega) hfa hI e125 hL hN) (fun _ σ _ hi => ?_))
    obtain ⟨g1, g2, g3, g4⟩ := hi
    exact ih _ _ (a + 1) σ (by omega) (by omega) (by omega) (by omega) (by rw [show a + 1 + d = a + (d + 1) by omega]; exact eA) g1 g2 g3 g4
theorem x_cs17 {lc : Nat} {I : px_S → Prop} {k7 : Nat → Int32 → px_H → Option (Unit × px_H)} (hm : m ≤ h.length) (hF : 65540 < F) (hT : T ≤ 64) (ht : t < T) (hk : MGk σ0 T tO tn tb dr xs od on R) (hK : ∀ σ, 1 ≤ lc → lc ≤ 1 + 64 * (t + 1) → mgS σ0 σ → gI σ 125 = nI lc → MLo σ tb (t + 1) 0 lc → Sm m h I Any (k7 m (nI (t + 1)) (mh m h σ))) : ∀ (d k f a : Nat) (σ : px_S), k + d = pkM (oM (tb t)) → 1 ≤ k → d < f → 1 ≤ a → a ≤ 64 * t + k → itr (lc1 (tb t)) k d a = lc → mgS σ0 σ → gI σ 125 = nI a → MLo σ tb t k a → Sm m h I Any (f_M_countSymbols_17 F k7 f m (nI t) (nI k) (mh m h σ)) := by
  have hM := w2_M (OB_w (MGk_o hk ht))
  obtain ⟨m1, m2, m3⟩ := pkM_1 (oM (tb t))
  have hMx : pkM (oM (tb t)) ≤ 64 := by unfold pkM; split <;> omega
  intro d
  induction d with
  | zero =>
    intro k f a σ hk1 h1 hf ha1 ha eA hI e125 hL
    obtain ⟨f, rfl⟩ : ∃ y, f = y + 1 := ⟨f - 1, by omega⟩
    have hb := MGk_o (MGk_s hk hI) ht
    rw [itr_0] at eA
    subst eA
    unfold f_M_countSymbols_17 f_M_countSymbols_77
    rw [e_o hm, bs, O_obj hm hb, xb_mk, e_o hm, bs, O_many hm (by omega) hb, xb_mk, if_pos (nI_le (by omega) (by omega)), nI_add]
    refine hK σ ha1 (by omega) hI e125 (fun t' k' w1 w2 w3 w4 => hL t' k' ?_ w2 w3 w4)
    rcases w1 with w1 | w1
    · by_cases e : t' = t
      · subst e
        exact Or.inr ⟨rfl, by omega⟩
      · exact Or.inl (by omega)
    · omega
  | succ d ih =>
    intro k f a σ hk1 h1 hf ha1 ha eA hI e125 hL
    obtain ⟨f, rfl⟩ : ∃ y, f = y + 1 := ⟨f - 1, by omega⟩
    have hb := MGk_o (MGk_s hk hI) ht
    have hkM := m3 k h1 (by omega)
    have hyB : yB (tb t) k < 2 ^ 31 := by
      have := OB_y hb h1 hkM
      unfold yOK at this
      have := (of_decide_eq_true this).1
      omega
    rw [itr_s] at eA
    unfold f_M_countSymbols_17 f_M_countSymbols_71
    rw [e_o hm, bs, O_obj hm hb, xb_mk, e_o hm, bs, O_many hm (by omega) hb, xb_mk, if_neg (nI_ge (by omega) (by omega)), e_o hm, bs, O_obj hm hb, xb_mk, e_o hm, bs, O_bind hm (by omega) hb hkM, xb_mk, nI_add]
    by_cases c : yB (tb t) k = 0
    · have e1 : lc1 (tb t) k a = a + 1 := by unfold lc1 hsN; rw [if_pos ⟨h1, decide_eq_false (fun w => w.2.2 c)⟩]
      rw [e1] at eA
      rw [if_pos (by rw [c]; rfl), Mr118 hm, bs, Mg125 hm, bs, e125, show nI 64 * nI t = nI (64 * t) from (Int32.ofNat_mul _ _).symm, nI_add, Ms118 hm (by omega), bs, Mg125 hm, bs, gI_sA, e125, nI_add, Mp125 hm, bs]
      refine ih (k + 1) f (a + 1) _ (by omega) (by omega) (by omega) (by omega) (by omega) eA (FR_trans (FR_trans hI (FR_mono (FR_A _ _ _) (by decide) (by decide) (by decide) (by decide))) (FR_mono (FR_I _ _ _) (by decide) (by decide) (by decide) (by decide))) (by rw [gI_sI, if_pos rfl]) (fun t' k' w1 w2 w3 w4 => ?_)
      rw [gA_sI, gA_sA, if_pos rfl]
      by_cases e : 64 * t' + k' = 64 * t + k
      · exact ⟨a, by omega, by simp [upd, e]⟩
      · obtain ⟨v, v1, v2⟩ := hL t' k' (by
          rcases w1 with w1 | ⟨w1, w5⟩
          · exact Or.inl w1
          · refine Or.inr ⟨w1, ?_⟩
            have : k' ≠ k := fun q => e (by rw [w1, q])
            omega) w2 w3 w4
        exact ⟨v, by omega, by simp [upd, e, v2]⟩
    · have e1 : lc1 (tb t) k a = a := by unfold lc1 hsN; rw [decide_eq_true (show 1 ≤ k ∧ k < oM (tb t) ∧ yB (tb t) k ≠ 0 from ⟨h1, hkM, c⟩), if_neg (fun w => by cases w.2)]
      rw [e1] at eA
      rw [if_neg (nI_nz hyB c)]
      refine ih (k + 1) f a σ (by omega) (by omega) (by omega) ha1 (by omega) eA hI e125 (fun t' k' w1 w2 w3 w4 => hL t' k' ?_ w2 w3 w4)
      rcases w1 with w1 | ⟨w1, w5⟩
      · exact Or.inl w1
      · refine Or.inr ⟨w1, ?_⟩
        have : k' ≠ k := fun q => c (by rw [w1, q] at w4; exact w4)
        omega
theorem x_cs7 {A lc : Nat} (hm : m ≤ h.length) (hF : 65540 < F) (hT : T ≤ 64) (hk : MGk σ0 T tO tn tb dr xs od on R) (h4 : AL (fun x => x.2.1 ≤ 4) xs) (hod : ∀ d, d ∈ od → d < xs.length) (eA : itr (c04 xs) 0 xs.length (lc + od.length) = A) : ∀ (d t f a : Nat) (σ : px_S), t + d = T → d < f → 1 ≤ a → a ≤ 1 + 64 * t → itr (lcO tb) t d a = lc → mgS σ0 σ → gI σ 125 = nI a → MLo σ tb t 0 a → Sm m h (fun σ' => MSd σ0 T tb xs.length σ' ∧ gI σ' 125 = nI A) Any (f_M_countSymbols_7 F f m (nI t) (mh m h σ)) := by
  have hx : xs.length ≤ 4096 := by have := hk.1.2.2.1.2.1; rw [List.length_map] at this; exact this
  have hl := hk.2.2.1.2.1
  intro d
  induction d with
  | zero =>
    intro t f a σ ht hf ha1 ha eL hI e125 hL
    obtain ⟨f, rfl⟩ : ∃ y, f = y + 1 := ⟨f - 1, by omega⟩
    obtain rfl : t = T := by omega
    rw [itr_0] at eL
    subst eL
    unfold f_M_countSymbols_7 f_M_countSymbols_83
    rw [Mg14 hm, bs, (MGk_s hk hI).2.2.2, if_pos (nI_le (by omega) (by omega)), Mg125 hm, bs, e125, Mp124 hm, bs]
    exact x_cs93 hm hF hk h4 hod ha1 od.length 0 F a _ (Nat.zero_add _) (by omega) (by omega) (Nat.le_refl _) eA (FR_trans hI (FR_mono (FR_I _ _ _) (by decide) (by decide) (by decide) (by decide))) (by rw [gI_sI, if_neg (by decide)]; exact e125) hL ⟨by rw [gI_sI, if_pos rfl], fun k k1 k2 => by omega⟩
  | succ d ih =>
    intro t f a σ ht hf ha1 ha eL hI e125 hL
    obtain ⟨f, rfl⟩ : ∃ y, f = y + 1 := ⟨f - 1, by omega⟩
    have hMM := w2_M (OB_w (MGk_o hk (show t < T by omega)))
    obtain ⟨m1, m2, m3⟩ := pkM_1 (oM (tb t))
    have hMx : pkM (oM (tb t)) ≤ 64 := by unfold pkM; split <;> omega
    have eM : pkM (oM (tb t)) - 1 = oM (tb t) - 1 := by unfold pkM; split <;> omega
    rw [itr_s] at eL
    unfold f_M_countSymbols_7
    rw [Mg14 hm, bs, (MGk_s hk hI).2.2.2, if_neg (nI_ge (by omega) (by omega))]
    refine x_cs17 (lc := lcO tb t a) hm hF hT (by omega) hk (fun σ g1 g2 g3 g4 g5 => ih (t + 1) f _ σ (by omega) (by omega) g1 g2 eL g3 g4 g5) (pkM (oM (tb t)) - 1) 1 F a σ (by omega) (Nat.le_refl _) (by omega) ha1 (by omega) (by rw [eM]; rfl) hI e125 (fun t' k' w1 w2 w3 w4 => hL t' k' ?_ w2 w3 w4)
    rcases w1 with w1 | w1
    · exact Or.inl w1
    · omega
theorem x_countSymbols {A : Nat} (hm : m ≤ h.length) (hF : 65540 < F) (hT : T ≤ 64) (hk : MGk σ0 T tO tn tb dr xs od on R) (h4 : AL (fun x => x.2.1 ≤ 4) xs) (hod : ∀ d, d ∈ od → d < xs.length) (eA : itr (c04 xs) 0 xs.length (lcT T tb + od.length) = A) : Sm m h (fun σ' => MSd σ0 T tb xs.length σ' ∧ gI σ' 125 = nI A) Any (f_M_countSymbols F m (mh m h σ0)) := by
  unfold f_M_countSymbols
  rw [Mp125 hm, bs]
  exact x_cs7 hm hF hT hk h4 hod eA T 0 F 1 _ (Nat.zero_add _) (by omega) (Nat.le_refl _) (by omega) rfl (FR_mono (FR_I _ _ _) (by decide) (by decide) (by decide) (by decide)) (by rw [gI_sI, if_pos rfl]) (fun t' k' w1 => by omega)
end MXC
end
section
/-! merge: class and reference answer alike (steps spelled out by sf/pp.py) -/
theorem cnt04 {xs : px_NL} : ∀ (N a : Nat), itr (c04 xs) 0 N a = a + ((List.range N).filter (fun n => decide (stN xs n = 0 ∨ stN xs n = 4))).length := by
  intro N
  induction N with
  | zero => intro a; rw [itr_0]; rfl
  | succ N ih =>
    intro a
    have e1 : itr (c04 xs) (0 + N) 1 (itr (c04 xs) 0 N a) = c04 xs (0 + N) (itr (c04 xs) 0 N a) := rfl
    rw [itr_app N 1 0 a, e1, ih, Nat.zero_add, List.range_succ, List.filter_append, List.length_append]
    unfold c04
    by_cases c : stN xs N = 0 ∨ stN xs N = 4
    · rw [if_pos c, List.filter_cons_of_pos (p := fun n => decide (stN xs n = 0 ∨ stN xs n = 4)) (decide_eq_true c), List.filter_nil, List.length_singleton]
      omega
    · rw [if_neg c, List.filter_cons_of_neg (by rw [decide_eq_true_eq]; exact c), List.filter_nil, List.length_nil]
      omega
theorem all04 {xs : px_NL} {od : List Nat} {lc : Nat} (hnd : od.Nodup) (hod : ∀ d, d ∈ od → d < xs.length) (hoS : ∀ d, d ∈ od → stN xs d = 1 ∨ stN xs d = 2 ∨ stN xs d = 3) (hoT : ∀ d, (stN xs d = 1 ∨ stN xs d = 2 ∨ stN xs d = 3) → d ∈ od) (h4 : AL (fun x => x.2.1 ≤ 4) xs) : itr (c04 xs) 0 xs.length (lc + od.length) = lc + xs.length := by
  have hm : ∀ n, n ∈ (List.range xs.length).filter (fun n => decide (stN xs n = 0 ∨ stN xs n = 4)) ↔ n < xs.length ∧ (stN xs n = 0 ∨ stN xs n = 4) := fun n => by
    rw [List.mem_filter, List.mem_range, decide_eq_true_eq]
  have hl := (all_sum (f := fun _ => 0) xs.length (od ++ (List.range xs.length).filter (fun n => decide (stN xs n = 0 ∨ stN xs n = 4))) (List.nodup_append.mpr ⟨hnd, List.Nodup.sublist List.filter_sublist List.nodup_range, fun x hx y hy e => by
    have h1 := hoS x hx
    have h2 := ((hm y).mp hy).2
    rw [e] at h1
    omega⟩) (fun x hx => by
    rcases List.mem_append.mp hx with e | e
    · exact hod x e
    · exact ((hm x).mp e).1) (fun x hx => by
    have hx4 : stN xs x ≤ 4 := by
      have hg := List.getElem?_eq_getElem hx
      rw [stN_at hg]
      exact h4 x _ hg
    by_cases c : stN xs x = 0 ∨ stN xs x = 4
    · exact List.mem_append_right _ ((hm x).mpr ⟨hx, c⟩)
    · exact List.mem_append_left _ (hoT x (by omega)))).2
  rw [List.length_append] at hl
  rw [cnt04]
  omega
section MXM
variable {F m T : Nat} {h : px_H} {σ0 σ : px_S} {tO tn : Nat → Nat} {tb : Nat → Nat → Nat} {dr : Nat → Bool} {xs : px_NL} {od : List Nat} {on : Bool} {R ST : Nat → Bool}
theorem x_merges (hm : m ≤ h.length) (hF : 65540 < F) (hW : WP T tb dr xs) (hod : ∀ d, d ∈ od → d < xs.length) (hk : MGk σ0 T tO tn tb dr xs od on R) (ho : OUo σ0) (h4 : AL (fun x => x.2.1 ≤ 4) xs) (hSt : ∀ t i, t < T → i < oS (tb t) → ST (24 * t + i) = sta tb dr on R t i) (eA : itr (c04 xs) 0 xs.length (lcT T tb + od.length) = lcT T tb + xs.length) : Sm m h (mgE σ0) (fun v => v = bI (mgB T tb ST (fun k => ((xs.map Prod.fst).getD k []).length) xs.length)) (f_M_merges F m (mh m h σ0)) := by
  have hT := hW.1
  unfold f_M_merges
  refine sm_o hm (fun _ => sm_x (x_countParts hm hF hT hk hSt) (fun _ σ1 _ hi1 => ?_))
  obtain ⟨f1, hPt⟩ := hi1
  have hk1 := MGk_g hk f1
  refine sm_o hm (fun _ => sm_x (x_countSymbols hm hF hT hk1 h4 hod eA) (fun _ σ2 _ hi2 => ?_))
  obtain ⟨⟨f2, f0, a, hf1, hfa, ha, e125, hL, hN⟩, e125'⟩ := hi2
  have hk2 := MGk_s hk1 f2
  have hx : xs.length ≤ 4096 := by have := hk.1.2.2.1.2.1; rw [List.length_map] at this; exact this
  have hM : ∀ t, t < T → oM (tb t) ≤ 64 := fun t ht => w2_M (OB_w (MGk_o hk ht))
  have hlb := lcT_b (tb := tb) hM T 0 1 (by omega)
  have elc : lcT T tb = itr (lcO tb) 0 T 1 := rfl
  rw [← elc] at hlb
  have ea : a = lcT T tb + xs.length := (nI_eq (by omega) (by omega)).mp (e125.symm.trans e125')
  have F2 : FR [0, 4, 123, 124, 125, 126] [] [3, 117, 118, 119, 120, 121, 122] [] σ0 σ2 := FR_trans (FR_mono f1 (by decide) (by decide) (by decide) (by decide)) (FR_mono f2 (by decide) (by decide) (by decide) (by decide))
  have ho2 : OUo σ2 := OUo_FR (OUo_FR ho f1 (by decide) (by decide)) f2 (by decide) (by decide)
  obtain ⟨B, eB⟩ : ∃ B, B = mgB T tb ST (fun k => ((xs.map Prod.fst).getD k []).length) xs.length := ⟨_, rfl⟩
  rw [← eB]
  have non : B = false → Sm m h (mgE σ0) (fun v => v = bI B) (f_M_merges_24 F (mh m h σ2)) := fun e => by
    unfold f_M_merges_24
    exact sm_r (by rw [e]; rfl) ⟨F2, ho2⟩
  rcases hPt with ⟨p2, ⟨p1, e123, e126⟩, pt, pi, hJ, hp⟩ | ⟨p2, e126, _⟩
  · have g123 : gI σ2 123 = nI (mgT T tb ST).1 := (f2.1 123 (by decide)).trans e123
    rw [Mg126 hm, bs, (f2.1 126 (by decide)).trans e126, if_pos (show bI false = 0 from rfl), Mg125 hm, bs, e125]
    by_cases ca : a ≤ 64
    · rw [if_pos (nI_le ca (by decide))]
      generalize hp' : (mgT T tb ST).1 = p at *
      have hJ2 : ∀ j, 1 ≤ j → j < p → MPj σ2 T tb j (pt j) (pi j) := fun j j1 j2 => by
        obtain ⟨w1, w2, w3, w4, w5, w6⟩ := hJ j j1 j2
        exact ⟨w1, w2, w3, by rw [f2.2.2.1 120 (by decide)]; exact w4, by rw [f2.2.2.1 121 (by decide)]; exact w5, w6⟩
      obtain ⟨zf, hz1, hz2⟩ : ∃ zf : Nat → Nat, (∀ j, zf j ≤ 65536) ∧ ∀ j, 1 ≤ j → j < p → zf j = ptZ (tb (pt j)) (pi j) := by
        refine ⟨fun j => if 1 ≤ j ∧ j < p then ptZ (tb (pt j)) (pi j) else 0, fun j => ?_, fun j j1 j2 => if_pos ⟨j1, j2⟩⟩
        show (if 1 ≤ j ∧ j < p then ptZ (tb (pt j)) (pi j) else 0) ≤ 65536
        by_cases hc : 1 ≤ j ∧ j < p
        · rw [if_pos hc]; exact (ptZ_b hk2 (hJ2 j hc.1 hc.2)).1
        · rw [if_neg hc]; exact Nat.zero_le _
      have hR := hk2.1.2.2.1
      have e20 : gI σ2 20 = nI xs.length := by have := hR.1; rw [List.length_map] at this; exact this
      have hS : MGs F m h σ2 p a xs.length zf (fun k => ((xs.map Prod.fst).getD k []).length) := by
        refine ⟨⟨p1, p2, ca, hx⟩, g123, e125, e20, fun k hk => ?_, hz1, fun σ c j hI j1 j2 => ?_⟩
        · have hk' : k < (xs.map Prod.fst).length := by rw [List.length_map]; exact hk
          obtain ⟨z1, z2, _⟩ := hR.2.2 k _ (List.getElem?_eq_getElem hk')
          show gA σ2 22 k = nI ((xs.map Prod.fst).getD k []).length ∧ ((xs.map Prod.fst).getD k []).length ≤ 20
          rw [List.getD_eq_getElem?_getD, List.getElem?_eq_getElem hk']
          exact ⟨z2, z1.1⟩
        · rw [q_partSize hm (by omega) (MGk_w hk2 hI) (by omega) (MPj_w (hJ2 j j1 j2) hI), hz2 j j1 j2]
      have ez : rwN p a xs.length zf (fun k => ((xs.map Prod.fst).getD k []).length) + 64 * (p + 2) = mgZ T tb ST (fun k => ((xs.map Prod.fst).getD k []).length) xs.length := by
        have hpl : plA (szF p a zf) (p - 1) = (mgT T tb ST).2 := by
          rw [← hp]
          refine plA_c (p - 1) (fun j j1 j2 => ?_)
          show (if j < p then zf j else 24 * a) = _
          rw [if_pos (by omega), hz2 j j1 (by omega)]
        have hpp : plA (szF p a zf) p = wiN (mgT T tb ST).2 + 24 * a := by
          have e1 : p = p - 1 + 1 := by omega
          have e2 : plA (szF p a zf) (p - 1 + 1) = wiN (plA (szF p a zf) (p - 1)) + szF p a zf (p - 1 + 1) := plA_s _ _
          rw [← e1, hpl] at e2
          rw [e2]
          show _ + (if p < p then zf p else 24 * a) = _
          rw [if_neg (Nat.lt_irrefl p)]
        unfold rwN plN mgZ
        rw [show p + 1 - 1 = p from rfl, hpp, hp', ea]
      obtain ⟨co, hco, hO⟩ := OWe_0 ho2 (FR_refl σ2)
      have hrb := (rwN_b hS).2
      rw [Mg123 hm, bs, g123, nI_add, e_o hm, bs, q_row8 hm hF hS hO, xb_mk]
      by_cases hA : rwN p a xs.length zf (fun k => ((xs.map Prod.fst).getD k []).length) + 64 * (p + 2) ≤ 8192
      · have eT : B = true := by
          rw [eB]
          unfold mgB
          exact decide_eq_true ⟨by rw [hp']; exact p2, by rw [← ea]; exact ca, by rw [← ez]; exact hA⟩
        rw [if_pos (nI_le hA (by decide)), eT]
        refine sm_wI (I1 := OWe σ2) ?_ (fun σ3 w => ?_)
        · exact sm_mg48 hm (by omega) (fun σ hi => sm_mg66 hm hF hW hk2 hS hA hL hN hfa (fun j j1 j2 => ⟨hJ2 j j1 j2, hz2 j j1 j2⟩) (by omega) hi) _ 0 F σ2 (Nat.zero_add _) (by omega) hO
        · obtain ⟨cc, hcc, hW'⟩ := w
          exact ⟨FR_trans F2 (FR_mono hW'.1 (by decide) (by decide) (by decide) (by decide)), ⟨cc, hcc, hW'.2.1⟩, hW'.2.2⟩
      · rw [if_neg (nI_ge (a := 8192) (by omega) (by omega))]
        refine sm_r ?_ ⟨F2, ho2⟩
        have eF : B = false := by
          rw [eB]
          unfold mgB
          exact decide_eq_false (fun w => hA (by rw [ez]; exact w.2.2))
        rw [eF]
        rfl
    · rw [if_neg (nI_ge (by omega) (by omega))]
      exact non (by rw [eB]; unfold mgB; exact decide_eq_false (fun w => ca (by rw [ea]; exact w.2.1)))
  · rw [Mg126 hm, bs, (f2.1 126 (by decide)).trans e126, if_neg (show ¬ bI true = 0 by decide)]
    exact non (by rw [eB]; unfold mgB; exact decide_eq_false (fun w => by have := w.1; omega))
end MXM
/-- what stays of a link without REACHED -/
def stW (fs : px_FS) (s : px_TK) (x : Nat) : Bool := kpB (tB fs s.2.2.1 (x / 24)) (x % 24) && !s.2.1.1 x
/-- what a merge answers -/
def mgV (fs : px_FS) (s : px_TK) (j : Nat) : Int32 := if j = 1 then nI 1 else if mgB s.2.2.1.length (tB fs s.2.2.1) (stW fs s) (lfN (xsN s)) (xsN s).length = true then nI j else Int32.ofInt (-1)
section MXU
variable {F m : Nat} {h : px_H} {σ : px_S} {fs : px_FS} {gs : List (List Nat × Int64)} {ws : List (List Nat)} {n : Nat} {b : Nat → Nat} {a : Int32} {Y : px_Y}
theorem u_mergeX {B : Nat → Nat} (hm : m ≤ h.length) (hF : 65540 < F) (hv : RV σ fs gs ws n b a Y) (hnd : (gs.map Prod.fst).Nodup) (hB : RB σ B) (hsum : (fs.map Prod.fst).sum ≤ 4096) : ∃ (σ' : px_S) (k : Nat) (s : px_TK) (ll : List Nat) (ad : Nat → Nat) (NA : px_NA), f_M_merge F m (mh m h σ) = some (mgV fs s k, mh m h σ') ∧ k ≤ 4 ∧ lnR fs gs ws false B s k ∧ RV σ' fs gs ws n b (nI k) (lnY fs s ll ad NA) ∧ (k = 0 → lnX fs s false B ll ad NA) := by
  obtain ⟨v1, v2, v3, v4, v5, v6, v7, v8⟩ := hv
  obtain ⟨σ1, k, s, e, q1, q2, q3, q4, q5, q6, q7, f, q9, q10⟩ := q_link (rc := false) (F := F) hm hF v2 v3 v4 ⟨v5.2, v5.1, v8.2.2.1, v8.2.2.2.1, v8.2.2.2.2.1, v8.2.2.2.2.2⟩ hB hsum
  have hk := lnR_4 q1 q3.2.1.1.1
  obtain ⟨ll, ad, NA, y1, y2⟩ := LKY_of q9
  have h1 : RV σ1 fs gs ws n b (nI k) (lnY fs s ll ad NA) := ⟨RT_FR v1 f (by decide) (by decide), q5, q6, q7, ⟨q4.2.1, q4.1⟩, MV_FR v6 f (by decide) (by decide), MNa_FR v7 f (by decide) (by decide), RVl_of q1.1 q3 q2 hk (fun q => (q9 q).1) y1, q2, q4.2.2.1, q4.2.2.2.1, q4.2.2.2.2.1, q4.2.2.2.2.2⟩
  have ho : OUo σ1 := ⟨q4.2.1, q4.1⟩
  have key : ∃ σ2, f_M_merge F m (mh m h σ) = some (mgV fs s k, mh m h σ2) ∧ mgE σ1 σ2 := by
    unfold f_M_merge f_M_merge_27 mgV
    rw [e_o hm, bs, show nI 0 = bI false from rfl, e, xb_mk]
    by_cases c : k = 1
    · rw [if_pos (show nI k = nI 1 by rw [c]), if_pos c]
      exact ⟨σ1, rfl, FR_refl σ1, ho⟩
    · rw [if_neg (fun w => c ((nI_eq (by omega) (by decide)).mp w)), if_neg c]
      have hfo := RF_FSo v2
      have hgl : gs.length ≤ 16 := by have := v3.2.1.1; rw [List.length_map] at this; exact this
      have hwl : ws.length ≤ 16 := v4.2.1
      obtain ⟨k1, k2, k3, k4, ⟨k5, k6⟩, on, R, rn, k7, k8, k9, k10⟩ := q3
      have eon : on = false := by
        have w := k7.1.symm.trans (q10 rfl)
        cases on with
        | false => rfl
        | true => exact absurd w (by decide)
      subst eon
      obtain ⟨l1, l2, l3, l4, l5, l6, l7, l8, l9⟩ := k1
      have hkM : MGk σ1 s.2.2.1.length (tOf fs s.2.2.1) (tNf fs s.2.2.1) (tB fs s.2.2.1) s.2.1.1 (xsN s) s.1.2.2.1 false R := ⟨⟨OB_of l2 k2.1 l7, l5, l3⟩, k7, l4, l1⟩
      have hT := k3.1
      have h4 : AL (fun x => x.2.1 ≤ 4) (xsN s) := fun i x hx => (k3.2.1 i x hx).1
      have hndo := od_nd hfo hgl hwl hnd q1.1
      have hoT : ∀ d, (stN (xsN s) d = 1 ∨ stN (xsN s) d = 2 ∨ stN (xsN s) d = 3) → d ∈ s.1.2.2.1 := fun d hd => by
        have h0 : odT s.1 := by rw [q1.1]; exact odT_0 hfo
        unfold xsN at hd
        by_cases c1 : s.1.1 = 0
        · rw [if_pos c1] at hd; exact odT_own h0 d hd
        · rw [if_neg c1] at hd; exact h0 d hd
      have hSt : ∀ t i, t < s.2.2.1.length → i < oS (tB fs s.2.2.1 t) → stW fs s (24 * t + i) = sta (tB fs s.2.2.1) s.2.1.1 false R t i := fun t i ht hi => by
        have h24 := (OB_w (MGk_o hkM ht)).1.2.1.2
        unfold stW sta kpB
        rw [show (24 * t + i) / 24 = t by omega, show (24 * t + i) % 24 = i by omega, decide_eq_true hi, Bool.true_and, Bool.not_false, Bool.true_or, Bool.and_true]
      obtain ⟨v, σ2, e2, hv2, hI⟩ := x_merges (F := F) hm hF k3 k5 hkM ho h4 hSt (all04 hndo k5 k6 hoT h4)
      have hv2 : v = bI (mgB s.2.2.1.length (tB fs s.2.2.1) (stW fs s) (lfN (xsN s)) (xsN s).length) := hv2
      rw [e_o hm, bs, e2, xb_mk, hv2]
      cases mgB s.2.2.1.length (tB fs s.2.2.1) (stW fs s) (lfN (xsN s)) (xsN s).length with
      | false => rw [if_pos (show bI false = 0 from rfl), if_neg (by decide)]; exact ⟨σ2, rfl, hI⟩
      | true => rw [if_neg (show ¬ bI true = 0 by decide), if_pos rfl]; exact ⟨σ2, rfl, hI⟩
  obtain ⟨σ2, e2, fE, hO⟩ := key
  exact ⟨σ2, k, s, ll, ad, NA, e2, hk, q1, RV_out h1 (FR_mono fE (by decide) (by decide) (by decide) (by decide)) hO, y2⟩
end MXU
section CXV
variable {F : Nat} {c : px_CT} {sk : Nat → Nat × Nat × Nat} {L : Nat} {own : Nat → Nat × Nat} {τ : px_TT} {fs : List (Nat × (Nat → Nat))} {gs : List (List Nat × Int64)} {ws : List (List Nat)} {n : Nat} {b : Nat → Nat} {w : Int32} {Y : px_Y}
theorem v_mergeX {k : Nat} {B : Nat → Nat} {s : px_TK} {a : Nat} (hF : 65540 < F) (hc : KT c) (h : CV sk L own τ fs gs ws n b w Y) (hm : RMk sk L (k + rmT fs [] + 32)) (hsum : (fs.map Prod.fst).sum ≤ 4096) (hB : BFs fs B) (hln : lnR fs gs ws false B s a) : ∃ sk' L' τ' own' ll ad NA, f_H_merge F c 0 (cH sk L τ) = some (mgV fs s a, cH sk' L' τ') ∧ EX sk L sk' L' ∧ RMk sk' L' k ∧ CV sk' L' own' τ' fs gs ws n b (nI a) (lnY fs s ll ad NA) ∧ K26 τ τ' ∧ (a = 0 → lnX fs s false B ll ad NA) := by
  obtain ⟨sk', L', τ1, own', ST, rn, ll, ad, NA, e, a1, a2, a3, a5, a6, a7, a8, a9⟩ := v_runLink (F := F) (c := c) hF hc h hm hsum hB hln
  have h4 := CV_S4 a3
  have hI := SI_self a3
  have h0 := h4.1.1.1
  have h3 : S3 sk' L' own' τ1 fs s (xsN s) ST rn ws := ⟨h4.1, a5, a6, a3.2.2.2.2.2.1⟩
  have ha4 := lnR_le hln a5.2.2.2.2.1.1.1
  have hFSo := CF_FSo a3.2.2.2.1
  have hgl : gs.length ≤ 16 := by have := a3.2.2.2.2.1.1.2.2.2.1; rw [List.length_map] at this; exact this
  have hwl : ws.length ≤ 16 := a3.2.2.2.2.2.1.2.2.2.1
  have eST : ST = stW fs s := by funext x; exact a9 rfl x
  have hnds : (s.1.2.1.map Prod.fst).Nodup := a5.2.2.2.2.1.2.2.2.1
  have hws : ∀ v, v ∈ ws → v ∈ (xsN s).map Prod.fst := fun v hv => by
    rw [xsN_fst, hln.1]
    exact txs_0 hFSo ((ST0_xs (gs := gs) (ws := ws) hgl hwl).2 v hv)
  have hlen : (xsN s).length = s.1.2.1.length := by
    have := congrArg List.length (xsN_fst (s := s))
    rw [List.length_map, List.length_map] at this
    exact this
  have hod : ∀ d, d ∈ s.1.2.2.1 → d < (xsN s).length := fun d hd => by rw [hlen]; exact a5.2.2.2.2.1.2.2.2.2 d hd
  have hall : ∀ i, i < (xsN s).length → mgC fs s (xsN s) ws s.1.2.2.1.length ws.length s.2.2.1.length 0 i := fun i hi => by
    obtain ⟨v, hv⟩ : ∃ v, (s.1.2.1.map Prod.fst)[i]? = some v := ⟨_, List.getElem?_eq_getElem (by rw [List.length_map, ← hlen]; exact hi)⟩
    have hmem : v ∈ s.1.2.1.map Prod.fst := List.mem_of_getElem? hv
    have hpl : plc v ((xsN s).map Prod.fst) = i := by
      rw [xsN_fst]
      exact (List.getElem?_inj (plc_lt hmem) hnds).mp ((plc_get hmem).trans hv.symm)
    rcases nm_or hFSo hln.1 hnds hv with w1 | w1 | ⟨t, q, w1, o, n', b', j, w2, w3, w4, w5, w6⟩
    · obtain ⟨kk, hkk⟩ := List.mem_iff_getElem?.mp w1
      exact Or.inl ⟨kk, (List.getElem?_eq_some_iff.mp hkk).1, hkk⟩
    · obtain ⟨kk, hkk⟩ := List.mem_iff_getElem?.mp w1
      exact Or.inr (Or.inl ⟨kk, v, (List.getElem?_eq_some_iff.mp hkk).1, hkk, hpl.symm⟩)
    · have ht := (List.getElem?_eq_some_iff.mp w1).1
      have eb : tB fs s.2.2.1 t = b' := by
        unfold tB obT
        rw [w1]
        show ((obAt fs q).getD (0, 0, fun _ => 0, false)).2.2.1 = b'
        rw [w2]
        rfl
      have hy := (TKe_ys a5 t ht).2.2
      refine Or.inr (Or.inr ⟨t, j, Or.inl ht, ht, by rw [eb] at hy; omega, ?_, ?_⟩)
      · rw [eb]; unfold hsN; exact decide_eq_true ⟨w3, w4, w5⟩
      · rw [eb, w6]; exact hpl.symm
  obtain ⟨rd, A, hT, e2⟩ := CV_rd a3
  have key : Sf sk' L' (SI none sk' L' τ1) (fun v => v = mgV fs s a) (f_H_merge F c 0 (cH sk L τ)) := by
    unfold f_H_merge mgV
    rw [c_o (G0 h.1), bs, show nI 0 = bI false from rfl, e, xb_mk]
    by_cases c1 : a = 1
    · rw [if_pos (show nI a = nI 1 by rw [c1]), if_pos c1, c1]
      exact sf_r rfl hI
    · rw [if_neg (fun w => c1 ((nI_eq (by omega) (by decide)).mp w)), if_neg c1, C0r15 (G0 h0.1) (GR_r (v := 1713) h0.2.1 (by decide)), bs, C0r2 (G0 h0.1) e2, bs, c_o (G1713 h0.1), bs]
      refine sz_x (z_merged h3 hc hF hT (fun x => by rw [eST]; rfl) hall hws hod hI) (fun v τ2 hv i2 => ?_)
      rw [hv, eST]
      cases mgB s.2.2.1.length (tB fs s.2.2.1) (stW fs s) (lfN (xsN s)) (xsN s).length with
      | false => rw [if_pos (show bI false = 0 from rfl), if_neg (by decide)]; exact sf_r rfl i2
      | true =>
        rw [if_neg (show ¬ bI true = 0 by decide), if_pos rfl, c_o (G0 h0.1), bs]
        exact sz_x (sf_publish h0 i2) (fun _ τ3 _ i3 => sf_r rfl i3)
  obtain ⟨v, τ', em, hv, hJ⟩ := key
  rw [hv] at em
  exact ⟨sk', L', τ', own', ll, ad, NA, em, a1, a2, CV_SI a3 hJ, K26_trans a7 (K26_Z hJ.1), a8⟩
end CXV
section BXM
variable {F : Nat} {c : px_CT} {sk : Nat → Nat × Nat × Nat} {L : Nat} {own : Nat → Nat × Nat} {τ : px_TT} {σ : px_S} {fs : List (Nat × (Nat → Nat))} {gs : List (List Nat × Int64)} {ws : List (List Nat)} {n : Nat} {b : Nat → Nat} {a : Int32} {Y : px_Y} {k N : Nat}
theorem Bx_merge (hK : KT c) (hF : 65540 < F) (hC : CV sk L own τ fs gs ws n b a Y) (hR : RV σ fs gs ws n b a Y) (hm : RMk sk L (k + 210)) (hN : n + (fs.map Prod.fst).sum ≤ N) (hs : (fs.map Prod.fst).sum ≤ 4096) : BT (fun (v w : Int32) _ => v = w) (fun _ _ => False) sk L τ k N (f_H_merge F c 0 (cH sk L τ)) none (fun h => f_M_merge F 1726 (mh 1726 h σ)) := by
  have hr := hR.2.1
  have hB : RB σ (fun x => b8 (gA σ 6 x)) := ⟨hr.2.2.1, fun _ => rfl⟩
  have hBF := BFs_RF hr
  have hrm := rmT_b (RF_FSo hr) hs
  have hm' : RMk sk L (k + rmT fs [] + 32) := RMk_le hm (by omega)
  have hL : 1815 ≤ L := hC.1.1
  have hnd : (gs.map Prod.fst).Nodup := hC.2.2.2.2.2.2.2.2.2.1.1
  obtain ⟨σ1, j, s, ll1, ad1, NA1, e1, hj, hl1, _⟩ := u_mergeX (F := F) (m := 1726) (h := cH sk L τ) (by rw [cH_len]; omega) hF hR hnd hB hs
  obtain ⟨sk', L', τ', own', ll, ad, NA, e, h1, h2, h3, h4, lx⟩ := v_mergeX (F := F) (c := c) (k := k) hF hK hC hm' hs hBF hl1
  obtain ⟨_, _, _, _, _, _, _, e0, _⟩ := v_link (F := F) (c := c) (k := k) hF hK hC hm' hs hBF hl1
  refine ⟨fs, gs, ws, n, b, nI j, lnY fs s ll ad NA, hN, Or.inl ⟨_, sk', L', τ', own', e, h1, h4, h2, h3, fun h hl => ?_⟩⟩
  obtain ⟨σ2, j2, s2, ll2, ad2, NA2, e2, hj2, hl2, hv2, lx2⟩ := u_mergeX (F := F) (m := 1726) (h := h) hl hF hR hnd hB hs
  obtain ⟨_, _, _, _, _, _, _, e3, _⟩ := v_link (F := F) (c := c) (k := k) hF hK hC hm' hs hBF hl2
  have ej : nI j = nI j2 := by
    rw [e0] at e3
    exact (Prod.mk.inj (Option.some.inj e3)).1
  have ejn : j = j2 := (nI_eq (by omega) (by omega)).mp ej
  have es : s2 = s := hl2.1.trans hl1.1.symm
  subst ejn
  subst es
  exact ⟨_, σ2, e2, RV_Y hv2 hj (fun c0 => lnX_u (lx2 c0) (lx c0)), rfl⟩
end BXM
end
