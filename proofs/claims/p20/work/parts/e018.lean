section
/-! the class merges: it numbers (steps spelled out by sf/pp.py) -/
section CMN
variable {F : Nat} {c : px_CT} {sk : Nat → Nat × Nat × Nat} {L : Nat} {zb : Option Nat} {τ0 τ : px_TT} {r q : Nat} {own : Nat → Nat × Nat} {fs : px_FS} {s : px_TK} {xs : px_NL} {ST rn : Nat → Bool} {ws : List (List Nat)} {I I1 : px_TT → Prop} {α : Type} {V : α → Prop} {t : Nat}
theorem sw_x {β : Type} {W : β → Prop} {m : Option (β × px_H)} {f : β → px_H → Option (α × px_H)} (h : Sf sk L I1 W m) (g : ∀ v τ, W v → I1 τ → Sf sk L I V (f v (cH sk L τ))) : Sf sk L I V (xb m f) := by
  obtain ⟨v, τ, e, hw, hI⟩ := h
  rw [e, xb_mk]
  exact g v τ hw hI
theorem sw_I {m : Option (α × px_H)} (h : Sf sk L I1 V m) (g : ∀ τ, I1 τ → I τ) : Sf sk L I V m := by
  obtain ⟨v, τ, e, hw, hI⟩ := h
  exact ⟨v, τ, e, hw, g _ hI⟩
theorem sw_pI {f : px_H → Option (α × px_H)} {a ci k : Nat} {v : Int32} (h : ob sk L ci a) (hk : cF ci k = 0) (hn : k < cN ci) (hI : I1 (tI τ a k v)) (g : ∀ τ, I1 τ → Sf sk L I V (f (cH sk L τ))) : Sf sk L I V ((xpI (cH sk L τ) ci k a v).bind f) := by
  rw [c_pI h hk hn, bs]; exact g _ hI
theorem sw_sI {f : px_H → Option (α × px_H)} {j : Nat} {v : Int32} (h0 : S0 sk L τ0) (hI : SI zb sk L τ0 τ) (hj : j < 4096) (g : ∀ τ, SI zb sk L τ0 τ → Sf sk L I V (f (cH sk L τ))) : Sf sk L I V ((xsI (cH sk L τ) 1 1716 (nI j) v).bind f) := by
  rw [c_sI (GS_a h0.1 (a := 1716) (n := 4096) (by decide) (by decide)) (Or.inr (Or.inl rfl)) (by decide) hj, bs]
  exact g _ (SI_vI hI (Or.inl rfl))
theorem SI_mono {N M : Nat} (h : SI (some N) sk L τ0 τ) (hM : N ≤ M) : SI (some M) sk L τ0 τ := by
  obtain ⟨a, b, c, d, e⟩ := h
  refine ⟨a, b, c, d, fun K hK => ?_⟩
  injection hK with hK
  obtain ⟨m, h1, h2, h3⟩ := e N rfl
  exact ⟨m, by omega, h2, h3⟩
theorem SI_none (h : SI zb sk L τ0 τ) : SI none sk L τ0 τ := ⟨h.1, h.2.1, h.2.2.1, h.2.2.2.1, fun N hN => by cases hN⟩
theorem SI_cnt {v : Int32} (h : SI zb sk L τ0 τ) : SI none sk L τ0 (tI τ 1713 6 v) := by
  obtain ⟨hZ, hT, ⟨hc, h3, h5, h1711, h1714, h1719⟩, ⟨hm1, hm2⟩, hm3⟩ := h
  have hrow : ∀ r' A' n', 1713 ≠ r' → rowOK sk L τ r' A' n' → rowOK sk L (tI τ 1713 6 v) r' A' n' := fun r' A' n' hn w => by
    obtain ⟨h1, h2, h3, h4, h5, h6, h7⟩ := w
    refine ⟨h1, h2, h3, h4, ?_, ?_, h7⟩
    · rw [tI_ne (by omega)]; exact h5
    · rw [tI_ne (by omega)]; exact h6
  refine ⟨frZ_trans hZ (frZ_I (Or.inl (by unfold Zc; omega))), ⟨fun k' => (tI_ne (by omega)).trans (hT.1 k'), hT.2.1, (tI_ne (by omega)).trans hT.2.2.1, fun k' => (tI_ne (by omega)).trans (hT.2.2.2.1 k'), hT.2.2.2.2⟩, ⟨hc, hrow _ _ _ (by omega) h3, hrow _ _ _ (by omega) h5, hrow _ _ _ (by omega) h1711, hrow _ _ _ (by omega) h1714, hrow _ _ _ (by omega) h1719⟩, ⟨?_, ?_⟩, fun N hN => by cases hN⟩
  · rw [tI_ne (by omega)]; exact hm1
  · rw [tI_ne (by omega)]; exact hm2
theorem SI_some {N : Nat} (h : SI none sk L τ0 τ) (hm : MLs N sk L τ0 τ) : SI (some N) sk L τ0 τ := ⟨h.1, h.2.1, h.2.2.1, h.2.2.2.1, fun M hM => by injection hM with hM; subst hM; exact hm⟩
theorem SI_0 (h : SI zb sk L τ0 τ) : SI (some 0) sk L τ0 (tI τ 1713 6 (nI 0)) := SI_some (SI_cnt h) ⟨0, Nat.le_refl _, tI_at, fun i p hi _ => absurd hi (Nat.not_lt_zero i)⟩
/-- a name is listed -/
theorem sf_listN {N p : Nat} (h0 : S0 sk L τ0) (hF : 65540 < F) (hN : N < 2 ^ 30) (hp : Nmo sk L τ0 p) (hI : SI (some N) sk L τ0 τ) : Sf sk L (SI (some (N + 1)) sk L τ0) Any (f_Scribe_listName F c 1713 (some p) (cH sk L τ)) := by
  have o11 : ob sk L 11 1713 := GS_o h0.1 (by decide) (by decide)
  have hR := GR_Z h0.2.1 hI.1
  have hA : ar sk L 5 64 1717 := GS_a h0.1 (by decide) (by decide)
  unfold f_Scribe_listName f_Scribe_listName_47 f_Scribe_listName_11
  dsimp only
  refine sf_gI hp.2.1 (by decide) (by decide) (sf_i (fun hc => ?_) (fun hc => sf_r any (SI_mono hI (by omega))))
  refine sf_gI o11 (by decide) (by decide) (sf_gI o11 (by decide) (by decide) ?_)
  rw [c_pI hp.2.1 (by decide) (by decide), bs]
  have hI1 : SI (some N) sk L τ0 (tI τ p 17 (fI τ 1713 7 + fI τ 1713 6)) := SI_tI hI (Or.inr (Or.inr (Or.inr (Or.inr (Or.inl ⟨hp.1, rfl⟩)))))
  generalize tI τ p 17 (fI τ 1713 7 + fI τ 1713 6) = τ1 at hI1
  have hR1 := GR_Z h0.2.1 hI1.1
  obtain ⟨m, hm, em, hl⟩ := hI1.2.2.2.2 N rfl
  refine sf_gI o11 (by decide) (by decide) (sf_gR o11 (by decide) (by decide) (GR_r (v := 1717) hR1 (by decide)) (sf_al hA (by decide) (sf_i (fun hc => ?_) (fun hc => ?_))))
  · refine sf_gI o11 (by decide) (by decide) ?_
    rw [c_pI o11 (by decide) (by decide), bs, em, nI_add]
    refine sf_r any (SI_some (SI_cnt hI1) ⟨m + 1, by omega, tI_at, fun i p' hi h64 e => ?_⟩)
    by_cases c1 : i < m
    · exact hl i p' c1 h64 e
    · exfalso
      rw [em] at hc
      exact absurd hc (nI_ge (by omega) (by omega))
  · have hm64 : m < 64 := Nat.lt_of_not_le (fun h => hc (by rw [em]; exact nI_le h (by omega)))
    refine sf_gR o11 (by decide) (by decide) (GR_r (v := 1717) hR1 (by decide)) (sf_gI o11 (by decide) (by decide) ?_)
    rw [em, c_sO hA (Or.inr (Or.inl rfl)) (by decide) hm64 hp.2.1, bs]
    refine sf_gI o11 (by decide) (by decide) ?_
    rw [c_pI o11 (by decide) (by decide), bs, show fI (vN τ1 1717 (va_up (eN τ1 1717) m (some p))) 1713 6 = nI m from em, nI_add]
    have hI2 : SI none sk L τ0 (vN τ1 1717 (va_up (eN τ1 1717) m (some p))) := ⟨frZ_trans hI1.1 frZ_vN, hI1.2.1, hI1.2.2.1, hI1.2.2.2.1, fun N hN => by cases hN⟩
    refine sf_r any (SI_some (SI_cnt hI2) ⟨m + 1, by omega, tI_at, fun i p' hi h64 e => ?_⟩)
    have e' : va_up (eN τ1 1717) m (some p) i = some p' := by
      rw [← show eN (vN τ1 1717 (va_up (eN τ1 1717) m (some p))) 1717 = va_up (eN τ1 1717) m (some p) from (u1_eq : u1 τ1.2.2.2.2.2 1717 _ 1717 = _)]
      exact e
    by_cases c1 : i = m
    · subst c1
      rw [va_up_a] at e'
      injection e' with e'
      subst e'
      exact hp
    · rw [va_up_n c1] at e'
      exact hl i p' (by omega) h64 e'
theorem sf_listO {N : Nat} (hI : SI (some N) sk L τ0 τ) : Sf sk L (SI (some (N + 1)) sk L τ0) Any (f_Scribe_listName F c 1713 none (cH sk L τ)) := by
  unfold f_Scribe_listName f_Scribe_listName_11
  exact sf_r any (SI_mono hI (by omega))
/-- the names' table, and the wished names -/
theorem sx_nmAt {f : Option Nat → px_H → Option (α × px_H)} {j : Nat} (h3 : S3 sk L own τ0 fs s xs ST rn ws) (hI : SI zb sk L τ0 τ) (hc : ¬ fI τ 148 2 ≤ nI j) (hj : j < 2 ^ 31) (g : ∀ p, Nmo sk L τ0 p → Sf sk L I V (f (some p) (cH sk L τ))) : Sf sk L I V (xb (f_Names_at F c 148 (nI j) (cH sk L τ)) f) := by
  have hS := h3.1.1.1.1
  have hR := GR_Z h3.1.1.1.2.1 hI.1
  obtain ⟨n1, n2, n3, n4, n5, n6, n7⟩ := h3.2.1.2.2.2.1.2.1.1
  rw [List.length_map] at n4 n6
  have e2 : fI τ 148 2 = nI xs.length := (hI.1.1 148 2 (Zc_no (by omega)) (by omega) (by omega) (by omega) (by omega)).trans n6
  have hjx : j < xs.length := Nat.lt_of_not_le (fun h => hc (by rw [e2]; exact nI_le h hj))
  have ej := (n7 j _ (by rw [List.getElem?_map, List.getElem?_eq_getElem hjx]; rfl)).2.1
  have e : f_Names_at F c 148 (nI j) (cH sk L τ) = some (some (pN τ0 149 j), cH sk L τ) := by
    unfold f_Names_at f_Names_at_31 f_Names_at_44
    rw [if_neg (nI_pos (by omega)), C6g2 (G148 hS), bs, if_neg hc, C6r0 (G148 hS) (GR_r (v := 149) hR (by decide)), bs, c_l (G149 hS) (by decide), bs, if_neg (nI_ge (by omega) (by omega)), bs, c_aN (G149 hS) (Or.inr (Or.inl rfl)) (by decide) (by omega), bs, hI.1.2.2.2.2.2 149 (by decide), ej]
  rw [e, xb_mk]; exact g _ (TKe_Nmo h3.2.1 h3.2.2.1 hjx)
theorem nmc_le {j : Nat} (h3 : S3 sk L own τ0 fs s xs ST rn ws) (hI : SI zb sk L τ0 τ) (hj : 4128 ≤ j) (hj2 : j < 2 ^ 31) : fI τ 148 2 ≤ nI j := by
  obtain ⟨n1, n2, n3, n4, n5, n6, n7⟩ := h3.2.1.2.2.2.1.2.1.1
  rw [hI.1.1 148 2 (Zc_no (by omega)) (by omega) (by omega) (by omega) (by omega), n6]
  exact nI_le (by omega) hj2
theorem wsc_le {j : Nat} (h3 : S3 sk L own τ0 fs s xs ST rn ws) (hI : SI zb sk L τ0 τ) (hj : 16 ≤ j) (hj2 : j < 2 ^ 31) : fI τ 143 2 ≤ nI j := by
  obtain ⟨n1, n2, n3, n4, n5, n6, n7⟩ := h3.2.2.2
  rw [hI.1.1 143 2 (Zc_no (by omega)) (by omega) (by omega) (by omega) (by omega), n6]
  exact nI_le (by omega) hj2
theorem sx_wsAt {f : Option Nat → px_H → Option (α × px_H)} {j : Nat} (h3 : S3 sk L own τ0 fs s xs ST rn ws) (hI : SI zb sk L τ0 τ) (hc : ¬ fI τ 143 2 ≤ nI j) (hj : j < 2 ^ 31) (g : ∀ p, ob sk L 5 p → Sf sk L I V (f (some p) (cH sk L τ))) : Sf sk L I V (xb (f_Names_at F c 143 (nI j) (cH sk L τ)) f) := by
  have hS := h3.1.1.1.1
  have hR := GR_Z h3.1.1.1.2.1 hI.1
  obtain ⟨n1, n2, n3, n4, n5, n6, n7⟩ := h3.2.2.2
  have e2 : fI τ 143 2 = nI ws.length := (hI.1.1 143 2 (Zc_no (by omega)) (by omega) (by omega) (by omega) (by omega)).trans n6
  have hjx : j < ws.length := Nat.lt_of_not_le (fun h => hc (by rw [e2]; exact nI_le h hj))
  obtain ⟨_, ej, eo, _⟩ := n7 j _ (List.getElem?_eq_getElem hjx)
  have e : f_Names_at F c 143 (nI j) (cH sk L τ) = some (some ((eN τ0 144 j).getD 0), cH sk L τ) := by
    unfold f_Names_at f_Names_at_31 f_Names_at_44
    rw [if_neg (nI_pos (by omega)), C6g2 (G143 hS), bs, if_neg hc, C6r0 (G143 hS) (GR_r (v := 144) hR (by decide)), bs, c_l (G144 hS) (by decide), bs, if_neg (nI_ge (by omega) (by omega)), bs, c_aN (G144 hS) (Or.inr (Or.inl rfl)) (by decide) (by omega), bs, hI.1.2.2.2.2.2 144 (by decide), ej]
    rfl
  rw [e, xb_mk]; exact g _ eo
theorem so_find_2 {p : Nat} (h3 : S3 sk L own τ0 fs s xs ST rn ws) (hI : SI zb sk L τ0 τ) (hp : ob sk L 5 p) : ∀ (d j f : Nat), j + d = 4128 → d < f → ∃ o, f_Names_find_2 F c f 148 (some p) (nI j) (cH sk L τ) = some (o, cH sk L τ) ∧ ∀ p', o = some p' → Nmo sk L τ0 p' := by
  have hS := h3.1.1.1.1
  have hR := GR_Z h3.1.1.1.2.1 hI.1
  obtain ⟨n1, n2, n3, n4, n5, n6, n7⟩ := h3.2.1.2.2.2.1.2.1.1
  rw [List.length_map] at n4 n6
  have e2 : fI τ 148 2 = nI xs.length := (hI.1.1 148 2 (Zc_no (by omega)) (by omega) (by omega) (by omega) (by omega)).trans n6
  have go : ∀ (d j f : Nat), j + d = 4128 → xs.length ≤ j → d < f → ∃ o, f_Names_find_2 F c f 148 (some p) (nI j) (cH sk L τ) = some (o, cH sk L τ) ∧ ∀ p', o = some p' → Nmo sk L τ0 p' := by
    intro d j f hj hx hf
    obtain ⟨f, rfl⟩ : ∃ y, f = y + 1 := ⟨f - 1, by omega⟩
    unfold f_Names_find_2 f_Names_find_85
    exact ⟨none, by rw [C6g2 (G148 hS), bs, e2, if_pos (nI_le hx (by omega))], fun p' e => by cases e⟩
  intro d
  induction d with
  | zero => intro j f hj hf; exact go 0 j f hj (by omega) hf
  | succ d ih =>
    intro j f hj hf
    by_cases hx : xs.length ≤ j
    · exact go (d + 1) j f hj hx hf
    have hjx : j < xs.length := by omega
    have ej := (n7 j _ (by rw [List.getElem?_map, List.getElem?_eq_getElem hjx]; rfl)).2.1
    have hn := TKe_Nmo h3.2.1 h3.2.2.1 hjx
    obtain ⟨f, rfl⟩ : ∃ y, f = y + 1 := ⟨f - 1, by omega⟩
    obtain ⟨o, eo, ho⟩ := ih (j + 1) f (by omega) (by omega)
    unfold f_Names_find_2 f_Names_find_79 f_Names_find_77
    rw [C6g2 (G148 hS), bs, e2, if_neg (nI_ge (by omega) (by omega)), C6r0 (G148 hS) (GR_r (v := 149) hR (by decide)), bs, c_l (G149 hS) (by decide), bs, if_neg (nI_ge (by omega) (by omega)), bs, c_aN (G149 hS) (Or.inr (Or.inl rfl)) (by decide) (by omega), bs, hI.1.2.2.2.2.2 149 (by decide), ej]
    dsimp only
    rw [nI_add, C5g0 hn.2.1, bs, bs, eo, C5g0 hp, bs, C5g1 hn.2.1, bs, C5g1 hp, bs, C5g2 hn.2.1, bs, C5g2 hp, bs, C5g3 hn.2.1, bs, C5g3 hp, bs]
    split
    · split
      · split
        · split
          · exact ⟨_, rfl, fun p' e => by injection e with e; rw [← e]; exact hn⟩
          · exact ⟨o, rfl, ho⟩
        · exact ⟨o, rfl, ho⟩
      · exact ⟨o, rfl, ho⟩
    · exact ⟨o, rfl, ho⟩
theorem sx_find {f : Option Nat → px_H → Option (α × px_H)} {p : Nat} (h3 : S3 sk L own τ0 fs s xs ST rn ws) (hF : 65540 < F) (hI : SI zb sk L τ0 τ) (hp : ob sk L 5 p) (g0 : Sf sk L I V (f none (cH sk L τ))) (g1 : ∀ p, Nmo sk L τ0 p → Sf sk L I V (f (some p) (cH sk L τ))) : Sf sk L I V (xb (f_Names_find F c 148 (some p) (cH sk L τ)) f) := by
  obtain ⟨o, e, h⟩ := so_find_2 (F := F) (c := c) h3 hI hp 4128 0 F rfl (by omega)
  unfold f_Names_find
  rw [e, xb_mk]
  cases o with
  | none => exact g0
  | some p' => exact g1 p' (h p' rfl)
end CMN
end
section
/-! the class merges: it numbers sections and symbols (steps spelled out by sf/pp.py) -/
section CMO
variable {F : Nat} {c : px_CT} {sk : Nat → Nat × Nat × Nat} {L : Nat} {zb : Option Nat} {τ0 τ : px_TT} {r q : Nat} {own : Nat → Nat × Nat} {fs : px_FS} {s : px_TK} {xs : px_NL} {ST rn : Nat → Bool} {ws : List (List Nat)} {t : Nat}
theorem sf_np_59 {k4 : Nat → Int32 → Int32 → px_H → Option (Int32 × px_H)} (h3 : S3 sk L own τ0 fs s xs ST rn ws) (hF : 65540 < F) (ht : t < s.2.2.1.length) (hk : ∀ a1 τ, SI zb sk L τ0 τ → Sf sk L (SI zb sk L τ0) Any (k4 1713 a1 (nI (t + 1)) (cH sk L τ))) : ∀ (d i f : Nat) (a1 : Int32) (τ : px_TT), i + d = 24 → d < f → SI zb sk L τ0 τ → Sf sk L (SI zb sk L τ0) Any (f_Scribe_numberParts_59 F c k4 f 1713 a1 (nI t) (nI i) (cH sk L τ)) := by
  have h0 := h3.1.1.1
  intro d
  induction d with
  | zero =>
    intro i f a1 τ hj hf hI
    obtain ⟨f, rfl⟩ : ∃ y, f = y + 1 := ⟨f - 1, by omega⟩
    unfold f_Scribe_numberParts_59 f_Scribe_numberParts_100
    rw [nI_add]
    repeat' (first | (exact hk _ _ (by assumption)) | (exact absurd (sec_le (j := i) (by assumption) hI (by omega) (by omega)) (by assumption)) | exact absurd (show nI 0 = 0 from rfl) (by assumption) | exact absurd (show nI 1 = 0 by assumption) (by decide) | ((with_reducible refine sf_i (fun hc => ?_) (fun hc => ?_))) | ((with_reducible refine sf_gF h0 ?_ ?_ ?_ ?_ ?_); decide; decide; decide; decide) | ((with_reducible refine sf_gI ?_ ?_ ?_ ?_); (first | assumption | exact GS_o h0.1 (by decide) (by decide) | exact RRd_o h0 (by assumption) | exact RRd_o h0 (Or.inr (by assumption)) | exact OBq_o h0 (by assumption) | exact OBq_o h0 (Obt_q (by assumption)) | exact G_part h0.1 (by assumption) | exact Nmo_o (by assumption)); decide; decide) | ((with_reducible refine sf_gJ ?_ ?_ ?_ ?_); (first | assumption | exact GS_o h0.1 (by decide) (by decide) | exact RRd_o h0 (by assumption) | exact RRd_o h0 (Or.inr (by assumption)) | exact OBq_o h0 (by assumption) | exact OBq_o h0 (Obt_q (by assumption)) | exact G_part h0.1 (by assumption) | exact Nmo_o (by assumption)); decide; decide) | ((with_reducible refine sf_gN ?_ ?_ ?_ ?_); (first | assumption | exact GS_o h0.1 (by decide) (by decide) | exact RRd_o h0 (by assumption) | exact RRd_o h0 (Or.inr (by assumption)) | exact OBq_o h0 (by assumption) | exact OBq_o h0 (Obt_q (by assumption)) | exact G_part h0.1 (by assumption) | exact Nmo_o (by assumption)); decide; decide) | ((with_reducible refine sf_gG h0 (by assumption) ?_ ?_ ?_ ?_ (by with_unfolding_all exact rfl) ?_); decide; decide; decide; decide) | ((with_reducible refine sf_o ?_ (fun l => ?_)); (first | assumption | exact GS_o h0.1 (by decide) (by decide) | exact RRd_o h0 (by assumption) | exact RRd_o h0 (Or.inr (by assumption)) | exact OBq_o h0 (by assumption) | exact OBq_o h0 (Obt_q (by assumption)) | exact G_part h0.1 (by assumption) | exact Nmo_o (by assumption))) | ((with_reducible refine sf_s ?_)) | ((with_reducible refine sf_sb (by assumption) ?_)) | ((with_reducible refine sf_r ?_ ?_); (first | exact any | assumption | exact ⟨false, rfl⟩ | exact ⟨true, rfl⟩); assumption) | ((with_reducible refine sf_z ?_ ?_ ?_); (first | exact ⟨false, rfl⟩ | exact ⟨true, rfl⟩ | assumption); (first | exact any | exact ⟨false, rfl⟩ | exact ⟨true, rfl⟩ | assumption); assumption) | ((with_reducible refine sx_obj h3 (by assumption) ?_ (fun q hq => ?_)); assumption))
  | succ d ih =>
    intro i f a1 τ hj hf hI
    obtain ⟨f, rfl⟩ : ∃ y, f = y + 1 := ⟨f - 1, by omega⟩
    unfold f_Scribe_numberParts_59 f_Scribe_numberParts_100 f_Scribe_numberParts_92
    rw [nI_add, nI_add]
    repeat' (first | (exact hk _ _ (by assumption)) | (exact ih _ _ _ _ (by omega) (by omega) (by assumption)) | exact absurd (show nI 0 = 0 from rfl) (by assumption) | exact absurd (show nI 1 = 0 by assumption) (by decide) | ((with_reducible refine sf_i (fun hc => ?_) (fun hc => ?_))) | ((with_reducible refine sf_gF h0 ?_ ?_ ?_ ?_ ?_); decide; decide; decide; decide) | ((with_reducible refine sf_gI ?_ ?_ ?_ ?_); (first | assumption | exact GS_o h0.1 (by decide) (by decide) | exact RRd_o h0 (by assumption) | exact RRd_o h0 (Or.inr (by assumption)) | exact OBq_o h0 (by assumption) | exact OBq_o h0 (Obt_q (by assumption)) | exact G_part h0.1 (by assumption) | exact Nmo_o (by assumption)); decide; decide) | ((with_reducible refine sf_gJ ?_ ?_ ?_ ?_); (first | assumption | exact GS_o h0.1 (by decide) (by decide) | exact RRd_o h0 (by assumption) | exact RRd_o h0 (Or.inr (by assumption)) | exact OBq_o h0 (by assumption) | exact OBq_o h0 (Obt_q (by assumption)) | exact G_part h0.1 (by assumption) | exact Nmo_o (by assumption)); decide; decide) | ((with_reducible refine sf_gN ?_ ?_ ?_ ?_); (first | assumption | exact GS_o h0.1 (by decide) (by decide) | exact RRd_o h0 (by assumption) | exact RRd_o h0 (Or.inr (by assumption)) | exact OBq_o h0 (by assumption) | exact OBq_o h0 (Obt_q (by assumption)) | exact G_part h0.1 (by assumption) | exact Nmo_o (by assumption)); decide; decide) | ((with_reducible refine sf_gG h0 (by assumption) ?_ ?_ ?_ ?_ (by with_unfolding_all exact rfl) ?_); decide; decide; decide; decide) | ((with_reducible refine sf_o ?_ (fun l => ?_)); (first | assumption | exact GS_o h0.1 (by decide) (by decide) | exact RRd_o h0 (by assumption) | exact RRd_o h0 (Or.inr (by assumption)) | exact OBq_o h0 (by assumption) | exact OBq_o h0 (Obt_q (by assumption)) | exact G_part h0.1 (by assumption) | exact Nmo_o (by assumption))) | ((with_reducible refine sf_s ?_)) | ((with_reducible refine sf_sb (by assumption) ?_)) | ((with_reducible refine sf_r ?_ ?_); (first | exact any | assumption | exact ⟨false, rfl⟩ | exact ⟨true, rfl⟩); assumption) | ((with_reducible refine sf_z ?_ ?_ ?_); (first | exact ⟨false, rfl⟩ | exact ⟨true, rfl⟩ | assumption); (first | exact any | exact ⟨false, rfl⟩ | exact ⟨true, rfl⟩ | assumption); assumption) | ((with_reducible refine sx_obj h3 (by assumption) ?_ (fun q hq => ?_)); assumption) | ((with_reducible refine sx_stay h3 hF (by assumption) ?_ (by assumption) (by assumption) ?_ ?_ (fun x hx hi hs => ?_)); assumption; omega) | (dsimp only))
theorem sf_np_17 {k4 : Nat → Int32 → Int32 → px_H → Option (Int32 × px_H)} (h3 : S3 sk L own τ0 fs s xs ST rn ws) (hF : 65540 < F) (ht : t < s.2.2.1.length) (hk : ∀ a1 τ, SI zb sk L τ0 τ → Sf sk L (SI zb sk L τ0) Any (k4 1713 a1 (nI (t + 1)) (cH sk L τ))) : ∀ (d i f : Nat) (a1 : Int32) (τ : px_TT), i + d = 24 → d < f → SI zb sk L τ0 τ → Sf sk L (SI zb sk L τ0) Any (f_Scribe_numberParts_17 F c k4 f 1713 a1 (nI t) (nI i) (cH sk L τ)) := by
  have h0 := h3.1.1.1
  intro d
  induction d with
  | zero =>
    intro i f a1 τ hj hf hI
    obtain ⟨f, rfl⟩ : ∃ y, f = y + 1 := ⟨f - 1, by omega⟩
    unfold f_Scribe_numberParts_17 f_Scribe_numberParts_57
    rw [if_pos (nI_le (by omega) (by omega))]
    exact sf_np_59 h3 hF ht hk 24 0 F _ _ rfl (by omega) hI
  | succ d ih =>
    intro i f a1 τ hj hf hI
    obtain ⟨f, rfl⟩ : ∃ y, f = y + 1 := ⟨f - 1, by omega⟩
    unfold f_Scribe_numberParts_17 f_Scribe_numberParts_57 f_Scribe_numberParts_51
    rw [nI_add, if_neg (nI_ge (by omega) (by omega))]
    repeat' (first | (exact ih _ _ _ _ (by omega) (by omega) (by assumption)) | exact absurd (show nI 0 = 0 from rfl) (by assumption) | exact absurd (show nI 1 = 0 by assumption) (by decide) | ((with_reducible refine sf_i (fun hc => ?_) (fun hc => ?_))) | ((with_reducible refine sf_gF h0 ?_ ?_ ?_ ?_ ?_); decide; decide; decide; decide) | ((with_reducible refine sf_gI ?_ ?_ ?_ ?_); (first | assumption | exact GS_o h0.1 (by decide) (by decide) | exact RRd_o h0 (by assumption) | exact RRd_o h0 (Or.inr (by assumption)) | exact OBq_o h0 (by assumption) | exact OBq_o h0 (Obt_q (by assumption)) | exact G_part h0.1 (by assumption) | exact Nmo_o (by assumption)); decide; decide) | ((with_reducible refine sf_gJ ?_ ?_ ?_ ?_); (first | assumption | exact GS_o h0.1 (by decide) (by decide) | exact RRd_o h0 (by assumption) | exact RRd_o h0 (Or.inr (by assumption)) | exact OBq_o h0 (by assumption) | exact OBq_o h0 (Obt_q (by assumption)) | exact G_part h0.1 (by assumption) | exact Nmo_o (by assumption)); decide; decide) | ((with_reducible refine sf_gN ?_ ?_ ?_ ?_); (first | assumption | exact GS_o h0.1 (by decide) (by decide) | exact RRd_o h0 (by assumption) | exact RRd_o h0 (Or.inr (by assumption)) | exact OBq_o h0 (by assumption) | exact OBq_o h0 (Obt_q (by assumption)) | exact G_part h0.1 (by assumption) | exact Nmo_o (by assumption)); decide; decide) | ((with_reducible refine sf_gG h0 (by assumption) ?_ ?_ ?_ ?_ (by with_unfolding_all exact rfl) ?_); decide; decide; decide; decide) | ((with_reducible refine sf_o ?_ (fun l => ?_)); (first | assumption | exact GS_o h0.1 (by decide) (by decide) | exact RRd_o h0 (by assumption) | exact RRd_o h0 (Or.inr (by assumption)) | exact OBq_o h0 (by assumption) | exact OBq_o h0 (Obt_q (by assumption)) | exact G_part h0.1 (by assumption) | exact Nmo_o (by assumption))) | ((with_reducible refine sf_s ?_)) | ((with_reducible refine sf_sb (by assumption) ?_)) | ((with_reducible refine sf_r ?_ ?_); (first | exact any | assumption | exact ⟨false, rfl⟩ | exact ⟨true, rfl⟩); assumption) | ((with_reducible refine sf_z ?_ ?_ ?_); (first | exact ⟨false, rfl⟩ | exact ⟨true, rfl⟩ | assumption); (first | exact any | exact ⟨false, rfl⟩ | exact ⟨true, rfl⟩ | assumption); assumption) | ((with_reducible refine sx_part h3 (by assumption) ?_ ?_ (fun x hx => ?_)); assumption; omega) | ((with_reducible refine sf_pI ?_ ?_ ?_ ?_ (fun τ hi => ?_)); (first | assumption | exact GS_o h0.1 (by decide) (by decide) | exact RRd_o h0 (by assumption) | exact RRd_o h0 (Or.inr (by assumption)) | exact OBq_o h0 (by assumption) | exact OBq_o h0 (Obt_q (by assumption)) | exact G_part h0.1 (by assumption) | exact Nmo_o (by assumption)); decide; decide; (first | exact SI_tI (by assumption) (by omega) | exact SI_m9 (by assumption) (by decide) | exact SI_m6 (by assumption) (by decide))))
theorem sf_np_4 (h3 : S3 sk L own τ0 fs s xs ST rn ws) (hF : 65540 < F) : ∀ (d t f : Nat) (a1 : Int32) (τ : px_TT), t + d = s.2.2.1.length → d < f → SI zb sk L τ0 τ → Sf sk L (SI zb sk L τ0) Any (f_Scribe_numberParts_4 F c f 1713 a1 (nI t) (cH sk L τ)) := by
  have h0 := h3.1.1.1
  have hT := S3_T h3
  intro d
  induction d with
  | zero =>
    intro t f a1 τ hj hf hI
    obtain ⟨f, rfl⟩ : ∃ y, f = y + 1 := ⟨f - 1, by omega⟩
    unfold f_Scribe_numberParts_4 f_Scribe_numberParts_106
    repeat' (first | (exact absurd (tkn_le (j := t) h3 hI (by omega) (by omega)) (by assumption)) | exact absurd (show nI 0 = 0 from rfl) (by assumption) | exact absurd (show nI 1 = 0 by assumption) (by decide) | ((with_reducible refine sf_i (fun hc => ?_) (fun hc => ?_))) | ((with_reducible refine sf_gF h0 ?_ ?_ ?_ ?_ ?_); decide; decide; decide; decide) | ((with_reducible refine sf_gI ?_ ?_ ?_ ?_); (first | assumption | exact GS_o h0.1 (by decide) (by decide) | exact RRd_o h0 (by assumption) | exact RRd_o h0 (Or.inr (by assumption)) | exact OBq_o h0 (by assumption) | exact OBq_o h0 (Obt_q (by assumption)) | exact G_part h0.1 (by assumption) | exact Nmo_o (by assumption)); decide; decide) | ((with_reducible refine sf_gJ ?_ ?_ ?_ ?_); (first | assumption | exact GS_o h0.1 (by decide) (by decide) | exact RRd_o h0 (by assumption) | exact RRd_o h0 (Or.inr (by assumption)) | exact OBq_o h0 (by assumption) | exact OBq_o h0 (Obt_q (by assumption)) | exact G_part h0.1 (by assumption) | exact Nmo_o (by assumption)); decide; decide) | ((with_reducible refine sf_gN ?_ ?_ ?_ ?_); (first | assumption | exact GS_o h0.1 (by decide) (by decide) | exact RRd_o h0 (by assumption) | exact RRd_o h0 (Or.inr (by assumption)) | exact OBq_o h0 (by assumption) | exact OBq_o h0 (Obt_q (by assumption)) | exact G_part h0.1 (by assumption) | exact Nmo_o (by assumption)); decide; decide) | ((with_reducible refine sf_gG h0 (by assumption) ?_ ?_ ?_ ?_ (by with_unfolding_all exact rfl) ?_); decide; decide; decide; decide) | ((with_reducible refine sf_o ?_ (fun l => ?_)); (first | assumption | exact GS_o h0.1 (by decide) (by decide) | exact RRd_o h0 (by assumption) | exact RRd_o h0 (Or.inr (by assumption)) | exact OBq_o h0 (by assumption) | exact OBq_o h0 (Obt_q (by assumption)) | exact G_part h0.1 (by assumption) | exact Nmo_o (by assumption))) | ((with_reducible refine sf_s ?_)) | ((with_reducible refine sf_sb (by assumption) ?_)) | ((with_reducible refine sf_r ?_ ?_); (first | exact any | assumption | exact ⟨false, rfl⟩ | exact ⟨true, rfl⟩); assumption) | ((with_reducible refine sf_z ?_ ?_ ?_); (first | exact ⟨false, rfl⟩ | exact ⟨true, rfl⟩ | assumption); (first | exact any | exact ⟨false, rfl⟩ | exact ⟨true, rfl⟩ | assumption); assumption) | ((with_reducible refine sf_pI ?_ ?_ ?_ ?_ (fun τ hi => ?_)); (first | assumption | exact GS_o h0.1 (by decide) (by decide) | exact RRd_o h0 (by assumption) | exact RRd_o h0 (Or.inr (by assumption)) | exact OBq_o h0 (by assumption) | exact OBq_o h0 (Obt_q (by assumption)) | exact G_part h0.1 (by assumption) | exact Nmo_o (by assumption)); decide; decide; (first | exact SI_tI (by assumption) (by omega) | exact SI_m9 (by assumption) (by decide) | exact SI_m6 (by assumption) (by decide))))
  | succ d ih =>
    intro t f a1 τ hj hf hI
    obtain ⟨f, rfl⟩ : ∃ y, f = y + 1 := ⟨f - 1, by omega⟩
    have ht : t < s.2.2.1.length := by omega
    unfold f_Scribe_numberParts_4 f_Scribe_numberParts_106
    repeat' (first | (exact sf_np_17 h3 hF ht (fun a1 τ hτ => ih _ _ _ τ (by omega) (by omega) hτ) 24 0 F _ _ rfl (by omega) (by assumption)) | exact absurd (show nI 0 = 0 from rfl) (by assumption) | exact absurd (show nI 1 = 0 by assumption) (by decide) | ((with_reducible refine sf_i (fun hc => ?_) (fun hc => ?_))) | ((with_reducible refine sf_gF h0 ?_ ?_ ?_ ?_ ?_); decide; decide; decide; decide) | ((with_reducible refine sf_gI ?_ ?_ ?_ ?_); (first | assumption | exact GS_o h0.1 (by decide) (by decide) | exact RRd_o h0 (by assumption) | exact RRd_o h0 (Or.inr (by assumption)) | exact OBq_o h0 (by assumption) | exact OBq_o h0 (Obt_q (by assumption)) | exact G_part h0.1 (by assumption) | exact Nmo_o (by assumption)); decide; decide) | ((with_reducible refine sf_gJ ?_ ?_ ?_ ?_); (first | assumption | exact GS_o h0.1 (by decide) (by decide) | exact RRd_o h0 (by assumption) | exact RRd_o h0 (Or.inr (by assumption)) | exact OBq_o h0 (by assumption) | exact OBq_o h0 (Obt_q (by assumption)) | exact G_part h0.1 (by assumption) | exact Nmo_o (by assumption)); decide; decide) | ((with_reducible refine sf_gN ?_ ?_ ?_ ?_); (first | assumption | exact GS_o h0.1 (by decide) (by decide) | exact RRd_o h0 (by assumption) | exact RRd_o h0 (Or.inr (by assumption)) | exact OBq_o h0 (by assumption) | exact OBq_o h0 (Obt_q (by assumption)) | exact G_part h0.1 (by assumption) | exact Nmo_o (by assumption)); decide; decide) | ((with_reducible refine sf_gG h0 (by assumption) ?_ ?_ ?_ ?_ (by with_unfolding_all exact rfl) ?_); decide; decide; decide; decide) | ((with_reducible refine sf_o ?_ (fun l => ?_)); (first | assumption | exact GS_o h0.1 (by decide) (by decide) | exact RRd_o h0 (by assumption) | exact RRd_o h0 (Or.inr (by assumption)) | exact OBq_o h0 (by assumption) | exact OBq_o h0 (Obt_q (by assumption)) | exact G_part h0.1 (by assumption) | exact Nmo_o (by assumption))) | ((with_reducible refine sf_s ?_)) | ((with_reducible refine sf_sb (by assumption) ?_)) | ((with_reducible refine sf_r ?_ ?_); (first | exact any | assumption | exact ⟨false, rfl⟩ | exact ⟨true, rfl⟩); assumption) | ((with_reducible refine sf_z ?_ ?_ ?_); (first | exact ⟨false, rfl⟩ | exact ⟨true, rfl⟩ | assumption); (first | exact any | exact ⟨false, rfl⟩ | exact ⟨true, rfl⟩ | assumption); assumption) | ((with_reducible refine sf_pI ?_ ?_ ?_ ?_ (fun τ hi => ?_)); (first | assumption | exact GS_o h0.1 (by decide) (by decide) | exact RRd_o h0 (by assumption) | exact RRd_o h0 (Or.inr (by assumption)) | exact OBq_o h0 (by assumption) | exact OBq_o h0 (Obt_q (by assumption)) | exact G_part h0.1 (by assumption) | exact Nmo_o (by assumption)); decide; decide; (first | exact SI_tI (by assumption) (by omega) | exact SI_m9 (by assumption) (by decide) | exact SI_m6 (by assumption) (by decide))))
theorem sf_nparts (h3 : S3 sk L own τ0 fs s xs ST rn ws) (hF : 65540 < F) (hI : SI zb sk L τ0 τ) : Sf sk L (SI zb sk L τ0) Any (f_Scribe_numberParts F c 1713 (cH sk L τ)) := by
  have hT := S3_T h3
  exact sf_np_4 h3 hF _ 0 F _ _ (Nat.zero_add _) (by omega) hI
/-! symbols -/
theorem sf_ns_260 {k247 : Nat → Int32 → px_H → Option (Int32 × px_H)} (h3 : S3 sk L own τ0 fs s xs ST rn ws) (hF : 65540 < F) (ht : t < s.2.2.1.length) (hk : ∀ τ, SI (some (4144 + 64 * (t + 1))) sk L τ0 τ → Sf sk L (SI (some 8240) sk L τ0) Any (k247 1713 (nI (t + 1)) (cH sk L τ))) : ∀ (d j f : Nat) (τ : px_TT), j + d = 64 → d < f → SI (some (4144 + 64 * t + j)) sk L τ0 τ → Sf sk L (SI (some 8240) sk L τ0) Any (f_Scribe_numberSymbols_260 F c k247 f 1713 (nI t) (nI j) (cH sk L τ)) := by
  have h0 := h3.1.1.1
  have hT := S3_T h3
  intro d
  induction d with
  | zero =>
    intro j f τ hj hf hI
    obtain ⟨f, rfl⟩ : ∃ y, f = y + 1 := ⟨f - 1, by omega⟩
    unfold f_Scribe_numberSymbols_260 f_Scribe_numberSymbols_285
    rw [nI_add, if_pos (nI_le (by omega) (by omega))]
    exact hk _ (SI_mono hI (by omega))
  | succ d ih =>
    intro j f τ hj hf hI
    obtain ⟨f, rfl⟩ : ∃ y, f = y + 1 := ⟨f - 1, by omega⟩
    unfold f_Scribe_numberSymbols_260 f_Scribe_numberSymbols_285
    rw [nI_add, if_neg (nI_ge (by omega) (by omega)), nI_add]
    repeat' (first | ((with_reducible refine sw_x (sf_listO hI) (fun v τ hv hi => ?_))) | ((with_reducible refine sw_x (sf_listN h0 hF ?_ ?_ hI) (fun v τ hv hi => ?_)); omega; assumption) | (exact ih _ _ _ (by omega) (by omega) (SI_mono (by assumption) (by omega))) | exact absurd (show nI 0 = 0 from rfl) (by assumption) | exact absurd (show nI 1 = 0 by assumption) (by decide) | ((with_reducible refine sf_i (fun hc => ?_) (fun hc => ?_))) | ((with_reducible refine sf_gF h0 ?_ ?_ ?_ ?_ ?_); decide; decide; decide; decide) | ((with_reducible refine sf_gI ?_ ?_ ?_ ?_); (first | assumption | exact GS_o h0.1 (by decide) (by decide) | exact RRd_o h0 (by assumption) | exact RRd_o h0 (Or.inr (by assumption)) | exact OBq_o h0 (by assumption) | exact OBq_o h0 (Obt_q (by assumption)) | exact G_part h0.1 (by assumption) | exact Nmo_o (by assumption)); decide; decide) | ((with_reducible refine sf_gJ ?_ ?_ ?_ ?_); (first | assumption | exact GS_o h0.1 (by decide) (by decide) | exact RRd_o h0 (by assumption) | exact RRd_o h0 (Or.inr (by assumption)) | exact OBq_o h0 (by assumption) | exact OBq_o h0 (Obt_q (by assumption)) | exact G_part h0.1 (by assumption) | exact Nmo_o (by assumption)); decide; decide) | ((with_reducible refine sf_gN ?_ ?_ ?_ ?_); (first | assumption | exact GS_o h0.1 (by decide) (by decide) | exact RRd_o h0 (by assumption) | exact RRd_o h0 (Or.inr (by assumption)) | exact OBq_o h0 (by assumption) | exact OBq_o h0 (Obt_q (by assumption)) | exact G_part h0.1 (by assumption) | exact Nmo_o (by assumption)); decide; decide) | ((with_reducible refine sf_gG h0 (by assumption) ?_ ?_ ?_ ?_ (by with_unfolding_all exact rfl) ?_); decide; decide; decide; decide) | ((with_reducible refine sf_o ?_ (fun l => ?_)); (first | assumption | exact GS_o h0.1 (by decide) (by decide) | exact RRd_o h0 (by assumption) | exact RRd_o h0 (Or.inr (by assumption)) | exact OBq_o h0 (by assumption) | exact OBq_o h0 (Obt_q (by assumption)) | exact G_part h0.1 (by assumption) | exact Nmo_o (by assumption))) | ((with_reducible refine sf_s ?_)) | ((with_reducible refine sf_sb (by assumption) ?_)) | ((with_reducible refine sf_r ?_ ?_); (first | exact any | assumption | exact ⟨false, rfl⟩ | exact ⟨true, rfl⟩); assumption) | ((with_reducible refine sf_z ?_ ?_ ?_); (first | exact ⟨false, rfl⟩ | exact ⟨true, rfl⟩ | assumption); (first | exact any | exact ⟨false, rfl⟩ | exact ⟨true, rfl⟩ | assumption); assumption) | ((with_reducible refine sx_name h3 (by assumption) ?_ ?_ (fun p hp => ?_)); assumption))
theorem sf_ns_247 (h3 : S3 sk L own τ0 fs s xs ST rn ws) (hF : 65540 < F) : ∀ (d t f : Nat) (τ : px_TT), t + d = s.2.2.1.length → d < f → SI (some (4144 + 64 * t)) sk L τ0 τ → Sf sk L (SI (some 8240) sk L τ0) Any (f_Scribe_numberSymbols_247 F c f 1713 (nI t) (cH sk L τ)) := by
  have h0 := h3.1.1.1
  have hT := S3_T h3
  intro d
  induction d with
  | zero =>
    intro t f τ hj hf hI
    obtain ⟨f, rfl⟩ : ∃ y, f = y + 1 := ⟨f - 1, by omega⟩
    unfold f_Scribe_numberSymbols_247 f_Scribe_numberSymbols_291
    repeat' (first | (exact sf_r any (SI_mono hI (by omega))) | (exact absurd (tkn_le (j := t) h3 hI (by omega) (by omega)) (by assumption)) | exact absurd (show nI 0 = 0 from rfl) (by assumption) | exact absurd (show nI 1 = 0 by assumption) (by decide) | ((with_reducible refine sf_i (fun hc => ?_) (fun hc => ?_))) | ((with_reducible refine sf_gF h0 ?_ ?_ ?_ ?_ ?_); decide; decide; decide; decide) | ((with_reducible refine sf_gI ?_ ?_ ?_ ?_); (first | assumption | exact GS_o h0.1 (by decide) (by decide) | exact RRd_o h0 (by assumption) | exact RRd_o h0 (Or.inr (by assumption)) | exact OBq_o h0 (by assumption) | exact OBq_o h0 (Obt_q (by assumption)) | exact G_part h0.1 (by assumption) | exact Nmo_o (by assumption)); decide; decide) | ((with_reducible refine sf_gJ ?_ ?_ ?_ ?_); (first | assumption | exact GS_o h0.1 (by decide) (by decide) | exact RRd_o h0 (by assumption) | exact RRd_o h0 (Or.inr (by assumption)) | exact OBq_o h0 (by assumption) | exact OBq_o h0 (Obt_q (by assumption)) | exact G_part h0.1 (by assumption) | exact Nmo_o (by assumption)); decide; decide) | ((with_reducible refine sf_gN ?_ ?_ ?_ ?_); (first | assumption | exact GS_o h0.1 (by decide) (by decide) | exact RRd_o h0 (by assumption) | exact RRd_o h0 (Or.inr (by assumption)) | exact OBq_o h0 (by assumption) | exact OBq_o h0 (Obt_q (by assumption)) | exact G_part h0.1 (by assumption) | exact Nmo_o (by assumption)); decide; decide) | ((with_reducible refine sf_gG h0 (by assumption) ?_ ?_ ?_ ?_ (by with_unfolding_all exact rfl) ?_); decide; decide; decide; decide) | ((with_reducible refine sf_o ?_ (fun l => ?_)); (first | assumption | exact GS_o h0.1 (by decide) (by decide) | exact RRd_o h0 (by assumption) | exact RRd_o h0 (Or.inr (by assumption)) | exact OBq_o h0 (by assumption) | exact OBq_o h0 (Obt_q (by assumption)) | exact G_part h0.1 (by assumption) | exact Nmo_o (by assumption))) | ((with_reducible refine sf_s ?_)) | ((with_reducible refine sf_sb (by assumption) ?_)) | ((with_reducible refine sf_r ?_ ?_); (first | exact any | assumption | exact ⟨false, rfl⟩ | exact ⟨true, rfl⟩); assumption) | ((with_reducible refine sf_z ?_ ?_ ?_); (first | exact ⟨false, rfl⟩ | exact ⟨true, rfl⟩ | assumption); (first | exact any | exact ⟨false, rfl⟩ | exact ⟨true, rfl⟩ | assumption); assumption))
  | succ d ih =>
    intro t f τ hj hf hI
    obtain ⟨f, rfl⟩ : ∃ y, f = y + 1 := ⟨f - 1, by omega⟩
    have ht : t < s.2.2.1.length := by omega
    unfold f_Scribe_numberSymbols_247 f_Scribe_numberSymbols_291
    repeat' (first | (exact sf_r any (SI_mono hI (by omega))) | (exact sf_ns_260 h3 hF ht (fun τ hτ => ih _ _ τ (by omega) (by omega) hτ) 64 0 F _ rfl (by omega) hI) | exact absurd (show nI 0 = 0 from rfl) (by assumption) | exact absurd (show nI 1 = 0 by assumption) (by decide) | ((with_reducible refine sf_i (fun hc => ?_) (fun hc => ?_))) | ((with_reducible refine sf_gF h0 ?_ ?_ ?_ ?_ ?_); decide; decide; decide; decide) | ((with_reducible refine sf_gI ?_ ?_ ?_ ?_); (first | assumption | exact GS_o h0.1 (by decide) (by decide) | exact RRd_o h0 (by assumption) | exact RRd_o h0 (Or.inr (by assumption)) | exact OBq_o h0 (by assumption) | exact OBq_o h0 (Obt_q (by assumption)) | exact G_part h0.1 (by assumption) | exact Nmo_o (by assumption)); decide; decide) | ((with_reducible refine sf_gJ ?_ ?_ ?_ ?_); (first | assumption | exact GS_o h0.1 (by decide) (by decide) | exact RRd_o h0 (by assumption) | exact RRd_o h0 (Or.inr (by assumption)) | exact OBq_o h0 (by assumption) | exact OBq_o h0 (Obt_q (by assumption)) | exact G_part h0.1 (by assumption) | exact Nmo_o (by assumption)); decide; decide) | ((with_reducible refine sf_gN ?_ ?_ ?_ ?_); (first | assumption | exact GS_o h0.1 (by decide) (by decide) | exact RRd_o h0 (by assumption) | exact RRd_o h0 (Or.inr (by assumption)) | exact OBq_o h0 (by assumption) | exact OBq_o h0 (Obt_q (by assumption)) | exact G_part h0.1 (by assumption) | exact Nmo_o (by assumption)); decide; decide) | ((with_reducible refine sf_gG h0 (by assumption) ?_ ?_ ?_ ?_ (by with_unfolding_all exact rfl) ?_); decide; decide; decide; decide) | ((with_reducible refine sf_o ?_ (fun l => ?_)); (first | assumption | exact GS_o h0.1 (by decide) (by decide) | exact RRd_o h0 (by assumption) | exact RRd_o h0 (Or.inr (by assumption)) | exact OBq_o h0 (by assumption) | exact OBq_o h0 (Obt_q (by assumption)) | exact G_part h0.1 (by assumption) | exact Nmo_o (by assumption))) | ((with_reducible refine sf_s ?_)) | ((with_reducible refine sf_sb (by assumption) ?_)) | ((with_reducible refine sf_r ?_ ?_); (first | exact any | assumption | exact ⟨false, rfl⟩ | exact ⟨true, rfl⟩); assumption) | ((with_reducible refine sf_z ?_ ?_ ?_); (first | exact ⟨false, rfl⟩ | exact ⟨true, rfl⟩ | assumption); (first | exact any | exact ⟨false, rfl⟩ | exact ⟨true, rfl⟩ | assumption); assumption))
theorem sf_ns_200 (h3 : S3 sk L own τ0 fs s xs ST rn ws) (hF : 65540 < F) : ∀ (d j f : Nat) (τ : px_TT), j + d = 16 → d < f → SI (some (4128 + j)) sk L τ0 τ → Sf sk L (SI (some 8240) sk L τ0) Any (f_Scribe_numberSymbols_200 F c f 1713 (nI j) (cH sk L τ)) := by
  have h0 := h3.1.1.1
  have hT := S3_T h3
  have go : ∀ j τ, j ≤ 16 → SI (some (4128 + j)) sk L τ0 τ → Sf sk L (SI (some 8240) sk L τ0) Any (f_Scribe_numberSymbols_247 F c F 1713 (nI 0) (cH sk L τ)) := fun j τ hj hI => sf_ns_247 h3 hF _ 0 F τ (Nat.zero_add _) (by omega) (SI_mono hI (by omega))
  intro d
  induction d with
  | zero =>
    intro j f τ hj hf hI
    obtain ⟨f, rfl⟩ : ∃ y, f = y + 1 := ⟨f - 1, by omega⟩
    unfold f_Scribe_numberSymbols_200 f_Scribe_numberSymbols_245
    repeat' (first | (exact go j _ (by omega) hI) | (exact absurd (wsc_le (j := j) h3 hI (by omega) (by omega)) (by assumption)) | exact absurd (show nI 0 = 0 from rfl) (by assumption) | exact absurd (show nI 1 = 0 by assumption) (by decide) | ((with_reducible refine sf_i (fun hc => ?_) (fun hc => ?_))) | ((with_reducible refine sf_gF h0 ?_ ?_ ?_ ?_ ?_); decide; decide; decide; decide) | ((with_reducible refine sf_gI ?_ ?_ ?_ ?_); (first | assumption | exact GS_o h0.1 (by decide) (by decide) | exact RRd_o h0 (by assumption) | exact RRd_o h0 (Or.inr (by assumption)) | exact OBq_o h0 (by assumption) | exact OBq_o h0 (Obt_q (by assumption)) | exact G_part h0.1 (by assumption) | exact Nmo_o (by assumption)); decide; decide) | ((with_reducible refine sf_gJ ?_ ?_ ?_ ?_); (first | assumption | exact GS_o h0.1 (by decide) (by decide) | exact RRd_o h0 (by assumption) | exact RRd_o h0 (Or.inr (by assumption)) | exact OBq_o h0 (by assumption) | exact OBq_o h0 (Obt_q (by assumption)) | exact G_part h0.1 (by assumption) | exact Nmo_o (by assumption)); decide; decide) | ((with_reducible refine sf_gN ?_ ?_ ?_ ?_); (first | assumption | exact GS_o h0.1 (by decide) (by decide) | exact RRd_o h0 (by assumption) | exact RRd_o h0 (Or.inr (by assumption)) | exact OBq_o h0 (by assumption) | exact OBq_o h0 (Obt_q (by assumption)) | exact G_part h0.1 (by assumption) | exact Nmo_o (by assumption)); decide; decide) | ((with_reducible refine sf_gG h0 (by assumption) ?_ ?_ ?_ ?_ (by with_unfolding_all exact rfl) ?_); decide; decide; decide; decide) | ((with_reducible refine sf_o ?_ (fun l => ?_)); (first | assumption | exact GS_o h0.1 (by decide) (by decide) | exact RRd_o h0 (by assumption) | exact RRd_o h0 (Or.inr (by assumption)) | exact OBq_o h0 (by assumption) | exact OBq_o h0 (Obt_q (by assumption)) | exact G_part h0.1 (by assumption) | exact Nmo_o (by assumption))) | ((with_reducible refine sf_s ?_)) | ((with_reducible refine sf_sb (by assumption) ?_)) | ((with_reducible refine sf_r ?_ ?_); (first | exact any | assumption | exact ⟨false, rfl⟩ | exact ⟨true, rfl⟩); assumption) | ((with_reducible refine sf_z ?_ ?_ ?_); (first | exact ⟨false, rfl⟩ | exact ⟨true, rfl⟩ | assumption); (first | exact any | exact ⟨false, rfl⟩ | exact ⟨true, rfl⟩ | assumption); assumption))
  | succ d ih =>
    intro j f τ hj hf hI
    obtain ⟨f, rfl⟩ : ∃ y, f = y + 1 := ⟨f - 1, by omega⟩
    unfold f_Scribe_numberSymbols_200 f_Scribe_numberSymbols_245
    rw [nI_add]
    repeat' (first | (exact go j _ (by omega) hI) | ((with_reducible refine sx_wsAt h3 (by assumption) ?_ ?_ (fun p hp => ?_)); assumption; omega) | ((with_reducible refine sx_find h3 hF (by assumption) ?_ ?_ (fun p hp => ?_)); assumption) | ((with_reducible refine sw_x (sf_listO hI) (fun v τ hv hi => ?_))) | ((with_reducible refine sw_x (sf_listN h0 hF ?_ ?_ hI) (fun v τ hv hi => ?_)); omega; assumption) | (exact ih _ _ _ (by omega) (by omega) (SI_mono (by assumption) (by omega))) | exact absurd (show nI 0 = 0 from rfl) (by assumption) | exact absurd (show nI 1 = 0 by assumption) (by decide) | ((with_reducible refine sf_i (fun hc => ?_) (fun hc => ?_))) | ((with_reducible refine sf_gF h0 ?_ ?_ ?_ ?_ ?_); decide; decide; decide; decide) | ((with_reducible refine sf_gI ?_ ?_ ?_ ?_); (first | assumption | exact GS_o h0.1 (by decide) (by decide) | exact RRd_o h0 (by assumption) | exact RRd_o h0 (Or.inr (by assumption)) | exact OBq_o h0 (by assumption) | exact OBq_o h0 (Obt_q (by assumption)) | exact G_part h0.1 (by assumption) | exact Nmo_o (by assumption)); decide; decide) | ((with_reducible refine sf_gJ ?_ ?_ ?_ ?_); (first | assumption | exact GS_o h0.1 (by decide) (by decide) | exact RRd_o h0 (by assumption) | exact RRd_o h0 (Or.inr (by assumption)) | exact OBq_o h0 (by assumption) | exact OBq_o h0 (Obt_q (by assumption)) | exact G_part h0.1 (by assumption) | exact Nmo_o (by assumption)); decide; decide) | ((with_reducible refine sf_gN ?_ ?_ ?_ ?_); (first | assumption | exact GS_o h0.1 (by decide) (by decide) | exact RRd_o h0 (by assumption) | exact RRd_o h0 (Or.inr (by assumption)) | exact OBq_o h0 (by assumption) | exact OBq_o h0 (Obt_q (by assumption)) | exact G_part h0.1 (by assumption) | exact Nmo_o (by assumption)); decide; decide) | ((with_reducible refine sf_gG h0 (by assumption) ?_ ?_ ?_ ?_ (by with_unfolding_all exact rfl) ?_); decide; decide; decide; decide) | ((with_reducible refine sf_o ?_ (fun l => ?_)); (first | assumption | exact GS_o h0.1 (by decide) (by decide) | exact RRd_o h0 (by assumption) | exact RRd_o h0 (Or.inr (by assumption)) | exact OBq_o h0 (by assumption) | exact OBq_o h0 (Obt_q (by assumption)) | exact G_part h0.1 (by assumption) | exact Nmo_o (by assumption))) | ((with_reducible refine sf_s ?_)) | ((with_reducible refine sf_sb (by assumption) ?_)) | ((with_reducible refine sf_r ?_ ?_); (first | exact any | assumption | exact ⟨false, rfl⟩ | exact ⟨true, rfl⟩); assumption) | ((with_reducible refine sf_z ?_ ?_ ?_); (first | exact ⟨false, rfl⟩ | exact ⟨true, rfl⟩ | assumption); (first | exact any | exact ⟨false, rfl⟩ | exact ⟨true, rfl⟩ | assumption); assumption))
theorem sf_ns_169 (h3 : S3 sk L own τ0 fs s xs ST rn ws) (hF : 65540 < F) : ∀ (d j f : Nat) (τ : px_TT), j + d = 4128 → d < f → SI (some j) sk L τ0 τ → Sf sk L (SI (some 8240) sk L τ0) Any (f_Scribe_numberSymbols_169 F c f 1713 (nI j) (cH sk L τ)) := by
  have h0 := h3.1.1.1
  have h2 := h3.1
  have hT := S3_T h3
  have go : ∀ j τ, j ≤ 4128 → SI (some j) sk L τ0 τ → Sf sk L (SI (some 8240) sk L τ0) Any (f_Scribe_numberSymbols_200 F c F 1713 (nI 0) (cH sk L τ)) := fun j τ hj hI => sf_ns_200 h3 hF 16 0 F τ rfl (by omega) (SI_mono hI (by omega))
  intro d
  induction d with
  | zero =>
    intro j f τ hj hf hI
    obtain ⟨f, rfl⟩ : ∃ y, f = y + 1 := ⟨f - 1, by omega⟩
    unfold f_Scribe_numberSymbols_169 f_Scribe_numberSymbols_198
    repeat' (first | (exact go j _ (by omega) hI) | (exact absurd (ord_le (j := j) h2 hI (by omega) (by omega)) (by assumption)) | exact absurd (show nI 0 = 0 from rfl) (by assumption) | exact absurd (show nI 1 = 0 by assumption) (by decide) | ((with_reducible refine sf_i (fun hc => ?_) (fun hc => ?_))) | ((with_reducible refine sf_gF h0 ?_ ?_ ?_ ?_ ?_); decide; decide; decide; decide) | ((with_reducible refine sf_gI ?_ ?_ ?_ ?_); (first | assumption | exact GS_o h0.1 (by decide) (by decide) | exact RRd_o h0 (by assumption) | exact RRd_o h0 (Or.inr (by assumption)) | exact OBq_o h0 (by assumption) | exact OBq_o h0 (Obt_q (by assumption)) | exact G_part h0.1 (by assumption) | exact Nmo_o (by assumption)); decide; decide) | ((with_reducible refine sf_gJ ?_ ?_ ?_ ?_); (first | assumption | exact GS_o h0.1 (by decide) (by decide) | exact RRd_o h0 (by assumption) | exact RRd_o h0 (Or.inr (by assumption)) | exact OBq_o h0 (by assumption) | exact OBq_o h0 (Obt_q (by assumption)) | exact G_part h0.1 (by assumption) | exact Nmo_o (by assumption)); decide; decide) | ((with_reducible refine sf_gN ?_ ?_ ?_ ?_); (first | assumption | exact GS_o h0.1 (by decide) (by decide) | exact RRd_o h0 (by assumption) | exact RRd_o h0 (Or.inr (by assumption)) | exact OBq_o h0 (by assumption) | exact OBq_o h0 (Obt_q (by assumption)) | exact G_part h0.1 (by assumption) | exact Nmo_o (by assumption)); decide; decide) | ((with_reducible refine sf_gG h0 (by assumption) ?_ ?_ ?_ ?_ (by with_unfolding_all exact rfl) ?_); decide; decide; decide; decide) | ((with_reducible refine sf_o ?_ (fun l => ?_)); (first | assumption | exact GS_o h0.1 (by decide) (by decide) | exact RRd_o h0 (by assumption) | exact RRd_o h0 (Or.inr (by assumption)) | exact OBq_o h0 (by assumption) | exact OBq_o h0 (Obt_q (by assumption)) | exact G_part h0.1 (by assumption) | exact Nmo_o (by assumption))) | ((with_reducible refine sf_s ?_)) | ((with_reducible refine sf_sb (by assumption) ?_)) | ((with_reducible refine sf_r ?_ ?_); (first | exact any | assumption | exact ⟨false, rfl⟩ | exact ⟨true, rfl⟩); assumption) | ((with_reducible refine sf_z ?_ ?_ ?_); (first | exact ⟨false, rfl⟩ | exact ⟨true, rfl⟩ | assumption); (first | exact any | exact ⟨false, rfl⟩ | exact ⟨true, rfl⟩ | assumption); assumption))
  | succ d ih =>
    intro j f τ hj hf hI
    obtain ⟨f, rfl⟩ : ∃ y, f = y + 1 := ⟨f - 1, by omega⟩
    unfold f_Scribe_numberSymbols_169 f_Scribe_numberSymbols_198
    rw [nI_add]
    repeat' (first | (exact go j _ (by omega) hI) | ((with_reducible refine sw_x (sf_listN h0 hF ?_ ?_ hI) (fun v τ hv hi => ?_)); omega; assumption) | (exact ih _ _ _ (by omega) (by omega) (SI_mono (by assumption) (by omega))) | exact absurd (show nI 0 = 0 from rfl) (by assumption) | exact absurd (show nI 1 = 0 by assumption) (by decide) | ((with_reducible refine sf_i (fun hc => ?_) (fun hc => ?_))) | ((with_reducible refine sf_gF h0 ?_ ?_ ?_ ?_ ?_); decide; decide; decide; decide) | ((with_reducible refine sf_gI ?_ ?_ ?_ ?_); (first | assumption | exact GS_o h0.1 (by decide) (by decide) | exact RRd_o h0 (by assumption) | exact RRd_o h0 (Or.inr (by assumption)) | exact OBq_o h0 (by assumption) | exact OBq_o h0 (Obt_q (by assumption)) | exact G_part h0.1 (by assumption) | exact Nmo_o (by assumption)); decide; decide) | ((with_reducible refine sf_gJ ?_ ?_ ?_ ?_); (first | assumption | exact GS_o h0.1 (by decide) (by decide) | exact RRd_o h0 (by assumption) | exact RRd_o h0 (Or.inr (by assumption)) | exact OBq_o h0 (by assumption) | exact OBq_o h0 (Obt_q (by assumption)) | exact G_part h0.1 (by assumption) | exact Nmo_o (by assumption)); decide; decide) | ((with_reducible refine sf_gN ?_ ?_ ?_ ?_); (first | assumption | exact GS_o h0.1 (by decide) (by decide) | exact RRd_o h0 (by assumption) | exact RRd_o h0 (Or.inr (by assumption)) | exact OBq_o h0 (by assumption) | exact OBq_o h0 (Obt_q (by assumption)) | exact G_part h0.1 (by assumption) | exact Nmo_o (by assumption)); decide; decide) | ((with_reducible refine sf_gG h0 (by assumption) ?_ ?_ ?_ ?_ (by with_unfolding_all exact rfl) ?_); decide; decide; decide; decide) | ((with_reducible refine sf_o ?_ (fun l => ?_)); (first | assumption | exact GS_o h0.1 (by decide) (by decide) | exact RRd_o h0 (by assumption) | exact RRd_o h0 (Or.inr (by assumption)) | exact OBq_o h0 (by assumption) | exact OBq_o h0 (Obt_q (by assumption)) | exact G_part h0.1 (by assumption) | exact Nmo_o (by assumption))) | ((with_reducible refine sf_s ?_)) | ((with_reducible refine sf_sb (by assumption) ?_)) | ((with_reducible refine sf_r ?_ ?_); (first | exact any | assumption | exact ⟨false, rfl⟩ | exact ⟨true, rfl⟩); assumption) | ((with_reducible refine sf_z ?_ ?_ ?_); (first | exact ⟨false, rfl⟩ | exact ⟨true, rfl⟩ | assumption); (first | exact any | exact ⟨false, rfl⟩ | exact ⟨true, rfl⟩ | assumption); assumption) | ((with_reducible refine sx_defAt h2 (by assumption) ?_ ?_ (fun p hp => ?_)); assumption; omega))
theorem sf_ns_132 (h3 : S3 sk L own τ0 fs s xs ST rn ws) (hF : 65540 < F) : ∀ (d j f : Nat) (τ : px_TT), j + d = 4128 → d < f → SI (some 0) sk L τ0 τ → Sf sk L (SI (some 8240) sk L τ0) Any (f_Scribe_numberSymbols_132 F c f 1713 (nI j) (cH sk L τ)) := by
  have h0 := h3.1.1.1
  have go : ∀ τ, SI (some 0) sk L τ0 τ → Sf sk L (SI (some 8240) sk L τ0) Any (f_Scribe_numberSymbols_169 F c F 1713 (nI 0) (cH sk L τ)) := fun τ hI => sf_ns_169 h3 hF 4128 0 F τ rfl (by omega) hI
  intro d
  induction d with
  | zero =>
    intro j f τ hj hf hI
    obtain ⟨f, rfl⟩ : ∃ y, f = y + 1 := ⟨f - 1, by omega⟩
    unfold f_Scribe_numberSymbols_132 f_Scribe_numberSymbols_167
    repeat' (first | (exact go _ hI) | (exact absurd (nmc_le (j := j) h3 hI (by omega) (by omega)) (by assumption)) | exact absurd (show nI 0 = 0 from rfl) (by assumption) | exact absurd (show nI 1 = 0 by assumption) (by decide) | ((with_reducible refine sf_i (fun hc => ?_) (fun hc => ?_))) | ((with_reducible refine sf_gF h0 ?_ ?_ ?_ ?_ ?_); decide; decide; decide; decide) | ((with_reducible refine sf_gI ?_ ?_ ?_ ?_); (first | assumption | exact GS_o h0.1 (by decide) (by decide) | exact RRd_o h0 (by assumption) | exact RRd_o h0 (Or.inr (by assumption)) | exact OBq_o h0 (by assumption) | exact OBq_o h0 (Obt_q (by assumption)) | exact G_part h0.1 (by assumption) | exact Nmo_o (by assumption)); decide; decide) | ((with_reducible refine sf_gJ ?_ ?_ ?_ ?_); (first | assumption | exact GS_o h0.1 (by decide) (by decide) | exact RRd_o h0 (by assumption) | exact RRd_o h0 (Or.inr (by assumption)) | exact OBq_o h0 (by assumption) | exact OBq_o h0 (Obt_q (by assumption)) | exact G_part h0.1 (by assumption) | exact Nmo_o (by assumption)); decide; decide) | ((with_reducible refine sf_gN ?_ ?_ ?_ ?_); (first | assumption | exact GS_o h0.1 (by decide) (by decide) | exact RRd_o h0 (by assumption) | exact RRd_o h0 (Or.inr (by assumption)) | exact OBq_o h0 (by assumption) | exact OBq_o h0 (Obt_q (by assumption)) | exact G_part h0.1 (by assumption) | exact Nmo_o (by assumption)); decide; decide) | ((with_reducible refine sf_gG h0 (by assumption) ?_ ?_ ?_ ?_ (by with_unfolding_all exact rfl) ?_); decide; decide; decide; decide) | ((with_reducible refine sf_o ?_ (fun l => ?_)); (first | assumption | exact GS_o h0.1 (by decide) (by decide) | exact RRd_o h0 (by assumption) | exact RRd_o h0 (Or.inr (by assumption)) | exact OBq_o h0 (by assumption) | exact OBq_o h0 (Obt_q (by assumption)) | exact G_part h0.1 (by assumption) | exact Nmo_o (by assumption))) | ((with_reducible refine sf_s ?_)) | ((with_reducible refine sf_sb (by assumption) ?_)) | ((with_reducible refine sf_r ?_ ?_); (first | exact any | assumption | exact ⟨false, rfl⟩ | exact ⟨true, rfl⟩); assumption) | ((with_reducible refine sf_z ?_ ?_ ?_); (first | exact ⟨false, rfl⟩ | exact ⟨true, rfl⟩ | assumption); (first | exact any | exact ⟨false, rfl⟩ | exact ⟨true, rfl⟩ | assumption); assumption))
  | succ d ih =>
    intro j f τ hj hf hI
    obtain ⟨f, rfl⟩ : ∃ y, f = y + 1 := ⟨f - 1, by omega⟩
    unfold f_Scribe_numberSymbols_132 f_Scribe_numberSymbols_167
    rw [nI_add]
    repeat' (first | (exact go _ hI) | ((with_reducible refine sx_nmAt h3 (by assumption) ?_ ?_ (fun p hp => ?_)); assumption; omega) | ((with_reducible refine sw_pI (I1 := SI (some 0) sk L τ0) ?_ ?_ ?_ ?_ (fun τ hi => ?_)); exact Nmo_o hp; decide; decide; exact SI_tI hI (Or.inr (Or.inr (Or.inr (Or.inr (Or.inl ⟨hp.1, rfl⟩)))))) | (exact ih _ _ _ (by omega) (by omega) (by assumption)) | exact absurd (show nI 0 = 0 from rfl) (by assumption) | exact absurd (show nI 1 = 0 by assumption) (by decide) | ((with_reducible refine sf_i (fun hc => ?_) (fun hc => ?_))) | ((with_reducible refine sf_gF h0 ?_ ?_ ?_ ?_ ?_); decide; decide; decide; decide) | ((with_reducible refine sf_gI ?_ ?_ ?_ ?_); (first | assumption | exact GS_o h0.1 (by decide) (by decide) | exact RRd_o h0 (by assumption) | exact RRd_o h0 (Or.inr (by assumption)) | exact OBq_o h0 (by assumption) | exact OBq_o h0 (Obt_q (by assumption)) | exact G_part h0.1 (by assumption) | exact Nmo_o (by assumption)); decide; decide) | ((with_reducible refine sf_gJ ?_ ?_ ?_ ?_); (first | assumption | exact GS_o h0.1 (by decide) (by decide) | exact RRd_o h0 (by assumption) | exact RRd_o h0 (Or.inr (by assumption)) | exact OBq_o h0 (by assumption) | exact OBq_o h0 (Obt_q (by assumption)) | exact G_part h0.1 (by assumption) | exact Nmo_o (by assumption)); decide; decide) | ((with_reducible refine sf_gN ?_ ?_ ?_ ?_); (first | assumption | exact GS_o h0.1 (by decide) (by decide) | exact RRd_o h0 (by assumption) | exact RRd_o h0 (Or.inr (by assumption)) | exact OBq_o h0 (by assumption) | exact OBq_o h0 (Obt_q (by assumption)) | exact G_part h0.1 (by assumption) | exact Nmo_o (by assumption)); decide; decide) | ((with_reducible refine sf_gG h0 (by assumption) ?_ ?_ ?_ ?_ (by with_unfolding_all exact rfl) ?_); decide; decide; decide; decide) | ((with_reducible refine sf_o ?_ (fun l => ?_)); (first | assumption | exact GS_o h0.1 (by decide) (by decide) | exact RRd_o h0 (by assumption) | exact RRd_o h0 (Or.inr (by assumption)) | exact OBq_o h0 (by assumption) | exact OBq_o h0 (Obt_q (by assumption)) | exact G_part h0.1 (by assumption) | exact Nmo_o (by assumption))) | ((with_reducible refine sf_s ?_)) | ((with_reducible refine sf_sb (by assumption) ?_)) | ((with_reducible refine sf_r ?_ ?_); (first | exact any | assumption | exact ⟨false, rfl⟩ | exact ⟨true, rfl⟩); assumption) | ((with_reducible refine sf_z ?_ ?_ ?_); (first | exact ⟨false, rfl⟩ | exact ⟨true, rfl⟩ | assumption); (first | exact any | exact ⟨false, rfl⟩ | exact ⟨true, rfl⟩ | assumption); assumption))
theorem sf_ns_27 {k4 : Nat → Int32 → Int32 → px_H → Option (Int32 × px_H)} (h3 : S3 sk L own τ0 fs s xs ST rn ws) (hF : 65540 < F) (ht : t < s.2.2.1.length) (hq : Obt τ0 s t q) (hk : ∀ a1 τ, SI none sk L τ0 τ → Sf sk L (SI (some 8240) sk L τ0) Any (k4 1713 a1 (nI (t + 1)) (cH sk L τ))) : ∀ (d j f : Nat) (a1 : Int32) (τ : px_TT), j + d = 64 → d < f → SI none sk L τ0 τ → Sf sk L (SI (some 8240) sk L τ0) Any (f_Scribe_numberSymbols_27 F c k4 f 1713 a1 (nI t) (some q) (nI j) (cH sk L τ)) := by
  have h0 := h3.1.1.1
  have hT := S3_T h3
  intro d
  induction d with
  | zero =>
    intro j f a1 τ hj hf hI
    obtain ⟨f, rfl⟩ : ∃ y, f = y + 1 := ⟨f - 1, by omega⟩
    unfold f_Scribe_numberSymbols_27 f_Scribe_numberSymbols_114
    rw [nI_add]
    repeat' (first | (exact hk _ _ (by assumption)) | (exact absurd (syt_le (j := j) hq hI (by omega) (by omega)) (by assumption)) | exact absurd (show nI 0 = 0 from rfl) (by assumption) | exact absurd (show nI 1 = 0 by assumption) (by decide) | ((with_reducible refine sf_i (fun hc => ?_) (fun hc => ?_))) | ((with_reducible refine sf_gF h0 ?_ ?_ ?_ ?_ ?_); decide; decide; decide; decide) | ((with_reducible refine sf_gI ?_ ?_ ?_ ?_); (first | assumption | exact GS_o h0.1 (by decide) (by decide) | exact RRd_o h0 (by assumption) | exact RRd_o h0 (Or.inr (by assumption)) | exact OBq_o h0 (by assumption) | exact OBq_o h0 (Obt_q (by assumption)) | exact G_part h0.1 (by assumption) | exact Nmo_o (by assumption)); decide; decide) | ((with_reducible refine sf_gJ ?_ ?_ ?_ ?_); (first | assumption | exact GS_o h0.1 (by decide) (by decide) | exact RRd_o h0 (by assumption) | exact RRd_o h0 (Or.inr (by assumption)) | exact OBq_o h0 (by assumption) | exact OBq_o h0 (Obt_q (by assumption)) | exact G_part h0.1 (by assumption) | exact Nmo_o (by assumption)); decide; decide) | ((with_reducible refine sf_gN ?_ ?_ ?_ ?_); (first | assumption | exact GS_o h0.1 (by decide) (by decide) | exact RRd_o h0 (by assumption) | exact RRd_o h0 (Or.inr (by assumption)) | exact OBq_o h0 (by assumption) | exact OBq_o h0 (Obt_q (by assumption)) | exact G_part h0.1 (by assumption) | exact Nmo_o (by assumption)); decide; decide) | ((with_reducible refine sf_gG h0 (by assumption) ?_ ?_ ?_ ?_ (by with_unfolding_all exact rfl) ?_); decide; decide; decide; decide) | ((with_reducible refine sf_o ?_ (fun l => ?_)); (first | assumption | exact GS_o h0.1 (by decide) (by decide) | exact RRd_o h0 (by assumption) | exact RRd_o h0 (Or.inr (by assumption)) | exact OBq_o h0 (by assumption) | exact OBq_o h0 (Obt_q (by assumption)) | exact G_part h0.1 (by assumption) | exact Nmo_o (by assumption))) | ((with_reducible refine sf_s ?_)) | ((with_reducible refine sf_sb (by assumption) ?_)) | ((with_reducible refine sf_r ?_ ?_); (first | exact any | assumption | exact ⟨false, rfl⟩ | exact ⟨true, rfl⟩); assumption) | ((with_reducible refine sf_z ?_ ?_ ?_); (first | exact ⟨false, rfl⟩ | exact ⟨true, rfl⟩ | assumption); (first | exact any | exact ⟨false, rfl⟩ | exact ⟨true, rfl⟩ | assumption); assumption))
  | succ d ih =>
    intro j f a1 τ hj hf hI
    obtain ⟨f, rfl⟩ : ∃ y, f = y + 1 := ⟨f - 1, by omega⟩
    have hx : t * 64 + j < 4096 := by omega
    unfold f_Scribe_numberSymbols_27 f_Scribe_numberSymbols_114 f_Scribe_numberSymbols_61 f_Scribe_numberSymbols_88 f_Scribe_numberSymbols_89 f_Scribe_numberSymbols_105 f_Scribe_numberSymbols_106
    rw [show nI t * nI 64 = nI (t * 64) from (Int32.ofNat_mul t 64).symm, nI_add, nI_add, nI_add]
    repeat' (first | (exact hk _ _ (by assumption)) | ((with_reducible refine sw_sI h0 (by assumption) ?_ (fun τ hi => ?_)); exact hx) | (exact ih _ _ _ _ (by omega) (by omega) (by assumption)) | exact absurd (show nI 0 = 0 from rfl) (by assumption) | exact absurd (show nI 1 = 0 by assumption) (by decide) | ((with_reducible refine sf_i (fun hc => ?_) (fun hc => ?_))) | ((with_reducible refine sf_gF h0 ?_ ?_ ?_ ?_ ?_); decide; decide; decide; decide) | ((with_reducible refine sf_gI ?_ ?_ ?_ ?_); (first | assumption | exact GS_o h0.1 (by decide) (by decide) | exact RRd_o h0 (by assumption) | exact RRd_o h0 (Or.inr (by assumption)) | exact OBq_o h0 (by assumption) | exact OBq_o h0 (Obt_q (by assumption)) | exact G_part h0.1 (by assumption) | exact Nmo_o (by assumption)); decide; decide) | ((with_reducible refine sf_gJ ?_ ?_ ?_ ?_); (first | assumption | exact GS_o h0.1 (by decide) (by decide) | exact RRd_o h0 (by assumption) | exact RRd_o h0 (Or.inr (by assumption)) | exact OBq_o h0 (by assumption) | exact OBq_o h0 (Obt_q (by assumption)) | exact G_part h0.1 (by assumption) | exact Nmo_o (by assumption)); decide; decide) | ((with_reducible refine sf_gN ?_ ?_ ?_ ?_); (first | assumption | exact GS_o h0.1 (by decide) (by decide) | exact RRd_o h0 (by assumption) | exact RRd_o h0 (Or.inr (by assumption)) | exact OBq_o h0 (by assumption) | exact OBq_o h0 (Obt_q (by assumption)) | exact G_part h0.1 (by assumption) | exact Nmo_o (by assumption)); decide; decide) | ((with_reducible refine sf_gG h0 (by assumption) ?_ ?_ ?_ ?_ (by with_unfolding_all exact rfl) ?_); decide; decide; decide; decide) | ((with_reducible refine sf_o ?_ (fun l => ?_)); (first | assumption | exact GS_o h0.1 (by decide) (by decide) | exact RRd_o h0 (by assumption) | exact RRd_o h0 (Or.inr (by assumption)) | exact OBq_o h0 (by assumption) | exact OBq_o h0 (Obt_q (by assumption)) | exact G_part h0.1 (by assumption) | exact Nmo_o (by assumption))) | ((with_reducible refine sf_s ?_)) | ((with_reducible refine sf_sb (by assumption) ?_)) | ((with_reducible refine sf_r ?_ ?_); (first | exact any | assumption | exact ⟨false, rfl⟩ | exact ⟨true, rfl⟩); assumption) | ((with_reducible refine sf_z ?_ ?_ ?_); (first | exact ⟨false, rfl⟩ | exact ⟨true, rfl⟩ | assumption); (first | exact any | exact ⟨false, rfl⟩ | exact ⟨true, rfl⟩ | assumption); assumption) | ((with_reducible refine sx_name h3 (by assumption) ?_ ?_ (fun p hp => ?_)); assumption) | (dsimp only))
theorem sf_ns_4 (h3 : S3 sk L own τ0 fs s xs ST rn ws) (hF : 65540 < F) : ∀ (d t f : Nat) (a1 : Int32) (τ : px_TT), t + d = s.2.2.1.length → d < f → SI none sk L τ0 τ → Sf sk L (SI (some 8240) sk L τ0) Any (f_Scribe_numberSymbols_4 F c f 1713 a1 (nI t) (cH sk L τ)) := by
  have h0 := h3.1.1.1
  have hT := S3_T h3
  intro d
  induction d with
  | zero =>
    intro t f a1 τ hj hf hI
    obtain ⟨f, rfl⟩ : ∃ y, f = y + 1 := ⟨f - 1, by omega⟩
    unfold f_Scribe_numberSymbols_4 f_Scribe_numberSymbols_120
    repeat' (first | (exact absurd (tkn_le (j := t) h3 hI (by omega) (by omega)) (by assumption)) | ((with_reducible refine sw_pI (I1 := SI none sk L τ0) ?_ ?_ ?_ ?_ (fun τ hi => ?_)); exact GS_o h0.1 (by decide) (by decide); decide; decide; exact SI_tI (by assumption) (by omega)) | ((with_reducible refine sw_pI (I1 := SI (some 0) sk L τ0) ?_ ?_ ?_ ?_ (fun τ hi => ?_)); exact GS_o h0.1 (by decide) (by decide); decide; decide; exact SI_0 (by assumption)) | (exact sf_ns_132 h3 hF 4128 0 F _ rfl (by omega) (by assumption)) | exact absurd (show nI 0 = 0 from rfl) (by assumption) | exact absurd (show nI 1 = 0 by assumption) (by decide) | ((with_reducible refine sf_i (fun hc => ?_) (fun hc => ?_))) | ((with_reducible refine sf_gF h0 ?_ ?_ ?_ ?_ ?_); decide; decide; decide; decide) | ((with_reducible refine sf_gI ?_ ?_ ?_ ?_); (first | assumption | exact GS_o h0.1 (by decide) (by decide) | exact RRd_o h0 (by assumption) | exact RRd_o h0 (Or.inr (by assumption)) | exact OBq_o h0 (by assumption) | exact OBq_o h0 (Obt_q (by assumption)) | exact G_part h0.1 (by assumption) | exact Nmo_o (by assumption)); decide; decide) | ((with_reducible refine sf_gJ ?_ ?_ ?_ ?_); (first | assumption | exact GS_o h0.1 (by decide) (by decide) | exact RRd_o h0 (by assumption) | exact RRd_o h0 (Or.inr (by assumption)) | exact OBq_o h0 (by assumption) | exact OBq_o h0 (Obt_q (by assumption)) | exact G_part h0.1 (by assumption) | exact Nmo_o (by assumption)); decide; decide) | ((with_reducible refine sf_gN ?_ ?_ ?_ ?_); (first | assumption | exact GS_o h0.1 (by decide) (by decide) | exact RRd_o h0 (by assumption) | exact RRd_o h0 (Or.inr (by assumption)) | exact OBq_o h0 (by assumption) | exact OBq_o h0 (Obt_q (by assumption)) | exact G_part h0.1 (by assumption) | exact Nmo_o (by assumption)); decide; decide) | ((with_reducible refine sf_gG h0 (by assumption) ?_ ?_ ?_ ?_ (by with_unfolding_all exact rfl) ?_); decide; decide; decide; decide) | ((with_reducible refine sf_o ?_ (fun l => ?_)); (first | assumption | exact GS_o h0.1 (by decide) (by decide) | exact RRd_o h0 (by assumption) | exact RRd_o h0 (Or.inr (by assumption)) | exact OBq_o h0 (by assumption) | exact OBq_o h0 (Obt_q (by assumption)) | exact G_part h0.1 (by assumption) | exact Nmo_o (by assumption))) | ((with_reducible refine sf_s ?_)) | ((with_reducible refine sf_sb (by assumption) ?_)) | ((with_reducible refine sf_r ?_ ?_); (first | exact any | assumption | exact ⟨false, rfl⟩ | exact ⟨true, rfl⟩); assumption) | ((with_reducible refine sf_z ?_ ?_ ?_); (first | exact ⟨false, rfl⟩ | exact ⟨true, rfl⟩ | assumption); (first | exact any | exact ⟨false, rfl⟩ | exact ⟨true, rfl⟩ | assumption); assumption))
  | succ d ih =>
    intro t f a1 τ hj hf hI
    obtain ⟨f, rfl⟩ : ∃ y, f = y + 1 := ⟨f - 1, by omega⟩
    have ht : t < s.2.2.1.length := by omega
    unfold f_Scribe_numberSymbols_4 f_Scribe_numberSymbols_120
    repeat' (first | ((with_reducible refine sw_pI (I1 := SI none sk L τ0) ?_ ?_ ?_ ?_ (fun τ hi => ?_)); exact GS_o h0.1 (by decide) (by decide); decide; decide; exact SI_tI (by assumption) (by omega)) | ((with_reducible refine sw_pI (I1 := SI (some 0) sk L τ0) ?_ ?_ ?_ ?_ (fun τ hi => ?_)); exact GS_o h0.1 (by decide) (by decide); decide; decide; exact SI_0 (by assumption)) | (exact sf_ns_132 h3 hF 4128 0 F _ rfl (by omega) (by assumption)) | (exact sf_ns_27 h3 hF ht (by assumption) (fun a1 τ hτ => ih _ _ _ τ (by omega) (by omega) hτ) 64 0 F _ _ rfl (by omega) (by assumption)) | exact absurd (show nI 0 = 0 from rfl) (by assumption) | exact absurd (show nI 1 = 0 by assumption) (by decide) | ((with_reducible refine sf_i (fun hc => ?_) (fun hc => ?_))) | ((with_reducible refine sf_gF h0 ?_ ?_ ?_ ?_ ?_); decide; decide; decide; decide) | ((with_reducible refine sf_gI ?_ ?_ ?_ ?_); (first | assumption | exact GS_o h0.1 (by decide) (by decide) | exact RRd_o h0 (by assumption) | exact RRd_o h0 (Or.inr (by assumption)) | exact OBq_o h0 (by assumption) | exact OBq_o h0 (Obt_q (by assumption)) | exact G_part h0.1 (by assumption) | exact Nmo_o (by assumption)); decide; decide) | ((with_reducible refine sf_gJ ?_ ?_ ?_ ?_); (first | assumption | exact GS_o h0.1 (by decide) (by decide) | exact RRd_o h0 (by assumption) | exact RRd_o h0 (Or.inr (by assumption)) | exact OBq_o h0 (by assumption) | exact OBq_o h0 (Obt_q (by assumption)) | exact G_part h0.1 (by assumption) | exact Nmo_o (by assumption)); decide; decide) | ((with_reducible refine sf_gN ?_ ?_ ?_ ?_); (first | assumption | exact GS_o h0.1 (by decide) (by decide) | exact RRd_o h0 (by assumption) | exact RRd_o h0 (Or.inr (by assumption)) | exact OBq_o h0 (by assumption) | exact OBq_o h0 (Obt_q (by assumption)) | exact G_part h0.1 (by assumption) | exact Nmo_o (by assumption)); decide; decide) | ((with_reducible refine sf_gG h0 (by assumption) ?_ ?_ ?_ ?_ (by with_unfolding_all exact rfl) ?_); decide; decide; decide; decide) | ((with_reducible refine sf_o ?_ (fun l => ?_)); (first | assumption | exact GS_o h0.1 (by decide) (by decide) | exact RRd_o h0 (by assumption) | exact RRd_o h0 (Or.inr (by assumption)) | exact OBq_o h0 (by assumption) | exact OBq_o h0 (Obt_q (by assumption)) | exact G_part h0.1 (by assumption) | exact Nmo_o (by assumption))) | ((with_reducible refine sf_s ?_)) | ((with_reducible refine sf_sb (by assumption) ?_)) | ((with_reducible refine sf_r ?_ ?_); (first | exact any | assumption | exact ⟨false, rfl⟩ | exact ⟨true, rfl⟩); assumption) | ((with_reducible refine sf_z ?_ ?_ ?_); (first | exact ⟨false, rfl⟩ | exact ⟨true, rfl⟩ | assumption); (first | exact any | exact ⟨false, rfl⟩ | exact ⟨true, rfl⟩ | assumption); assumption) | ((with_reducible refine sx_obj h3 (by assumption) ?_ (fun q hq => ?_)); assumption))
theorem sf_nsyms (h3 : S3 sk L own τ0 fs s xs ST rn ws) (hF : 65540 < F) (hI : SI zb sk L τ0 τ) : Sf sk L (SI (some 8240) sk L τ0) Any (f_Scribe_numberSymbols F c 1713 (cH sk L τ)) := by
  have hT := S3_T h3
  exact sf_ns_4 h3 hF _ 0 F _ _ (Nat.zero_add _) (by omega) (SI_none hI)
end CMO
end
