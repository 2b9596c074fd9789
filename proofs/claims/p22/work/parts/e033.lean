section
/-! calls that leave the memory: copies of the class's safety (made by a program, mkfzr.py) -/
section CMWj
variable {wq : Nat} {F : Nat} {c : px_CT} {sk : Nat → Nat × Nat × Nat} {L : Nat} {zb : Option Nat} {τ0 τ : px_TT} {r q : Nat} {own : Nat → Nat × Nat} {fs : px_FS} {s : px_TK} {xs : px_NL} {ST rn : Nat → Bool} {ws : List (List Nat)} {t : Nat}
theorem jsf_fresh {x : Int32} (h3 : S3 sk L own τ0 fs s xs ST rn ws) (hF : 65540 < F) (ht : t < s.2.2.1.length) (hI : SJ wq zb sk L τ0 τ) : Sf sk L (SJ wq zb sk L τ0) Any (f_Scribe_freshSymbol F c 1713 (nI t) x (cH sk L τ)) := by
  have h0 := h3.1.1.1
  unfold f_Scribe_freshSymbol f_Scribe_freshSymbol_52 f_Scribe_freshSymbol_53
  repeat' (first | ((with_reducible refine sf_aIF h0 ?_ (by with_unfolding_all exact rfl) ?_ ?_ ?_ (fun m hm em => ?_)); decide; decide; decide; exact ix_of (by assumption) (by assumption)) | exact absurd (show nI 0 = 0 from rfl) (by assumption) | exact absurd (show nI 1 = 0 by assumption) (by decide) | ((with_reducible refine sf_i (fun hc => ?_) (fun hc => ?_))) | ((with_reducible refine sf_gF h0 ?_ ?_ ?_ ?_ ?_); decide; decide; decide; decide) | ((with_reducible refine sf_gI ?_ ?_ ?_ ?_); (first | assumption | exact GS_o h0.1 (by decide) (by decide) | exact RRj_o h0 (by assumption) | exact RRj_o h0 (Or.inr (by assumption)) | exact OBq_o h0 (by assumption) | exact OBq_o h0 (Obt_q (by assumption)) | exact G_part h0.1 (by assumption) | exact Nmo_o (by assumption)); decide; decide) | ((with_reducible refine sf_gJ ?_ ?_ ?_ ?_); (first | assumption | exact GS_o h0.1 (by decide) (by decide) | exact RRj_o h0 (by assumption) | exact RRj_o h0 (Or.inr (by assumption)) | exact OBq_o h0 (by assumption) | exact OBq_o h0 (Obt_q (by assumption)) | exact G_part h0.1 (by assumption) | exact Nmo_o (by assumption)); decide; decide) | ((with_reducible refine sf_gN ?_ ?_ ?_ ?_); (first | assumption | exact GS_o h0.1 (by decide) (by decide) | exact RRj_o h0 (by assumption) | exact RRj_o h0 (Or.inr (by assumption)) | exact OBq_o h0 (by assumption) | exact OBq_o h0 (Obt_q (by assumption)) | exact G_part h0.1 (by assumption) | exact Nmo_o (by assumption)); decide; decide) | ((with_reducible refine jsf_gG h0 (by assumption) ?_ ?_ ?_ ?_ (by with_unfolding_all exact rfl) ?_); decide; decide; decide; decide) | ((with_reducible refine sf_o ?_ (fun l => ?_)); (first | assumption | exact GS_o h0.1 (by decide) (by decide) | exact RRj_o h0 (by assumption) | exact RRj_o h0 (Or.inr (by assumption)) | exact OBq_o h0 (by assumption) | exact OBq_o h0 (Obt_q (by assumption)) | exact G_part h0.1 (by assumption) | exact Nmo_o (by assumption))) | ((with_reducible refine sf_s ?_)) | ((with_reducible refine sf_sb (by assumption) ?_)) | ((with_reducible refine sf_r ?_ ?_); (first | exact any | assumption | exact ⟨false, rfl⟩ | exact ⟨true, rfl⟩); assumption) | ((with_reducible refine sf_z ?_ ?_ ?_); (first | exact ⟨false, rfl⟩ | exact ⟨true, rfl⟩ | assumption); (first | exact any | exact ⟨false, rfl⟩ | exact ⟨true, rfl⟩ | assumption); assumption) | ((with_reducible refine jsx_name h3 (by assumption) ?_ ?_ (fun p hp => ?_)); assumption) | ((with_reducible refine sf_lF h0 ?_ (by with_unfolding_all exact rfl) ?_ ?_); decide; decide) | (dsimp only))
theorem jsf_mparts_12 (h3 : S3 sk L own τ0 fs s xs ST rn ws) (hF : 65540 < F) (hr : RWj wq r) (ht : t < s.2.2.1.length) (hq : Obt τ0 s t q) : ∀ (d j f : Nat) (τ : px_TT), j + d = 24 → d < f → SJ wq zb sk L τ0 τ → Sf sk L (SJ wq zb sk L τ0) Any (f_Scribe_mergeParts_12 F c f 1713 r (nI t) (some q) (nI j) (cH sk L τ)) := by
  have h1 := h3.1.1
  have h0 := h1.1
  intro d
  induction d with
  | zero =>
    intro j f τ hj hf hI
    obtain ⟨f, rfl⟩ : ∃ y, f = y + 1 := ⟨f - 1, by omega⟩
    unfold f_Scribe_mergeParts_12 f_Scribe_mergeParts_121
    repeat' (first | (exact absurd (jsec_le (j := j) hq hI (by omega) (by omega)) (by assumption)) | exact absurd (show nI 0 = 0 from rfl) (by assumption) | exact absurd (show nI 1 = 0 by assumption) (by decide) | ((with_reducible refine sf_i (fun hc => ?_) (fun hc => ?_))) | ((with_reducible refine sf_gF h0 ?_ ?_ ?_ ?_ ?_); decide; decide; decide; decide) | ((with_reducible refine sf_gI ?_ ?_ ?_ ?_); (first | assumption | exact GS_o h0.1 (by decide) (by decide) | exact RRj_o h0 (by assumption) | exact RRj_o h0 (Or.inr (by assumption)) | exact OBq_o h0 (by assumption) | exact OBq_o h0 (Obt_q (by assumption)) | exact G_part h0.1 (by assumption) | exact Nmo_o (by assumption)); decide; decide) | ((with_reducible refine sf_gJ ?_ ?_ ?_ ?_); (first | assumption | exact GS_o h0.1 (by decide) (by decide) | exact RRj_o h0 (by assumption) | exact RRj_o h0 (Or.inr (by assumption)) | exact OBq_o h0 (by assumption) | exact OBq_o h0 (Obt_q (by assumption)) | exact G_part h0.1 (by assumption) | exact Nmo_o (by assumption)); decide; decide) | ((with_reducible refine sf_gN ?_ ?_ ?_ ?_); (first | assumption | exact GS_o h0.1 (by decide) (by decide) | exact RRj_o h0 (by assumption) | exact RRj_o h0 (Or.inr (by assumption)) | exact OBq_o h0 (by assumption) | exact OBq_o h0 (Obt_q (by assumption)) | exact G_part h0.1 (by assumption) | exact Nmo_o (by assumption)); decide; decide) | ((with_reducible refine jsf_gG h0 (by assumption) ?_ ?_ ?_ ?_ (by with_unfolding_all exact rfl) ?_); decide; decide; decide; decide) | ((with_reducible refine sf_o ?_ (fun l => ?_)); (first | assumption | exact GS_o h0.1 (by decide) (by decide) | exact RRj_o h0 (by assumption) | exact RRj_o h0 (Or.inr (by assumption)) | exact OBq_o h0 (by assumption) | exact OBq_o h0 (Obt_q (by assumption)) | exact G_part h0.1 (by assumption) | exact Nmo_o (by assumption))) | ((with_reducible refine sf_s ?_)) | ((with_reducible refine sf_sb (by assumption) ?_)) | ((with_reducible refine sf_r ?_ ?_); (first | exact any | assumption | exact ⟨false, rfl⟩ | exact ⟨true, rfl⟩); assumption) | ((with_reducible refine sf_z ?_ ?_ ?_); (first | exact ⟨false, rfl⟩ | exact ⟨true, rfl⟩ | assumption); (first | exact any | exact ⟨false, rfl⟩ | exact ⟨true, rfl⟩ | assumption); assumption))
  | succ d ih =>
    intro j f τ hj hf hI
    obtain ⟨f, rfl⟩ : ∃ y, f = y + 1 := ⟨f - 1, by omega⟩
    unfold f_Scribe_mergeParts_12 f_Scribe_mergeParts_121 f_Scribe_mergeParts_115
    rw [nI_add]
    repeat' (first | (exact ih _ _ _ (by omega) (by omega) (by assumption)) | exact absurd (show nI 0 = 0 from rfl) (by assumption) | exact absurd (show nI 1 = 0 by assumption) (by decide) | ((with_reducible refine sf_i (fun hc => ?_) (fun hc => ?_))) | ((with_reducible refine sf_gF h0 ?_ ?_ ?_ ?_ ?_); decide; decide; decide; decide) | ((with_reducible refine sf_gI ?_ ?_ ?_ ?_); (first | assumption | exact GS_o h0.1 (by decide) (by decide) | exact RRj_o h0 (by assumption) | exact RRj_o h0 (Or.inr (by assumption)) | exact OBq_o h0 (by assumption) | exact OBq_o h0 (Obt_q (by assumption)) | exact G_part h0.1 (by assumption) | exact Nmo_o (by assumption)); decide; decide) | ((with_reducible refine sf_gJ ?_ ?_ ?_ ?_); (first | assumption | exact GS_o h0.1 (by decide) (by decide) | exact RRj_o h0 (by assumption) | exact RRj_o h0 (Or.inr (by assumption)) | exact OBq_o h0 (by assumption) | exact OBq_o h0 (Obt_q (by assumption)) | exact G_part h0.1 (by assumption) | exact Nmo_o (by assumption)); decide; decide) | ((with_reducible refine sf_gN ?_ ?_ ?_ ?_); (first | assumption | exact GS_o h0.1 (by decide) (by decide) | exact RRj_o h0 (by assumption) | exact RRj_o h0 (Or.inr (by assumption)) | exact OBq_o h0 (by assumption) | exact OBq_o h0 (Obt_q (by assumption)) | exact G_part h0.1 (by assumption) | exact Nmo_o (by assumption)); decide; decide) | ((with_reducible refine jsf_gG h0 (by assumption) ?_ ?_ ?_ ?_ (by with_unfolding_all exact rfl) ?_); decide; decide; decide; decide) | ((with_reducible refine sf_o ?_ (fun l => ?_)); (first | assumption | exact GS_o h0.1 (by decide) (by decide) | exact RRj_o h0 (by assumption) | exact RRj_o h0 (Or.inr (by assumption)) | exact OBq_o h0 (by assumption) | exact OBq_o h0 (Obt_q (by assumption)) | exact G_part h0.1 (by assumption) | exact Nmo_o (by assumption))) | ((with_reducible refine sf_s ?_)) | ((with_reducible refine sf_sb (by assumption) ?_)) | ((with_reducible refine sf_r ?_ ?_); (first | exact any | assumption | exact ⟨false, rfl⟩ | exact ⟨true, rfl⟩); assumption) | ((with_reducible refine sf_z ?_ ?_ ?_); (first | exact ⟨false, rfl⟩ | exact ⟨true, rfl⟩ | assumption); (first | exact any | exact ⟨false, rfl⟩ | exact ⟨true, rfl⟩ | assumption); assumption) | ((with_reducible refine jsx_part h3 (by assumption) ?_ ?_ (fun x hx => ?_)); assumption; omega) | ((with_reducible refine sx_of (jso_type h0 hF (by assumption) (by first | assumption | exact Obt_q (by assumption))) (fun v => ?_))) | ((with_reducible refine sx_of (jso_flags h0 hF (by assumption) (by first | assumption | exact Obt_q (by assumption))) (fun v => ?_))) | ((with_reducible refine sx_of (jso_align h0 hF (by assumption) (by first | assumption | exact Obt_q (by assumption))) (fun v => ?_))) | ((with_reducible refine sf_x (jsf_next h0 hF hr ?_) ?_); assumption; intro v τ hv hi) | ((with_reducible refine sf_x (jsf_copy ?_ ?_ ?_) ?_); assumption; (first | assumption | exact jCS_8 h1 (by assumption) | exact jCS_F (by assumption) | exact jCS_S (by assumption) (Or.inr (Or.inr ⟨rfl, rfl, rfl⟩))); (first | assumption | (unfold RWj; omega)); intro v τ hv hi) | ((with_reducible refine sf_x (jsf_putRow h0 hF (by assumption)) ?_); intro v τ hv hi) | ((with_reducible refine sf_x (jsf_endRow h0 hF (by assumption)) ?_); intro v τ hv hi))
theorem jsf_mparts (h3 : S3 sk L own τ0 fs s xs ST rn ws) (hF : 65540 < F) (hr : RWj wq r) (ht : t < s.2.2.1.length) (hI : SJ wq zb sk L τ0 τ) : Sf sk L (SJ wq zb sk L τ0) Any (f_Scribe_mergeParts F c 1713 r (nI t) (cH sk L τ)) := by
  have h0 := h3.1.1.1
  unfold f_Scribe_mergeParts
  repeat' (first | (exact jsf_mparts_12 h3 hF hr ht (by assumption) 24 0 F _ rfl (by omega) (by assumption)) | exact absurd (show nI 0 = 0 from rfl) (by assumption) | exact absurd (show nI 1 = 0 by assumption) (by decide) | ((with_reducible refine sf_i (fun hc => ?_) (fun hc => ?_))) | ((with_reducible refine sf_gF h0 ?_ ?_ ?_ ?_ ?_); decide; decide; decide; decide) | ((with_reducible refine sf_gI ?_ ?_ ?_ ?_); (first | assumption | exact GS_o h0.1 (by decide) (by decide) | exact RRj_o h0 (by assumption) | exact RRj_o h0 (Or.inr (by assumption)) | exact OBq_o h0 (by assumption) | exact OBq_o h0 (Obt_q (by assumption)) | exact G_part h0.1 (by assumption) | exact Nmo_o (by assumption)); decide; decide) | ((with_reducible refine sf_gJ ?_ ?_ ?_ ?_); (first | assumption | exact GS_o h0.1 (by decide) (by decide) | exact RRj_o h0 (by assumption) | exact RRj_o h0 (Or.inr (by assumption)) | exact OBq_o h0 (by assumption) | exact OBq_o h0 (Obt_q (by assumption)) | exact G_part h0.1 (by assumption) | exact Nmo_o (by assumption)); decide; decide) | ((with_reducible refine sf_gN ?_ ?_ ?_ ?_); (first | assumption | exact GS_o h0.1 (by decide) (by decide) | exact RRj_o h0 (by assumption) | exact RRj_o h0 (Or.inr (by assumption)) | exact OBq_o h0 (by assumption) | exact OBq_o h0 (Obt_q (by assumption)) | exact G_part h0.1 (by assumption) | exact Nmo_o (by assumption)); decide; decide) | ((with_reducible refine jsf_gG h0 (by assumption) ?_ ?_ ?_ ?_ (by with_unfolding_all exact rfl) ?_); decide; decide; decide; decide) | ((with_reducible refine sf_o ?_ (fun l => ?_)); (first | assumption | exact GS_o h0.1 (by decide) (by decide) | exact RRj_o h0 (by assumption) | exact RRj_o h0 (Or.inr (by assumption)) | exact OBq_o h0 (by assumption) | exact OBq_o h0 (Obt_q (by assumption)) | exact G_part h0.1 (by assumption) | exact Nmo_o (by assumption))) | ((with_reducible refine sf_s ?_)) | ((with_reducible refine sf_sb (by assumption) ?_)) | ((with_reducible refine sf_r ?_ ?_); (first | exact any | assumption | exact ⟨false, rfl⟩ | exact ⟨true, rfl⟩); assumption) | ((with_reducible refine sf_z ?_ ?_ ?_); (first | exact ⟨false, rfl⟩ | exact ⟨true, rfl⟩ | assumption); (first | exact any | exact ⟨false, rfl⟩ | exact ⟨true, rfl⟩ | assumption); assumption) | ((with_reducible refine jsx_obj h3 (by assumption) ?_ (fun q hq => ?_)); assumption))
theorem jsf_msites_98 {k12 : Nat → Nat → Int32 → Option Nat → Int32 → px_H → Option (Unit × px_H)} {i n : Nat} (h3 : S3 sk L own τ0 fs s xs ST rn ws) (hF : 65540 < F) (hr : RWj wq r) (ht : t < s.2.2.1.length) (hq : Obt τ0 s t q) (hn : n ≤ 65536) (hk : ∀ τ, SJ wq zb sk L τ0 τ → Sf sk L (SJ wq zb sk L τ0) Any (k12 1713 r (nI t) (some q) (nI (i + 1)) (cH sk L τ))) : ∀ (d j f : Nat) (a7 : Int32) (τ : px_TT), j + d = n → d < f → SJ wq zb sk L τ0 τ → Sf sk L (SJ wq zb sk L τ0) Any (f_Scribe_mergeSites_98 F c k12 f 1713 r (nI t) (some q) (nI i) (nI n) a7 (nI j) (cH sk L τ)) := by
  have h0 := h3.1.1.1
  intro d
  induction d with
  | zero =>
    intro j f a7 τ hj hf hI
    obtain ⟨f, rfl⟩ : ∃ y, f = y + 1 := ⟨f - 1, by omega⟩
    unfold f_Scribe_mergeSites_98 f_Scribe_mergeSites_182
    rw [nI_add, if_pos (nI_le (by omega) (by omega))]
    exact hk _ hI
  | succ d ih =>
    intro j f a7 τ hj hf hI
    obtain ⟨f, rfl⟩ : ∃ y, f = y + 1 := ⟨f - 1, by omega⟩
    unfold f_Scribe_mergeSites_98 f_Scribe_mergeSites_182
    rw [if_neg (nI_ge (by omega) (by omega)), nI_add]
    repeat' (first | ((with_reducible refine sf_x (jsf_fresh h3 hF ht ?_) ?_); assumption; intro v τ hv hi) | (exact ih _ _ _ _ (by omega) (by omega) (by assumption)) | exact absurd (show nI 0 = 0 from rfl) (by assumption) | exact absurd (show nI 1 = 0 by assumption) (by decide) | ((with_reducible refine sf_i (fun hc => ?_) (fun hc => ?_))) | ((with_reducible refine sf_gF h0 ?_ ?_ ?_ ?_ ?_); decide; decide; decide; decide) | ((with_reducible refine sf_gI ?_ ?_ ?_ ?_); (first | assumption | exact GS_o h0.1 (by decide) (by decide) | exact RRj_o h0 (by assumption) | exact RRj_o h0 (Or.inr (by assumption)) | exact OBq_o h0 (by assumption) | exact OBq_o h0 (Obt_q (by assumption)) | exact G_part h0.1 (by assumption) | exact Nmo_o (by assumption)); decide; decide) | ((with_reducible refine sf_gJ ?_ ?_ ?_ ?_); (first | assumption | exact GS_o h0.1 (by decide) (by decide) | exact RRj_o h0 (by assumption) | exact RRj_o h0 (Or.inr (by assumption)) | exact OBq_o h0 (by assumption) | exact OBq_o h0 (Obt_q (by assumption)) | exact G_part h0.1 (by assumption) | exact Nmo_o (by assumption)); decide; decide) | ((with_reducible refine sf_gN ?_ ?_ ?_ ?_); (first | assumption | exact GS_o h0.1 (by decide) (by decide) | exact RRj_o h0 (by assumption) | exact RRj_o h0 (Or.inr (by assumption)) | exact OBq_o h0 (by assumption) | exact OBq_o h0 (Obt_q (by assumption)) | exact G_part h0.1 (by assumption) | exact Nmo_o (by assumption)); decide; decide) | ((with_reducible refine jsf_gG h0 (by assumption) ?_ ?_ ?_ ?_ (by with_unfolding_all exact rfl) ?_); decide; decide; decide; decide) | ((with_reducible refine sf_o ?_ (fun l => ?_)); (first | assumption | exact GS_o h0.1 (by decide) (by decide) | exact RRj_o h0 (by assumption) | exact RRj_o h0 (Or.inr (by assumption)) | exact OBq_o h0 (by assumption) | exact OBq_o h0 (Obt_q (by assumption)) | exact G_part h0.1 (by assumption) | exact Nmo_o (by assumption))) | ((with_reducible refine sf_s ?_)) | ((with_reducible refine sf_sb (by assumption) ?_)) | ((with_reducible refine sf_r ?_ ?_); (first | exact any | assumption | exact ⟨false, rfl⟩ | exact ⟨true, rfl⟩); assumption) | ((with_reducible refine sf_z ?_ ?_ ?_); (first | exact ⟨false, rfl⟩ | exact ⟨true, rfl⟩ | assumption); (first | exact any | exact ⟨false, rfl⟩ | exact ⟨true, rfl⟩ | assumption); assumption) | ((with_reducible refine sx_of (jso_num h0 hF (by assumption) (by first | assumption | exact Obt_q (by assumption)) ?_) (fun v => ?_)); decide) | ((with_reducible refine sf_x (jsf_put hF ?_ ?_ ?_) ?_); assumption; (first | assumption | (unfold RWj; omega)); decide; intro v τ hv hi))
theorem jsf_msites_12 (h3 : S3 sk L own τ0 fs s xs ST rn ws) (hF : 65540 < F) (hr : RWj wq r) (ht : t < s.2.2.1.length) (hq : Obt τ0 s t q) : ∀ (d j f : Nat) (τ : px_TT), j + d = 24 → d < f → SJ wq zb sk L τ0 τ → Sf sk L (SJ wq zb sk L τ0) Any (f_Scribe_mergeSites_12 F c f 1713 r (nI t) (some q) (nI j) (cH sk L τ)) := by
  have h0 := h3.1.1.1
  intro d
  induction d with
  | zero =>
    intro j f τ hj hf hI
    obtain ⟨f, rfl⟩ : ∃ y, f = y + 1 := ⟨f - 1, by omega⟩
    unfold f_Scribe_mergeSites_12 f_Scribe_mergeSites_188
    repeat' (first | (exact absurd (jsec_le (j := j) hq hI (by omega) (by omega)) (by assumption)) | exact absurd (show nI 0 = 0 from rfl) (by assumption) | exact absurd (show nI 1 = 0 by assumption) (by decide) | ((with_reducible refine sf_i (fun hc => ?_) (fun hc => ?_))) | ((with_reducible refine sf_gF h0 ?_ ?_ ?_ ?_ ?_); decide; decide; decide; decide) | ((with_reducible refine sf_gI ?_ ?_ ?_ ?_); (first | assumption | exact GS_o h0.1 (by decide) (by decide) | exact RRj_o h0 (by assumption) | exact RRj_o h0 (Or.inr (by assumption)) | exact OBq_o h0 (by assumption) | exact OBq_o h0 (Obt_q (by assumption)) | exact G_part h0.1 (by assumption) | exact Nmo_o (by assumption)); decide; decide) | ((with_reducible refine sf_gJ ?_ ?_ ?_ ?_); (first | assumption | exact GS_o h0.1 (by decide) (by decide) | exact RRj_o h0 (by assumption) | exact RRj_o h0 (Or.inr (by assumption)) | exact OBq_o h0 (by assumption) | exact OBq_o h0 (Obt_q (by assumption)) | exact G_part h0.1 (by assumption) | exact Nmo_o (by assumption)); decide; decide) | ((with_reducible refine sf_gN ?_ ?_ ?_ ?_); (first | assumption | exact GS_o h0.1 (by decide) (by decide) | exact RRj_o h0 (by assumption) | exact RRj_o h0 (Or.inr (by assumption)) | exact OBq_o h0 (by assumption) | exact OBq_o h0 (Obt_q (by assumption)) | exact G_part h0.1 (by assumption) | exact Nmo_o (by assumption)); decide; decide) | ((with_reducible refine jsf_gG h0 (by assumption) ?_ ?_ ?_ ?_ (by with_unfolding_all exact rfl) ?_); decide; decide; decide; decide) | ((with_reducible refine sf_o ?_ (fun l => ?_)); (first | assumption | exact GS_o h0.1 (by decide) (by decide) | exact RRj_o h0 (by assumption) | exact RRj_o h0 (Or.inr (by assumption)) | exact OBq_o h0 (by assumption) | exact OBq_o h0 (Obt_q (by assumption)) | exact G_part h0.1 (by assumption) | exact Nmo_o (by assumption))) | ((with_reducible refine sf_s ?_)) | ((with_reducible refine sf_sb (by assumption) ?_)) | ((with_reducible refine sf_r ?_ ?_); (first | exact any | assumption | exact ⟨false, rfl⟩ | exact ⟨true, rfl⟩); assumption) | ((with_reducible refine sf_z ?_ ?_ ?_); (first | exact ⟨false, rfl⟩ | exact ⟨true, rfl⟩ | assumption); (first | exact any | exact ⟨false, rfl⟩ | exact ⟨true, rfl⟩ | assumption); assumption))
  | succ d ih =>
    intro j f τ hj hf hI
    obtain ⟨f, rfl⟩ : ∃ y, f = y + 1 := ⟨f - 1, by omega⟩
    unfold f_Scribe_mergeSites_12 f_Scribe_mergeSites_188 f_Scribe_mergeSites_182
    rw [nI_add]
    repeat' (first | (exact ih _ _ _ (by omega) (by omega) (by assumption)) | (exact jsf_msites_98 h3 hF hr ht hq (by assumption) (fun τ hτ => ih _ _ τ (by omega) (by omega) hτ) _ 0 F _ _ (Nat.zero_add _) (by omega) (by assumption)) | exact absurd (show nI 0 = 0 from rfl) (by assumption) | exact absurd (show nI 1 = 0 by assumption) (by decide) | ((with_reducible refine sf_i (fun hc => ?_) (fun hc => ?_))) | ((with_reducible refine sf_gF h0 ?_ ?_ ?_ ?_ ?_); decide; decide; decide; decide) | ((with_reducible refine sf_gI ?_ ?_ ?_ ?_); (first | assumption | exact GS_o h0.1 (by decide) (by decide) | exact RRj_o h0 (by assumption) | exact RRj_o h0 (Or.inr (by assumption)) | exact OBq_o h0 (by assumption) | exact OBq_o h0 (Obt_q (by assumption)) | exact G_part h0.1 (by assumption) | exact Nmo_o (by assumption)); decide; decide) | ((with_reducible refine sf_gJ ?_ ?_ ?_ ?_); (first | assumption | exact GS_o h0.1 (by decide) (by decide) | exact RRj_o h0 (by assumption) | exact RRj_o h0 (Or.inr (by assumption)) | exact OBq_o h0 (by assumption) | exact OBq_o h0 (Obt_q (by assumption)) | exact G_part h0.1 (by assumption) | exact Nmo_o (by assumption)); decide; decide) | ((with_reducible refine sf_gN ?_ ?_ ?_ ?_); (first | assumption | exact GS_o h0.1 (by decide) (by decide) | exact RRj_o h0 (by assumption) | exact RRj_o h0 (Or.inr (by assumption)) | exact OBq_o h0 (by assumption) | exact OBq_o h0 (Obt_q (by assumption)) | exact G_part h0.1 (by assumption) | exact Nmo_o (by assumption)); decide; decide) | ((with_reducible refine jsf_gG h0 (by assumption) ?_ ?_ ?_ ?_ (by with_unfolding_all exact rfl) ?_); decide; decide; decide; decide) | ((with_reducible refine sf_o ?_ (fun l => ?_)); (first | assumption | exact GS_o h0.1 (by decide) (by decide) | exact RRj_o h0 (by assumption) | exact RRj_o h0 (Or.inr (by assumption)) | exact OBq_o h0 (by assumption) | exact OBq_o h0 (Obt_q (by assumption)) | exact G_part h0.1 (by assumption) | exact Nmo_o (by assumption))) | ((with_reducible refine sf_s ?_)) | ((with_reducible refine sf_sb (by assumption) ?_)) | ((with_reducible refine sf_r ?_ ?_); (first | exact any | assumption | exact ⟨false, rfl⟩ | exact ⟨true, rfl⟩); assumption) | ((with_reducible refine sf_z ?_ ?_ ?_); (first | exact ⟨false, rfl⟩ | exact ⟨true, rfl⟩ | assumption); (first | exact any | exact ⟨false, rfl⟩ | exact ⟨true, rfl⟩ | assumption); assumption) | ((with_reducible refine jsx_stay h3 hF (by assumption) ?_ (by assumption) (by assumption) ?_ ?_ (fun x hx hi hs => ?_)); assumption; omega) | ((with_reducible refine jsx_sites h3 hF (by assumption) ?_ (by assumption) (by assumption) (by assumption) (fun n hn => ?_)); assumption) | ((with_reducible refine sx_of (jso_place h0 hF (by assumption) (by first | assumption | exact Obt_q (by assumption))) (fun v => ?_))) | ((with_reducible refine sf_x (jsf_next h0 hF hr ?_) ?_); assumption; intro v τ hv hi) | (dsimp only) | ((with_reducible refine sf_x (jsf_putRow h0 hF (by assumption)) ?_); intro v τ hv hi) | ((with_reducible refine sf_x (jsf_endRow h0 hF (by assumption)) ?_); intro v τ hv hi))
theorem jsf_msites (h3 : S3 sk L own τ0 fs s xs ST rn ws) (hF : 65540 < F) (hr : RWj wq r) (ht : t < s.2.2.1.length) (hI : SJ wq zb sk L τ0 τ) : Sf sk L (SJ wq zb sk L τ0) Any (f_Scribe_mergeSites F c 1713 r (nI t) (cH sk L τ)) := by
  have h0 := h3.1.1.1
  unfold f_Scribe_mergeSites
  repeat' (first | (exact jsf_msites_12 h3 hF hr ht (by assumption) 24 0 F _ rfl (by omega) (by assumption)) | exact absurd (show nI 0 = 0 from rfl) (by assumption) | exact absurd (show nI 1 = 0 by assumption) (by decide) | ((with_reducible refine sf_i (fun hc => ?_) (fun hc => ?_))) | ((with_reducible refine sf_gF h0 ?_ ?_ ?_ ?_ ?_); decide; decide; decide; decide) | ((with_reducible refine sf_gI ?_ ?_ ?_ ?_); (first | assumption | exact GS_o h0.1 (by decide) (by decide) | exact RRj_o h0 (by assumption) | exact RRj_o h0 (Or.inr (by assumption)) | exact OBq_o h0 (by assumption) | exact OBq_o h0 (Obt_q (by assumption)) | exact G_part h0.1 (by assumption) | exact Nmo_o (by assumption)); decide; decide) | ((with_reducible refine sf_gJ ?_ ?_ ?_ ?_); (first | assumption | exact GS_o h0.1 (by decide) (by decide) | exact RRj_o h0 (by assumption) | exact RRj_o h0 (Or.inr (by assumption)) | exact OBq_o h0 (by assumption) | exact OBq_o h0 (Obt_q (by assumption)) | exact G_part h0.1 (by assumption) | exact Nmo_o (by assumption)); decide; decide) | ((with_reducible refine sf_gN ?_ ?_ ?_ ?_); (first | assumption | exact GS_o h0.1 (by decide) (by decide) | exact RRj_o h0 (by assumption) | exact RRj_o h0 (Or.inr (by assumption)) | exact OBq_o h0 (by assumption) | exact OBq_o h0 (Obt_q (by assumption)) | exact G_part h0.1 (by assumption) | exact Nmo_o (by assumption)); decide; decide) | ((with_reducible refine jsf_gG h0 (by assumption) ?_ ?_ ?_ ?_ (by with_unfolding_all exact rfl) ?_); decide; decide; decide; decide) | ((with_reducible refine sf_o ?_ (fun l => ?_)); (first | assumption | exact GS_o h0.1 (by decide) (by decide) | exact RRj_o h0 (by assumption) | exact RRj_o h0 (Or.inr (by assumption)) | exact OBq_o h0 (by assumption) | exact OBq_o h0 (Obt_q (by assumption)) | exact G_part h0.1 (by assumption) | exact Nmo_o (by assumption))) | ((with_reducible refine sf_s ?_)) | ((with_reducible refine sf_sb (by assumption) ?_)) | ((with_reducible refine sf_r ?_ ?_); (first | exact any | assumption | exact ⟨false, rfl⟩ | exact ⟨true, rfl⟩); assumption) | ((with_reducible refine sf_z ?_ ?_ ?_); (first | exact ⟨false, rfl⟩ | exact ⟨true, rfl⟩ | assumption); (first | exact any | exact ⟨false, rfl⟩ | exact ⟨true, rfl⟩ | assumption); assumption) | ((with_reducible refine jsx_obj h3 (by assumption) ?_ (fun q hq => ?_)); assumption))
theorem jsf_mlocal {x : Int32} (h3 : S3 sk L own τ0 fs s xs ST rn ws) (hF : 65540 < F) (hr : RWj wq r) (ht : t < s.2.2.1.length) (hI : SJ wq zb sk L τ0 τ) : Sf sk L (SJ wq zb sk L τ0) Any (f_Scribe_mergeLocal F c 1713 r (nI t) x (cH sk L τ)) := by
  have h0 := h3.1.1.1
  unfold f_Scribe_mergeLocal f_Scribe_mergeLocal_81 f_Scribe_mergeLocal_98 f_Scribe_mergeLocal_100
  repeat' (first | exact absurd (show nI 0 = 0 from rfl) (by assumption) | exact absurd (show nI 1 = 0 by assumption) (by decide) | ((with_reducible refine sf_i (fun hc => ?_) (fun hc => ?_))) | ((with_reducible refine sf_gF h0 ?_ ?_ ?_ ?_ ?_); decide; decide; decide; decide) | ((with_reducible refine sf_gI ?_ ?_ ?_ ?_); (first | assumption | exact GS_o h0.1 (by decide) (by decide) | exact RRj_o h0 (by assumption) | exact RRj_o h0 (Or.inr (by assumption)) | exact OBq_o h0 (by assumption) | exact OBq_o h0 (Obt_q (by assumption)) | exact G_part h0.1 (by assumption) | exact Nmo_o (by assumption)); decide; decide) | ((with_reducible refine sf_gJ ?_ ?_ ?_ ?_); (first | assumption | exact GS_o h0.1 (by decide) (by decide) | exact RRj_o h0 (by assumption) | exact RRj_o h0 (Or.inr (by assumption)) | exact OBq_o h0 (by assumption) | exact OBq_o h0 (Obt_q (by assumption)) | exact G_part h0.1 (by assumption) | exact Nmo_o (by assumption)); decide; decide) | ((with_reducible refine sf_gN ?_ ?_ ?_ ?_); (first | assumption | exact GS_o h0.1 (by decide) (by decide) | exact RRj_o h0 (by assumption) | exact RRj_o h0 (Or.inr (by assumption)) | exact OBq_o h0 (by assumption) | exact OBq_o h0 (Obt_q (by assumption)) | exact G_part h0.1 (by assumption) | exact Nmo_o (by assumption)); decide; decide) | ((with_reducible refine jsf_gG h0 (by assumption) ?_ ?_ ?_ ?_ (by with_unfolding_all exact rfl) ?_); decide; decide; decide; decide) | ((with_reducible refine sf_o ?_ (fun l => ?_)); (first | assumption | exact GS_o h0.1 (by decide) (by decide) | exact RRj_o h0 (by assumption) | exact RRj_o h0 (Or.inr (by assumption)) | exact OBq_o h0 (by assumption) | exact OBq_o h0 (Obt_q (by assumption)) | exact G_part h0.1 (by assumption) | exact Nmo_o (by assumption))) | ((with_reducible refine sf_s ?_)) | ((with_reducible refine sf_sb (by assumption) ?_)) | ((with_reducible refine sf_r ?_ ?_); (first | exact any | assumption | exact ⟨false, rfl⟩ | exact ⟨true, rfl⟩); assumption) | ((with_reducible refine sf_z ?_ ?_ ?_); (first | exact ⟨false, rfl⟩ | exact ⟨true, rfl⟩ | assumption); (first | exact any | exact ⟨false, rfl⟩ | exact ⟨true, rfl⟩ | assumption); assumption) | ((with_reducible refine jsx_obj h3 (by assumption) ?_ (fun q hq => ?_)); assumption) | ((with_reducible refine sx_of (jso_where h0 hF (by assumption) (by first | assumption | exact Obt_q (by assumption))) (fun v => ?_))) | ((with_reducible refine sx_of (jso_value h0 hF (by assumption) (by first | assumption | exact Obt_q (by assumption))) (fun v => ?_))) | ((with_reducible refine jsx_partI h3 (by assumption) ?_ ?_ ?_ (fun x hx => ?_)); assumption; assumption; assumption) | ((with_reducible refine sx_of (jso_num h0 hF (by assumption) (by first | assumption | exact Obt_q (by assumption)) ?_) (fun v => ?_)); decide) | ((with_reducible refine sf_x (jsf_putSym h0 hF hr ?_) ?_); assumption; intro v τ hv hi))
theorem jsf_mname1 {x : Int32} {p : Nat} (h0 : S0 sk L τ0) (hF : 65540 < F) (hr : RWj wq r) (hp : Nmo sk L τ0 p) (hI : SJ wq zb sk L τ0 τ) : Sf sk L (SJ wq zb sk L τ0) Any (f_Scribe_mergeName F c 1713 r (some p) x (cH sk L τ)) := by
  have ho := hp.2.1
  have k1 : ∃ v, f_Name_isDefinedByInput F c p (cH sk L τ) = some (v, cH sk L τ) := by
    unfold f_Name_isDefinedByInput f_Name_isDefinedByInput_24 f_Name_isDefinedByInput_29
    rw [C5g5 ho, bs, bs, bs]
    split
    · exact ⟨_, xz_1 _⟩
    · split
      · exact ⟨_, xz_1 _⟩
      · split
        · exact ⟨_, xz_1 _⟩
        · exact ⟨_, xz_0 _⟩
  have k2 : ∃ v, f_Name_isMissedOrWished F c p (cH sk L τ) = some (v, cH sk L τ) := by
    unfold f_Name_isMissedOrWished f_Name_isMissedOrWished_14 f_Name_isMissedOrWished_19
    rw [C5g10 ho, bs, C5g11 ho, bs]
    split
    · split
      · exact ⟨_, xz_0 _⟩
      · exact ⟨_, xz_1 _⟩
    · exact ⟨_, xz_1 _⟩
  unfold f_Scribe_mergeName f_Scribe_mergeName_23 f_Scribe_mergeName_46 f_Scribe_mergeName_72
  by_cases h5 : fI τ p 5 = nI 1
  · obtain ⟨x, hx, e6⟩ := jNmo_6 hI hp h5
    have key : ∀ {α : Type} {V : α → Prop} {f : Option Nat → Option (α × px_H)}, Sf sk L (SJ wq zb sk L τ0) V (f (some (152 + x))) → Sf sk L (SJ wq zb sk L τ0) V ((xgN (cH sk L τ) 5 6 p).bind f) := fun g => by
      rw [C5n6 ho, bs, e6]; exact g
    repeat' (first | ((with_reducible refine key ?_)) | ((with_reducible refine sx_of k1 (fun v => ?_))) | ((with_reducible refine sx_of k2 (fun v => ?_))) | exact absurd (show nI 0 = 0 from rfl) (by assumption) | exact absurd (show nI 1 = 0 by assumption) (by decide) | ((with_reducible refine sf_i (fun hc => ?_) (fun hc => ?_))) | ((with_reducible refine sf_gF h0 ?_ ?_ ?_ ?_ ?_); decide; decide; decide; decide) | ((with_reducible refine sf_gI ?_ ?_ ?_ ?_); (first | assumption | exact GS_o h0.1 (by decide) (by decide) | exact RRj_o h0 (by assumption) | exact RRj_o h0 (Or.inr (by assumption)) | exact OBq_o h0 (by assumption) | exact OBq_o h0 (Obt_q (by assumption)) | exact G_part h0.1 (by assumption) | exact Nmo_o (by assumption)); decide; decide) | ((with_reducible refine sf_gJ ?_ ?_ ?_ ?_); (first | assumption | exact GS_o h0.1 (by decide) (by decide) | exact RRj_o h0 (by assumption) | exact RRj_o h0 (Or.inr (by assumption)) | exact OBq_o h0 (by assumption) | exact OBq_o h0 (Obt_q (by assumption)) | exact G_part h0.1 (by assumption) | exact Nmo_o (by assumption)); decide; decide) | ((with_reducible refine sf_gN ?_ ?_ ?_ ?_); (first | assumption | exact GS_o h0.1 (by decide) (by decide) | exact RRj_o h0 (by assumption) | exact RRj_o h0 (Or.inr (by assumption)) | exact OBq_o h0 (by assumption) | exact OBq_o h0 (Obt_q (by assumption)) | exact G_part h0.1 (by assumption) | exact Nmo_o (by assumption)); decide; decide) | ((with_reducible refine jsf_gG h0 (by assumption) ?_ ?_ ?_ ?_ (by with_unfolding_all exact rfl) ?_); decide; decide; decide; decide) | ((with_reducible refine sf_o ?_ (fun l => ?_)); (first | assumption | exact GS_o h0.1 (by decide) (by decide) | exact RRj_o h0 (by assumption) | exact RRj_o h0 (Or.inr (by assumption)) | exact OBq_o h0 (by assumption) | exact OBq_o h0 (Obt_q (by assumption)) | exact G_part h0.1 (by assumption) | exact Nmo_o (by assumption))) | ((with_reducible refine sf_s ?_)) | ((with_reducible refine sf_sb (by assumption) ?_)) | ((with_reducible refine sf_r ?_ ?_); (first | exact any | assumption | exact ⟨false, rfl⟩ | exact ⟨true, rfl⟩); assumption) | ((with_reducible refine sf_z ?_ ?_ ?_); (first | exact ⟨false, rfl⟩ | exact ⟨true, rfl⟩ | assumption); (first | exact any | exact ⟨false, rfl⟩ | exact ⟨true, rfl⟩ | assumption); assumption) | ((with_reducible refine sf_x (jsf_putSym h0 hF hr ?_) ?_); assumption; intro v τ hv hi) | (dsimp only))
  · repeat' (first | (exact absurd (by assumption) h5) | ((with_reducible refine sx_of k1 (fun v => ?_))) | ((with_reducible refine sx_of k2 (fun v => ?_))) | exact absurd (show nI 0 = 0 from rfl) (by assumption) | exact absurd (show nI 1 = 0 by assumption) (by decide) | ((with_reducible refine sf_i (fun hc => ?_) (fun hc => ?_))) | ((with_reducible refine sf_gF h0 ?_ ?_ ?_ ?_ ?_); decide; decide; decide; decide) | ((with_reducible refine sf_gI ?_ ?_ ?_ ?_); (first | assumption | exact GS_o h0.1 (by decide) (by decide) | exact RRj_o h0 (by assumption) | exact RRj_o h0 (Or.inr (by assumption)) | exact OBq_o h0 (by assumption) | exact OBq_o h0 (Obt_q (by assumption)) | exact G_part h0.1 (by assumption) | exact Nmo_o (by assumption)); decide; decide) | ((with_reducible refine sf_gJ ?_ ?_ ?_ ?_); (first | assumption | exact GS_o h0.1 (by decide) (by decide) | exact RRj_o h0 (by assumption) | exact RRj_o h0 (Or.inr (by assumption)) | exact OBq_o h0 (by assumption) | exact OBq_o h0 (Obt_q (by assumption)) | exact G_part h0.1 (by assumption) | exact Nmo_o (by assumption)); decide; decide) | ((with_reducible refine sf_gN ?_ ?_ ?_ ?_); (first | assumption | exact GS_o h0.1 (by decide) (by decide) | exact RRj_o h0 (by assumption) | exact RRj_o h0 (Or.inr (by assumption)) | exact OBq_o h0 (by assumption) | exact OBq_o h0 (Obt_q (by assumption)) | exact G_part h0.1 (by assumption) | exact Nmo_o (by assumption)); decide; decide) | ((with_reducible refine jsf_gG h0 (by assumption) ?_ ?_ ?_ ?_ (by with_unfolding_all exact rfl) ?_); decide; decide; decide; decide) | ((with_reducible refine sf_o ?_ (fun l => ?_)); (first | assumption | exact GS_o h0.1 (by decide) (by decide) | exact RRj_o h0 (by assumption) | exact RRj_o h0 (Or.inr (by assumption)) | exact OBq_o h0 (by assumption) | exact OBq_o h0 (Obt_q (by assumption)) | exact G_part h0.1 (by assumption) | exact Nmo_o (by assumption))) | ((with_reducible refine sf_s ?_)) | ((with_reducible refine sf_sb (by assumption) ?_)) | ((with_reducible refine sf_r ?_ ?_); (first | exact any | assumption | exact ⟨false, rfl⟩ | exact ⟨true, rfl⟩); assumption) | ((with_reducible refine sf_z ?_ ?_ ?_); (first | exact ⟨false, rfl⟩ | exact ⟨true, rfl⟩ | assumption); (first | exact any | exact ⟨false, rfl⟩ | exact ⟨true, rfl⟩ | assumption); assumption) | ((with_reducible refine sf_x (jsf_putSym h0 hF hr ?_) ?_); assumption; intro v τ hv hi))
theorem jsx_list {I : px_TT → Prop} {α : Type} {V : α → Prop} {f : Option Nat → Option (α × px_H)} {j N : Nat} (h0 : S0 sk L τ0) (hI : SJ wq (some N) sk L τ0 τ) (hN : N < 2 ^ 30) (hc : ¬ fI τ 1713 6 ≤ nI j) (hj : j < 64) (g0 : Sf sk L I V (f none)) (g1 : ∀ p, Nmo sk L τ0 p → eN τ 1717 j = some p → Sf sk L I V (f (some p))) : Sf sk L I V ((xaN (cH sk L τ) 5 1717 (nI j)).bind f) := by
  obtain ⟨m, hm, em, hl⟩ := hI.2.2.2.2 N rfl
  have hjm : j < m := Nat.lt_of_not_le (fun h => hc (by rw [em]; exact nI_le h (by omega)))
  rw [c_aN (GS_a h0.1 (a := 1717) (t := 5) (n := 64) (by decide) (by decide)) (Or.inr (Or.inl rfl)) (by decide) hj, bs]
  cases e : eN τ 1717 j with
  | none => exact g0
  | some p => exact g1 p (hl j p hjm hj e) e
theorem jsf_msym_134 {N : Nat} (h0 : S0 sk L τ0) (hF : 65540 < F) (hN : N < 2 ^ 30) (hr : RWj wq r) : ∀ (d j f : Nat) (a3 : Int32) (τ : px_TT), j + d = 64 → d < f → SJ wq (some N) sk L τ0 τ → Sf sk L (SJ wq (some N) sk L τ0) Any (f_Scribe_mergeSymbols_134 F c f 1713 r a3 (nI j) (cH sk L τ)) := by
  intro d
  induction d with
  | zero =>
    intro j f a3 τ hj hf hI
    obtain ⟨f, rfl⟩ : ∃ y, f = y + 1 := ⟨f - 1, by omega⟩
    obtain rfl : j = 64 := by omega
    unfold f_Scribe_mergeSymbols_134 f_Scribe_mergeSymbols_191
    repeat' (first | (exact absurd (show nI 64 ≤ nI 64 by decide) (by assumption)) | exact absurd (show nI 0 = 0 from rfl) (by assumption) | exact absurd (show nI 1 = 0 by assumption) (by decide) | ((with_reducible refine sf_i (fun hc => ?_) (fun hc => ?_))) | ((with_reducible refine sf_gF h0 ?_ ?_ ?_ ?_ ?_); decide; decide; decide; decide) | ((with_reducible refine sf_gI ?_ ?_ ?_ ?_); (first | assumption | exact GS_o h0.1 (by decide) (by decide) | exact RRj_o h0 (by assumption) | exact RRj_o h0 (Or.inr (by assumption)) | exact OBq_o h0 (by assumption) | exact OBq_o h0 (Obt_q (by assumption)) | exact G_part h0.1 (by assumption) | exact Nmo_o (by assumption)); decide; decide) | ((with_reducible refine sf_gJ ?_ ?_ ?_ ?_); (first | assumption | exact GS_o h0.1 (by decide) (by decide) | exact RRj_o h0 (by assumption) | exact RRj_o h0 (Or.inr (by assumption)) | exact OBq_o h0 (by assumption) | exact OBq_o h0 (Obt_q (by assumption)) | exact G_part h0.1 (by assumption) | exact Nmo_o (by assumption)); decide; decide) | ((with_reducible refine sf_gN ?_ ?_ ?_ ?_); (first | assumption | exact GS_o h0.1 (by decide) (by decide) | exact RRj_o h0 (by assumption) | exact RRj_o h0 (Or.inr (by assumption)) | exact OBq_o h0 (by assumption) | exact OBq_o h0 (Obt_q (by assumption)) | exact G_part h0.1 (by assumption) | exact Nmo_o (by assumption)); decide; decide) | ((with_reducible refine jsf_gG h0 (by assumption) ?_ ?_ ?_ ?_ (by with_unfolding_all exact rfl) ?_); decide; decide; decide; decide) | ((with_reducible refine sf_o ?_ (fun l => ?_)); (first | assumption | exact GS_o h0.1 (by decide) (by decide) | exact RRj_o h0 (by assumption) | exact RRj_o h0 (Or.inr (by assumption)) | exact OBq_o h0 (by assumption) | exact OBq_o h0 (Obt_q (by assumption)) | exact G_part h0.1 (by assumption) | exact Nmo_o (by assumption))) | ((with_reducible refine sf_s ?_)) | ((with_reducible refine sf_sb (by assumption) ?_)) | ((with_reducible refine sf_r ?_ ?_); (first | exact any | assumption | exact ⟨false, rfl⟩ | exact ⟨true, rfl⟩); assumption) | ((with_reducible refine sf_z ?_ ?_ ?_); (first | exact ⟨false, rfl⟩ | exact ⟨true, rfl⟩ | assumption); (first | exact any | exact ⟨false, rfl⟩ | exact ⟨true, rfl⟩ | assumption); assumption) | ((with_reducible refine sf_lF h0 ?_ (by with_unfolding_all exact rfl) ?_ ?_); decide; decide))
  | succ d ih =>
    intro j f a3 τ hj hf hI
    obtain ⟨f, rfl⟩ : ∃ y, f = y + 1 := ⟨f - 1, by omega⟩
    have hj64 : j < 64 := by omega
    unfold f_Scribe_mergeSymbols_134 f_Scribe_mergeSymbols_191 f_Scribe_mergeSymbols_185
    rw [nI_add]
    repeat' (first | ((with_reducible refine jsx_list h0 hI hN (by assumption) hj64 ?_ (fun p hp ep => ?_))) | (exact ih _ _ _ _ (by omega) (by omega) (by assumption)) | ((with_reducible refine sf_x (jsf_mname1 h0 hF hr ?_ ?_) ?_); assumption; assumption; intro v τ hv hi) | exact absurd (show nI 0 = 0 from rfl) (by assumption) | exact absurd (show nI 1 = 0 by assumption) (by decide) | ((with_reducible refine sf_i (fun hc => ?_) (fun hc => ?_))) | ((with_reducible refine sf_gF h0 ?_ ?_ ?_ ?_ ?_); decide; decide; decide; decide) | ((with_reducible refine sf_gI ?_ ?_ ?_ ?_); (first | assumption | exact GS_o h0.1 (by decide) (by decide) | exact RRj_o h0 (by assumption) | exact RRj_o h0 (Or.inr (by assumption)) | exact OBq_o h0 (by assumption) | exact OBq_o h0 (Obt_q (by assumption)) | exact G_part h0.1 (by assumption) | exact Nmo_o (by assumption)); decide; decide) | ((with_reducible refine sf_gJ ?_ ?_ ?_ ?_); (first | assumption | exact GS_o h0.1 (by decide) (by decide) | exact RRj_o h0 (by assumption) | exact RRj_o h0 (Or.inr (by assumption)) | exact OBq_o h0 (by assumption) | exact OBq_o h0 (Obt_q (by assumption)) | exact G_part h0.1 (by assumption) | exact Nmo_o (by assumption)); decide; decide) | ((with_reducible refine sf_gN ?_ ?_ ?_ ?_); (first | assumption | exact GS_o h0.1 (by decide) (by decide) | exact RRj_o h0 (by assumption) | exact RRj_o h0 (Or.inr (by assumption)) | exact OBq_o h0 (by assumption) | exact OBq_o h0 (Obt_q (by assumption)) | exact G_part h0.1 (by assumption) | exact Nmo_o (by assumption)); decide; decide) | ((with_reducible refine jsf_gG h0 (by assumption) ?_ ?_ ?_ ?_ (by with_unfolding_all exact rfl) ?_); decide; decide; decide; decide) | ((with_reducible refine sf_o ?_ (fun l => ?_)); (first | assumption | exact GS_o h0.1 (by decide) (by decide) | exact RRj_o h0 (by assumption) | exact RRj_o h0 (Or.inr (by assumption)) | exact OBq_o h0 (by assumption) | exact OBq_o h0 (Obt_q (by assumption)) | exact G_part h0.1 (by assumption) | exact Nmo_o (by assumption))) | ((with_reducible refine sf_s ?_)) | ((with_reducible refine sf_sb (by assumption) ?_)) | ((with_reducible refine sf_r ?_ ?_); (first | exact any | assumption | exact ⟨false, rfl⟩ | exact ⟨true, rfl⟩); assumption) | ((with_reducible refine sf_z ?_ ?_ ?_); (first | exact ⟨false, rfl⟩ | exact ⟨true, rfl⟩ | assumption); (first | exact any | exact ⟨false, rfl⟩ | exact ⟨true, rfl⟩ | assumption); assumption) | ((with_reducible refine sf_lF h0 ?_ (by with_unfolding_all exact rfl) ?_ ?_); decide; decide) | (dsimp only))
theorem jsf_msym_86 {k62 : Nat → Nat → Int32 → px_H → Option (Unit × px_H)} (h3 : S3 sk L own τ0 fs s xs ST rn ws) (hF : 65540 < F) (hr : RWj wq r) (ht : t < s.2.2.1.length) (hq : Obt τ0 s t q) (hk : ∀ τ, SJ wq zb sk L τ0 τ → Sf sk L (SJ wq zb sk L τ0) Any (k62 1713 r (nI (t + 1)) (cH sk L τ))) : ∀ (d j f : Nat) (τ : px_TT), j + d = 64 → d < f → SJ wq zb sk L τ0 τ → Sf sk L (SJ wq zb sk L τ0) Any (f_Scribe_mergeSymbols_86 F c k62 f 1713 r (nI t) (some q) (nI j) (cH sk L τ)) := by
  have h0 := h3.1.1.1
  intro d
  induction d with
  | zero =>
    intro j f τ hj hf hI
    obtain ⟨f, rfl⟩ : ∃ y, f = y + 1 := ⟨f - 1, by omega⟩
    unfold f_Scribe_mergeSymbols_86 f_Scribe_mergeSymbols_123
    rw [nI_add]
    repeat' (first | (exact hk _ (by assumption)) | (exact absurd (jsyt_le (j := j) hq hI (by omega) (by omega)) (by assumption)) | exact absurd (show nI 0 = 0 from rfl) (by assumption) | exact absurd (show nI 1 = 0 by assumption) (by decide) | ((with_reducible refine sf_i (fun hc => ?_) (fun hc => ?_))) | ((with_reducible refine sf_gF h0 ?_ ?_ ?_ ?_ ?_); decide; decide; decide; decide) | ((with_reducible refine sf_gI ?_ ?_ ?_ ?_); (first | assumption | exact GS_o h0.1 (by decide) (by decide) | exact RRj_o h0 (by assumption) | exact RRj_o h0 (Or.inr (by assumption)) | exact OBq_o h0 (by assumption) | exact OBq_o h0 (Obt_q (by assumption)) | exact G_part h0.1 (by assumption) | exact Nmo_o (by assumption)); decide; decide) | ((with_reducible refine sf_gJ ?_ ?_ ?_ ?_); (first | assumption | exact GS_o h0.1 (by decide) (by decide) | exact RRj_o h0 (by assumption) | exact RRj_o h0 (Or.inr (by assumption)) | exact OBq_o h0 (by assumption) | exact OBq_o h0 (Obt_q (by assumption)) | exact G_part h0.1 (by assumption) | exact Nmo_o (by assumption)); decide; decide) | ((with_reducible refine sf_gN ?_ ?_ ?_ ?_); (first | assumption | exact GS_o h0.1 (by decide) (by decide) | exact RRj_o h0 (by assumption) | exact RRj_o h0 (Or.inr (by assumption)) | exact OBq_o h0 (by assumption) | exact OBq_o h0 (Obt_q (by assumption)) | exact G_part h0.1 (by assumption) | exact Nmo_o (by assumption)); decide; decide) | ((with_reducible refine jsf_gG h0 (by assumption) ?_ ?_ ?_ ?_ (by with_unfolding_all exact rfl) ?_); decide; decide; decide; decide) | ((with_reducible refine sf_o ?_ (fun l => ?_)); (first | assumption | exact GS_o h0.1 (by decide) (by decide) | exact RRj_o h0 (by assumption) | exact RRj_o h0 (Or.inr (by assumption)) | exact OBq_o h0 (by assumption) | exact OBq_o h0 (Obt_q (by assumption)) | exact G_part h0.1 (by assumption) | exact Nmo_o (by assumption))) | ((with_reducible refine sf_s ?_)) | ((with_reducible refine sf_sb (by assumption) ?_)) | ((with_reducible refine sf_r ?_ ?_); (first | exact any | assumption | exact ⟨false, rfl⟩ | exact ⟨true, rfl⟩); assumption) | ((with_reducible refine sf_z ?_ ?_ ?_); (first | exact ⟨false, rfl⟩ | exact ⟨true, rfl⟩ | assumption); (first | exact any | exact ⟨false, rfl⟩ | exact ⟨true, rfl⟩ | assumption); assumption))
  | succ d ih =>
    intro j f τ hj hf hI
    obtain ⟨f, rfl⟩ : ∃ y, f = y + 1 := ⟨f - 1, by omega⟩
    unfold f_Scribe_mergeSymbols_86 f_Scribe_mergeSymbols_123 f_Scribe_mergeSymbols_117
    rw [nI_add, nI_add]
    repeat' (first | (exact hk _ (by assumption)) | (exact ih _ _ _ (by omega) (by omega) (by assumption)) | ((with_reducible refine sf_x (jsf_mlocal h3 hF hr ht ?_) ?_); assumption; intro v τ hv hi) | exact absurd (show nI 0 = 0 from rfl) (by assumption) | exact absurd (show nI 1 = 0 by assumption) (by decide) | ((with_reducible refine sf_i (fun hc => ?_) (fun hc => ?_))) | ((with_reducible refine sf_gF h0 ?_ ?_ ?_ ?_ ?_); decide; decide; decide; decide) | ((with_reducible refine sf_gI ?_ ?_ ?_ ?_); (first | assumption | exact GS_o h0.1 (by decide) (by decide) | exact RRj_o h0 (by assumption) | exact RRj_o h0 (Or.inr (by assumption)) | exact OBq_o h0 (by assumption) | exact OBq_o h0 (Obt_q (by assumption)) | exact G_part h0.1 (by assumption) | exact Nmo_o (by assumption)); decide; decide) | ((with_reducible refine sf_gJ ?_ ?_ ?_ ?_); (first | assumption | exact GS_o h0.1 (by decide) (by decide) | exact RRj_o h0 (by assumption) | exact RRj_o h0 (Or.inr (by assumption)) | exact OBq_o h0 (by assumption) | exact OBq_o h0 (Obt_q (by assumption)) | exact G_part h0.1 (by assumption) | exact Nmo_o (by assumption)); decide; decide) | ((with_reducible refine sf_gN ?_ ?_ ?_ ?_); (first | assumption | exact GS_o h0.1 (by decide) (by decide) | exact RRj_o h0 (by assumption) | exact RRj_o h0 (Or.inr (by assumption)) | exact OBq_o h0 (by assumption) | exact OBq_o h0 (Obt_q (by assumption)) | exact G_part h0.1 (by assumption) | exact Nmo_o (by assumption)); decide; decide) | ((with_reducible refine jsf_gG h0 (by assumption) ?_ ?_ ?_ ?_ (by with_unfolding_all exact rfl) ?_); decide; decide; decide; decide) | ((with_reducible refine sf_o ?_ (fun l => ?_)); (first | assumption | exact GS_o h0.1 (by decide) (by decide) | exact RRj_o h0 (by assumption) | exact RRj_o h0 (Or.inr (by assumption)) | exact OBq_o h0 (by assumption) | exact OBq_o h0 (Obt_q (by assumption)) | exact G_part h0.1 (by assumption) | exact Nmo_o (by assumption))) | ((with_reducible refine sf_s ?_)) | ((with_reducible refine sf_sb (by assumption) ?_)) | ((with_reducible refine sf_r ?_ ?_); (first | exact any | assumption | exact ⟨false, rfl⟩ | exact ⟨true, rfl⟩); assumption) | ((with_reducible refine sf_z ?_ ?_ ?_); (first | exact ⟨false, rfl⟩ | exact ⟨true, rfl⟩ | assumption); (first | exact any | exact ⟨false, rfl⟩ | exact ⟨true, rfl⟩ | assumption); assumption) | ((with_reducible refine jsx_name h3 (by assumption) ?_ ?_ (fun p hp => ?_)); assumption) | (dsimp only))
theorem jsf_msym_62 {N : Nat} (h3 : S3 sk L own τ0 fs s xs ST rn ws) (hF : 65540 < F) (hN : N < 2 ^ 30) (hr : RWj wq r) : ∀ (d t f : Nat) (τ : px_TT), t + d = s.2.2.1.length → d < f → SJ wq (some N) sk L τ0 τ → Sf sk L (SJ wq (some N) sk L τ0) Any (f_Scribe_mergeSymbols_62 F c f 1713 r (nI t) (cH sk L τ)) := by
  have h0 := h3.1.1.1
  have hT := S3_T h3
  intro d
  induction d with
  | zero =>
    intro t f τ hj hf hI
    obtain ⟨f, rfl⟩ : ∃ y, f = y + 1 := ⟨f - 1, by omega⟩
    unfold f_Scribe_mergeSymbols_62 f_Scribe_mergeSymbols_129
    repeat' (first | (exact jsf_msym_134 h0 hF hN hr 64 0 F _ _ rfl (by omega) hI) | (exact absurd (jtkn_le (j := t) h3 hI (by omega) (by omega)) (by assumption)) | exact absurd (show nI 0 = 0 from rfl) (by assumption) | exact absurd (show nI 1 = 0 by assumption) (by decide) | ((with_reducible refine sf_i (fun hc => ?_) (fun hc => ?_))) | ((with_reducible refine sf_gF h0 ?_ ?_ ?_ ?_ ?_); decide; decide; decide; decide) | ((with_reducible refine sf_gI ?_ ?_ ?_ ?_); (first | assumption | exact GS_o h0.1 (by decide) (by decide) | exact RRj_o h0 (by assumption) | exact RRj_o h0 (Or.inr (by assumption)) | exact OBq_o h0 (by assumption) | exact OBq_o h0 (Obt_q (by assumption)) | exact G_part h0.1 (by assumption) | exact Nmo_o (by assumption)); decide; decide) | ((with_reducible refine sf_gJ ?_ ?_ ?_ ?_); (first | assumption | exact GS_o h0.1 (by decide) (by decide) | exact RRj_o h0 (by assumption) | exact RRj_o h0 (Or.inr (by assumption)) | exact OBq_o h0 (by assumption) | exact OBq_o h0 (Obt_q (by assumption)) | exact G_part h0.1 (by assumption) | exact Nmo_o (by assumption)); decide; decide) | ((with_reducible refine sf_gN ?_ ?_ ?_ ?_); (first | assumption | exact GS_o h0.1 (by decide) (by decide) | exact RRj_o h0 (by assumption) | exact RRj_o h0 (Or.inr (by assumption)) | exact OBq_o h0 (by assumption) | exact OBq_o h0 (Obt_q (by assumption)) | exact G_part h0.1 (by assumption) | exact Nmo_o (by assumption)); decide; decide) | ((with_reducible refine jsf_gG h0 (by assumption) ?_ ?_ ?_ ?_ (by with_unfolding_all exact rfl) ?_); decide; decide; decide; decide) | ((with_reducible refine sf_o ?_ (fun l => ?_)); (first | assumption | exact GS_o h0.1 (by decide) (by decide) | exact RRj_o h0 (by assumption) | exact RRj_o h0 (Or.inr (by assumption)) | exact OBq_o h0 (by assumption) | exact OBq_o h0 (Obt_q (by assumption)) | exact G_part h0.1 (by assumption) | exact Nmo_o (by assumption))) | ((with_reducible refine sf_s ?_)) | ((with_reducible refine sf_sb (by assumption) ?_)) | ((with_reducible refine sf_r ?_ ?_); (first | exact any | assumption | exact ⟨false, rfl⟩ | exact ⟨true, rfl⟩); assumption) | ((with_reducible refine sf_z ?_ ?_ ?_); (first | exact ⟨false, rfl⟩ | exact ⟨true, rfl⟩ | assumption); (first | exact any | exact ⟨false, rfl⟩ | exact ⟨true, rfl⟩ | assumption); assumption))
  | succ d ih =>
    intro t f τ hj hf hI
    obtain ⟨f, rfl⟩ : ∃ y, f = y + 1 := ⟨f - 1, by omega⟩
    have ht : t < s.2.2.1.length := by omega
    unfold f_Scribe_mergeSymbols_62 f_Scribe_mergeSymbols_129
    repeat' (first | (exact jsf_msym_134 h0 hF hN hr 64 0 F _ _ rfl (by omega) hI) | (exact jsf_msym_86 h3 hF hr ht (by assumption) (fun τ hτ => ih _ _ τ (by omega) (by omega) hτ) 63 1 F _ rfl (by omega) (by assumption)) | exact absurd (show nI 0 = 0 from rfl) (by assumption) | exact absurd (show nI 1 = 0 by assumption) (by decide) | ((with_reducible refine sf_i (fun hc => ?_) (fun hc => ?_))) | ((with_reducible refine sf_gF h0 ?_ ?_ ?_ ?_ ?_); decide; decide; decide; decide) | ((with_reducible refine sf_gI ?_ ?_ ?_ ?_); (first | assumption | exact GS_o h0.1 (by decide) (by decide) | exact RRj_o h0 (by assumption) | exact RRj_o h0 (Or.inr (by assumption)) | exact OBq_o h0 (by assumption) | exact OBq_o h0 (Obt_q (by assumption)) | exact G_part h0.1 (by assumption) | exact Nmo_o (by assumption)); decide; decide) | ((with_reducible refine sf_gJ ?_ ?_ ?_ ?_); (first | assumption | exact GS_o h0.1 (by decide) (by decide) | exact RRj_o h0 (by assumption) | exact RRj_o h0 (Or.inr (by assumption)) | exact OBq_o h0 (by assumption) | exact OBq_o h0 (Obt_q (by assumption)) | exact G_part h0.1 (by assumption) | exact Nmo_o (by assumption)); decide; decide) | ((with_reducible refine sf_gN ?_ ?_ ?_ ?_); (first | assumption | exact GS_o h0.1 (by decide) (by decide) | exact RRj_o h0 (by assumption) | exact RRj_o h0 (Or.inr (by assumption)) | exact OBq_o h0 (by assumption) | exact OBq_o h0 (Obt_q (by assumption)) | exact G_part h0.1 (by assumption) | exact Nmo_o (by assumption)); decide; decide) | ((with_reducible refine jsf_gG h0 (by assumption) ?_ ?_ ?_ ?_ (by with_unfolding_all exact rfl) ?_); decide; decide; decide; decide) | ((with_reducible refine sf_o ?_ (fun l => ?_)); (first | assumption | exact GS_o h0.1 (by decide) (by decide) | exact RRj_o h0 (by assumption) | exact RRj_o h0 (Or.inr (by assumption)) | exact OBq_o h0 (by assumption) | exact OBq_o h0 (Obt_q (by assumption)) | exact G_part h0.1 (by assumption) | exact Nmo_o (by assumption))) | ((with_reducible refine sf_s ?_)) | ((with_reducible refine sf_sb (by assumption) ?_)) | ((with_reducible refine sf_r ?_ ?_); (first | exact any | assumption | exact ⟨false, rfl⟩ | exact ⟨true, rfl⟩); assumption) | ((with_reducible refine sf_z ?_ ?_ ?_); (first | exact ⟨false, rfl⟩ | exact ⟨true, rfl⟩ | assumption); (first | exact any | exact ⟨false, rfl⟩ | exact ⟨true, rfl⟩ | assumption); assumption) | ((with_reducible refine jsx_obj h3 (by assumption) ?_ (fun q hq => ?_)); assumption))
theorem jsf_msyms {N : Nat} (h3 : S3 sk L own τ0 fs s xs ST rn ws) (hF : 65540 < F) (hN : N < 2 ^ 30) (hr : RWj wq r) (hI : SJ wq (some N) sk L τ0 τ) : Sf sk L (SJ wq (some N) sk L τ0) Any (f_Scribe_mergeSymbols F c 1713 r (cH sk L τ)) := by
  have h0 := h3.1.1.1
  have hT := S3_T h3
  unfold f_Scribe_mergeSymbols
  repeat' (first | (exact jsf_msym_62 h3 hF hN hr _ 0 F _ (Nat.zero_add _) (by omega) (by assumption)) | exact absurd (show nI 0 = 0 from rfl) (by assumption) | exact absurd (show nI 1 = 0 by assumption) (by decide) | ((with_reducible refine sf_i (fun hc => ?_) (fun hc => ?_))) | ((with_reducible refine sf_gF h0 ?_ ?_ ?_ ?_ ?_); decide; decide; decide; decide) | ((with_reducible refine sf_gI ?_ ?_ ?_ ?_); (first | assumption | exact GS_o h0.1 (by decide) (by decide) | exact RRj_o h0 (by assumption) | exact RRj_o h0 (Or.inr (by assumption)) | exact OBq_o h0 (by assumption) | exact OBq_o h0 (Obt_q (by assumption)) | exact G_part h0.1 (by assumption) | exact Nmo_o (by assumption)); decide; decide) | ((with_reducible refine sf_gJ ?_ ?_ ?_ ?_); (first | assumption | exact GS_o h0.1 (by decide) (by decide) | exact RRj_o h0 (by assumption) | exact RRj_o h0 (Or.inr (by assumption)) | exact OBq_o h0 (by assumption) | exact OBq_o h0 (Obt_q (by assumption)) | exact G_part h0.1 (by assumption) | exact Nmo_o (by assumption)); decide; decide) | ((with_reducible refine sf_gN ?_ ?_ ?_ ?_); (first | assumption | exact GS_o h0.1 (by decide) (by decide) | exact RRj_o h0 (by assumption) | exact RRj_o h0 (Or.inr (by assumption)) | exact OBq_o h0 (by assumption) | exact OBq_o h0 (Obt_q (by assumption)) | exact G_part h0.1 (by assumption) | exact Nmo_o (by assumption)); decide; decide) | ((with_reducible refine jsf_gG h0 (by assumption) ?_ ?_ ?_ ?_ (by with_unfolding_all exact rfl) ?_); decide; decide; decide; decide) | ((with_reducible refine sf_o ?_ (fun l => ?_)); (first | assumption | exact GS_o h0.1 (by decide) (by decide) | exact RRj_o h0 (by assumption) | exact RRj_o h0 (Or.inr (by assumption)) | exact OBq_o h0 (by assumption) | exact OBq_o h0 (Obt_q (by assumption)) | exact G_part h0.1 (by assumption) | exact Nmo_o (by assumption))) | ((with_reducible refine sf_s ?_)) | ((with_reducible refine sf_sb (by assumption) ?_)) | ((with_reducible refine sf_r ?_ ?_); (first | exact any | assumption | exact ⟨false, rfl⟩ | exact ⟨true, rfl⟩); assumption) | ((with_reducible refine sf_z ?_ ?_ ?_); (first | exact ⟨false, rfl⟩ | exact ⟨true, rfl⟩ | assumption); (first | exact any | exact ⟨false, rfl⟩ | exact ⟨true, rfl⟩ | assumption); assumption) | ((with_reducible refine sf_x (jsf_next h0 hF hr ?_) ?_); assumption; intro v τ hv hi) | ((with_reducible refine sf_x (jsf_fill hF ?_ ?_ ?_) ?_); assumption; (first | assumption | (unfold RWj; omega)); (first | assumption | exact jfill_sz (by assumption) (by assumption) (by decide) | exact jfill_sz (by assumption) (by unfold RWj; omega) (by decide) | exact ⟨_, by decide, rfl⟩); intro v τ hv hi) | ((with_reducible refine sf_x (jsf_putRow h0 hF (by assumption)) ?_); intro v τ hv hi) | ((with_reducible refine sf_x (jsf_endRow h0 hF (by assumption)) ?_); intro v τ hv hi))
theorem jsf_mnam_85 {N : Nat} (h0 : S0 sk L τ0) (hF : 65540 < F) (hN : N < 2 ^ 30) (hr : RWj wq r) : ∀ (d j f : Nat) (τ : px_TT), j + d = 64 → d < f → SJ wq (some N) sk L τ0 τ → Sf sk L (SJ wq (some N) sk L τ0) Any (f_Scribe_mergeNames_85 F c f 1713 r (nI j) (cH sk L τ)) := by
  intro d
  induction d with
  | zero =>
    intro j f τ hj hf hI
    obtain ⟨f, rfl⟩ : ∃ y, f = y + 1 := ⟨f - 1, by omega⟩
    obtain rfl : j = 64 := by omega
    unfold f_Scribe_mergeNames_85 f_Scribe_mergeNames_133
    repeat' (first | (exact absurd (show nI 64 ≤ nI 64 by decide) (by assumption)) | exact absurd (show nI 0 = 0 from rfl) (by assumption) | exact absurd (show nI 1 = 0 by assumption) (by decide) | ((with_reducible refine sf_i (fun hc => ?_) (fun hc => ?_))) | ((with_reducible refine sf_gF h0 ?_ ?_ ?_ ?_ ?_); decide; decide; decide; decide) | ((with_reducible refine sf_gI ?_ ?_ ?_ ?_); (first | assumption | exact GS_o h0.1 (by decide) (by decide) | exact RRj_o h0 (by assumption) | exact RRj_o h0 (Or.inr (by assumption)) | exact OBq_o h0 (by assumption) | exact OBq_o h0 (Obt_q (by assumption)) | exact G_part h0.1 (by assumption) | exact Nmo_o (by assumption)); decide; decide) | ((with_reducible refine sf_gJ ?_ ?_ ?_ ?_); (first | assumption | exact GS_o h0.1 (by decide) (by decide) | exact RRj_o h0 (by assumption) | exact RRj_o h0 (Or.inr (by assumption)) | exact OBq_o h0 (by assumption) | exact OBq_o h0 (Obt_q (by assumption)) | exact G_part h0.1 (by assumption) | exact Nmo_o (by assumption)); decide; decide) | ((with_reducible refine sf_gN ?_ ?_ ?_ ?_); (first | assumption | exact GS_o h0.1 (by decide) (by decide) | exact RRj_o h0 (by assumption) | exact RRj_o h0 (Or.inr (by assumption)) | exact OBq_o h0 (by assumption) | exact OBq_o h0 (Obt_q (by assumption)) | exact G_part h0.1 (by assumption) | exact Nmo_o (by assumption)); decide; decide) | ((with_reducible refine jsf_gG h0 (by assumption) ?_ ?_ ?_ ?_ (by with_unfolding_all exact rfl) ?_); decide; decide; decide; decide) | ((with_reducible refine sf_o ?_ (fun l => ?_)); (first | assumption | exact GS_o h0.1 (by decide) (by decide) | exact RRj_o h0 (by assumption) | exact RRj_o h0 (Or.inr (by assumption)) | exact OBq_o h0 (by assumption) | exact OBq_o h0 (Obt_q (by assumption)) | exact G_part h0.1 (by assumption) | exact Nmo_o (by assumption))) | ((with_reducible refine sf_s ?_)) | ((with_reducible refine sf_sb (by assumption) ?_)) | ((with_reducible refine sf_r ?_ ?_); (first | exact any | assumption | exact ⟨false, rfl⟩ | exact ⟨true, rfl⟩); assumption) | ((with_reducible refine sf_z ?_ ?_ ?_); (first | exact ⟨false, rfl⟩ | exact ⟨true, rfl⟩ | assumption); (first | exact any | exact ⟨false, rfl⟩ | exact ⟨true, rfl⟩ | assumption); assumption) | ((with_reducible refine sf_lF h0 ?_ (by with_unfolding_all exact rfl) ?_ ?_); decide; decide))
  | succ d ih =>
    intro j f τ hj hf hI
    obtain ⟨f, rfl⟩ : ∃ y, f = y + 1 := ⟨f - 1, by omega⟩
    have hj64 : j < 64 := by omega
    unfold f_Scribe_mergeNames_85 f_Scribe_mergeNames_133 f_Scribe_mergeNames_127
    rw [nI_add]
    repeat' (first | ((with_reducible refine sx_list2 h0 (by assumption) hj64 ?_)) | ((with_reducible refine jsx_list h0 hI hN (by assumption) hj64 ?_ (fun p hp ep => ?_))) | (exact ih _ _ _ (by omega) (by omega) (by assumption)) | exact absurd (show nI 0 = 0 from rfl) (by assumption) | exact absurd (show nI 1 = 0 by assumption) (by decide) | ((with_reducible refine sf_i (fun hc => ?_) (fun hc => ?_))) | ((with_reducible refine sf_gF h0 ?_ ?_ ?_ ?_ ?_); decide; decide; decide; decide) | ((with_reducible refine sf_gI ?_ ?_ ?_ ?_); (first | assumption | exact GS_o h0.1 (by decide) (by decide) | exact RRj_o h0 (by assumption) | exact RRj_o h0 (Or.inr (by assumption)) | exact OBq_o h0 (by assumption) | exact OBq_o h0 (Obt_q (by assumption)) | exact G_part h0.1 (by assumption) | exact Nmo_o (by assumption)); decide; decide) | ((with_reducible refine sf_gJ ?_ ?_ ?_ ?_); (first | assumption | exact GS_o h0.1 (by decide) (by decide) | exact RRj_o h0 (by assumption) | exact RRj_o h0 (Or.inr (by assumption)) | exact OBq_o h0 (by assumption) | exact OBq_o h0 (Obt_q (by assumption)) | exact G_part h0.1 (by assumption) | exact Nmo_o (by assumption)); decide; decide) | ((with_reducible refine sf_gN ?_ ?_ ?_ ?_); (first | assumption | exact GS_o h0.1 (by decide) (by decide) | exact RRj_o h0 (by assumption) | exact RRj_o h0 (Or.inr (by assumption)) | exact OBq_o h0 (by assumption) | exact OBq_o h0 (Obt_q (by assumption)) | exact G_part h0.1 (by assumption) | exact Nmo_o (by assumption)); decide; decide) | ((with_reducible refine jsf_gG h0 (by assumption) ?_ ?_ ?_ ?_ (by with_unfolding_all exact rfl) ?_); decide; decide; decide; decide) | ((with_reducible refine sf_o ?_ (fun l => ?_)); (first | assumption | exact GS_o h0.1 (by decide) (by decide) | exact RRj_o h0 (by assumption) | exact RRj_o h0 (Or.inr (by assumption)) | exact OBq_o h0 (by assumption) | exact OBq_o h0 (Obt_q (by assumption)) | exact G_part h0.1 (by assumption) | exact Nmo_o (by assumption))) | ((with_reducible refine sf_s ?_)) | ((with_reducible refine sf_sb (by assumption) ?_)) | ((with_reducible refine sf_r ?_ ?_); (first | exact any | assumption | exact ⟨false, rfl⟩ | exact ⟨true, rfl⟩); assumption) | ((with_reducible refine sf_z ?_ ?_ ?_); (first | exact ⟨false, rfl⟩ | exact ⟨true, rfl⟩ | assumption); (first | exact any | exact ⟨false, rfl⟩ | exact ⟨true, rfl⟩ | assumption); assumption) | ((with_reducible refine sf_lF h0 ?_ (by with_unfolding_all exact rfl) ?_ ?_); decide; decide) | ((with_reducible refine sf_x (jsf_writeTo hF ?_ ?_ ?_) ?_); assumption; (first | assumption | exact GS_o h0.1 (by decide) (by decide) | exact RRj_o h0 (by assumption) | exact RRj_o h0 (Or.inr (by assumption)) | exact OBq_o h0 (by assumption) | exact OBq_o h0 (Obt_q (by assumption)) | exact G_part h0.1 (by assumption) | exact Nmo_o (by assumption)); (first | assumption | (unfold RWj; omega)); intro v τ hv hi) | ((with_reducible refine sf_x (jsf_put hF ?_ ?_ ?_) ?_); assumption; (first | assumption | (unfold RWj; omega)); decide; intro v τ hv hi) | (dsimp only))
theorem jsf_mnam_4 {N : Nat} (h0 : S0 sk L τ0) (hF : 65540 < F) (hN : N < 2 ^ 30) (hr : RWj wq r) : ∀ (d j f : Nat) (a2 : Int32) (τ : px_TT), j + d = 64 → d < f → SJ wq (some N) sk L τ0 τ → Sf sk L (SJ wq (some N) sk L τ0) Any (f_Scribe_mergeNames_4 F c f 1713 r a2 (nI j) (cH sk L τ)) := by
  intro d
  induction d with
  | zero =>
    intro j f a2 τ hj hf hI
    obtain ⟨f, rfl⟩ : ∃ y, f = y + 1 := ⟨f - 1, by omega⟩
    obtain rfl : j = 64 := by omega
    unfold f_Scribe_mergeNames_4 f_Scribe_mergeNames_54
    repeat' (first | (exact absurd (show nI 64 ≤ nI 64 by decide) (by assumption)) | (exact jsf_mnam_85 h0 hF hN hr 64 0 F _ rfl (by omega) (by assumption)) | exact absurd (show nI 0 = 0 from rfl) (by assumption) | exact absurd (show nI 1 = 0 by assumption) (by decide) | ((with_reducible refine sf_i (fun hc => ?_) (fun hc => ?_))) | ((with_reducible refine sf_gF h0 ?_ ?_ ?_ ?_ ?_); decide; decide; decide; decide) | ((with_reducible refine sf_gI ?_ ?_ ?_ ?_); (first | assumption | exact GS_o h0.1 (by decide) (by decide) | exact RRj_o h0 (by assumption) | exact RRj_o h0 (Or.inr (by assumption)) | exact OBq_o h0 (by assumption) | exact OBq_o h0 (Obt_q (by assumption)) | exact G_part h0.1 (by assumption) | exact Nmo_o (by assumption)); decide; decide) | ((with_reducible refine sf_gJ ?_ ?_ ?_ ?_); (first | assumption | exact GS_o h0.1 (by decide) (by decide) | exact RRj_o h0 (by assumption) | exact RRj_o h0 (Or.inr (by assumption)) | exact OBq_o h0 (by assumption) | exact OBq_o h0 (Obt_q (by assumption)) | exact G_part h0.1 (by assumption) | exact Nmo_o (by assumption)); decide; decide) | ((with_reducible refine sf_gN ?_ ?_ ?_ ?_); (first | assumption | exact GS_o h0.1 (by decide) (by decide) | exact RRj_o h0 (by assumption) | exact RRj_o h0 (Or.inr (by assumption)) | exact OBq_o h0 (by assumption) | exact OBq_o h0 (Obt_q (by assumption)) | exact G_part h0.1 (by assumption) | exact Nmo_o (by assumption)); decide; decide) | ((with_reducible refine jsf_gG h0 (by assumption) ?_ ?_ ?_ ?_ (by with_unfolding_all exact rfl) ?_); decide; decide; decide; decide) | ((with_reducible refine sf_o ?_ (fun l => ?_)); (first | assumption | exact GS_o h0.1 (by decide) (by decide) | exact RRj_o h0 (by assumption) | exact RRj_o h0 (Or.inr (by assumption)) | exact OBq_o h0 (by assumption) | exact OBq_o h0 (Obt_q (by assumption)) | exact G_part h0.1 (by assumption) | exact Nmo_o (by assumption))) | ((with_reducible refine sf_s ?_)) | ((with_reducible refine sf_sb (by assumption) ?_)) | ((with_reducible refine sf_r ?_ ?_); (first | exact any | assumption | exact ⟨false, rfl⟩ | exact ⟨true, rfl⟩); assumption) | ((with_reducible refine sf_z ?_ ?_ ?_); (first | exact ⟨false, rfl⟩ | exact ⟨true, rfl⟩ | assumption); (first | exact any | exact ⟨false, rfl⟩ | exact ⟨true, rfl⟩ | assumption); assumption) | ((with_reducible refine sf_lF h0 ?_ (by with_unfolding_all exact rfl) ?_ ?_); decide; decide) | ((with_reducible refine sf_x (jsf_next h0 hF hr ?_) ?_); assumption; intro v τ hv hi) | ((with_reducible refine sf_x (jsf_put hF ?_ ?_ ?_) ?_); assumption; (first | assumption | (unfold RWj; omega)); decide; intro v τ hv hi) | ((with_reducible refine sf_x (jsf_putRow h0 hF (by assumption)) ?_); intro v τ hv hi) | ((with_reducible refine sf_x (jsf_endRow h0 hF (by assumption)) ?_); intro v τ hv hi))
  | succ d ih =>
    intro j f a2 τ hj hf hI
    obtain ⟨f, rfl⟩ : ∃ y, f = y + 1 := ⟨f - 1, by omega⟩
    have hj64 : j < 64 := by omega
    unfold f_Scribe_mergeNames_4 f_Scribe_mergeNames_54 f_Scribe_mergeNames_46
    rw [nI_add]
    repeat' (first | ((with_reducible refine sx_list2 h0 (by assumption) hj64 ?_)) | ((with_reducible refine jsx_list h0 hI hN (by assumption) hj64 ?_ (fun p hp ep => ?_))) | (exact ih _ _ _ _ (by omega) (by omega) (by assumption)) | (exact jsf_mnam_85 h0 hF hN hr 64 0 F _ rfl (by omega) (by assumption)) | exact absurd (show nI 0 = 0 from rfl) (by assumption) | exact absurd (show nI 1 = 0 by assumption) (by decide) | ((with_reducible refine sf_i (fun hc => ?_) (fun hc => ?_))) | ((with_reducible refine sf_gF h0 ?_ ?_ ?_ ?_ ?_); decide; decide; decide; decide) | ((with_reducible refine sf_gI ?_ ?_ ?_ ?_); (first | assumption | exact GS_o h0.1 (by decide) (by decide) | exact RRj_o h0 (by assumption) | exact RRj_o h0 (Or.inr (by assumption)) | exact OBq_o h0 (by assumption) | exact OBq_o h0 (Obt_q (by assumption)) | exact G_part h0.1 (by assumption) | exact Nmo_o (by assumption)); decide; decide) | ((with_reducible refine sf_gJ ?_ ?_ ?_ ?_); (first | assumption | exact GS_o h0.1 (by decide) (by decide) | exact RRj_o h0 (by assumption) | exact RRj_o h0 (Or.inr (by assumption)) | exact OBq_o h0 (by assumption) | exact OBq_o h0 (Obt_q (by assumption)) | exact G_part h0.1 (by assumption) | exact Nmo_o (by assumption)); decide; decide) | ((with_reducible refine sf_gN ?_ ?_ ?_ ?_); (first | assumption | exact GS_o h0.1 (by decide) (by decide) | exact RRj_o h0 (by assumption) | exact RRj_o h0 (Or.inr (by assumption)) | exact OBq_o h0 (by assumption) | exact OBq_o h0 (Obt_q (by assumption)) | exact G_part h0.1 (by assumption) | exact Nmo_o (by assumption)); decide; decide) | ((with_reducible refine jsf_gG h0 (by assumption) ?_ ?_ ?_ ?_ (by with_unfolding_all exact rfl) ?_); decide; decide; decide; decide) | ((with_reducible refine sf_o ?_ (fun l => ?_)); (first | assumption | exact GS_o h0.1 (by decide) (by decide) | exact RRj_o h0 (by assumption) | exact RRj_o h0 (Or.inr (by assumption)) | exact OBq_o h0 (by assumption) | exact OBq_o h0 (Obt_q (by assumption)) | exact G_part h0.1 (by assumption) | exact Nmo_o (by assumption))) | ((with_reducible refine sf_s ?_)) | ((with_reducible refine sf_sb (by assumption) ?_)) | ((with_reducible refine sf_r ?_ ?_); (first | exact any | assumption | exact ⟨false, rfl⟩ | exact ⟨true, rfl⟩); assumption) | ((with_reducible refine sf_z ?_ ?_ ?_); (first | exact ⟨false, rfl⟩ | exact ⟨true, rfl⟩ | assumption); (first | exact any | exact ⟨false, rfl⟩ | exact ⟨true, rfl⟩ | assumption); assumption) | ((with_reducible refine sf_lF h0 ?_ (by with_unfolding_all exact rfl) ?_ ?_); decide; decide) | ((with_reducible refine sf_x (jsf_next h0 hF hr ?_) ?_); assumption; intro v τ hv hi) | ((with_reducible refine sf_x (jsf_put hF ?_ ?_ ?_) ?_); assumption; (first | assumption | (unfold RWj; omega)); decide; intro v τ hv hi) | (dsimp only) | ((with_reducible refine sf_x (jsf_putRow h0 hF (by assumption)) ?_); intro v τ hv hi) | ((with_reducible refine sf_x (jsf_endRow h0 hF (by assumption)) ?_); intro v τ hv hi))
theorem jsf_mnames {N : Nat} (h0 : S0 sk L τ0) (hF : 65540 < F) (hN : N < 2 ^ 30) (hr : RWj wq r) (hI : SJ wq (some N) sk L τ0 τ) : Sf sk L (SJ wq (some N) sk L τ0) Any (f_Scribe_mergeNames F c 1713 r (cH sk L τ)) := jsf_mnam_4 h0 hF hN hr 64 0 F _ τ rfl (by omega) hI
theorem jsf_wm_143 {a2 : Int32} (h0 : S0 sk L τ0) (hF : 65540 < F) (hr : RWj wq r) (hI : SJ wq zb sk L τ0 τ) : Sf sk L (SJ wq zb sk L τ0) isZ (f_Scribe_writeMerged_143 F c 1713 r a2 (cH sk L τ)) := by
  unfold f_Scribe_writeMerged_143 f_Scribe_writeMerged_248 f_Scribe_writeMerged_249
  repeat' (first | exact absurd (show nI 0 = 0 from rfl) (by assumption) | exact absurd (show nI 1 = 0 by assumption) (by decide) | ((with_reducible refine sf_i (fun hc => ?_) (fun hc => ?_))) | ((with_reducible refine sf_gF h0 ?_ ?_ ?_ ?_ ?_); decide; decide; decide; decide) | ((with_reducible refine sf_gI ?_ ?_ ?_ ?_); (first | assumption | exact GS_o h0.1 (by decide) (by decide) | exact RRj_o h0 (by assumption) | exact RRj_o h0 (Or.inr (by assumption)) | exact OBq_o h0 (by assumption) | exact OBq_o h0 (Obt_q (by assumption)) | exact G_part h0.1 (by assumption) | exact Nmo_o (by assumption)); decide; decide) | ((with_reducible refine sf_gJ ?_ ?_ ?_ ?_); (first | assumption | exact GS_o h0.1 (by decide) (by decide) | exact RRj_o h0 (by assumption) | exact RRj_o h0 (Or.inr (by assumption)) | exact OBq_o h0 (by assumption) | exact OBq_o h0 (Obt_q (by assumption)) | exact G_part h0.1 (by assumption) | exact Nmo_o (by assumption)); decide; decide) | ((with_reducible refine sf_gN ?_ ?_ ?_ ?_); (first | assumption | exact GS_o h0.1 (by decide) (by decide) | exact RRj_o h0 (by assumption) | exact RRj_o h0 (Or.inr (by assumption)) | exact OBq_o h0 (by assumption) | exact OBq_o h0 (Obt_q (by assumption)) | exact G_part h0.1 (by assumption) | exact Nmo_o (by assumption)); decide; decide) | ((with_reducible refine jsf_gG h0 (by assumption) ?_ ?_ ?_ ?_ (by with_unfolding_all exact rfl) ?_); decide; decide; decide; decide) | ((with_reducible refine sf_o ?_ (fun l => ?_)); (first | assumption | exact GS_o h0.1 (by decide) (by decide) | exact RRj_o h0 (by assumption) | exact RRj_o h0 (Or.inr (by assumption)) | exact OBq_o h0 (by assumption) | exact OBq_o h0 (Obt_q (by assumption)) | exact G_part h0.1 (by assumption) | exact Nmo_o (by assumption))) | ((with_reducible refine sf_s ?_)) | ((with_reducible refine sf_sb (by assumption) ?_)) | ((with_reducible refine sf_r ?_ ?_); (first | exact any | assumption | exact ⟨false, rfl⟩ | exact ⟨true, rfl⟩); assumption) | ((with_reducible refine sf_z ?_ ?_ ?_); (first | exact ⟨false, rfl⟩ | exact ⟨true, rfl⟩ | assumption); (first | exact any | exact ⟨false, rfl⟩ | exact ⟨true, rfl⟩ | assumption); assumption) | ((with_reducible refine sf_x (jsf_set hF ?_ ?_ ?_) ?_); assumption; (first | assumption | (unfold RWj; omega)); decide; intro v τ hv hi))
theorem jsf_wm_117 {a2 : Int32} (h0 : S0 sk L τ0) (hK : KT c) (hF : 65540 < F) (hr : RWj wq r) : ∀ (d j f : Nat) (τ : px_TT), j + d = 7 → d < f → SJ wq zb sk L τ0 τ → Sf sk L (SJ wq zb sk L τ0) isZ (f_Scribe_writeMerged_117 F c f 1713 r a2 (nI j) (cH sk L τ)) := by
  intro d
  induction d with
  | zero =>
    intro j f τ hj hf hI
    obtain ⟨f, rfl⟩ : ∃ y, f = y + 1 := ⟨f - 1, by omega⟩
    obtain rfl : j = 7 := by omega
    unfold f_Scribe_writeMerged_117
    rw [xkl_at hK.2.2.1.2 (by decide), bs, if_pos (show nI [127, 69, 76, 70, 2, 1, 1].length ≤ nI 7 by decide)]
    exact jsf_wm_143 h0 hF hr hI
  | succ d ih =>
    intro j f τ hj hf hI
    obtain ⟨f, rfl⟩ : ∃ y, f = y + 1 := ⟨f - 1, by omega⟩
    unfold f_Scribe_writeMerged_117
    rw [xkl_at hK.2.2.1.2 (by decide), bs, if_neg (nI_ge (show j < [127, 69, 76, 70, 2, 1, 1].length by show j < 7; omega) (by decide)), xkB_at hK.2.2.1.2 (by decide) hK.2.2.1.1 (by decide) (show j < [127, 69, 76, 70, 2, 1, 1].length by show j < 7; omega), bs, nI_add]
    repeat' (first | (exact ih _ _ _ (by omega) (by omega) (by assumption)) | exact absurd (show nI 0 = 0 from rfl) (by assumption) | exact absurd (show nI 1 = 0 by assumption) (by decide) | ((with_reducible refine sf_i (fun hc => ?_) (fun hc => ?_))) | ((with_reducible refine sf_gF h0 ?_ ?_ ?_ ?_ ?_); decide; decide; decide; decide) | ((with_reducible refine sf_gI ?_ ?_ ?_ ?_); (first | assumption | exact GS_o h0.1 (by decide) (by decide) | exact RRj_o h0 (by assumption) | exact RRj_o h0 (Or.inr (by assumption)) | exact OBq_o h0 (by assumption) | exact OBq_o h0 (Obt_q (by assumption)) | exact G_part h0.1 (by assumption) | exact Nmo_o (by assumption)); decide; decide) | ((with_reducible refine sf_gJ ?_ ?_ ?_ ?_); (first | assumption | exact GS_o h0.1 (by decide) (by decide) | exact RRj_o h0 (by assumption) | exact RRj_o h0 (Or.inr (by assumption)) | exact OBq_o h0 (by assumption) | exact OBq_o h0 (Obt_q (by assumption)) | exact G_part h0.1 (by assumption) | exact Nmo_o (by assumption)); decide; decide) | ((with_reducible refine sf_gN ?_ ?_ ?_ ?_); (first | assumption | exact GS_o h0.1 (by decide) (by decide) | exact RRj_o h0 (by assumption) | exact RRj_o h0 (Or.inr (by assumption)) | exact OBq_o h0 (by assumption) | exact OBq_o h0 (Obt_q (by assumption)) | exact G_part h0.1 (by assumption) | exact Nmo_o (by assumption)); decide; decide) | ((with_reducible refine jsf_gG h0 (by assumption) ?_ ?_ ?_ ?_ (by with_unfolding_all exact rfl) ?_); decide; decide; decide; decide) | ((with_reducible refine sf_o ?_ (fun l => ?_)); (first | assumption | exact GS_o h0.1 (by decide) (by decide) | exact RRj_o h0 (by assumption) | exact RRj_o h0 (Or.inr (by assumption)) | exact OBq_o h0 (by assumption) | exact OBq_o h0 (Obt_q (by assumption)) | exact G_part h0.1 (by assumption) | exact Nmo_o (by assumption))) | ((with_reducible refine sf_s ?_)) | ((with_reducible refine sf_sb (by assumption) ?_)) | ((with_reducible refine sf_r ?_ ?_); (first | exact any | assumption | exact ⟨false, rfl⟩ | exact ⟨true, rfl⟩); assumption) | ((with_reducible refine sf_z ?_ ?_ ?_); (first | exact ⟨false, rfl⟩ | exact ⟨true, rfl⟩ | assumption); (first | exact any | exact ⟨false, rfl⟩ | exact ⟨true, rfl⟩ | assumption); assumption) | ((with_reducible refine sf_x (jsf_set hF ?_ ?_ ?_) ?_); assumption; (first | assumption | (unfold RWj; omega)); decide; intro v τ hv hi))
theorem jsf_wm_52 {N : Nat} (h3 : S3 sk L own τ0 fs s xs ST rn ws) (hK : KT c) (hF : 65540 < F) (hN : N < 2 ^ 30) (hr : RWj wq r) : ∀ (d t f : Nat) (τ : px_TT), t + d = s.2.2.1.length → d < f → SJ wq (some N) sk L τ0 τ → Sf sk L (SJ wq (some N) sk L τ0) isZ (f_Scribe_writeMerged_52 F c f 1713 r (nI t) (cH sk L τ)) := by
  have h1 := h3.1.1
  have h0 := h1.1
  have hT := S3_T h3
  intro d
  induction d with
  | zero =>
    intro t f τ hj hf hI
    obtain ⟨f, rfl⟩ : ∃ y, f = y + 1 := ⟨f - 1, by omega⟩
    unfold f_Scribe_writeMerged_52 f_Scribe_writeMerged_81
    repeat' (first | (exact absurd (jtkn_le (j := t) h3 hI (by omega) (by omega)) (by assumption)) | ((with_reducible refine sf_x (jsf_msyms h3 hF hN hr ?_) ?_); assumption; intro v τ hv hi) | ((with_reducible refine sf_x (jsf_mnames h0 hF hN hr ?_) ?_); assumption; intro v τ hv hi) | (exact jsf_wm_117 h0 hK hF hr 7 0 F _ rfl (by omega) (by assumption)) | exact absurd (show nI 0 = 0 from rfl) (by assumption) | exact absurd (show nI 1 = 0 by assumption) (by decide) | ((with_reducible refine sf_i (fun hc => ?_) (fun hc => ?_))) | ((with_reducible refine sf_gF h0 ?_ ?_ ?_ ?_ ?_); decide; decide; decide; decide) | ((with_reducible refine sf_gI ?_ ?_ ?_ ?_); (first | assumption | exact GS_o h0.1 (by decide) (by decide) | exact RRj_o h0 (by assumption) | exact RRj_o h0 (Or.inr (by assumption)) | exact OBq_o h0 (by assumption) | exact OBq_o h0 (Obt_q (by assumption)) | exact G_part h0.1 (by assumption) | exact Nmo_o (by assumption)); decide; decide) | ((with_reducible refine sf_gJ ?_ ?_ ?_ ?_); (first | assumption | exact GS_o h0.1 (by decide) (by decide) | exact RRj_o h0 (by assumption) | exact RRj_o h0 (Or.inr (by assumption)) | exact OBq_o h0 (by assumption) | exact OBq_o h0 (Obt_q (by assumption)) | exact G_part h0.1 (by assumption) | exact Nmo_o (by assumption)); decide; decide) | ((with_reducible refine sf_gN ?_ ?_ ?_ ?_); (first | assumption | exact GS_o h0.1 (by decide) (by decide) | exact RRj_o h0 (by assumption) | exact RRj_o h0 (Or.inr (by assumption)) | exact OBq_o h0 (by assumption) | exact OBq_o h0 (Obt_q (by assumption)) | exact G_part h0.1 (by assumption) | exact Nmo_o (by assumption)); decide; decide) | ((with_reducible refine jsf_gG h0 (by assumption) ?_ ?_ ?_ ?_ (by with_unfolding_all exact rfl) ?_); decide; decide; decide; decide) | ((with_reducible refine sf_o ?_ (fun l => ?_)); (first | assumption | exact GS_o h0.1 (by decide) (by decide) | exact RRj_o h0 (by assumption) | exact RRj_o h0 (Or.inr (by assumption)) | exact OBq_o h0 (by assumption) | exact OBq_o h0 (Obt_q (by assumption)) | exact G_part h0.1 (by assumption) | exact Nmo_o (by assumption))) | ((with_reducible refine sf_s ?_)) | ((with_reducible refine sf_sb (by assumption) ?_)) | ((with_reducible refine sf_r ?_ ?_); (first | exact any | assumption | exact ⟨false, rfl⟩ | exact ⟨true, rfl⟩); assumption) | ((with_reducible refine sf_z ?_ ?_ ?_); (first | exact ⟨false, rfl⟩ | exact ⟨true, rfl⟩ | assumption); (first | exact any | exact ⟨false, rfl⟩ | exact ⟨true, rfl⟩ | assumption); assumption) | ((with_reducible refine sf_x (jsf_next h0 hF hr ?_) ?_); assumption; intro v τ hv hi) | ((with_reducible refine sf_x (jsf_copy ?_ ?_ ?_) ?_); assumption; (first | assumption | exact jCS_8 h1 (by assumption) | exact jCS_F (by assumption) | exact jCS_S (by assumption) (Or.inr (Or.inr ⟨rfl, rfl, rfl⟩))); (first | assumption | (unfold RWj; omega)); intro v τ hv hi))
  | succ d ih =>
    intro t f τ hj hf hI
    obtain ⟨f, rfl⟩ : ∃ y, f = y + 1 := ⟨f - 1, by omega⟩
    have ht : t < s.2.2.1.length := by omega
    unfold f_Scribe_writeMerged_52 f_Scribe_writeMerged_81
    rw [nI_add]
    repeat' (first | ((with_reducible refine sf_x (jsf_msyms h3 hF hN hr ?_) ?_); assumption; intro v τ hv hi) | ((with_reducible refine sf_x (jsf_mnames h0 hF hN hr ?_) ?_); assumption; intro v τ hv hi) | (exact jsf_wm_117 h0 hK hF hr 7 0 F _ rfl (by omega) (by assumption)) | ((with_reducible refine sf_x (jsf_mparts h3 hF hr ht ?_) ?_); assumption; intro v τ hv hi) | ((with_reducible refine sf_x (jsf_msites h3 hF hr ht ?_) ?_); assumption; intro v τ hv hi) | (exact ih _ _ _ (by omega) (by omega) (by assumption)) | exact absurd (show nI 0 = 0 from rfl) (by assumption) | exact absurd (show nI 1 = 0 by assumption) (by decide) | ((with_reducible refine sf_i (fun hc => ?_) (fun hc => ?_))) | ((with_reducible refine sf_gF h0 ?_ ?_ ?_ ?_ ?_); decide; decide; decide; decide) | ((with_reducible refine sf_gI ?_ ?_ ?_ ?_); (first | assumption | exact GS_o h0.1 (by decide) (by decide) | exact RRj_o h0 (by assumption) | exact RRj_o h0 (Or.inr (by assumption)) | exact OBq_o h0 (by assumption) | exact OBq_o h0 (Obt_q (by assumption)) | exact G_part h0.1 (by assumption) | exact Nmo_o (by assumption)); decide; decide) | ((with_reducible refine sf_gJ ?_ ?_ ?_ ?_); (first | assumption | exact GS_o h0.1 (by decide) (by decide) | exact RRj_o h0 (by assumption) | exact RRj_o h0 (Or.inr (by assumption)) | exact OBq_o h0 (by assumption) | exact OBq_o h0 (Obt_q (by assumption)) | exact G_part h0.1 (by assumption) | exact Nmo_o (by assumption)); decide; decide) | ((with_reducible refine sf_gN ?_ ?_ ?_ ?_); (first | assumption | exact GS_o h0.1 (by decide) (by decide) | exact RRj_o h0 (by assumption) | exact RRj_o h0 (Or.inr (by assumption)) | exact OBq_o h0 (by assumption) | exact OBq_o h0 (Obt_q (by assumption)) | exact G_part h0.1 (by assumption) | exact Nmo_o (by assumption)); decide; decide) | ((with_reducible refine jsf_gG h0 (by assumption) ?_ ?_ ?_ ?_ (by with_unfolding_all exact rfl) ?_); decide; decide; decide; decide) | ((with_reducible refine sf_o ?_ (fun l => ?_)); (first | assumption | exact GS_o h0.1 (by decide) (by decide) | exact RRj_o h0 (by assumption) | exact RRj_o h0 (Or.inr (by assumption)) | exact OBq_o h0 (by assumption) | exact OBq_o h0 (Obt_q (by assumption)) | exact G_part h0.1 (by assumption) | exact Nmo_o (by assumption))) | ((with_reducible refine sf_s ?_)) | ((with_reducible refine sf_sb (by assumption) ?_)) | ((with_reducible refine sf_r ?_ ?_); (first | exact any | assumption | exact ⟨false, rfl⟩ | exact ⟨true, rfl⟩); assumption) | ((with_reducible refine sf_z ?_ ?_ ?_); (first | exact ⟨false, rfl⟩ | exact ⟨true, rfl⟩ | assumption); (first | exact any | exact ⟨false, rfl⟩ | exact ⟨true, rfl⟩ | assumption); assumption) | ((with_reducible refine sf_x (jsf_next h0 hF hr ?_) ?_); assumption; intro v τ hv hi) | ((with_reducible refine sf_x (jsf_copy ?_ ?_ ?_) ?_); assumption; (first | assumption | exact jCS_8 h1 (by assumption) | exact jCS_F (by assumption) | exact jCS_S (by assumption) (Or.inr (Or.inr ⟨rfl, rfl, rfl⟩))); (first | assumption | (unfold RWj; omega)); intro v τ hv hi))
theorem jsf_merged (h3 : S3 sk L own τ0 fs s xs ST rn ws) (hK : KT c) (hF : 65540 < F) (hr : RWj wq r) (hI : SJ wq none sk L τ0 τ) : Sf sk L (SJ wq none sk L τ0) isZ (f_Scribe_writeMerged F c 1713 r (cH sk L τ)) := by
  have h1 := h3.1.1
  have h0 := h1.1
  have hT := S3_T h3
  unfold f_Scribe_writeMerged f_Scribe_writeMerged_18
  refine sf_o (GS_o h0.1 (by decide) (by decide)) (fun _ => sf_x (jsf_nparts h3 hF hI) (fun v τ hv hi => sf_i (fun _ => sf_r ⟨false, rfl⟩ hi) (fun _ => ?_)))
  refine sf_o (GS_o h0.1 (by decide) (by decide)) (fun _ => sw_x (jsf_nsyms h3 hF hi) (fun v τ hv hi => sw_I (I1 := SJ wq (some 8240) sk L τ0) ?_ (fun τ h => jSI_none h)))
  repeat' (first | (exact jsf_wm_52 h3 hK hF (by decide) hr _ 0 F _ (Nat.zero_add _) (by omega) (by assumption)) | exact absurd (show nI 0 = 0 from rfl) (by assumption) | exact absurd (show nI 1 = 0 by assumption) (by decide) | ((with_reducible refine sf_i (fun hc => ?_) (fun hc => ?_))) | ((with_reducible refine sf_gF h0 ?_ ?_ ?_ ?_ ?_); decide; decide; decide; decide) | ((with_reducible refine sf_gI ?_ ?_ ?_ ?_); (first | assumption | exact GS_o h0.1 (by decide) (by decide) | exact RRj_o h0 (by assumption) | exact RRj_o h0 (Or.inr (by assumption)) | exact OBq_o h0 (by assumption) | exact OBq_o h0 (Obt_q (by assumption)) | exact G_part h0.1 (by assumption) | exact Nmo_o (by assumption)); decide; decide) | ((with_reducible refine sf_gJ ?_ ?_ ?_ ?_); (first | assumption | exact GS_o h0.1 (by decide) (by decide) | exact RRj_o h0 (by assumption) | exact RRj_o h0 (Or.inr (by assumption)) | exact OBq_o h0 (by assumption) | exact OBq_o h0 (Obt_q (by assumption)) | exact G_part h0.1 (by assumption) | exact Nmo_o (by assumption)); decide; decide) | ((with_reducible refine sf_gN ?_ ?_ ?_ ?_); (first | assumption | exact GS_o h0.1 (by decide) (by decide) | exact RRj_o h0 (by assumption) | exact RRj_o h0 (Or.inr (by assumption)) | exact OBq_o h0 (by assumption) | exact OBq_o h0 (Obt_q (by assumption)) | exact G_part h0.1 (by assumption) | exact Nmo_o (by assumption)); decide; decide) | ((with_reducible refine jsf_gG h0 (by assumption) ?_ ?_ ?_ ?_ (by with_unfolding_all exact rfl) ?_); decide; decide; decide; decide) | ((with_reducible refine sf_o ?_ (fun l => ?_)); (first | assumption | exact GS_o h0.1 (by decide) (by decide) | exact RRj_o h0 (by assumption) | exact RRj_o h0 (Or.inr (by assumption)) | exact OBq_o h0 (by assumption) | exact OBq_o h0 (Obt_q (by assumption)) | exact G_part h0.1 (by assumption) | exact Nmo_o (by assumption))) | ((with_reducible refine sf_s ?_)) | ((with_reducible refine sf_sb (by assumption) ?_)) | ((with_reducible refine sf_r ?_ ?_); (first | exact any | assumption | exact ⟨false, rfl⟩ | exact ⟨true, rfl⟩); assumption) | ((with_reducible refine sf_z ?_ ?_ ?_); (first | exact ⟨false, rfl⟩ | exact ⟨true, rfl⟩ | assumption); (first | exact any | exact ⟨false, rfl⟩ | exact ⟨true, rfl⟩ | assumption); assumption) | ((with_reducible refine sf_x (jsf_clear ?_ ?_) ?_); assumption; (first | assumption | (unfold RWj; omega)); intro v τ hv hi) | ((with_reducible refine sf_x (jsf_fill hF ?_ ?_ ?_) ?_); assumption; (first | assumption | (unfold RWj; omega)); (first | assumption | exact jfill_sz (by assumption) (by assumption) (by decide) | exact jfill_sz (by assumption) (by unfold RWj; omega) (by decide) | exact ⟨_, by decide, rfl⟩); intro v τ hv hi))
end CMWj
section CCLj
variable {F : Nat} {c : px_CT} {sk : Nat → Nat × Nat × Nat} {L : Nat} {zb : Option Nat} {τ0 τ : px_TT} {r q : Nat} {I : px_TT → Prop} {α : Type} {V : α → Prop}
theorem jsx_outR {f : Nat → Option (α × px_H)} (h0 : S0 sk L τ0) (hI : SJ 0 zb sk L τ0 τ) (g : ∀ r, RWj 0 r → Sf sk L I V (f r)) : Sf sk L I V ((xgR (cH sk L τ) 0 1 0).bind f) := by
  obtain ⟨ro, rd, hc, e1, e2⟩ := hI.2.2.1.1
  rw [C0r1 (G0 h0.1) e1, bs]
  exact g ro (by unfold RWj; omega)
theorem jsx_draft {f : Nat → Option (α × px_H)} (h0 : S0 sk L τ0) (hI : SJ 0 zb sk L τ0 τ) (g : ∀ r, RWj 0 r → Sf sk L I V (f r)) : Sf sk L I V ((xgR (cH sk L τ) 0 2 0).bind f) := by
  obtain ⟨ro, rd, hc, e1, e2⟩ := hI.2.2.1.1
  rw [C0r2 (G0 h0.1) e2, bs]
  exact g rd (by unfold RWj; omega)
theorem jsf_publish (h0 : S0 sk L τ0) (hI : SJ 0 zb sk L τ0 τ) : Sf sk L (SJ 0 zb sk L τ0) Any (f_H_publishDraft F c 0 (cH sk L τ)) := by
  have o0 := G0 h0.1
  obtain ⟨hZ, hT, ⟨⟨ro, rd, hc, e1, e2⟩, h3, h5, h1711, h1714, h1719⟩, hm, hl⟩ := hI
  unfold f_H_publishDraft
  rw [C0r1 o0 e1, bs, C0r2 o0 e2, bs, C0v1 o0, bs, C0v2 o0, bs]
  have x1 : fN (tN (tN τ 0 1 (some rd)) 0 2 (some ro)) 0 1 = some rd := by
    rw [fN_tN, if_neg (by omega), fN_tN, if_pos ⟨rfl, rfl⟩]
  have x2 : fN (tN (tN τ 0 1 (some rd)) 0 2 (some ro)) 0 2 = some ro := by
    rw [fN_tN, if_pos ⟨rfl, rfl⟩]
  have hrow : ∀ r' A' n', r' ≠ 0 → rowOK sk L τ r' A' n' → rowOK sk L (tN (tN τ 0 1 (some rd)) 0 2 (some ro)) r' A' n' := fun r' A' n' hn w => by
    obtain ⟨h1, h2, h3, h4, h5, h6, h7⟩ := w
    exact ⟨h1, h2, h3, by rw [fN_tN, if_neg (by omega), fN_tN, if_neg (by omega)]; exact h4, h5, h6, h7⟩
  have ord : ob sk L 10 rd := by
    rcases hc with ⟨_, rfl⟩ | ⟨_, rfl⟩
    · exact G5 h0.1
    · exact G3 h0.1
  rw [C0r1 o0 x1, bs, C10g1 ord, bs]
  refine sf_r any ⟨frZ_trans hZ (frZ_trans (frZ_tN (Or.inl rfl)) (frZ_tN (Or.inr rfl))), ⟨hT.1, hT.2.1, hT.2.2.1, hT.2.2.2.1, hT.2.2.2.2.1, hT.2.2.2.2.2.1, fun w => absurd w (by decide)⟩, ⟨⟨rd, ro, by omega, x1, x2⟩, hrow _ _ _ (by decide) h3, hrow _ _ _ (by decide) h5, hrow _ _ _ (by decide) h1711, hrow _ _ _ (by decide) h1714, hrow _ _ _ (by decide) h1719⟩, hm, hl⟩
theorem jsf_Hpack (h1 : S1 sk L τ0) (hK : KT c) (hF : 65540 < F) (hI : SJ 0 zb sk L τ0 τ) : Sf sk L (SJ 0 zb sk L τ0) Any (f_H_pack F c 0 (cH sk L τ)) := by
  have h0 := h1.1
  unfold f_H_pack
  repeat' (first | ((with_reducible refine jsx_draft h0 (by assumption) (fun r hr => ?_))) | ((with_reducible refine sf_x (jsf_packed h1 hK hF ?_ ?_) ?_); assumption; assumption; intro v τ hv hi) | ((with_reducible refine sf_x (jsf_publish h0 ?_) ?_); assumption; intro v τ hv hi) | exact absurd (show nI 0 = 0 from rfl) (by assumption) | exact absurd (show nI 1 = 0 by assumption) (by decide) | ((with_reducible refine sf_i (fun hc => ?_) (fun hc => ?_))) | ((with_reducible refine sf_gF h0 ?_ ?_ ?_ ?_ ?_); decide; decide; decide; decide) | ((with_reducible refine sf_gI ?_ ?_ ?_ ?_); (first | assumption | exact GS_o h0.1 (by decide) (by decide) | exact RRj_o h0 (by assumption) | exact RRj_o h0 (Or.inr (by assumption)) | exact OBq_o h0 (by assumption) | exact OBq_o h0 (Obt_q (by assumption)) | exact G_part h0.1 (by assumption) | exact Nmo_o (by assumption)); decide; decide) | ((with_reducible refine sf_gJ ?_ ?_ ?_ ?_); (first | assumption | exact GS_o h0.1 (by decide) (by decide) | exact RRj_o h0 (by assumption) | exact RRj_o h0 (Or.inr (by assumption)) | exact OBq_o h0 (by assumption) | exact OBq_o h0 (Obt_q (by assumption)) | exact G_part h0.1 (by assumption) | exact Nmo_o (by assumption)); decide; decide) | ((with_reducible refine sf_gN ?_ ?_ ?_ ?_); (first | assumption | exact GS_o h0.1 (by decide) (by decide) | exact RRj_o h0 (by assumption) | exact RRj_o h0 (Or.inr (by assumption)) | exact OBq_o h0 (by assumption) | exact OBq_o h0 (Obt_q (by assumption)) | exact G_part h0.1 (by assumption) | exact Nmo_o (by assumption)); decide; decide) | ((with_reducible refine jsf_gG h0 (by assumption) ?_ ?_ ?_ ?_ (by with_unfolding_all exact rfl) ?_); decide; decide; decide; decide) | ((with_reducible refine sf_o ?_ (fun l => ?_)); (first | assumption | exact GS_o h0.1 (by decide) (by decide) | exact RRj_o h0 (by assumption) | exact RRj_o h0 (Or.inr (by assumption)) | exact OBq_o h0 (by assumption) | exact OBq_o h0 (Obt_q (by assumption)) | exact G_part h0.1 (by assumption) | exact Nmo_o (by assumption))) | ((with_reducible refine sf_s ?_)) | ((with_reducible refine sf_sb (by assumption) ?_)) | ((with_reducible refine sf_r ?_ ?_); (first | exact any | assumption | exact ⟨false, rfl⟩ | exact ⟨true, rfl⟩); assumption) | ((with_reducible refine sf_z ?_ ?_ ?_); (first | exact ⟨false, rfl⟩ | exact ⟨true, rfl⟩ | assumption); (first | exact any | exact ⟨false, rfl⟩ | exact ⟨true, rfl⟩ | assumption); assumption))
theorem jsf_Hnamed (h2 : S2 sk L τ0) (hK : KT c) (hF : 65540 < F) (hI : SJ 0 zb sk L τ0 τ) (ha : fI τ 147 18 = nI 0) : Sf sk L (SJ 0 zb sk L τ0) Any (f_H_named F c 0 (cH sk L τ)) := by
  have h1 := h2.1
  have h0 := h1.1
  unfold f_H_named
  repeat' (first | (exact absurd ha (by assumption)) | ((with_reducible refine jsx_draft h0 (by assumption) (fun r hr => ?_))) | ((with_reducible refine sf_x (jsf_named h2 hK hF ?_ ?_) ?_); assumption; assumption; intro v τ hv hi) | ((with_reducible refine sf_x (jsf_publish h0 ?_) ?_); assumption; intro v τ hv hi) | exact absurd (show nI 0 = 0 from rfl) (by assumption) | exact absurd (show nI 1 = 0 by assumption) (by decide) | ((with_reducible refine sf_i (fun hc => ?_) (fun hc => ?_))) | ((with_reducible refine sf_gF h0 ?_ ?_ ?_ ?_ ?_); decide; decide; decide; decide) | ((with_reducible refine sf_gI ?_ ?_ ?_ ?_); (first | assumption | exact GS_o h0.1 (by decide) (by decide) | exact RRj_o h0 (by assumption) | exact RRj_o h0 (Or.inr (by assumption)) | exact OBq_o h0 (by assumption) | exact OBq_o h0 (Obt_q (by assumption)) | exact G_part h0.1 (by assumption) | exact Nmo_o (by assumption)); decide; decide) | ((with_reducible refine sf_gJ ?_ ?_ ?_ ?_); (first | assumption | exact GS_o h0.1 (by decide) (by decide) | exact RRj_o h0 (by assumption) | exact RRj_o h0 (Or.inr (by assumption)) | exact OBq_o h0 (by assumption) | exact OBq_o h0 (Obt_q (by assumption)) | exact G_part h0.1 (by assumption) | exact Nmo_o (by assumption)); decide; decide) | ((with_reducible refine sf_gN ?_ ?_ ?_ ?_); (first | assumption | exact GS_o h0.1 (by decide) (by decide) | exact RRj_o h0 (by assumption) | exact RRj_o h0 (Or.inr (by assumption)) | exact OBq_o h0 (by assumption) | exact OBq_o h0 (Obt_q (by assumption)) | exact G_part h0.1 (by assumption) | exact Nmo_o (by assumption)); decide; decide) | ((with_reducible refine jsf_gG h0 (by assumption) ?_ ?_ ?_ ?_ (by with_unfolding_all exact rfl) ?_); decide; decide; decide; decide) | ((with_reducible refine sf_o ?_ (fun l => ?_)); (first | assumption | exact GS_o h0.1 (by decide) (by decide) | exact RRj_o h0 (by assumption) | exact RRj_o h0 (Or.inr (by assumption)) | exact OBq_o h0 (by assumption) | exact OBq_o h0 (Obt_q (by assumption)) | exact G_part h0.1 (by assumption) | exact Nmo_o (by assumption))) | ((with_reducible refine sf_s ?_)) | ((with_reducible refine sf_sb (by assumption) ?_)) | ((with_reducible refine sf_r ?_ ?_); (first | exact any | assumption | exact ⟨false, rfl⟩ | exact ⟨true, rfl⟩); assumption) | ((with_reducible refine sf_z ?_ ?_ ?_); (first | exact ⟨false, rfl⟩ | exact ⟨true, rfl⟩ | assumption); (first | exact any | exact ⟨false, rfl⟩ | exact ⟨true, rfl⟩ | assumption); assumption))
theorem jsf_Hmap (h2 : S2 sk L τ0) (hF : 65540 < F) (hI : SJ 0 zb sk L τ0 τ) (ha : fI τ 147 18 = nI 0) : Sf sk L (SJ 0 zb sk L τ0) Any (f_H_map F c 0 (cH sk L τ)) := by
  have h1 := h2.1
  have h0 := h1.1
  unfold f_H_map
  repeat' (first | (exact absurd ha (by assumption)) | ((with_reducible refine jsx_draft h0 (by assumption) (fun r hr => ?_))) | ((with_reducible refine sf_x (jsf_map h2 hF ?_ ?_) ?_); assumption; assumption; intro v τ hv hi) | ((with_reducible refine sf_x (jsf_publish h0 ?_) ?_); assumption; intro v τ hv hi) | exact absurd (show nI 0 = 0 from rfl) (by assumption) | exact absurd (show nI 1 = 0 by assumption) (by decide) | ((with_reducible refine sf_i (fun hc => ?_) (fun hc => ?_))) | ((with_reducible refine sf_gF h0 ?_ ?_ ?_ ?_ ?_); decide; decide; decide; decide) | ((with_reducible refine sf_gI ?_ ?_ ?_ ?_); (first | assumption | exact GS_o h0.1 (by decide) (by decide) | exact RRj_o h0 (by assumption) | exact RRj_o h0 (Or.inr (by assumption)) | exact OBq_o h0 (by assumption) | exact OBq_o h0 (Obt_q (by assumption)) | exact G_part h0.1 (by assumption) | exact Nmo_o (by assumption)); decide; decide) | ((with_reducible refine sf_gJ ?_ ?_ ?_ ?_); (first | assumption | exact GS_o h0.1 (by decide) (by decide) | exact RRj_o h0 (by assumption) | exact RRj_o h0 (Or.inr (by assumption)) | exact OBq_o h0 (by assumption) | exact OBq_o h0 (Obt_q (by assumption)) | exact G_part h0.1 (by assumption) | exact Nmo_o (by assumption)); decide; decide) | ((with_reducible refine sf_gN ?_ ?_ ?_ ?_); (first | assumption | exact GS_o h0.1 (by decide) (by decide) | exact RRj_o h0 (by assumption) | exact RRj_o h0 (Or.inr (by assumption)) | exact OBq_o h0 (by assumption) | exact OBq_o h0 (Obt_q (by assumption)) | exact G_part h0.1 (by assumption) | exact Nmo_o (by assumption)); decide; decide) | ((with_reducible refine jsf_gG h0 (by assumption) ?_ ?_ ?_ ?_ (by with_unfolding_all exact rfl) ?_); decide; decide; decide; decide) | ((with_reducible refine sf_o ?_ (fun l => ?_)); (first | assumption | exact GS_o h0.1 (by decide) (by decide) | exact RRj_o h0 (by assumption) | exact RRj_o h0 (Or.inr (by assumption)) | exact OBq_o h0 (by assumption) | exact OBq_o h0 (Obt_q (by assumption)) | exact G_part h0.1 (by assumption) | exact Nmo_o (by assumption))) | ((with_reducible refine sf_s ?_)) | ((with_reducible refine sf_sb (by assumption) ?_)) | ((with_reducible refine sf_r ?_ ?_); (first | exact any | assumption | exact ⟨false, rfl⟩ | exact ⟨true, rfl⟩); assumption) | ((with_reducible refine sf_z ?_ ?_ ?_); (first | exact ⟨false, rfl⟩ | exact ⟨true, rfl⟩ | assumption); (first | exact any | exact ⟨false, rfl⟩ | exact ⟨true, rfl⟩ | assumption); assumption))
theorem jsf_nread3 {x : Int32} (h1 : S1 sk L τ0) (hF : 65540 < F) (hI : SJ 0 zb sk L τ0 τ) : Sf sk L (SJ 0 zb sk L τ0) Any (f_Name_read F c 146 7 x (cH sk L τ)) := by
  obtain ⟨z, hz, ez⟩ := h1.2.2.1
  have hs : rowS sk L τ 7 8 65536 := ⟨G7 h1.1.1, G8 h1.1.1, by decide, GR_r (GR_Z h1.1.2.1 hI.1) (by decide), z, hz, (hI.1.1 7 1 (Zc_no (by omega)) (by omega) (by omega) (by omega) (by omega)).trans ez⟩
  obtain ⟨τ', e, f⟩ := k_nreadS (F := F) (c := c) (x := x) (by omega) (G146 h1.1.1) (by decide) hs
  exact ⟨_, τ', e, any, SJ_N hI f (Or.inl rfl)⟩
theorem jso_memAt {i k : Int32} (h0 : S0 sk L τ0) (hfl : ∃ m, m ≤ 8 ∧ fI τ0 0 6 = nI m) (hI : SJ 0 zb sk L τ0 τ) : ∃ o, f_H_memberAt F c 0 i k (cH sk L τ) = some (o, cH sk L τ) ∧ ∀ q, o = some q → OBq q ∧ ¬ fI τ q 4 = 0 := by
  have o0 := G0 h0.1
  have hR := GR_Z h0.2.1 hI.1
  obtain ⟨m, hm, em⟩ := hfl
  have e6 : fI τ 0 6 = nI m := (hI.1.1 0 6 (Zc_no (by omega)) (by omega) (by omega) (by omega) (by omega)).trans em
  have no : ∃ o : Option Nat, some ((none : Option Nat), cH sk L τ) = some (o, cH sk L τ) ∧ ∀ q, o = some q → OBq q ∧ ¬ fI τ q 4 = 0 := ⟨none, rfl, fun q e => by cases e⟩
  unfold f_H_memberAt f_H_memberAt_22 f_H_memberAt_48
  by_cases c1 : i < 0
  · rw [if_pos c1]; exact no
  · rw [if_neg c1, C0g6 o0, bs, e6]
    obtain ⟨i', hi', rfl⟩ := nI_of c1
    by_cases c2 : nI m ≤ nI i'
    · rw [if_pos c2]; exact no
    · rw [if_neg c2]
      have hi8 : i' < m := Nat.lt_of_not_le (fun h => c2 (nI_le h hi'))
      by_cases c3 : k < 0
      · rw [if_pos c3]; exact no
      · rw [if_neg c3]
        by_cases c4 : k < nI 8
        · obtain ⟨k', hk', rfl⟩ := nI_of c3
          have hk8 : k' < 8 := Nat.lt_of_not_le (fun h => absurd c4 (nI_nlt h hk'))
          have hq : i' * 8 + k' < 64 := by omega
          have ho := G_of h0.1 hq
          rw [if_pos c4, C0r4 o0 (GR_r (v := 9) hR (by decide)), bs, show nI i' * nI 8 = nI (i' * 8) from (Int32.ofNat_mul i' 8).symm, nI_add, c_aN (G9 h0.1) (Or.inl rfl) (by decide) hq, bs, (hR.2.1 _ hq).2.2.1, bs, C7g4 ho, bs]
          by_cases c5 : fI τ (10 + 2 * (i' * 8 + k')) 4 = 0
          · rw [if_pos c5]; exact no
          · rw [if_neg c5]
            exact ⟨_, rfl, fun q e => by injection e with e; rw [← e]; exact ⟨⟨_, hq, rfl⟩, c5⟩⟩
        · rw [if_neg c4]; exact no
end CCLj
section CCMj
variable {F : Nat} {c : px_CT} {sk : Nat → Nat × Nat × Nat} {L : Nat} {zb : Option Nat} {τ0 τ : px_TT} {r q : Nat} {I : px_TT → Prop} {α : Type} {V : α → Prop}
theorem jso_objAt {i k : Int32} (h4 : S4 sk L τ0) (hI : SJ 0 zb sk L τ0 τ) : ∃ o, f_H_objectAt F c 0 i k (cH sk L τ) = some (o, cH sk L τ) ∧ ∀ q, o = some q → OBq q ∧ Syb τ0 q := by
  have h1 := h4.1.1
  have h0 := h1.1
  obtain ⟨o, e, ho⟩ := jso_memAt (F := F) (c := c) (i := i) (k := k) h0 h4.2.1 hI
  unfold f_H_objectAt f_H_objectAt_19 f_H_objectAt_24
  rw [c_o (G0 h0.1), bs, e, xb_mk]
  cases o with
  | none => exact ⟨none, rfl, fun q e => by cases e⟩
  | some q =>
    obtain ⟨hq, hk⟩ := ho q rfl
    dsimp only
    rw [C7g4 (OBq_o h0 hq), bs]
    by_cases c3 : fI τ q 4 = nI 3
    · rw [if_pos c3]; exact ⟨none, rfl, fun q e => by cases e⟩
    · rw [if_neg c3]
      refine ⟨some q, rfl, fun q' e => ?_⟩
      injection e with e
      subst e
      rw [jSI_q hI hq] at hk c3
      refine ⟨hq, h1.2.1 q hq ?_⟩
      rcases h4.2.2.1 q hq with w | w | w | w
      · exact absurd w hk
      · exact Or.inl w
      · exact Or.inr w
      · exact absurd w c3
theorem jsf_Hlist {i k : Int32} (h4 : S4 sk L τ0) (hF : 65540 < F) (hI : SJ 0 zb sk L τ0 τ) : f_H_objectAt F c 0 i k (cH sk L τ) = some (none, cH sk L τ) ∨ Sf sk L (SJ 0 zb sk L τ0) Any (f_H_list F c 0 i k (cH sk L τ)) := by
  have h1 := h4.1.1
  have h0 := h1.1
  obtain ⟨o, e, ho⟩ := jso_objAt (F := F) (c := c) (i := i) (k := k) h4 hI
  cases o with
  | none => exact Or.inl e
  | some q =>
    obtain ⟨hq, hs⟩ := ho q rfl
    refine Or.inr ?_
    unfold f_H_list
    rw [c_o (G0 h0.1), bs, e, xb_mk]
    dsimp only
    repeat' (first | ((with_reducible refine jsx_outR h0 (by assumption) (fun r hr => ?_))) | ((with_reducible refine sf_x (jsf_list h1 hF ?_ hq hs ?_) ?_); assumption; assumption; intro v τ hv hi) | exact absurd (show nI 0 = 0 from rfl) (by assumption) | exact absurd (show nI 1 = 0 by assumption) (by decide) | ((with_reducible refine sf_i (fun hc => ?_) (fun hc => ?_))) | ((with_reducible refine sf_gF h0 ?_ ?_ ?_ ?_ ?_); decide; decide; decide; decide) | ((with_reducible refine sf_gI ?_ ?_ ?_ ?_); (first | assumption | exact GS_o h0.1 (by decide) (by decide) | exact RRj_o h0 (by assumption) | exact RRj_o h0 (Or.inr (by assumption)) | exact OBq_o h0 (by assumption) | exact OBq_o h0 (Obt_q (by assumption)) | exact G_part h0.1 (by assumption) | exact Nmo_o (by assumption)); decide; decide) | ((with_reducible refine sf_gJ ?_ ?_ ?_ ?_); (first | assumption | exact GS_o h0.1 (by decide) (by decide) | exact RRj_o h0 (by assumption) | exact RRj_o h0 (Or.inr (by assumption)) | exact OBq_o h0 (by assumption) | exact OBq_o h0 (Obt_q (by assumption)) | exact G_part h0.1 (by assumption) | exact Nmo_o (by assumption)); decide; decide) | ((with_reducible refine sf_gN ?_ ?_ ?_ ?_); (first | assumption | exact GS_o h0.1 (by decide) (by decide) | exact RRj_o h0 (by assumption) | exact RRj_o h0 (Or.inr (by assumption)) | exact OBq_o h0 (by assumption) | exact OBq_o h0 (Obt_q (by assumption)) | exact G_part h0.1 (by assumption) | exact Nmo_o (by assumption)); decide; decide) | ((with_reducible refine jsf_gG h0 (by assumption) ?_ ?_ ?_ ?_ (by with_unfolding_all exact rfl) ?_); decide; decide; decide; decide) | ((with_reducible refine sf_o ?_ (fun l => ?_)); (first | assumption | exact GS_o h0.1 (by decide) (by decide) | exact RRj_o h0 (by assumption) | exact RRj_o h0 (Or.inr (by assumption)) | exact OBq_o h0 (by assumption) | exact OBq_o h0 (Obt_q (by assumption)) | exact G_part h0.1 (by assumption) | exact Nmo_o (by assumption))) | ((with_reducible refine sf_s ?_)) | ((with_reducible refine sf_sb (by assumption) ?_)) | ((with_reducible refine sf_r ?_ ?_); (first | exact any | assumption | exact ⟨false, rfl⟩ | exact ⟨true, rfl⟩); assumption) | ((with_reducible refine sf_z ?_ ?_ ?_); (first | exact ⟨false, rfl⟩ | exact ⟨true, rfl⟩ | assumption); (first | exact any | exact ⟨false, rfl⟩ | exact ⟨true, rfl⟩ | assumption); assumption))
theorem jsf_Hcause {i k : Int32} (h4 : S4 sk L τ0) (hF : 65540 < F) (hI : SJ 0 zb sk L τ0 τ) : f_H_memberAt F c 0 i k (cH sk L τ) = some (none, cH sk L τ) ∨ Sf sk L (SJ 0 zb sk L τ0) Any (f_H_cause F c 0 i k (cH sk L τ)) := by
  have h1 := h4.1.1
  have h0 := h1.1
  obtain ⟨o, e, ho⟩ := jso_memAt (F := F) (c := c) (i := i) (k := k) h0 h4.2.1 hI
  cases o with
  | none => exact Or.inl e
  | some q =>
    obtain ⟨hq, hk⟩ := ho q rfl
    refine Or.inr ?_
    unfold f_H_cause
    rw [c_o (G0 h0.1), bs, e, xb_mk]
    dsimp only
    repeat' (first | ((with_reducible refine jsx_outR h0 (by assumption) (fun r hr => ?_))) | ((with_reducible refine sf_x (jsf_nread3 h1 hF ?_) ?_); assumption; intro v τ hv hi) | exact absurd (show nI 0 = 0 from rfl) (by assumption) | exact absurd (show nI 1 = 0 by assumption) (by decide) | ((with_reducible refine sf_i (fun hc => ?_) (fun hc => ?_))) | ((with_reducible refine sf_gF h0 ?_ ?_ ?_ ?_ ?_); decide; decide; decide; decide) | ((with_reducible refine sf_gI ?_ ?_ ?_ ?_); (first | assumption | exact GS_o h0.1 (by decide) (by decide) | exact RRj_o h0 (by assumption) | exact RRj_o h0 (Or.inr (by assumption)) | exact OBq_o h0 (by assumption) | exact OBq_o h0 (Obt_q (by assumption)) | exact G_part h0.1 (by assumption) | exact Nmo_o (by assumption)); decide; decide) | ((with_reducible refine sf_gJ ?_ ?_ ?_ ?_); (first | assumption | exact GS_o h0.1 (by decide) (by decide) | exact RRj_o h0 (by assumption) | exact RRj_o h0 (Or.inr (by assumption)) | exact OBq_o h0 (by assumption) | exact OBq_o h0 (Obt_q (by assumption)) | exact G_part h0.1 (by assumption) | exact Nmo_o (by assumption)); decide; decide) | ((with_reducible refine sf_gN ?_ ?_ ?_ ?_); (first | assumption | exact GS_o h0.1 (by decide) (by decide) | exact RRj_o h0 (by assumption) | exact RRj_o h0 (Or.inr (by assumption)) | exact OBq_o h0 (by assumption) | exact OBq_o h0 (Obt_q (by assumption)) | exact G_part h0.1 (by assumption) | exact Nmo_o (by assumption)); decide; decide) | ((with_reducible refine jsf_gG h0 (by assumption) ?_ ?_ ?_ ?_ (by with_unfolding_all exact rfl) ?_); decide; decide; decide; decide) | ((with_reducible refine sf_o ?_ (fun l => ?_)); (first | assumption | exact GS_o h0.1 (by decide) (by decide) | exact RRj_o h0 (by assumption) | exact RRj_o h0 (Or.inr (by assumption)) | exact OBq_o h0 (by assumption) | exact OBq_o h0 (Obt_q (by assumption)) | exact G_part h0.1 (by assumption) | exact Nmo_o (by assumption))) | ((with_reducible refine sf_s ?_)) | ((with_reducible refine sf_sb (by assumption) ?_)) | ((with_reducible refine sf_r ?_ ?_); (first | exact any | assumption | exact ⟨false, rfl⟩ | exact ⟨true, rfl⟩); assumption) | ((with_reducible refine sf_z ?_ ?_ ?_); (first | exact ⟨false, rfl⟩ | exact ⟨true, rfl⟩ | assumption); (first | exact any | exact ⟨false, rfl⟩ | exact ⟨true, rfl⟩ | assumption); assumption) | ((with_reducible refine sx_of (jso_nstart h0 hF (by assumption) (by first | assumption | exact Obt_q (by assumption))) (fun v => ?_))) | ((with_reducible refine sf_x (jsf_clear ?_ ?_) ?_); assumption; (first | assumption | (unfold RWj; omega)); intro v τ hv hi) | ((with_reducible refine sf_x (jsf_writeTo hF ?_ ?_ ?_) ?_); assumption; (first | assumption | exact GS_o h0.1 (by decide) (by decide) | exact RRj_o h0 (by assumption) | exact RRj_o h0 (Or.inr (by assumption)) | exact OBq_o h0 (by assumption) | exact OBq_o h0 (Obt_q (by assumption)) | exact G_part h0.1 (by assumption) | exact Nmo_o (by assumption)); (first | assumption | (unfold RWj; omega)); intro v τ hv hi))
end CCMj
end
section
/-! named of the class: numbers that stand in the file that it writes -/
theorem isB_ext {x y : Int32} (hx : isB x) (hy : isB y) (h : b8 x = b8 y) : x = y := by
  rw [hx, hy, h]
theorem nB_m (y : Nat) : nB y 0 = nB (y % 256) 0 := by
  refine isB_ext (isB_8 _) (isB_8 _) ?_
  rw [nB_b, nB_b, Nat.pow_zero, Nat.div_one, Nat.div_one]
  omega
theorem ez_dig : ∀ (l : List Nat) (j : Nat), (∀ x, x ∈ l → x < 256) → ez l / 256 ^ j % 256 = l.getD j 0
  | [], j, _ => by
    show 0 / 256 ^ j % 256 = 0
    rw [Nat.zero_div]
  | x :: l, 0, h => by
    have h1 := h x (List.mem_cons_self ..)
    show (x + 256 * ez l) / 256 ^ 0 % 256 = x
    rw [Nat.pow_zero, Nat.div_one]
    omega
  | x :: l, j + 1, h => by
    have h1 := h x (List.mem_cons_self ..)
    have ih := ez_dig l j (fun y hy => h y (List.mem_cons_of_mem _ hy))
    show (x + 256 * ez l) / 256 ^ (j + 1) % 256 = (x :: l).getD (j + 1) 0
    rw [Nat.pow_succ, Nat.mul_comm (256 ^ j) 256, ← Nat.div_div_eq_div_mul, show (x + 256 * ez l) / 256 = ez l by omega, ih]
    rfl
/-- the letter at j of a name -/
theorem nm_byte {w : List Nat} {j : Nat} (hw : okN w) (hj : j < 24) : (if j < 8 then nmL w else if j < 16 then nmM w else nmH w) / 256 ^ (j % 8) % 256 = w.getD j 0 := by
  have hb := hw.2
  by_cases c1 : j < 8
  · rw [if_pos c1, show j % 8 = j by omega]
    unfold nmL
    rw [ez_dig _ _ (fun x hx => hb x (List.mem_of_mem_take hx)), List.getD_eq_getElem?_getD, List.getD_eq_getElem?_getD, List.getElem?_take_of_lt c1]
  · rw [if_neg c1]
    by_cases c2 : j < 16
    · rw [if_pos c2, show j % 8 = j - 8 by omega]
      unfold nmM
      rw [ez_dig _ _ (fun x hx => hb x (List.mem_of_mem_drop (List.mem_of_mem_take hx))), List.getD_eq_getElem?_getD, List.getD_eq_getElem?_getD, List.getElem?_take_of_lt (by omega), List.getElem?_drop, show 8 + (j - 8) = j by omega]
    · rw [if_neg c2, show j % 8 = j - 16 by omega]
      unfold nmH
      rw [ez_dig _ _ (fun x hx => hb x (List.mem_of_mem_drop hx)), List.getD_eq_getElem?_getD, List.getD_eq_getElem?_getD, List.getElem?_drop, show 16 + (j - 16) = j by omega]
theorem nm_64 {w : List Nat} (hw : okN w) : nmL w < 2 ^ 64 ∧ nmM w < 2 ^ 64 ∧ nmH w < 2 ^ 64 := by
  have hb := hw.2
  have hp : ∀ {n : Nat}, n ≤ 8 → 256 ^ n ≤ 2 ^ 64 := fun {n} h => Nat.le_trans (Nat.pow_le_pow_right (n := 256) (by decide) h) (by decide)
  have hl := hw.1
  refine ⟨Nat.lt_of_lt_of_le (ez_lt _ (fun x hx => hb x (List.mem_of_mem_take hx))) (hp ?_), Nat.lt_of_lt_of_le (ez_lt _ (fun x hx => hb x (List.mem_of_mem_drop (List.mem_of_mem_take hx)))) (hp ?_), Nat.lt_of_lt_of_le (ez_lt _ (fun x hx => hb x (List.mem_of_mem_drop hx))) (hp ?_)⟩
  · rw [List.length_take]; omega
  · rw [List.length_take]; omega
  · rw [List.length_drop]; omega
section CNF
variable {F : Nat} {c : px_CT} {sk : Nat → Nat × Nat × Nat} {L : Nat} {r A n : Nat}
theorem wP_byte {X j : Nat} {u : px_FW} (hj : j < 24) (hX : X < 2 ^ 64) (hn : u.1 + 1 ≤ n) : (wPut n 1 ((((lN X).toUInt64 >>> (((nI 8) * ((nI j) &&& (nI 7))).toInt64.toUInt64 &&& Int64.toUInt64 63)).toInt64)) u) = (u.1 + 1, upd u.2 u.1 (nB (X / 256 ^ (j % 8) % 256) 0)) := by
  have hd : X / 2 ^ (8 * (j % 8)) < 2 ^ 64 := Nat.lt_of_le_of_lt (Nat.div_le_self _ _) hX
  have e : ((lN X).toUInt64 >>> (((nI 8) * ((nI j) &&& (nI 7))).toInt64.toUInt64 &&& Int64.toUInt64 63)).toInt64 = lN (X / 2 ^ (8 * (j % 8))) := by
    rw [pk_andN (by omega) 3 (by decide), pk_mul]
    exact wb_shr hX (by omega)
  rw [e]
  unfold wPut
  rw [itr_s, itr_0]
  unfold wP1
  rw [if_neg (by omega), bV_n hd (by decide), nB_m, show (2 : Nat) ^ (8 * (j % 8)) = 256 ^ (j % 8) by rw [Nat.pow_mul]]
/-- the letters of a name are put -/
theorem k_writeTo2C {p : Nat} {w : List Nat} (hF : 1 < F) (hp : ob sk L 5 p) (hpr : p ≠ r) (hw : okN w) : ∀ (d j f : Nat) (τ : px_TT), j + d = w.length → d < f → isNm τ p w → rowOK sk L τ r A n → ∃ τ', f_Name_writeTo_2 F c f p r (nI j) (cH sk L τ) = some ((), cH sk L τ') ∧ rowOK sk L τ' r A n ∧ frRw r A τ τ' ∧ ∀ u, fW r A n τ u → u.1 + d ≤ n → ∃ g, fW r A n τ' (u.1 + d, g) ∧ (∀ i, i < u.1 → g i = u.2 i) ∧ ∀ t, t < d → g (u.1 + t) = nB (w.getD (j + t) 0) 0 := by
  have hl := hw.1
  have h64 := nm_64 hw
  intro d
  induction d with
  | zero =>
    intro j f τ hj hf hm h
    obtain ⟨f, rfl⟩ : ∃ x, f = x + 1 := ⟨f - 1, by omega⟩
    refine ⟨τ, ?_, h, frRw_refl, fun u hu _ => ⟨u.2, hu, fun _ _ => rfl, fun t ht => absurd ht (Nat.not_lt_zero _)⟩⟩
    unfold f_Name_writeTo_2 f_Name_writeTo_67
    rw [C5g3 hp, bs, hm.2.2.2, if_pos (nI_le (by omega) (by omega))]
  | succ d ih =>
    intro j f τ hj hf hm h
    obtain ⟨f, rfl⟩ : ∃ x, f = x + 1 := ⟨f - 1, by omega⟩
    have step : ∀ X : Nat, X < 2 ^ 64 → X / 256 ^ (j % 8) % 256 = w.getD j 0 → ∃ τ', f_Name_writeTo_46 F c (f_Name_writeTo_2 F c f) p r (nI j) (lN X) (cH sk L τ) = some ((), cH sk L τ') ∧ rowOK sk L τ' r A n ∧ frRw r A τ τ' ∧ ∀ u, fW r A n τ u → u.1 + (d + 1) ≤ n → ∃ g, fW r A n τ' (u.1 + (d + 1), g) ∧ (∀ i, i < u.1 → g i = u.2 i) ∧ ∀ t, t < d + 1 → g (u.1 + t) = nB (w.getD (j + t) 0) 0 := fun X hX eX => by
      obtain ⟨τ1, a1, a2, a3, a4⟩ := k_putC (F := F) (c := c) (v := (((lN X).toUInt64 >>> (((nI 8) * ((nI j) &&& (nI 7))).toInt64.toUInt64 &&& Int64.toUInt64 63)).toInt64)) (k := 1) hF (by decide) h
      obtain ⟨τ2, b1, b2, b3, b4⟩ := ih (j + 1) f τ1 (by omega) (by omega) ⟨(a3.2.1 p 0).trans hm.1, (a3.2.1 p 1).trans hm.2.1, (a3.2.1 p 2).trans hm.2.2.1, (a3.1 p 3 (Or.inl hpr)).trans hm.2.2.2⟩ a2
      refine ⟨τ2, ?_, b2, frRw_trans a3 b3, fun u hu hn => ?_⟩
      · unfold f_Name_writeTo_46
        rw [c_o h.1, bs, a1, xb_mk, nI_add]
        exact b1
      · have q1 := a4 u hu
        rw [wP_byte (by omega) hX (by omega), eX] at q1
        obtain ⟨g, g1, g2, g3⟩ := b4 _ q1 (by show u.1 + 1 + d ≤ n; omega)
        have g1 : fW r A n τ2 (u.1 + 1 + d, g) := g1
        have g2 : ∀ i, i < u.1 + 1 → g i = upd u.2 u.1 (nB (w.getD j 0) 0) i := g2
        have g3 : ∀ t, t < d → g (u.1 + 1 + t) = nB (w.getD (j + 1 + t) 0) 0 := g3
        refine ⟨g, by rw [show u.1 + (d + 1) = u.1 + 1 + d by omega]; exact g1, fun i hi => (g2 i (by omega)).trans (pk_un (by omega)), fun t ht => ?_⟩
        by_cases c0 : t = 0
        · rw [c0, Nat.add_zero, Nat.add_zero, g2 u.1 (Nat.lt_succ_self _)]
          exact pk_us
        · have := g3 (t - 1) (by omega)
          rw [show u.1 + 1 + (t - 1) = u.1 + t by omega, show j + 1 + (t - 1) = j + t by omega] at this
          exact this
    have hb := nm_byte (j := j) hw (by omega)
    unfold f_Name_writeTo_2 f_Name_writeTo_67
    rw [C5g3 hp, bs, hm.2.2.2, if_neg (nI_ge (show j < w.length by omega) (by omega)), if_neg (nI_ge (show j < 24 by omega) (by decide)), C5g0 hp, C5g1 hp, C5g2 hp, bs, bs, bs, hm.1, hm.2.1, hm.2.2.1]
    by_cases c1 : j < 8
    · rw [if_neg (nI_ge c1 (by decide))]
      rw [if_pos c1] at hb
      exact step _ h64.1 hb
    · rw [if_pos (nI_le (by omega) (by omega))]
      rw [if_neg c1] at hb
      by_cases c2 : j < 16
      · rw [if_neg (nI_ge c2 (by decide))]
        rw [if_pos c2] at hb
        exact step _ h64.2.1 hb
      · rw [if_pos (nI_le (by omega) (by omega))]
        rw [if_neg c2] at hb
        exact step _ h64.2.2 hb
end CNF
/-- a number that stands in a row -/
def FCT (r p k x : Nat) (τ : px_TT) : Prop := (∃ z, p + k ≤ z ∧ z ≤ 65536 ∧ fI τ r 1 = nI z) ∧ vAt (eI τ (r + 1)) p k x
theorem stA_FCT {r p k x : Nat} : StA r (FCT r p k x) := ⟨fun τ τ' h f => by
  obtain ⟨⟨z, a1, a2, a3⟩, a4⟩ := h
  obtain ⟨z', b1, b2, b3, b4⟩ := f z a2 a3
  exact ⟨⟨z', by omega, b2, b3⟩, fun j hj => (b4 (p + j) (by omega)).trans (a4 j hj)⟩, fun τ τ' h e1 e2 => by
  obtain ⟨⟨z, a1, a2, a3⟩, a4⟩ := h
  exact ⟨⟨z, a1, a2, e1.trans a3⟩, by rw [e2]; exact a4⟩⟩
/-- the file so far: the link's head and rows, and numbers behind them -/
def PF (r H : Nat) (W : Nat → Int32) (M : Nat → Nat → Nat → Prop) (τ : px_TT) : Prop := PRf r H W τ ∧ ∀ p k x, M p k x → 64 ≤ p ∧ FCT r p k x τ
theorem stA_PF {r H : Nat} {W : Nat → Int32} {M : Nat → Nat → Nat → Prop} : StA r (PF r H W M) := ⟨fun τ τ' h f => ⟨stA_PRf.1 τ τ' h.1 f, fun p k x hM => ⟨(h.2 p k x hM).1, stA_FCT.1 τ τ' (h.2 p k x hM).2 f⟩⟩, fun τ τ' h e1 e2 => ⟨stA_PRf.2 τ τ' h.1 e1 e2, fun p k x hM => ⟨(h.2 p k x hM).1, stA_FCT.2 τ τ' (h.2 p k x hM).2 e1 e2⟩⟩⟩
def adM (M : Nat → Nat → Nat → Prop) (p0 k0 x0 p k x : Nat) : Prop := M p k x ∨ (p = p0 ∧ k = k0 ∧ x = x0)
section CNG
variable {F : Nat} {c : px_CT} {sk : Nat → Nat × Nat × Nat} {L : Nat} {zb : Option Nat} {τ0 τ : px_TT} {r cc U H : Nat} {W : Nat → Int32} {M M' : Nat → Nat → Nat → Prop}
theorem SZQ_mo (hI : SZQ (PF r H W M) zb sk L τ0 r 65536 cc τ) (h : ∀ p k x, M' p k x → M p k x) : SZQ (PF r H W M') zb sk L τ0 r 65536 cc τ := ⟨hI.1, fun hc => ⟨(hI.2.1 hc).1, fun p k x hM => (hI.2.1 hc).2 p k x (h p k x hM)⟩, stA_PF⟩
theorem sqf_put {x k : Nat} (hF : 65540 < F) (hr : TRw r (r + 1) 65536) (hk : k ≤ 8) (hx : x < 2 ^ 64) (h64 : 64 ≤ cc) (hcc : cc + k ≤ 65536) (hI : SZQ (PF r H W M) zb sk L τ0 r 65536 cc τ) : Sf sk L (SZQ (PF r H W (adM M cc k x)) zb sk L τ0 r 65536 (cc + k)) Any (f_Row_put F c r (nI k) (lN x) (cH sk L τ)) := by
  obtain ⟨v1, τ1, e1, _, s1, s2, s3⟩ := sp_put (F := F) (c := c) (v := lN x) hF hr hk hI (by omega)
  obtain ⟨τ2, e2, k2, f2, w2⟩ := k_putC (F := F) (c := c) (v := lN x) (k := k) (by omega) (by omega) (SI_row hI.1.1 hr)
  have e : cH sk L τ2 = cH sk L τ1 := by
    rw [e1] at e2
    exact (Prod.mk.inj (Option.some.inj e2)).2.symm
  obtain ⟨b1, b2, b3⟩ := w2 (cc, eI τ (r + 1)) ⟨by show cc ≤ 65536; omega, (hI.1.2.1.1 (by omega)).1, fun _ _ => rfl⟩
  obtain ⟨z1, _, z3⟩ := wPut_at (w := (cc, eI τ (r + 1))) hx hk hcc
  have z1 : (wPut 65536 k (lN x) (cc, eI τ (r + 1))).1 = cc + k := z1
  have z3 : vAt (wPut 65536 k (lN x) (cc, eI τ (r + 1))).2 cc k x := z3
  refine ⟨v1, τ1, e1, any, s1, fun _ => ⟨(s2 (by omega)).1, fun p k' x' hM => ?_⟩, stA_PF⟩
  rcases hM with hM | ⟨h1, h2, h3⟩
  · exact (s2 (by omega)).2 p k' x' hM
  · rw [h1, h2, h3]
    refine ⟨h64, ⟨cc + k, Nat.le_refl _, hcc, (s1.2.1.1 hcc).1⟩, fun j hj => ?_⟩
    rw [← cH_eI k2.2.1 e, b3 (cc + j) (by rw [z1]; omega)]
    exact z3 j hj
/-- numbers at places of the head that tell of sections -/
theorem sqf_set {x q k : Nat} {N : Nat → Nat → Nat → Prop} (hF : 65540 < F) (hr : TRw r (r + 1) 65536) (hk : k ≤ 8) (hq : q + k ≤ 64) (hx : x < 2 ^ 64) (he : ∀ i, q ≤ i → i < q + k → Ex7 i) (h64 : 64 ≤ cc) (hcc : cc ≤ 65536) (hI : SZQ (PF r H W M) zb sk L τ0 r 65536 cc τ ∧ ∀ p k x, N p k x → p + k ≤ 64 ∧ vAt (eI τ (r + 1)) p k x) (hN : ∀ p' k' x', N p' k' x' → p' + k' ≤ q ∨ q + k ≤ p') : Sf sk L (fun τ => SZQ (PF r H W M) zb sk L τ0 r 65536 cc τ ∧ ∀ p' k' x', adM N q k x p' k' x' → p' + k' ≤ 64 ∧ vAt (eI τ (r + 1)) p' k' x') Any (f_Row_set F c r (nI q) (nI k) (lN x) (cH sk L τ)) := by
  obtain ⟨hI, hN1⟩ := hI
  obtain ⟨v1, τ1, e1, _, s1⟩ := sz_set (F := F) (c := c) (v := lN x) (p := nI q) hF hr hk hI.1
  obtain ⟨τ2, e2, k2, f2, w2⟩ := k_setC (F := F) (c := c) (v := lN x) (k := k) (p := nI q) (by omega) (by omega) (SI_row hI.1.1 hr)
  have e : cH sk L τ2 = cH sk L τ1 := by
    rw [e1] at e2
    exact (Prod.mk.inj (Option.some.inj e2)).2.symm
  obtain ⟨⟨⟨z, a1, a2, a3⟩, a4⟩, hM⟩ := hI.2.1 (by omega)
  have ez : z = cc := (nI_eq (by omega) (by omega)).mp (a3.symm.trans (hI.1.2.1.1 hcc).1)
  obtain ⟨b1, b2, b3⟩ := w2 (z, eI τ (r + 1)) ⟨a2, a3, fun _ _ => rfl⟩
  have e0 : (wSet (nI q) k (lN x) (z, eI τ (r + 1))).1 = z := wSet_z
  rw [e0] at b2 b3
  have g1 : ∀ i, i < z → eI τ1 (r + 1) i = (wSet (nI q) k (lN x) (z, eI τ (r + 1))).2 i := fun i hi => by
    rw [← cH_eI k2.2.1 e]
    exact b3 i hi
  have g2 : ∀ i, i < z → (i < q ∨ q + k ≤ i) → eI τ1 (r + 1) i = eI τ (r + 1) i := fun i hi h => by
    rw [g1 i hi, wSet_ne (by omega) h]
  have ez1 : fI τ1 r 1 = nI z := (s1.2.1.1 hcc).1.trans (by rw [ez])
  refine ⟨v1, τ1, e1, any, ⟨s1, fun _ => ⟨⟨⟨z, a1, a2, ez1⟩, fun i hi hx7 => ?_⟩, fun p k' x' hp => ?_⟩, stA_PF⟩, fun p k' x' hp => ?_⟩
  · have hn : i < q ∨ q + k ≤ i := by
      rcases Nat.lt_or_ge i q with h | h
      · exact Or.inl h
      · rcases Nat.lt_or_ge i (q + k) with h2 | h2
        · exact absurd (he i h h2) hx7
        · exact Or.inr h2
    rw [g2 i (by omega) hn]
    exact a4 i hi hx7
  · obtain ⟨m1, ⟨z', m2, m3, m4⟩, m5⟩ := hM p k' x' hp
    have ezz : z' = z := (nI_eq (by omega) (by omega)).mp (m4.symm.trans a3)
    refine ⟨m1, ⟨z, by omega, a2, ez1⟩, fun j hj => ?_⟩
    rw [g2 (p + j) (by omega) (by omega)]
    exact m5 j hj
  · rcases hp with hp | ⟨h1, h2, h3⟩
    · obtain ⟨m1, m2⟩ := hN1 p k' x' hp
      have hd := hN p k' x' hp
      refine ⟨m1, fun j hj => ?_⟩
      rw [g2 (p + j) (by omega) (by omega)]
      exact m2 j hj
    · rw [h1, h2, h3]
      refine ⟨hq, fun j hj => ?_⟩
      rw [g1 (q + j) (by omega)]
      exact wSet_at (w := (z, eI τ (r + 1))) hx hk (by omega) (by show q + k ≤ z; omega) j hj
/-- a name is put -/
theorem sqf_wto {p : Nat} {w : List Nat} (hF : 65540 < F) (hr : TRw r (r + 1) 65536) (hp : ob sk L 5 p) (hpr : p ≠ r) (hw : okN w) (hm : isNm τ p w) (h64 : 64 ≤ cc) (hcc : cc + w.length ≤ 65536) (hI : SZQ (PF r H W M) zb sk L τ0 r 65536 cc τ) : Sf sk L (SZQ (PF r H W (fun p' k' x' => M p' k' x' ∨ ∃ t, t < w.length ∧ p' = cc + t ∧ k' = 1 ∧ x' = w.getD t 0)) zb sk L τ0 r 65536 (cc + w.length)) Any (f_Name_writeTo F c p r (cH sk L τ)) := by
  have hl := hw.1
  obtain ⟨v1, τ1, e1, _, s1, s2, s3⟩ := sp_wto (F := F) (c := c) hF hr hp hpr (show w.length ≤ 24 by omega) hm.2.2.2 hI (by omega)
  obtain ⟨τ2, e2, k2, f2, w2⟩ := k_writeTo2C (F := F) (c := c) (w := w) (by omega) hp hpr hw w.length 0 F τ (Nat.zero_add _) (by omega) hm (SI_row hI.1.1 hr)
  have e : cH sk L τ2 = cH sk L τ1 := by
    unfold f_Name_writeTo at e1
    rw [e1] at e2
    exact (Prod.mk.inj (Option.some.inj e2)).2.symm
  obtain ⟨g, ⟨b1, b2, b3⟩, b4, b5⟩ := w2 (cc, eI τ (r + 1)) ⟨by show cc ≤ 65536; omega, (hI.1.2.1.1 (by omega)).1, fun _ _ => rfl⟩ hcc
  have b3 : ∀ i, i < cc + w.length → eI τ2 (r + 1) i = g i := b3
  have b5 : ∀ t, t < w.length → g (cc + t) = nB (w.getD (0 + t) 0) 0 := b5
  refine ⟨v1, τ1, e1, any, s1, fun _ => ⟨(s2 (by omega)).1, fun p' k' x' hM => ?_⟩, stA_PF⟩
  rcases hM with hM | ⟨t, h0, h1, h2, h3⟩
  · exact (s2 (by omega)).2 p' k' x' hM
  · rw [h1, h2, h3]
    refine ⟨by omega, ⟨cc + w.length, by omega, hcc, (s1.2.1.1 hcc).1⟩, fun j hj => ?_⟩
    obtain rfl : j = 0 := by omega
    show eI _ (r + 1) (cc + t) = nB (w.getD t 0) 0
    rw [← cH_eI k2.2.1 e, b3 (cc + t) (by omega), b5 t h0, Nat.zero_add]
end CNG
end
section
/-! named of the class: what its tables tell (made by a program, mkfzt.py) -/
/-- the number of a row of sections, or of none -/
def rwV (v : Int32) : Prop := ∃ w, 0 < w ∧ w < 65536 ∧ v = nI w
section CNT
variable {F : Nat} {c : px_CT} {sk : Nat → Nat × Nat × Nat} {L : Nat} {zb : Option Nat} {τ0 τ : px_TT} {r A n cc U : Nat}
theorem sv_ro_108 {s : Nat} (h0 : S0 sk L τ0) (hF : 65540 < F) (hs : s < 3) (hI : SI zb sk L τ0 τ) : ∀ (d j f m : Nat), j + d = s → d < f → 1 ≤ m → m ≤ 1 + j → Sf sk L (fun τ' => τ' = τ) rwV (f_Scribe_rowOf_108 F c f 1713 (nI s) (nI m) (nI j) (cH sk L τ)) := by
  have o13 := G1713 h0.1
  have hR := GR_Z h0.2.1 hI.1
  have o17 := G1700 h0.1
  intro d
  induction d with
  | zero =>
    intro j f m hj hf h1 h2
    obtain ⟨f, rfl⟩ : ∃ y, f = y + 1 := ⟨f - 1, by omega⟩
    unfold f_Scribe_rowOf_108 f_Scribe_rowOf_144
    rw [if_pos (nI_le (by omega) (by omega))]
    exact sf_r ⟨m, by omega, by omega, rfl⟩ rfl
  | succ d ih =>
    intro j f m hj hf h1 h2
    obtain ⟨f, rfl⟩ : ∃ y, f = y + 1 := ⟨f - 1, by omega⟩
    unfold f_Scribe_rowOf_108 f_Scribe_rowOf_135
    rw [if_neg (nI_ge (by omega) (by omega)), C11r1 o13 (GR_r (v := 1700) hR (by decide)), bs, C2r4 o17 (GR_r (v := 1703) hR (by decide)), bs, c_aI (G1703 h0.1) (Or.inr (Or.inr rfl)) (by decide) (by omega), bs, nI_add, nI_add, nI_add]
    refine sf_i (fun _ => ?_) (fun _ => ?_)
    · exact ih (j + 1) f (m + 0) (by omega) (by omega) (by omega) (by omega)
    · exact ih (j + 1) f (m + 1) (by omega) (by omega) (by omega) (by omega)
theorem sv_ro_83 {s : Nat} (h0 : S0 sk L τ0) (hF : 65540 < F) (hs : s < 3) (hI : SI zb sk L τ0 τ) : Sf sk L (fun τ' => τ' = τ) rwV (f_Scribe_rowOf_83 F c 1713 (nI s) (cH sk L τ)) := by
  have o13 := G1713 h0.1
  have hR := GR_Z h0.2.1 hI.1
  have o17 := G1700 h0.1
  unfold f_Scribe_rowOf_83
  rw [C11r1 o13 (GR_r (v := 1700) hR (by decide)), bs, C2r4 o17 (GR_r (v := 1703) hR (by decide)), bs, c_aI (G1703 h0.1) (Or.inr (Or.inr rfl)) (by decide) (by omega), bs]
  exact sf_i (fun _ => sf_r ⟨65521, by decide, by decide, rfl⟩ rfl) (fun _ => sv_ro_108 h0 hF hs hI s 0 F 1 (Nat.zero_add _) (by omega) (Nat.le_refl _) (Nat.le_refl _))
theorem sv_rowOf {p : Nat} (h0 : S0 sk L τ0) (hK : KT c) (hF : 65540 < F) (hn : Nmo sk L τ0 p) (hI : SI zb sk L τ0 τ) : Sf sk L (fun τ' => τ' = τ) rwV (f_Scribe_rowOf F c 1713 (some p) (cH sk L τ)) := by
  have ho := hn.2.1
  unfold f_Scribe_rowOf f_Scribe_rowOf_29 f_Scribe_rowOf_30 f_Scribe_rowOf_50 f_Scribe_rowOf_51 f_Scribe_rowOf_64
  by_cases h5 : fI τ p 5 = nI 1
  · obtain ⟨x, hx, e6⟩ := Nmo_6 hI hn h5
    have key : ∀ {α : Type} {V : α → Prop} {f : Option Nat → Option (α × px_H)}, Sf sk L (fun τ' => τ' = τ) V (f (some (152 + x))) → Sf sk L (fun τ' => τ' = τ) V ((xgN (cH sk L τ) 5 6 p).bind f) := fun g => by
      rw [C5n6 ho, bs, e6]; exact g
    repeat' (first | (exact sf_r ⟨65521, by decide, by decide, rfl⟩ rfl) | ((with_reducible refine key ?_)) | ((with_reducible refine sx_segOf hK ?_ (fun s hs => ?_)); exact G_part h0.1 hx) | (exact sv_ro_83 h0 hF (by assumption) hI) | (exact sv_ro_83 (s := 2) h0 hF (by decide) hI) | exact absurd (show nI 0 = 0 from rfl) (by assumption) | exact absurd (show nI 1 = 0 by assumption) (by decide) | ((with_reducible refine sf_i (fun hc => ?_) (fun hc => ?_))) | ((with_reducible refine sf_gF h0 ?_ ?_ ?_ ?_ ?_); decide; decide; decide; decide) | ((with_reducible refine sf_gI ?_ ?_ ?_ ?_); (first | assumption | exact GS_o h0.1 (by decide) (by decide) | exact RRd_o h0 (by assumption) | exact RRd_o h0 (Or.inr (by assumption)) | exact OBq_o h0 (by assumption) | exact OBq_o h0 (Obt_q (by assumption)) | exact G_part h0.1 (by assumption) | exact Nmo_o (by assumption)); decide; decide) | ((with_reducible refine sf_gJ ?_ ?_ ?_ ?_); (first | assumption | exact GS_o h0.1 (by decide) (by decide) | exact RRd_o h0 (by assumption) | exact RRd_o h0 (Or.inr (by assumption)) | exact OBq_o h0 (by assumption) | exact OBq_o h0 (Obt_q (by assumption)) | exact G_part h0.1 (by assumption) | exact Nmo_o (by assumption)); decide; decide) | ((with_reducible refine sf_gN ?_ ?_ ?_ ?_); (first | assumption | exact GS_o h0.1 (by decide) (by decide) | exact RRd_o h0 (by assumption) | exact RRd_o h0 (Or.inr (by assumption)) | exact OBq_o h0 (by assumption) | exact OBq_o h0 (Obt_q (by assumption)) | exact G_part h0.1 (by assumption) | exact Nmo_o (by assumption)); decide; decide) | ((with_reducible refine sf_gG h0 (by assumption) ?_ ?_ ?_ ?_ (by with_unfolding_all exact rfl) ?_); decide; decide; decide; decide) | ((with_reducible refine sf_o ?_ (fun l => ?_)); (first | assumption | exact GS_o h0.1 (by decide) (by decide) | exact RRd_o h0 (by assumption) | exact RRd_o h0 (Or.inr (by assumption)) | exact OBq_o h0 (by assumption) | exact OBq_o h0 (Obt_q (by assumption)) | exact G_part h0.1 (by assumption) | exact Nmo_o (by assumption))) | ((with_reducible refine sf_s ?_)) | ((with_reducible refine sf_sb (by assumption) ?_)) | ((with_reducible refine sf_r ?_ ?_); (first | exact any | assumption | exact ⟨false, rfl⟩ | exact ⟨true, rfl⟩); assumption) | ((with_reducible refine sf_z ?_ ?_ ?_); (first | exact ⟨false, rfl⟩ | exact ⟨true, rfl⟩ | assumption); (first | exact any | exact ⟨false, rfl⟩ | exact ⟨true, rfl⟩ | assumption); assumption) | (dsimp only))
  · repeat' (first | (exact sf_r ⟨65521, by decide, by decide, rfl⟩ rfl) | (exact absurd (by assumption) h5) | (exact sv_ro_83 (s := 2) h0 hF (by decide) hI) | exact absurd (show nI 0 = 0 from rfl) (by assumption) | exact absurd (show nI 1 = 0 by assumption) (by decide) | ((with_reducible refine sf_i (fun hc => ?_) (fun hc => ?_))) | ((with_reducible refine sf_gF h0 ?_ ?_ ?_ ?_ ?_); decide; decide; decide; decide) | ((with_reducible refine sf_gI ?_ ?_ ?_ ?_); (first | assumption | exact GS_o h0.1 (by decide) (by decide) | exact RRd_o h0 (by assumption) | exact RRd_o h0 (Or.inr (by assumption)) | exact OBq_o h0 (by assumption) | exact OBq_o h0 (Obt_q (by assumption)) | exact G_part h0.1 (by assumption) | exact Nmo_o (by assumption)); decide; decide) | ((with_reducible refine sf_gJ ?_ ?_ ?_ ?_); (first | assumption | exact GS_o h0.1 (by decide) (by decide) | exact RRd_o h0 (by assumption) | exact RRd_o h0 (Or.inr (by assumption)) | exact OBq_o h0 (by assumption) | exact OBq_o h0 (Obt_q (by assumption)) | exact G_part h0.1 (by assumption) | exact Nmo_o (by assumption)); decide; decide) | ((with_reducible refine sf_gN ?_ ?_ ?_ ?_); (first | assumption | exact GS_o h0.1 (by decide) (by decide) | exact RRd_o h0 (by assumption) | exact RRd_o h0 (Or.inr (by assumption)) | exact OBq_o h0 (by assumption) | exact OBq_o h0 (Obt_q (by assumption)) | exact G_part h0.1 (by assumption) | exact Nmo_o (by assumption)); decide; decide) | ((with_reducible refine sf_gG h0 (by assumption) ?_ ?_ ?_ ?_ (by with_unfolding_all exact rfl) ?_); decide; decide; decide; decide) | ((with_reducible refine sf_o ?_ (fun l => ?_)); (first | assumption | exact GS_o h0.1 (by decide) (by decide) | exact RRd_o h0 (by assumption) | exact RRd_o h0 (Or.inr (by assumption)) | exact OBq_o h0 (by assumption) | exact OBq_o h0 (Obt_q (by assumption)) | exact G_part h0.1 (by assumption) | exact Nmo_o (by assumption))) | ((with_reducible refine sf_s ?_)) | ((with_reducible refine sf_sb (by assumption) ?_)) | ((with_reducible refine sf_r ?_ ?_); (first | exact any | assumption | exact ⟨false, rfl⟩ | exact ⟨true, rfl⟩); assumption) | ((with_reducible refine sf_z ?_ ?_ ?_); (first | exact ⟨false, rfl⟩ | exact ⟨true, rfl⟩ | assumption); (first | exact any | exact ⟨false, rfl⟩ | exact ⟨true, rfl⟩ | assumption); assumption))
end CNT
/-- the definition at i: its name, its address -/
abbrev nmY (Y : px_Y) (i : Nat) : List Nat × Int64 := Y.2.2.2.1.getD (Y.2.2.2.2.getD i 0) ([], 0)
def adNY (Y : px_Y) (i : Nat) : Nat := (nmY Y i).2.toBitVec.toNat
theorem adNY_l (Y : px_Y) (i : Nat) : (nmY Y i).2 = lN (adNY Y i) := wb_inj (by rw [wb_tb]; simp [adNY])
theorem adNY_lt (Y : px_Y) (i : Nat) : adNY Y i < 2 ^ 64 := (nmY Y i).2.toBitVec.isLt
/-- the infos of the definitions -/
def IFO (τ : px_TT) (n : Nat) : Prop := ∀ i, i < n → ∃ p, eN τ 1693 i = some p ∧ isI (fI τ p 9)
/-- where the name of the definition at i begins, in the names -/
abbrev xoY (Y : px_Y) (i : Nat) : Nat := 1 + sumT (fun i => mpL Y i + 1) i
theorem xoY_s (Y : px_Y) (i : Nat) : xoY Y (i + 1) = xoY Y i + (mpL Y i + 1) := by
  show 1 + (sumT (fun i => mpL Y i + 1) i + (mpL Y i + 1)) = 1 + sumT (fun i => mpL Y i + 1) i + (mpL Y i + 1)
  omega
/-- the numbers of the first i symbols -/
def SYL (sp : Nat) (xo nf wh ad : Nat → Nat) (i p k x : Nat) : Prop := ∃ j, j < i ∧ ((p = sp + 24 * (j + 1) ∧ k = 4 ∧ x = xo j) ∨ (p = sp + 24 * (j + 1) + 4 ∧ k = 1 ∧ x = nf j) ∨ (p = sp + 24 * (j + 1) + 6 ∧ k = 2 ∧ x = wh j) ∨ (p = sp + 24 * (j + 1) + 8 ∧ k = 8 ∧ x = ad j))
/-- what infos and rows may be -/
def SYo (nf wh : Nat → Nat) (i : Nat) : Prop := ∀ j, j < i → (nf j < 256 ∧ (nf j / 16 = 1 ∨ nf j / 16 = 2)) ∧ 0 < wh j ∧ wh j < 65536
/-- the letters of the first i names, with a 0 behind each -/
def LTL (np : Nat) (xo : Nat → Nat) (wt : Nat → List Nat) (i p k x : Nat) : Prop := k = 1 ∧ ∃ j, j < i ∧ ((∃ t, t < (wt j).length ∧ p = np + xo j + t ∧ x = (wt j).getD t 0) ∨ (p = np + xo j + (wt j).length ∧ x = 0))
section CNU
variable {F : Nat} {c : px_CT} {sk : Nat → Nat × Nat × Nat} {L : Nat} {own : Nat → Nat × Nat} {τ0 τ : px_TT} {fs : List (Nat × (Nat → Nat))} {gs : List (List Nat × Int64)} {ws : List (List Nat)} {n : Nat} {b : Nat → Nat} {a : Int32} {Y : px_Y} {r H cc : Nat} {zb : Option Nat} {W0 : Nat → Int32} {M : Nat → Nat → Nat → Prop}
theorem z_defX {i : Nat} (hC : CV sk L own τ0 fs gs ws n b a Y) (ha : a = 0) (hod : Y.2.2.2.2.length ≤ 4096) (hif : IFO τ0 Y.2.2.2.2.length) (hi : i < Y.2.2.2.2.length) : ∃ p v, Nmo sk L τ0 p ∧ okN (nmY Y i).1 ∧ nT (nmY Y i).1 ∧ (v < 256 ∧ (v / 16 = 1 ∨ v / 16 = 2)) ∧ ∀ τ, SI none sk L τ0 τ → f_Link_definedAt F c 147 (nI i) (cH sk L τ) = some (some p, cH sk L τ) ∧ isNm τ p (nmY Y i).1 ∧ fJ τ p 14 = lN (adNY Y i) ∧ fI τ p 9 = nI v := by
  obtain ⟨p, hp, _, hq⟩ := z_defined (F := F) (c := c) (i := i) hC ha hod hi
  obtain ⟨⟨hns, hnt⟩, hna, e15, hod2⟩ := ((CV_X hC).2 ha).2
  obtain ⟨dd, hd⟩ : ∃ dd, Y.2.2.2.2[i]? = some dd := ⟨_, List.getElem?_eq_getElem hi⟩
  obtain ⟨d1, d2⟩ := hod2 i dd hd
  have hx : Y.2.2.2.1[dd]? = some Y.2.2.2.1[dd] := List.getElem?_eq_getElem d1
  have hxw : (Y.2.2.2.1.map Prod.fst)[dd]? = some Y.2.2.2.1[dd].1 := by rw [List.getElem?_map, hx]; rfl
  obtain ⟨ok, n2, op, nm⟩ := hns.2.2.2.2.2.2 dd _ hxw
  have hge := (hC.2.2.1 149 dd _ (Or.inr (Or.inr rfl)) n2).1
  have eY : nmY Y i = Y.2.2.2.1[dd] := by
    show Y.2.2.2.1.getD (Y.2.2.2.2.getD i 0) ([], 0) = _
    rw [List.getD_eq_getElem?_getD, List.getD_eq_getElem?_getD, hd]
    show Y.2.2.2.1[dd]?.getD ([], 0) = _
    rw [hx]
    rfl
  have hself := SI_self hC
  have ep : p = pN τ0 149 dd := by
    have hR := hC.2.1
    have o47 := G147 hC.1
    have w := (hq τ0 hself).1
    unfold f_Link_definedAt f_Link_definedAt_31 f_Link_definedAt_47 at w
    rw [if_neg (nI_n0 (by omega)), C3g15 o47, bs, e15, if_neg (nI_ge (by omega) (by omega)), C3r9 o47 (GR_r (v := 1693) hR (by decide)), bs, c_l (G1693 hC.1) (by decide), bs, if_neg (nI_ge (by omega) (by decide)), bs, c_aN (G1693 hC.1) (Or.inr (Or.inl rfl)) (by decide) (by omega), bs, d2] at w
    exact (Option.some.inj (Prod.mk.inj (Option.some.inj w)).1).symm
  obtain ⟨p', e', v, v1, v2, v3⟩ := hif i hi
  rw [d2] at e'
  have ep' : p' = p := by rw [ep]; exact (Option.some.inj e').symm
  refine ⟨p, v, hp, by rw [eY]; exact ok, by rw [eY]; exact hnt _ (List.mem_of_getElem? hxw), ⟨v1, v3⟩, fun τ hI => ⟨(hq τ hI).1, ?_, ?_, ?_⟩⟩
  · rw [eY, ep]
    exact ⟨(hI.1.2.1 _ 0 (Zc_no (by omega)) (by omega)).trans nm.1, (hI.1.2.1 _ 1 (Zc_no (by omega)) (by omega)).trans nm.2.1, (hI.1.2.1 _ 2 (Zc_no (by omega)) (by omega)).trans nm.2.2.1, (hI.1.1 _ 3 (Zc_no (by omega)) (by omega) (by omega) (by omega) (by omega)).trans nm.2.2.2⟩
  · rw [← adNY_l, eY, ep, hI.1.2.1 _ 14 (Zc_no (by omega)) (by omega)]
    exact hna dd _ hx
  · rw [hI.1.1 p 9 (Zc_no (by have := hp.1; omega)) (by have := hp.1; omega) (by omega) (by have := hp.1; omega) (by have := hp.1; omega), ← ep']
    exact v2
/-- a symbol is put -/
theorem sqf_putSym {x0 x1 x2 x3 : Nat} {a6 : Int64} (hF : 65540 < F) (hr : TRw r (r + 1) 65536) (h0 : x0 < 2 ^ 31) (h1 : x1 < 2 ^ 31) (h2 : x2 < 2 ^ 31) (h3 : x3 < 2 ^ 64) (h64 : 64 ≤ cc) (hcc : cc + 24 ≤ 65536) (hI : SZQ (PF r H W0 M) zb sk L τ0 r 65536 cc τ) : Sf sk L (SZQ (PF r H W0 (fun p k x => M p k x ∨ ((p = cc ∧ k = 4 ∧ x = x0) ∨ (p = cc + 4 ∧ k = 1 ∧ x = x1) ∨ (p = cc + 6 ∧ k = 2 ∧ x = x2) ∨ (p = cc + 8 ∧ k = 8 ∧ x = x3)))) zb sk L τ0 r 65536 (cc + 24)) Any (f_Scribe_putSymbol F c r (nI x0) (nI x1) (nI x2) (lN x3) a6 (cH sk L τ)) := by
  have orr := (SI_row hI.1.1 hr).1
  unfold f_Scribe_putSymbol
  rw [c_o orr, bs, nI_l h0, nI_l h1, nI_l h2]
  refine sz_x (sqf_put hF hr (by decide) (by omega) h64 (by omega) hI) (fun _ τ1 _ i1 => ?_)
  rw [c_o orr, bs]
  refine sz_x (sqf_put hF hr (by decide) (by omega) (by omega) (by omega) i1) (fun _ τ2 _ i2 => ?_)
  rw [c_o orr, bs]
  refine sz_x (sqf_put hF hr (by decide) (by omega) (by omega) (by omega) i2) (fun _ τ3 _ i3 => ?_)
  rw [c_o orr, bs]
  refine sz_x (sqf_put hF hr (by decide) (by omega) (by omega) (by omega) i3) (fun _ τ4 _ i4 => ?_)
  rw [c_o orr, bs]
  refine sz_x (sqf_put hF hr (by decide) h3 (by omega) (by omega) i4) (fun _ τ5 _ i5 => ?_)
  rw [c_o orr, bs]
  refine sz_x (sp_put hF hr (by decide) i5) (fun _ τ6 _ i6 => ?_)
  rw [show cc + 24 = cc + 4 + 1 + 1 + 2 + 8 + 8 by omega]
  refine sf_r any (SZQ_mo i6 (fun p k x hM => ?_))
  unfold adM
  rcases hM with hM | ⟨e1, e2, e3⟩ | ⟨e1, e2, e3⟩ | ⟨e1, e2, e3⟩ | ⟨e1, e2, e3⟩
  · exact Or.inl (Or.inl (Or.inl (Or.inl (Or.inl hM))))
  · exact Or.inl (Or.inl (Or.inl (Or.inl (Or.inr ⟨e1, e2, e3⟩))))
  · exact Or.inl (Or.inl (Or.inl (Or.inr ⟨e1, e2, e3⟩)))
  · exact Or.inl (Or.inr ⟨by omega, e2, e3⟩)
  · exact Or.inr ⟨by omega, e2, e3⟩
/-- numbers of the rows of sections, in the row 1714 -/
def FR4 (R : Nat → Nat → Nat → Prop) (U : Nat) (τ : px_TT) : Prop := ∀ p k x, R p k x → p + k ≤ U ∧ vAt (eI τ 1715) p k x
def SWF (r H : Nat) (W0 : Nat → Int32) (M R : Nat → Nat → Nat → Prop) (zb : Option Nat) (sk : Nat → Nat × Nat × Nat) (L : Nat) (τ0 : px_TT) (cc U : Nat) (τ : px_TT) : Prop := SWQ (PF r H W0 M) zb sk L τ0 r 65536 cc U τ ∧ FR4 R U τ
theorem wPi_atn {x N : Nat} (hx : x < 2 ^ 64) : ∀ (d j : Nat) (w : px_FW), j + d ≤ 8 → w.1 + d ≤ N → (itr (fun j => wP1 N (bV (lN x) j)) j d w).1 = w.1 + d ∧ (∀ i, i < w.1 → (itr (fun j => wP1 N (bV (lN x) j)) j d w).2 i = w.2 i) ∧ ∀ t, t < d → (itr (fun j => wP1 N (bV (lN x) j)) j d w).2 (w.1 + t) = nB x (j + t) := by
  intro d
  induction d with
  | zero => intro j w _ _; rw [itr_0]; exact ⟨rfl, fun _ _ => rfl, fun t ht => absurd ht (Nat.not_lt_zero _)⟩
  | succ d ih =>
    intro j w h8 hz
    have e : wP1 N (bV (lN x) j) w = (w.1 + 1, upd w.2 w.1 (nB x j)) := by
      unfold wP1
      rw [if_neg (by omega), bV_n hx (by omega)]
    rw [itr_s, e]
    obtain ⟨a1, a2, a3⟩ := ih (j + 1) (w.1 + 1, upd w.2 w.1 (nB x j)) (by omega) (by show w.1 + 1 + d ≤ N; omega)
    have a1 : _ = w.1 + 1 + d := a1
    refine ⟨by rw [a1]; omega, fun i hi => ?_, fun t ht => ?_⟩
    · rw [a2 i (by show i < w.1 + 1; omega)]
      exact pk_un (by omega)
    · by_cases c : t = 0
      · subst c
        simp only [Nat.add_zero]
        rw [a2 w.1 (Nat.lt_succ_self _)]
        exact pk_us
      · obtain ⟨t', rfl⟩ : ∃ t', t = t' + 1 := ⟨t - 1, by omega⟩
        have a4 := a3 t' (by omega)
        have a4 : _ = nB x (j + 1 + t') := a4
        rw [show w.1 + (t' + 1) = w.1 + 1 + t' by omega, show j + (t' + 1) = j + 1 + t' by omega]
        exact a4
variable {U : Nat} {R : Nat → Nat → Nat → Prop}
/-- a number is put into the rows of sections -/
theorem swf_put {x k : Nat} (hF : 65540 < F) (hr : r ≠ 1714) (hk : k ≤ 8) (hx : x < 2 ^ 64) (hU : U + k ≤ 1536) (hI : SWF r H W0 M R zb sk L τ0 cc U τ) : Sf sk L (SWF r H W0 M (adM R U k x) zb sk L τ0 cc (U + k)) Any (f_Row_put F c 1714 (nI k) (lN x) (cH sk L τ)) := by
  obtain ⟨v1, τ1, e1, _, s1⟩ := sqw_put (F := F) (c := c) (v := lN x) hF hr hk hI.1
  obtain ⟨τ2, e2, k2, f2, w2⟩ := k_putC (F := F) (c := c) (v := lN x) (k := k) (by omega) (by omega) (SI_row hI.1.1.1.1 T14)
  have e : cH sk L τ2 = cH sk L τ1 := by
    rw [e1] at e2
    exact (Prod.mk.inj (Option.some.inj e2)).2.symm
  obtain ⟨b1, b2, b3⟩ := w2 (U, eI τ 1715) ⟨by show U ≤ 1536; omega, (hI.1.2.1 (by omega)).1, fun _ _ => rfl⟩
  obtain ⟨z1, z2, z3⟩ := wPi_atn (N := 1536) hx k 0 (U, eI τ 1715) (by omega) hU
  have z1 : (wPut 1536 k (lN x) (U, eI τ 1715)).1 = U + k := z1
  have z2 : ∀ i, i < U → (wPut 1536 k (lN x) (U, eI τ 1715)).2 i = eI τ 1715 i := z2
  have z3 : ∀ t, t < k → (wPut 1536 k (lN x) (U, eI τ 1715)).2 (U + t) = nB x (0 + t) := z3
  rw [z1] at b3
  refine ⟨v1, τ1, e1, any, s1, fun p k' x' hp => ?_⟩
  rw [← cH_eI k2.2.1 e]
  rcases hp with hp | ⟨h1, h2, h3⟩
  · obtain ⟨m1, m2⟩ := hI.2 p k' x' hp
    refine ⟨by omega, fun j hj => ?_⟩
    rw [b3 (p + j) (by omega), z2 (p + j) (by omega)]
    exact m2 j hj
  · rw [h1, h2, h3]
    refine ⟨Nat.le_refl _, fun j hj => ?_⟩
    rw [b3 (U + j) (by omega), z3 j hj, Nat.zero_add]
/-- a number of which nothing is kept -/
theorem swf_any {v : Int64} {k : Nat} (hF : 65540 < F) (hr : r ≠ 1714) (hk : k ≤ 8) (hU : U + k ≤ 1536) (hI : SWF r H W0 M R zb sk L τ0 cc U τ) : Sf sk L (SWF r H W0 M R zb sk L τ0 cc (U + k)) Any (f_Row_put F c 1714 (nI k) v (cH sk L τ)) := by
  obtain ⟨x, hx, rfl⟩ := wb_of v
  obtain ⟨v1, τ1, e1, h1, s1, s2⟩ := swf_put (F := F) (c := c) hF hr hk hx hU hI
  exact ⟨v1, τ1, e1, h1, s1, fun p k' x' hp => s2 p k' x' (Or.inl hp)⟩
theorem SWF_mo {R' : Nat → Nat → Nat → Prop} (hI : SWF r H W0 M R zb sk L τ0 cc U τ) (h : ∀ p k x, R' p k x → R p k x) : SWF r H W0 M R' zb sk L τ0 cc U τ := ⟨hI.1, fun p k x hp => hI.2 p k x (h p k x hp)⟩
end CNU
end
section
/-! named of the class, whole: head, rows, symbols, letters, sections -/
/-- the rows of sections: none, the segments', the symbols', the letters' -/
def SCL (S sp nS np ns : Nat) (p k x : Nat) : Prop := (p = 4 ∧ k = 4 ∧ x = 0) ∨ (∃ s, s < S ∧ p = 64 + 64 * s + 4 ∧ k = 4 ∧ x = 1) ∨ (p = 64 + 64 * S + 4 ∧ k = 4 ∧ x = 2) ∨ (p = 64 + 64 * S + 24 ∧ k = 8 ∧ x = sp) ∨ (p = 64 + 64 * S + 32 ∧ k = 8 ∧ x = nS) ∨ (p = 64 + 64 * S + 40 ∧ k = 4 ∧ x = S + 2) ∨ (p = 128 + 64 * S + 4 ∧ k = 4 ∧ x = 3) ∨ (p = 128 + 64 * S + 24 ∧ k = 8 ∧ x = np) ∨ (p = 128 + 64 * S + 32 ∧ k = 8 ∧ x = ns)
/-- the head's numbers of sections -/
def HDL (T S : Nat) (p k x : Nat) : Prop := (p = 40 ∧ k = 8 ∧ x = T) ∨ (p = 58 ∧ k = 2 ∧ x = 64) ∨ (p = 60 ∧ k = 2 ∧ x = S + 3)
/-- what named's file tells: sp symbols, np letters, T sections -/
def NMF (Y : px_Y) (nf wh : Nat → Nat) (sp np T p k x : Nat) : Prop := SYL sp (xoY Y) nf wh (adNY Y) Y.2.2.2.2.length p k x ∨ LTL np (xoY Y) (fun i => (nmY Y i).1) Y.2.2.2.2.length p k x ∨ ∃ p0, SCL (sgN Y.1.2.2 3) sp (24 * (Y.2.2.2.2.length + 1)) np (xoY Y Y.2.2.2.2.length) p0 k x ∧ p = T + p0
section CNV
variable {F : Nat} {c : px_CT} {sk : Nat → Nat × Nat × Nat} {L : Nat} {own : Nat → Nat × Nat} {τ0 τ : px_TT} {fs : List (Nat × (Nat → Nat))} {gs : List (List Nat × Int64)} {ws : List (List Nat)} {n : Nat} {b : Nat → Nat} {a : Int32} {Y : px_Y} {r H cc U : Nat} {zb : Option Nat} {W0 : Nat → Int32} {M R : Nat → Nat → Nat → Prop} {P : px_TT → Prop}
theorem so_segsX (hF : 65540 < F) (hC : CV sk L own τ0 fs gs ws n b a Y) (ha : a = 0) (hI : SI none sk L τ0 τ) : ∀ (d j f : Nat), j + d = 3 → d < f → f_Layout_countSegments_4 F c f 1700 (nI (sgN Y.1.2.2 j)) (nI j) (cH sk L τ) = some (nI (sgN Y.1.2.2 3), cH sk L τ) := by
  have h0 := (CV_S4 hC).1.1.1
  have hS := h0.1
  have hR := GR_Z h0.2.1 hI.1
  intro d
  induction d with
  | zero =>
    intro j f hj hf
    obtain ⟨f, rfl⟩ : ∃ y, f = y + 1 := ⟨f - 1, by omega⟩
    obtain rfl : j = 3 := by omega
    unfold f_Layout_countSegments_4 f_Layout_countSegments_32
    rw [if_pos (nI_le (by omega) (by omega))]
  | succ d ih =>
    intro j f hj hf
    obtain ⟨f, rfl⟩ : ∃ y, f = y + 1 := ⟨f - 1, by omega⟩
    have et := (CV_K (CV_SI hC hI) ha).2.2 j (by omega)
    have go := ih (j + 1) f (by omega) (by omega)
    have es : sgN Y.1.2.2 (j + 1) = sgN Y.1.2.2 j + (if Y.1.2.2 j = true then 1 else 0) := rfl
    rw [es] at go
    unfold f_Layout_countSegments_4 f_Layout_countSegments_24
    rw [if_neg (nI_ge (by omega) (by omega)), C2r4 (G1700 hS) (GR_r (v := 1703) hR (by decide)), bs, c_aI (G1703 hS) (Or.inr (Or.inr rfl)) (by decide) (by omega), bs, et, nI_add, nI_add, nI_add]
    cases ej : Y.1.2.2 j with
    | false =>
      rw [ej, if_neg (by decide)] at go
      rw [if_pos (show bI false = 0 from rfl)]
      exact go
    | true =>
      rw [ej, if_pos rfl] at go
      rw [if_neg (show ¬ bI true = 0 by decide)]
      exact go
/-- the next place, told -/
theorem sqf_next (hF : 65540 < F) (hr : TRw r (r + 1) 65536) (hw : wiN cc ≤ 65536) (hI : SZQ P zb sk L τ0 r 65536 cc τ) (hc : 0 < cc := by omega) : Sf sk L (SZQ P zb sk L τ0 r 65536 (wiN cc)) (fun v => v = nI (wiN cc)) (f_Scribe_nextPlace F c r (cH sk L τ)) := by
  obtain ⟨v, τ1, e1, _, s1⟩ := sq_next (F := F) (c := c) hF hr hI hc
  refine ⟨v, τ1, e1, ?_, s1⟩
  have hro := SI_row hI.1.1 hr
  have e9 := (s1.1.2.1.1 hw).1
  unfold f_Scribe_nextPlace at e1
  rw [C10g1 hro.1, bs] at e1
  obtain ⟨t2, ph3, _, e1⟩ := xb_some e1
  obtain ⟨_, _, e1⟩ := xs_some e1
  obtain ⟨_, ph4, _, e1⟩ := xb_some e1
  obtain ⟨t5, e5, e1⟩ := xs_some e1
  have e6 := Option.some.inj e1
  have e7 : t5 = v := (Prod.mk.inj e6).1
  have e8 : ph4 = cH sk L τ1 := (Prod.mk.inj e6).2
  rw [e8, C10g1 hro.1] at e5
  rw [← e7, ← Option.some.inj e5]
  exact e9
/-- the rows of sections are copied behind the letters -/
theorem sqf_copy (hF : 65540 < F) (hr : TRw r (r + 1) 65536) (h64 : 64 ≤ cc) (hU : U ≤ 1536) (hcc : cc + U ≤ 65536) (hI : SWF r H W0 M R zb sk L τ0 cc U τ) : Sf sk L (SZQ (PF r H W0 (fun p k x => M p k x ∨ ∃ p0, R p0 k x ∧ p = cc + p0)) zb sk L τ0 r 65536 (cc + U)) Any (f_Row_copy F c r 1715 (nI 0) (nI U) (cH sk L τ)) := by
  have hro := SI_row hI.1.1.1.1 T14
  obtain ⟨v1, τ1, e1, _, s1, s2, s3⟩ := sp_copy (F := F) (c := c) (q := 0) (m := U) hr hro.2.1 (by decide) hro.2.2.2.2.2.2 (by omega) hI.1.1 (by omega)
  obtain ⟨τ2, e2, k2, f2, w2⟩ := k_copyC (F := F) (c := c) (q := 0) (m := U) hro.2.1 (by decide) hro.2.2.2.2.2.2 (by omega) (SI_row hI.1.1.1.1 hr)
  have e : cH sk L τ2 = cH sk L τ1 := by
    rw [e1] at e2
    exact (Prod.mk.inj (Option.some.inj e2)).2.symm
  have u := w2 (cc, eI τ (r + 1)) ⟨by show cc ≤ 65536; omega, (hI.1.1.1.2.1.1 (by omega)).1, fun _ _ => rfl⟩
  unfold wCpy at u
  rw [if_pos (show (cc, eI τ (r + 1)).1 + U ≤ 65536 from hcc)] at u
  obtain ⟨_, _, u3⟩ := u
  have u3 : ∀ i, i < cc + U → eI τ2 (r + 1) i = va_cpy (eI τ 1715) (eI τ (r + 1)) 0 cc U i := u3
  refine ⟨v1, τ1, e1, any, s1, fun _ => ⟨(s2 (by omega)).1, fun p k x hM => ?_⟩, stA_PF⟩
  rcases hM with hM | ⟨p0, hp, e0⟩
  · exact (s2 (by omega)).2 p k x hM
  · obtain ⟨m1, m2⟩ := hI.2 p0 k x hp
    rw [e0]
    refine ⟨by omega, ⟨cc + U, by omega, hcc, (s1.2.1.1 hcc).1⟩, fun j hj => ?_⟩
    rw [← cH_eI k2.2.1 e, u3 (cc + p0 + j) (by omega), pk_cpy_in (by omega) (by omega), Nat.zero_add, show cc + p0 + j - cc = p0 + j by omega]
    exact m2 j hj
theorem swf_endRow {a1 : Int64} {a3 : Int32} (h0 : S0 sk L τ0) (hF : 65540 < F) (hr : r ≠ 1714) (hU : U + 16 ≤ 1536) (hI : SWF r H W0 M R zb sk L τ0 cc U τ) : Sf sk L (SWF r H W0 M R zb sk L τ0 cc (U + 16)) Any (f_Scribe_endRow F c 1713 a1 a3 (cH sk L τ)) := by
  have o13 := G1713 h0.1
  have orr := (SI_row hI.1.1.1.1 T14).1
  have rd : ∀ τ, SI zb sk L τ0 τ → fN τ 1713 3 = some 1714 := fun τ i => GR_r (GR_Z h0.2.1 i.1) (by decide)
  unfold f_Scribe_endRow
  rw [C11r3 o13 (rd _ hI.1.1.1.1), bs, c_o orr, bs]
  refine sz_x (swf_any hF hr (by decide) (by omega) hI) (fun _ τ1 _ i1 => ?_)
  rw [C11r3 o13 (rd _ i1.1.1.1.1), bs, c_o orr, bs]
  refine sz_x (swf_any hF hr (by decide) (by omega) i1) (fun _ τ2 _ i2 => ?_)
  exact sf_r any i2
theorem swf_putRow {x1 x5 x7 x9 : Nat} {a3 : Int64} {a10 : Int32} (h0 : S0 sk L τ0) (hF : 65540 < F) (hr : r ≠ 1714) (h1 : x1 < 2 ^ 64) (h5 : x5 < 2 ^ 64) (h7 : x7 < 2 ^ 64) (h9 : x9 < 2 ^ 31) (hU : U + 48 ≤ 1536) (hI : SWF r H W0 M R zb sk L τ0 cc U τ) : Sf sk L (SWF r H W0 M (fun p k x => R p k x ∨ (p = U + 4 ∧ k = 4 ∧ x = x1) ∨ (p = U + 24 ∧ k = 8 ∧ x = x5) ∨ (p = U + 32 ∧ k = 8 ∧ x = x7) ∨ (p = U + 40 ∧ k = 4 ∧ x = x9)) zb sk L τ0 cc (U + 48)) Any (f_Scribe_putRow F c 1713 (lN x1) a3 (lN x5) (lN x7) (nI x9) a10 (cH sk L τ)) := by
  have o13 := G1713 h0.1
  have orr := (SI_row hI.1.1.1.1 T14).1
  have rd : ∀ τ, SI zb sk L τ0 τ → fN τ 1713 3 = some 1714 := fun τ i => GR_r (GR_Z h0.2.1 i.1) (by decide)
  unfold f_Scribe_putRow
  rw [C11r3 o13 (rd _ hI.1.1.1.1), bs, c_o orr, bs, nI_l h9]
  refine sz_x (swf_any hF hr (by decide) (by omega) hI) (fun _ τ1 _ i1 => ?_)
  rw [C11r3 o13 (rd _ i1.1.1.1.1), bs, c_o orr, bs]
  refine sz_x (swf_put hF hr (by decide) h1 (by omega) i1) (fun _ τ2 _ i2 => ?_)
  rw [C11r3 o13 (rd _ i2.1.1.1.1), bs, c_o orr, bs]
  refine sz_x (swf_any hF hr (by decide) (by omega) i2) (fun _ τ3 _ i3 => ?_)
  rw [C11r3 o13 (rd _ i3.1.1.1.1), bs, c_o orr, bs]
  refine sz_x (swf_any hF hr (by decide) (by omega) i3) (fun _ τ4 _ i4 => ?_)
  rw [C11r3 o13 (rd _ i4.1.1.1.1), bs, c_o orr, bs]
  refine sz_x (swf_put hF hr (by decide) h5 (by omega) i4) (fun _ τ5 _ i5 => ?_)
  rw [C11r3 o13 (rd _ i5.1.1.1.1), bs, c_o orr, bs]
  refine sz_x (swf_put hF hr (by decide) h7 (by omega) i5) (fun _ τ6 _ i6 => ?_)
  rw [C11r3 o13 (rd _ i6.1.1.1.1), bs, c_o orr, bs]
  refine sz_x (swf_put hF hr (by decide) (by omega) (by omega) i6) (fun _ τ7 _ i7 => ?_)
  rw [C11r3 o13 (rd _ i7.1.1.1.1), bs, c_o orr, bs]
  refine sz_x (swf_any hF hr (by decide) (by omega) i7) (fun _ τ8 _ i8 => ?_)
  rw [show U + 48 = U + 4 + 4 + 8 + 8 + 8 + 8 + 4 + 4 by omega]
  refine sf_r any (SWF_mo i8 (fun p k x hp => ?_))
  unfold adM
  rcases hp with hp | ⟨e1, e2, e3⟩ | ⟨e1, e2, e3⟩ | ⟨e1, e2, e3⟩ | ⟨e1, e2, e3⟩
  · exact Or.inl (Or.inl (Or.inl (Or.inl hp)))
  · exact Or.inl (Or.inl (Or.inl (Or.inr ⟨e1, e2, e3⟩)))
  · exact Or.inl (Or.inl (Or.inr ⟨by omega, e2, e3⟩))
  · exact Or.inl (Or.inr ⟨by omega, e2, e3⟩)
  · exact Or.inr ⟨by omega, e2, e3⟩
/-- the rows of the segments -/
def SGL (S p k x : Nat) : Prop := (p = 4 ∧ k = 4 ∧ x = 0) ∨ ∃ s, s < S ∧ p = 64 + 64 * s + 4 ∧ k = 4 ∧ x = 1
theorem zf_seg13 (hF : 65540 < F) (hK : KT c) (hC : CV sk L own τ0 fs gs ws n b a Y) (ha : a = 0) (hr : r ≠ 1714) : ∀ (d j f : Nat) (τ : px_TT), j + d = 3 → d < f → SWF r H W0 M (SGL (sgN Y.1.2.2 j)) none sk L τ0 cc (64 + 64 * sgN Y.1.2.2 j) τ → Sf sk L (SWF r H W0 M (SGL (sgN Y.1.2.2 3)) none sk L τ0 cc (64 + 64 * sgN Y.1.2.2 3)) Any (f_Scribe_writeSegmentRows_13 F c f 1713 (nI j) (cH sk L τ)) := by
  have h0 := (CV_S4 hC).1.1.1
  have hS := h0.1
  have o13 := G1713 hS
  have o17 := G1700 hS
  intro d
  induction d with
  | zero =>
    intro j f τ hj hf hI
    obtain ⟨f, rfl⟩ : ∃ y, f = y + 1 := ⟨f - 1, by omega⟩
    obtain rfl : j = 3 := by omega
    unfold f_Scribe_writeSegmentRows_13 f_Scribe_writeSegmentRows_141
    rw [if_pos (nI_le (by omega) (by omega))]
    exact sf_r any hI
  | succ d ih =>
    intro j f τ hj hf hI
    obtain ⟨f, rfl⟩ : ∃ y, f = y + 1 := ⟨f - 1, by omega⟩
    have hR := GR_Z h0.2.1 hI.1.1.1.1.1
    have et := (CV_K (CV_SI hC hI.1.1.1.1) ha).2.2 j (by omega)
    have orr := (SI_row hI.1.1.1.1 T14).1
    have rd : ∀ τ, SI none sk L τ0 τ → GR τ := fun τ i => GR_Z h0.2.1 i.1
    have go := fun τ hI => ih (j + 1) f τ (by omega) (by omega) hI
    have es : sgN Y.1.2.2 (j + 1) = sgN Y.1.2.2 j + (if Y.1.2.2 j = true then 1 else 0) := rfl
    have hSj := sgN_le (th := Y.1.2.2) j
    rw [es] at go
    generalize sgN Y.1.2.2 j = S at *
    unfold f_Scribe_writeSegmentRows_13 f_Scribe_writeSegmentRows_135
    rw [if_neg (nI_ge (by omega) (by omega)), C11r1 o13 (GR_r (v := 1700) hR (by decide)), bs, C2r4 o17 (GR_r (v := 1703) hR (by decide)), bs, c_aI (G1703 hS) (Or.inr (Or.inr rfl)) (by decide) (by omega), bs, et, nI_add]
    cases ej : Y.1.2.2 j with
    | false =>
      rw [ej, if_neg (by decide)] at go
      rw [if_pos (show bI false = 0 from rfl)]
      exact go τ hI
    | true =>
      rw [ej, if_pos rfl] at go
      rw [if_neg (show ¬ bI true = 0 by decide), C11r3 o13 (GR_r (v := 1714) hR (by decide)), bs, c_o orr, bs]
      refine sz_x (swf_any hF hr (by decide) (by omega) hI) (fun _ τ1 _ i1 => ?_)
      rw [C11r3 o13 (GR_r (v := 1714) (rd _ i1.1.1.1.1) (by decide)), bs, c_o orr, bs]
      refine sz_x (swf_put hF hr (by decide) (by decide) (by omega) i1) (fun _ τ2 _ i2 => ?_)
      rw [C11r3 o13 (GR_r (v := 1714) (rd _ i2.1.1.1.1) (by decide)), bs, xkI_at hK.2.2.2.2.2.2 (by decide) hK.2.2.2.2.2.1 (by decide) (show j < [6, 2, 3].length from by show j < 3; omega), bs, c_o orr, bs]
      refine sz_x (swf_any hF hr (by decide) (by omega) i2) (fun _ τ3 _ i3 => ?_)
      rw [C11r3 o13 (GR_r (v := 1714) (rd _ i3.1.1.1.1) (by decide)), bs, C11r1 o13 (GR_r (v := 1700) (rd _ i3.1.1.1.1) (by decide)), bs, C2r6 o17 (GR_r (v := 1705) (rd _ i3.1.1.1.1) (by decide)), bs, c_aJ (G1705 hS) (by decide) (by omega), bs, c_o orr, bs]
      refine sz_x (swf_any hF hr (by decide) (by omega) i3) (fun _ τ4 _ i4 => ?_)
      rw [C11r3 o13 (GR_r (v := 1714) (rd _ i4.1.1.1.1) (by decide)), bs, C11r1 o13 (GR_r (v := 1700) (rd _ i4.1.1.1.1) (by decide)), bs, C2r5 o17 (GR_r (v := 1704) (rd _ i4.1.1.1.1) (by decide)), bs, c_aJ (G1704 hS) (by decide) (by omega), bs, c_o orr, bs]
      refine sz_x (swf_any hF hr (by decide) (by omega) i4) (fun _ τ5 _ i5 => ?_)
      rw [C11r3 o13 (GR_r (v := 1714) (rd _ i5.1.1.1.1) (by decide)), bs, C11r1 o13 (GR_r (v := 1700) (rd _ i5.1.1.1.1) (by decide)), bs, C2r7 o17 (GR_r (v := 1706) (rd _ i5.1.1.1.1) (by decide)), bs, c_aJ (G1706 hS) (by decide) (by omega), bs, c_o orr, bs]
      refine sz_x (swf_any hF hr (by decide) (by omega) i5) (fun _ τ6 _ i6 => ?_)
      rw [C11r3 o13 (GR_r (v := 1714) (rd _ i6.1.1.1.1) (by decide)), bs, c_o orr, bs]
      refine sz_x (swf_any hF hr (by decide) (by omega) i6) (fun _ τ7 _ i7 => ?_)
      rw [c_o o13, bs]
      refine sz_x (swf_endRow h0 hF hr (by omega) i7) (fun _ τ8 _ i8 => ?_)
      refine go τ8 ?_
      rw [show 64 + 64 * (S + 1) = 64 + 64 * S + 4 + 4 + 8 + 8 + 8 + 8 + 8 + 16 by omega]
      refine SWF_mo i8 (fun p k x hp => ?_)
      rcases hp with hp | ⟨s, hs, e1, e2, e3⟩
      · exact Or.inl (Or.inl hp)
      · by_cases cs : s < S
        · exact Or.inl (Or.inr ⟨s, cs, e1, e2, e3⟩)
        · exact Or.inr ⟨by omega, e2, e3⟩
end CNV
end
