/-! the class's calls that ask for a member, a section, a byte: safe (steps spelled out by sf/pp.py) -/
def KDs (τ : px_TT) : Prop := ∀ q, OBq q → fI τ q 4 = nI 0 ∨ fI τ q 4 = nI 1 ∨ fI τ q 4 = nI 2 ∨ fI τ q 4 = nI 3
/-- what holds of the members at the state that the calls start from -/
def S4 (sk : Nat → Nat × Nat × Nat) (L : Nat) (τ0 : px_TT) : Prop := S2 sk L τ0 ∧ (∃ m, m ≤ 8 ∧ fI τ0 0 6 = nI m) ∧ KDs τ0 ∧ (∀ q, OBq q → isZ (fI τ0 q 15)) ∧ (∃ t, t ≤ 64 ∧ fI τ0 147 14 = nI t) ∧ ∀ k, isB (eI τ0 2 k)
section CCM
variable {F : Nat} {c : px_CT} {sk : Nat → Nat × Nat × Nat} {L : Nat} {zb : Option Nat} {τ0 τ : px_TT} {r q : Nat} {I : px_TT → Prop} {α : Type} {V : α → Prop}
theorem CF_KD {fs : List (Nat × (Nat → Nat))} (h : CF sk L τ fs) : KDs τ := by
  rintro q ⟨i, hi, rfl⟩
  cases e : obAt fs i with
  | none => exact Or.inl (CF_no h e hi)
  | some x =>
    obtain ⟨o, n, b, z⟩ := x
    obtain ⟨_, ⟨y, _, h4⟩, _⟩ := CF_ob h e
    rw [h4]
    unfold mkd
    split
    · split
      · exact Or.inr (Or.inr (Or.inr rfl))
      · exact Or.inr (Or.inr (Or.inl rfl))
    · exact Or.inr (Or.inl rfl)
theorem so_objAt {i k : Int32} (h4 : S4 sk L τ0) (hI : SI zb sk L τ0 τ) : ∃ o, f_H_objectAt F c 0 i k (cH sk L τ) = some (o, cH sk L τ) ∧ ∀ q, o = some q → OBq q ∧ Syb τ0 q := by
  have h1 := h4.1.1
  have h0 := h1.1
  obtain ⟨o, e, ho⟩ := so_memAt (F := F) (c := c) (i := i) (k := k) h0 h4.2.1 hI
  unfold f_H_objectAt f_H_objectAt_19 f_H_objectAt_24
  rw [c_o (G0 h0.1), bs, e, xb_mk]
  cases o with
  | none => exact ⟨none, rfl, fun q e => by cases e⟩
  | some q =>
    obtain ⟨hq, hk⟩ := ho q rfl
    dsimp only
    rw [C7g4 (OBq_o h0 hq), bs]
    by_cases c3 : fI τ q 4 = nI 3
    · rw [if_pos c3]; exact ⟨none, rfl, fun q e => by cases e⟩
    · rw [if_neg c3]
      refine ⟨some q, rfl, fun q' e => ?_⟩
      injection e with e
      subst e
      rw [SI_q hI hq] at hk c3
      refine ⟨hq, h1.2.1 q hq ?_⟩
      rcases h4.2.2.1 q hq with w | w | w | w
      · exact absurd w hk
      · exact Or.inl w
      · exact Or.inr w
      · exact absurd w c3
theorem sf_Hlist {i k : Int32} (h4 : S4 sk L τ0) (hF : 65540 < F) (hI : SI zb sk L τ0 τ) : f_H_objectAt F c 0 i k (cH sk L τ) = some (none, cH sk L τ) ∨ Sf sk L (SI zb sk L τ0) Any (f_H_list F c 0 i k (cH sk L τ)) := by
  have h1 := h4.1.1
  have h0 := h1.1
  obtain ⟨o, e, ho⟩ := so_objAt (F := F) (c := c) (i := i) (k := k) h4 hI
  cases o with
  | none => exact Or.inl e
  | some q =>
    obtain ⟨hq, hs⟩ := ho q rfl
    refine Or.inr ?_
    unfold f_H_list
    rw [c_o (G0 h0.1), bs, e, xb_mk]
    dsimp only
    repeat' (first | ((with_reducible refine sx_outR h0 (by assumption) (fun r hr => ?_))) | ((with_reducible refine sf_x (sf_list h1 hF ?_ hq hs ?_) ?_); assumption; assumption; intro v τ hv hi) | exact absurd (show nI 0 = 0 from rfl) (by assumption) | exact absurd (show nI 1 = 0 by assumption) (by decide) | ((with_reducible refine sf_i (fun hc => ?_) (fun hc => ?_))) | ((with_reducible refine sf_gF h0 ?_ ?_ ?_ ?_ ?_); decide; decide; decide; decide) | ((with_reducible refine sf_gI ?_ ?_ ?_ ?_); (first | assumption | exact GS_o h0.1 (by decide) (by decide) | exact RRd_o h0 (by assumption) | exact RRd_o h0 (Or.inr (by assumption)) | exact OBq_o h0 (by assumption) | exact OBq_o h0 (Obt_q (by assumption)) | exact G_part h0.1 (by assumption) | exact Nmo_o (by assumption)); decide; decide) | ((with_reducible refine sf_gJ ?_ ?_ ?_ ?_); (first | assumption | exact GS_o h0.1 (by decide) (by decide) | exact RRd_o h0 (by assumption) | exact RRd_o h0 (Or.inr (by assumption)) | exact OBq_o h0 (by assumption) | exact OBq_o h0 (Obt_q (by assumption)) | exact G_part h0.1 (by assumption) | exact Nmo_o (by assumption)); decide; decide) | ((with_reducible refine sf_gN ?_ ?_ ?_ ?_); (first | assumption | exact GS_o h0.1 (by decide) (by decide) | exact RRd_o h0 (by assumption) | exact RRd_o h0 (Or.inr (by assumption)) | exact OBq_o h0 (by assumption) | exact OBq_o h0 (Obt_q (by assumption)) | exact G_part h0.1 (by assumption) | exact Nmo_o (by assumption)); decide; decide) | ((with_reducible refine sf_gG h0 (by assumption) ?_ ?_ ?_ ?_ (by with_unfolding_all exact rfl) ?_); decide; decide; decide; decide) | ((with_reducible refine sf_o ?_ (fun l => ?_)); (first | assumption | exact GS_o h0.1 (by decide) (by decide) | exact RRd_o h0 (by assumption) | exact RRd_o h0 (Or.inr (by assumption)) | exact OBq_o h0 (by assumption) | exact OBq_o h0 (Obt_q (by assumption)) | exact G_part h0.1 (by assumption) | exact Nmo_o (by assumption))) | ((with_reducible refine sf_s ?_)) | ((with_reducible refine sf_sb (by assumption) ?_)) | ((with_reducible refine sf_r ?_ ?_); (first | exact any | assumption | exact ⟨false, rfl⟩ | exact ⟨true, rfl⟩); assumption) | ((with_reducible refine sf_z ?_ ?_ ?_); (first | exact ⟨false, rfl⟩ | exact ⟨true, rfl⟩ | assumption); (first | exact any | exact ⟨false, rfl⟩ | exact ⟨true, rfl⟩ | assumption); assumption))
theorem sf_sum_38 {g : Int32} (h0 : S0 sk L τ0) (hF : 65540 < F) (hq : OBq q) (hs : Syb τ0 q) (hI : SI zb sk L τ0 τ) : ∀ (d j f : Nat) (a5 : Int64), j + d = 24 → d < f → Sf sk L (SI zb sk L τ0) Any (f_H_sum_38 F c f g (some q) a5 (nI j) (cH sk L τ)) := by
  intro d
  induction d with
  | zero =>
    intro j f a5 hj hf
    obtain ⟨f, rfl⟩ : ∃ y, f = y + 1 := ⟨f - 1, by omega⟩
    obtain ⟨z, hz, ez⟩ := hs.2
    unfold f_H_sum_38 f_H_sum_78
    repeat' (first | (exact absurd (show fI τ q 8 ≤ nI j by rw [SI_q hI hq, ez]; exact nI_le (by omega) (by omega)) (by assumption)) | exact absurd (show nI 0 = 0 from rfl) (by assumption) | exact absurd (show nI 1 = 0 by assumption) (by decide) | ((with_reducible refine sf_i (fun hc => ?_) (fun hc => ?_))) | ((with_reducible refine sf_gF h0 ?_ ?_ ?_ ?_ ?_); decide; decide; decide; decide) | ((with_reducible refine sf_gI ?_ ?_ ?_ ?_); (first | assumption | exact GS_o h0.1 (by decide) (by decide) | exact RRd_o h0 (by assumption) | exact RRd_o h0 (Or.inr (by assumption)) | exact OBq_o h0 (by assumption) | exact OBq_o h0 (Obt_q (by assumption)) | exact G_part h0.1 (by assumption) | exact Nmo_o (by assumption)); decide; decide) | ((with_reducible refine sf_gJ ?_ ?_ ?_ ?_); (first | assumption | exact GS_o h0.1 (by decide) (by decide) | exact RRd_o h0 (by assumption) | exact RRd_o h0 (Or.inr (by assumption)) | exact OBq_o h0 (by assumption) | exact OBq_o h0 (Obt_q (by assumption)) | exact G_part h0.1 (by assumption) | exact Nmo_o (by assumption)); decide; decide) | ((with_reducible refine sf_gN ?_ ?_ ?_ ?_); (first | assumption | exact GS_o h0.1 (by decide) (by decide) | exact RRd_o h0 (by assumption) | exact RRd_o h0 (Or.inr (by assumption)) | exact OBq_o h0 (by assumption) | exact OBq_o h0 (Obt_q (by assumption)) | exact G_part h0.1 (by assumption) | exact Nmo_o (by assumption)); decide; decide) | ((with_reducible refine sf_gG h0 (by assumption) ?_ ?_ ?_ ?_ (by with_unfolding_all exact rfl) ?_); decide; decide; decide; decide) | ((with_reducible refine sf_o ?_ (fun l => ?_)); (first | assumption | exact GS_o h0.1 (by decide) (by decide) | exact RRd_o h0 (by assumption) | exact RRd_o h0 (Or.inr (by assumption)) | exact OBq_o h0 (by assumption) | exact OBq_o h0 (Obt_q (by assumption)) | exact G_part h0.1 (by assumption) | exact Nmo_o (by assumption))) | ((with_reducible refine sf_s ?_)) | ((with_reducible refine sf_sb (by assumption) ?_)) | ((with_reducible refine sf_r ?_ ?_); (first | exact any | assumption | exact ⟨false, rfl⟩ | exact ⟨true, rfl⟩); assumption) | ((with_reducible refine sf_z ?_ ?_ ?_); (first | exact ⟨false, rfl⟩ | exact ⟨true, rfl⟩ | assumption); (first | exact any | exact ⟨false, rfl⟩ | exact ⟨true, rfl⟩ | assumption); assumption))
  | succ d ih =>
    intro j f a5 hj hf
    obtain ⟨f, rfl⟩ : ∃ y, f = y + 1 := ⟨f - 1, by omega⟩
    unfold f_H_sum_38 f_H_sum_78 f_H_sum_72
    rw [nI_add]
    repeat' (first | (exact ih _ _ _ (by omega) (by omega)) | exact absurd (show nI 0 = 0 from rfl) (by assumption) | exact absurd (show nI 1 = 0 by assumption) (by decide) | ((with_reducible refine sf_i (fun hc => ?_) (fun hc => ?_))) | ((with_reducible refine sf_gF h0 ?_ ?_ ?_ ?_ ?_); decide; decide; decide; decide) | ((with_reducible refine sf_gI ?_ ?_ ?_ ?_); (first | assumption | exact GS_o h0.1 (by decide) (by decide) | exact RRd_o h0 (by assumption) | exact RRd_o h0 (Or.inr (by assumption)) | exact OBq_o h0 (by assumption) | exact OBq_o h0 (Obt_q (by assumption)) | exact G_part h0.1 (by assumption) | exact Nmo_o (by assumption)); decide; decide) | ((with_reducible refine sf_gJ ?_ ?_ ?_ ?_); (first | assumption | exact GS_o h0.1 (by decide) (by decide) | exact RRd_o h0 (by assumption) | exact RRd_o h0 (Or.inr (by assumption)) | exact OBq_o h0 (by assumption) | exact OBq_o h0 (Obt_q (by assumption)) | exact G_part h0.1 (by assumption) | exact Nmo_o (by assumption)); decide; decide) | ((with_reducible refine sf_gN ?_ ?_ ?_ ?_); (first | assumption | exact GS_o h0.1 (by decide) (by decide) | exact RRd_o h0 (by assumption) | exact RRd_o h0 (Or.inr (by assumption)) | exact OBq_o h0 (by assumption) | exact OBq_o h0 (Obt_q (by assumption)) | exact G_part h0.1 (by assumption) | exact Nmo_o (by assumption)); decide; decide) | ((with_reducible refine sf_gG h0 (by assumption) ?_ ?_ ?_ ?_ (by with_unfolding_all exact rfl) ?_); decide; decide; decide; decide) | ((with_reducible refine sf_o ?_ (fun l => ?_)); (first | assumption | exact GS_o h0.1 (by decide) (by decide) | exact RRd_o h0 (by assumption) | exact RRd_o h0 (Or.inr (by assumption)) | exact OBq_o h0 (by assumption) | exact OBq_o h0 (Obt_q (by assumption)) | exact G_part h0.1 (by assumption) | exact Nmo_o (by assumption))) | ((with_reducible refine sf_s ?_)) | ((with_reducible refine sf_sb (by assumption) ?_)) | ((with_reducible refine sf_r ?_ ?_); (first | exact any | assumption | exact ⟨false, rfl⟩ | exact ⟨true, rfl⟩); assumption) | ((with_reducible refine sf_z ?_ ?_ ?_); (first | exact ⟨false, rfl⟩ | exact ⟨true, rfl⟩ | assumption); (first | exact any | exact ⟨false, rfl⟩ | exact ⟨true, rfl⟩ | assumption); assumption) | ((with_reducible refine sx_of (so_group h0 hF (by assumption) (by first | assumption | exact Obt_q (by assumption))) (fun v => ?_))) | ((with_reducible refine sx_of (so_length h0 hF (by assumption) (by first | assumption | exact Obt_q (by assumption))) (fun v => ?_))))
theorem sf_Hsum {i k g : Int32} (h4 : S4 sk L τ0) (hF : 65540 < F) (hI : SI zb sk L τ0 τ) : f_H_objectAt F c 0 i k (cH sk L τ) = some (none, cH sk L τ) ∨ (∃ q, f_H_objectAt F c 0 i k (cH sk L τ) = some (some q, cH sk L τ) ∧ (g < 0 ∨ ¬ g ≤ nI 5)) ∨ Sf sk L (SI zb sk L τ0) Any (f_H_sum F c 0 i k g (cH sk L τ)) := by
  have h1 := h4.1.1
  have h0 := h1.1
  obtain ⟨o, e, ho⟩ := so_objAt (F := F) (c := c) (i := i) (k := k) h4 hI
  cases o with
  | none => exact Or.inl e
  | some q =>
    obtain ⟨hq, hs⟩ := ho q rfl
    refine Or.inr ?_
    by_cases c1 : g < 0
    · exact Or.inl ⟨q, e, Or.inl c1⟩
    · by_cases c2 : g ≤ nI 5
      · refine Or.inr ?_
        unfold f_H_sum
        rw [c_o (G0 h0.1), bs, e, xb_mk]
        dsimp only
        rw [if_neg c1, if_pos c2]
        exact sf_sum_38 h0 hF hq hs hI 24 0 F _ rfl (by omega)
      · exact Or.inl ⟨q, e, Or.inr c2⟩
theorem sf_Htaken {i k : Int32} (h4 : S4 sk L τ0) (hI : SI zb sk L τ0 τ) : f_H_memberAt F c 0 i k (cH sk L τ) = some (none, cH sk L τ) ∨ Sf sk L (SI zb sk L τ0) isZ (f_H_taken F c 0 i k (cH sk L τ)) := by
  have h0 := h4.1.1.1
  obtain ⟨o, e, ho⟩ := so_memAt (F := F) (c := c) (i := i) (k := k) h0 h4.2.1 hI
  cases o with
  | none => exact Or.inl e
  | some q =>
    obtain ⟨hq, hk⟩ := ho q rfl
    refine Or.inr ?_
    unfold f_H_taken
    rw [c_o (G0 h0.1), bs, e, xb_mk]
    dsimp only
    have hz := h4.2.2.2.1 q hq
    rw [← SI_q hI hq] at hz
    repeat' (first | exact absurd (show nI 0 = 0 from rfl) (by assumption) | exact absurd (show nI 1 = 0 by assumption) (by decide) | ((with_reducible refine sf_i (fun hc => ?_) (fun hc => ?_))) | ((with_reducible refine sf_gF h0 ?_ ?_ ?_ ?_ ?_); decide; decide; decide; decide) | ((with_reducible refine sf_gI ?_ ?_ ?_ ?_); (first | assumption | exact GS_o h0.1 (by decide) (by decide) | exact RRd_o h0 (by assumption) | exact RRd_o h0 (Or.inr (by assumption)) | exact OBq_o h0 (by assumption) | exact OBq_o h0 (Obt_q (by assumption)) | exact G_part h0.1 (by assumption) | exact Nmo_o (by assumption)); decide; decide) | ((with_reducible refine sf_gJ ?_ ?_ ?_ ?_); (first | assumption | exact GS_o h0.1 (by decide) (by decide) | exact RRd_o h0 (by assumption) | exact RRd_o h0 (Or.inr (by assumption)) | exact OBq_o h0 (by assumption) | exact OBq_o h0 (Obt_q (by assumption)) | exact G_part h0.1 (by assumption) | exact Nmo_o (by assumption)); decide; decide) | ((with_reducible refine sf_gN ?_ ?_ ?_ ?_); (first | assumption | exact GS_o h0.1 (by decide) (by decide) | exact RRd_o h0 (by assumption) | exact RRd_o h0 (Or.inr (by assumption)) | exact OBq_o h0 (by assumption) | exact OBq_o h0 (Obt_q (by assumption)) | exact G_part h0.1 (by assumption) | exact Nmo_o (by assumption)); decide; decide) | ((with_reducible refine sf_gG h0 (by assumption) ?_ ?_ ?_ ?_ (by with_unfolding_all exact rfl) ?_); decide; decide; decide; decide) | ((with_reducible refine sf_o ?_ (fun l => ?_)); (first | assumption | exact GS_o h0.1 (by decide) (by decide) | exact RRd_o h0 (by assumption) | exact RRd_o h0 (Or.inr (by assumption)) | exact OBq_o h0 (by assumption) | exact OBq_o h0 (Obt_q (by assumption)) | exact G_part h0.1 (by assumption) | exact Nmo_o (by assumption))) | ((with_reducible refine sf_s ?_)) | ((with_reducible refine sf_sb (by assumption) ?_)) | ((with_reducible refine sf_r ?_ ?_); (first | exact any | assumption | exact ⟨false, rfl⟩ | exact ⟨true, rfl⟩); assumption) | ((with_reducible refine sf_z ?_ ?_ ?_); (first | exact ⟨false, rfl⟩ | exact ⟨true, rfl⟩ | assumption); (first | exact any | exact ⟨false, rfl⟩ | exact ⟨true, rfl⟩ | assumption); assumption))
theorem sf_Hcause {i k : Int32} (h4 : S4 sk L τ0) (hF : 65540 < F) (hI : SI zb sk L τ0 τ) : f_H_memberAt F c 0 i k (cH sk L τ) = some (none, cH sk L τ) ∨ Sf sk L (SI zb sk L τ0) Any (f_H_cause F c 0 i k (cH sk L τ)) := by
  have h1 := h4.1.1
  have h0 := h1.1
  obtain ⟨o, e, ho⟩ := so_memAt (F := F) (c := c) (i := i) (k := k) h0 h4.2.1 hI
  cases o with
  | none => exact Or.inl e
  | some q =>
    obtain ⟨hq, hk⟩ := ho q rfl
    refine Or.inr ?_
    unfold f_H_cause
    rw [c_o (G0 h0.1), bs, e, xb_mk]
    dsimp only
    repeat' (first | ((with_reducible refine sx_outR h0 (by assumption) (fun r hr => ?_))) | ((with_reducible refine sf_x (sf_nread3 h1 hF ?_) ?_); assumption; intro v τ hv hi) | exact absurd (show nI 0 = 0 from rfl) (by assumption) | exact absurd (show nI 1 = 0 by assumption) (by decide) | ((with_reducible refine sf_i (fun hc => ?_) (fun hc => ?_))) | ((with_reducible refine sf_gF h0 ?_ ?_ ?_ ?_ ?_); decide; decide; decide; decide) | ((with_reducible refine sf_gI ?_ ?_ ?_ ?_); (first | assumption | exact GS_o h0.1 (by decide) (by decide) | exact RRd_o h0 (by assumption) | exact RRd_o h0 (Or.inr (by assumption)) | exact OBq_o h0 (by assumption) | exact OBq_o h0 (Obt_q (by assumption)) | exact G_part h0.1 (by assumption) | exact Nmo_o (by assumption)); decide; decide) | ((with_reducible refine sf_gJ ?_ ?_ ?_ ?_); (first | assumption | exact GS_o h0.1 (by decide) (by decide) | exact RRd_o h0 (by assumption) | exact RRd_o h0 (Or.inr (by assumption)) | exact OBq_o h0 (by assumption) | exact OBq_o h0 (Obt_q (by assumption)) | exact G_part h0.1 (by assumption) | exact Nmo_o (by assumption)); decide; decide) | ((with_reducible refine sf_gN ?_ ?_ ?_ ?_); (first | assumption | exact GS_o h0.1 (by decide) (by decide) | exact RRd_o h0 (by assumption) | exact RRd_o h0 (Or.inr (by assumption)) | exact OBq_o h0 (by assumption) | exact OBq_o h0 (Obt_q (by assumption)) | exact G_part h0.1 (by assumption) | exact Nmo_o (by assumption)); decide; decide) | ((with_reducible refine sf_gG h0 (by assumption) ?_ ?_ ?_ ?_ (by with_unfolding_all exact rfl) ?_); decide; decide; decide; decide) | ((with_reducible refine sf_o ?_ (fun l => ?_)); (first | assumption | exact GS_o h0.1 (by decide) (by decide) | exact RRd_o h0 (by assumption) | exact RRd_o h0 (Or.inr (by assumption)) | exact OBq_o h0 (by assumption) | exact OBq_o h0 (Obt_q (by assumption)) | exact G_part h0.1 (by assumption) | exact Nmo_o (by assumption))) | ((with_reducible refine sf_s ?_)) | ((with_reducible refine sf_sb (by assumption) ?_)) | ((with_reducible refine sf_r ?_ ?_); (first | exact any | assumption | exact ⟨false, rfl⟩ | exact ⟨true, rfl⟩); assumption) | ((with_reducible refine sf_z ?_ ?_ ?_); (first | exact ⟨false, rfl⟩ | exact ⟨true, rfl⟩ | assumption); (first | exact any | exact ⟨false, rfl⟩ | exact ⟨true, rfl⟩ | assumption); assumption) | ((with_reducible refine sx_of (so_nstart h0 hF (by assumption) (by first | assumption | exact Obt_q (by assumption))) (fun v => ?_))) | ((with_reducible refine sf_x (sf_clear ?_ ?_) ?_); assumption; (first | assumption | (unfold RWr; decide)); intro v τ hv hi) | ((with_reducible refine sf_x (sf_writeTo hF ?_ ?_ ?_) ?_); assumption; (first | assumption | exact GS_o h0.1 (by decide) (by decide) | exact RRd_o h0 (by assumption) | exact RRd_o h0 (Or.inr (by assumption)) | exact OBq_o h0 (by assumption) | exact OBq_o h0 (Obt_q (by assumption)) | exact G_part h0.1 (by assumption) | exact Nmo_o (by assumption)); (first | assumption | (unfold RWr; decide)); intro v τ hv hi))
theorem sf_Hsection {i w : Int32} (h4 : S4 sk L τ0) (hI : SI zb sk L τ0 τ) (ha : fI τ 147 18 = nI 0) (h1i : ¬ i < 0) (h2i : ¬ fI τ 1700 11 ≤ i) (h1w : ¬ w < 0) (h2w : w ≤ nI 4) : Sf sk L (SI zb sk L τ0) Any (f_H_section F c 0 i w (cH sk L τ)) := by
  have h2 := h4.1
  have h0 := h2.1.1
  obtain ⟨j, hj, rfl⟩ := nI_of h1i
  unfold f_H_section
  repeat' (first | (exact absurd ha (by assumption)) | (exact absurd (by assumption) h1i) | (exact absurd (by assumption) h2i) | (exact absurd (by assumption) h1w) | (exact absurd h2w (by assumption)) | exact absurd (show nI 0 = 0 from rfl) (by assumption) | exact absurd (show nI 1 = 0 by assumption) (by decide) | ((with_reducible refine sf_i (fun hc => ?_) (fun hc => ?_))) | ((with_reducible refine sf_gF h0 ?_ ?_ ?_ ?_ ?_); decide; decide; decide; decide) | ((with_reducible refine sf_gI ?_ ?_ ?_ ?_); (first | assumption | exact GS_o h0.1 (by decide) (by decide) | exact RRd_o h0 (by assumption) | exact RRd_o h0 (Or.inr (by assumption)) | exact OBq_o h0 (by assumption) | exact OBq_o h0 (Obt_q (by assumption)) | exact G_part h0.1 (by assumption) | exact Nmo_o (by assumption)); decide; decide) | ((with_reducible refine sf_gJ ?_ ?_ ?_ ?_); (first | assumption | exact GS_o h0.1 (by decide) (by decide) | exact RRd_o h0 (by assumption) | exact RRd_o h0 (Or.inr (by assumption)) | exact OBq_o h0 (by assumption) | exact OBq_o h0 (Obt_q (by assumption)) | exact G_part h0.1 (by assumption) | exact Nmo_o (by assumption)); decide; decide) | ((with_reducible refine sf_gN ?_ ?_ ?_ ?_); (first | assumption | exact GS_o h0.1 (by decide) (by decide) | exact RRd_o h0 (by assumption) | exact RRd_o h0 (Or.inr (by assumption)) | exact OBq_o h0 (by assumption) | exact OBq_o h0 (Obt_q (by assumption)) | exact G_part h0.1 (by assumption) | exact Nmo_o (by assumption)); decide; decide) | ((with_reducible refine sf_gG h0 (by assumption) ?_ ?_ ?_ ?_ (by with_unfolding_all exact rfl) ?_); decide; decide; decide; decide) | ((with_reducible refine sf_o ?_ (fun l => ?_)); (first | assumption | exact GS_o h0.1 (by decide) (by decide) | exact RRd_o h0 (by assumption) | exact RRd_o h0 (Or.inr (by assumption)) | exact OBq_o h0 (by assumption) | exact OBq_o h0 (Obt_q (by assumption)) | exact G_part h0.1 (by assumption) | exact Nmo_o (by assumption))) | ((with_reducible refine sf_s ?_)) | ((with_reducible refine sf_sb (by assumption) ?_)) | ((with_reducible refine sf_r ?_ ?_); (first | exact any | assumption | exact ⟨false, rfl⟩ | exact ⟨true, rfl⟩); assumption) | ((with_reducible refine sf_z ?_ ?_ ?_); (first | exact ⟨false, rfl⟩ | exact ⟨true, rfl⟩ | assumption); (first | exact any | exact ⟨false, rfl⟩ | exact ⟨true, rfl⟩ | assumption); assumption) | ((with_reducible refine sx_parAt h2 (by assumption) ?_ ?_ (fun x hx => ?_)); assumption; omega))
theorem sf_Hplace {i : Int32} (h4 : S4 sk L τ0) (hI : SI zb sk L τ0 τ) (ha : fI τ 147 18 = nI 0) (h1i : ¬ i < 0) (h2i : i < fI τ 1700 11) : Sf sk L (SI zb sk L τ0) Any (f_H_place F c 0 i (cH sk L τ)) := by
  have h2 := h4.1
  have h0 := h2.1.1
  obtain ⟨j, hj, rfl⟩ := nI_of h1i
  have h3i : ¬ fI τ 1700 11 ≤ nI j := fun h => absurd h2i (Int32.not_lt.mpr h)
  unfold f_H_place
  repeat' (first | (exact absurd ha (by assumption)) | (exact absurd (by assumption) h1i) | (exact absurd h2i (by assumption)) | exact absurd (show nI 0 = 0 from rfl) (by assumption) | exact absurd (show nI 1 = 0 by assumption) (by decide) | ((with_reducible refine sf_i (fun hc => ?_) (fun hc => ?_))) | ((with_reducible refine sf_gF h0 ?_ ?_ ?_ ?_ ?_); decide; decide; decide; decide) | ((with_reducible refine sf_gI ?_ ?_ ?_ ?_); (first | assumption | exact GS_o h0.1 (by decide) (by decide) | exact RRd_o h0 (by assumption) | exact RRd_o h0 (Or.inr (by assumption)) | exact OBq_o h0 (by assumption) | exact OBq_o h0 (Obt_q (by assumption)) | exact G_part h0.1 (by assumption) | exact Nmo_o (by assumption)); decide; decide) | ((with_reducible refine sf_gJ ?_ ?_ ?_ ?_); (first | assumption | exact GS_o h0.1 (by decide) (by decide) | exact RRd_o h0 (by assumption) | exact RRd_o h0 (Or.inr (by assumption)) | exact OBq_o h0 (by assumption) | exact OBq_o h0 (Obt_q (by assumption)) | exact G_part h0.1 (by assumption) | exact Nmo_o (by assumption)); decide; decide) | ((with_reducible refine sf_gN ?_ ?_ ?_ ?_); (first | assumption | exact GS_o h0.1 (by decide) (by decide) | exact RRd_o h0 (by assumption) | exact RRd_o h0 (Or.inr (by assumption)) | exact OBq_o h0 (by assumption) | exact OBq_o h0 (Obt_q (by assumption)) | exact G_part h0.1 (by assumption) | exact Nmo_o (by assumption)); decide; decide) | ((with_reducible refine sf_gG h0 (by assumption) ?_ ?_ ?_ ?_ (by with_unfolding_all exact rfl) ?_); decide; decide; decide; decide) | ((with_reducible refine sf_o ?_ (fun l => ?_)); (first | assumption | exact GS_o h0.1 (by decide) (by decide) | exact RRd_o h0 (by assumption) | exact RRd_o h0 (Or.inr (by assumption)) | exact OBq_o h0 (by assumption) | exact OBq_o h0 (Obt_q (by assumption)) | exact G_part h0.1 (by assumption) | exact Nmo_o (by assumption))) | ((with_reducible refine sf_s ?_)) | ((with_reducible refine sf_sb (by assumption) ?_)) | ((with_reducible refine sf_r ?_ ?_); (first | exact any | assumption | exact ⟨false, rfl⟩ | exact ⟨true, rfl⟩); assumption) | ((with_reducible refine sf_z ?_ ?_ ?_); (first | exact ⟨false, rfl⟩ | exact ⟨true, rfl⟩ | assumption); (first | exact any | exact ⟨false, rfl⟩ | exact ⟨true, rfl⟩ | assumption); assumption) | ((with_reducible refine sx_parAt h2 (by assumption) ?_ ?_ (fun x hx => ?_)); assumption; omega))
theorem sf_Hout {i : Int32} (h0 : S0 sk L τ0) (hF : 65540 < F) (hI : SI zb sk L τ0 τ) : i < 0 ∨ (∃ r, fN τ 0 1 = some r ∧ ob sk L 10 r ∧ ¬ i < fI τ r 1) ∨ Sf sk L (SI zb sk L τ0) Any (f_H_out F c 0 i (cH sk L τ)) := by
  obtain ⟨ro, rd, hc, e1, e2⟩ := hI.2.2.1.1
  have hr : RWr ro := by unfold RWr; omega
  have ho := RRd_o h0 (Or.inr hr)
  by_cases c1 : i < 0
  · exact Or.inl c1
  · by_cases c2 : i < fI τ ro 1
    · refine Or.inr (Or.inr ?_)
      unfold f_H_out
      rw [if_neg c1, C0r1 (G0 h0.1) e1, bs, C10g1 ho, bs, if_pos c2, bs]
      repeat' (first | exact absurd (show nI 0 = 0 from rfl) (by assumption) | exact absurd (show nI 1 = 0 by assumption) (by decide) | ((with_reducible refine sf_i (fun hc => ?_) (fun hc => ?_))) | ((with_reducible refine sf_gF h0 ?_ ?_ ?_ ?_ ?_); decide; decide; decide; decide) | ((with_reducible refine sf_gI ?_ ?_ ?_ ?_); (first | assumption | exact GS_o h0.1 (by decide) (by decide) | exact RRd_o h0 (by assumption) | exact RRd_o h0 (Or.inr (by assumption)) | exact OBq_o h0 (by assumption) | exact OBq_o h0 (Obt_q (by assumption)) | exact G_part h0.1 (by assumption) | exact Nmo_o (by assumption)); decide; decide) | ((with_reducible refine sf_gJ ?_ ?_ ?_ ?_); (first | assumption | exact GS_o h0.1 (by decide) (by decide) | exact RRd_o h0 (by assumption) | exact RRd_o h0 (Or.inr (by assumption)) | exact OBq_o h0 (by assumption) | exact OBq_o h0 (Obt_q (by assumption)) | exact G_part h0.1 (by assumption) | exact Nmo_o (by assumption)); decide; decide) | ((with_reducible refine sf_gN ?_ ?_ ?_ ?_); (first | assumption | exact GS_o h0.1 (by decide) (by decide) | exact RRd_o h0 (by assumption) | exact RRd_o h0 (Or.inr (by assumption)) | exact OBq_o h0 (by assumption) | exact OBq_o h0 (Obt_q (by assumption)) | exact G_part h0.1 (by assumption) | exact Nmo_o (by assumption)); decide; decide) | ((with_reducible refine sf_gG h0 (by assumption) ?_ ?_ ?_ ?_ (by with_unfolding_all exact rfl) ?_); decide; decide; decide; decide) | ((with_reducible refine sf_o ?_ (fun l => ?_)); (first | assumption | exact GS_o h0.1 (by decide) (by decide) | exact RRd_o h0 (by assumption) | exact RRd_o h0 (Or.inr (by assumption)) | exact OBq_o h0 (by assumption) | exact OBq_o h0 (Obt_q (by assumption)) | exact G_part h0.1 (by assumption) | exact Nmo_o (by assumption))) | ((with_reducible refine sf_s ?_)) | ((with_reducible refine sf_sb (by assumption) ?_)) | ((with_reducible refine sf_r ?_ ?_); (first | exact any | assumption | exact ⟨false, rfl⟩ | exact ⟨true, rfl⟩); assumption) | ((with_reducible refine sf_z ?_ ?_ ?_); (first | exact ⟨false, rfl⟩ | exact ⟨true, rfl⟩ | assumption); (first | exact any | exact ⟨false, rfl⟩ | exact ⟨true, rfl⟩ | assumption); assumption) | ((with_reducible refine sx_num h0 hF (by assumption) ?_ ?_ (fun w hw => ?_)); (first | assumption | exact Or.inr (by assumption) | (unfold RRd RWr; decide)); decide))
    · exact Or.inr (Or.inl ⟨ro, e1, ho, c2⟩)
end CCM
