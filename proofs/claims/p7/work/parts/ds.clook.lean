/-! the class looks, boots, and tells an address: safe (steps spelled out by sf/pp.py) -/
/-- the names of the latest link -/
def NTb (sk : Nat → Nat × Nat × Nat) (L : Nat) (τ : px_TT) : Prop := ∃ m, m ≤ 4128 ∧ fI τ 148 2 = nI m ∧ ∀ i, i < m → ∃ p, eN τ 149 i = some p ∧ 1815 ≤ p ∧ ob sk L 5 p
section CLK
variable {F : Nat} {c : px_CT} {sk : Nat → Nat × Nat × Nat} {L : Nat} {zb : Option Nat} {τ0 τ : px_TT} {r q : Nat} {I : px_TT → Prop} {α : Type} {V : α → Prop}
theorem so_stay_4 (h0 : S0 sk L τ0) (hF : 65540 < F) (hI : SI zb sk L τ0 τ) : ∀ (d j f : Nat) (a1 : Int32), j + d = 1536 → d < f → ∃ v, f_Link_countStaying_4 F c f 147 a1 (nI j) (cH sk L τ) = some (v, cH sk L τ) := by
  have hS := h0.1
  have hR := GR_Z h0.2.1 hI.1
  have o147 := G147 hS
  intro d
  induction d with
  | zero =>
    intro j f a1 hj hf
    obtain ⟨f, rfl⟩ : ∃ y, f = y + 1 := ⟨f - 1, by omega⟩
    unfold f_Link_countStaying_4 f_Link_countStaying_50
    rw [C3g14 o147, bs, C3r4 o147 (GR_r (v := 151) hR (by decide)), bs, c_l (G151 hS) (by decide), bs]
    rw [if_pos (show nI 1536 ≤ nI j from nI_le (by omega) (by omega)), ite_self]
    exact ⟨_, rfl⟩
  | succ d ih =>
    intro j f a1 hj hf
    obtain ⟨f, rfl⟩ : ∃ y, f = y + 1 := ⟨f - 1, by omega⟩
    have hp := G_part hS (show j < 1536 by omega)
    unfold f_Link_countStaying_4 f_Link_countStaying_50 f_Link_countStaying_42
    rw [C3g14 o147, bs, C3r4 o147 (GR_r (v := 151) hR (by decide)), bs, c_l (G151 hS) (by decide), bs, if_neg (show ¬ nI 1536 ≤ nI j from nI_ge (by omega) (by omega)), bs, c_aN (G151 hS) (Or.inr (Or.inr rfl)) (by decide) (by omega), bs, hR.2.2 j (by omega), bs, C8g9 hp, bs, nI_add]
    split
    · exact ⟨_, rfl⟩
    · split
      · exact ih _ _ _ (by omega) (by omega)
      · exact ih _ _ _ (by omega) (by omega)
theorem so_stay (h0 : S0 sk L τ0) (hF : 65540 < F) (hI : SI zb sk L τ0 τ) : ∃ v, f_Link_countStaying F c 147 (cH sk L τ) = some (v, cH sk L τ) := so_stay_4 h0 hF hI 1536 0 F _ rfl (by omega)
theorem sf_lookL_36 {a1 a2 s0 : Int32} (h0 : S0 sk L τ0) (hF : 65540 < F) (hI : SI zb sk L τ0 τ) : Sf sk L (SI zb sk L τ0) Any (f_H_lookAtLink_36 F c 0 a1 a2 s0 (cH sk L τ)) := by
  unfold f_H_lookAtLink_36 f_H_lookAtLink_151 f_H_lookAtLink_180 f_H_lookAtLink_206 f_H_lookAtLink_222
  repeat' (first | ((with_reducible refine sx_of (so_stay h0 hF hI) (fun v => ?_))) | ((with_reducible refine sx_of (so_segs h0 hF hI) (fun v => ?_))) | exact absurd (show nI 0 = 0 from rfl) (by assumption) | exact absurd (show nI 1 = 0 by assumption) (by decide) | ((with_reducible refine sf_i (fun hc => ?_) (fun hc => ?_))) | ((with_reducible refine sf_gF h0 ?_ ?_ ?_ ?_ ?_); decide; decide; decide; decide) | ((with_reducible refine sf_gI ?_ ?_ ?_ ?_); (first | assumption | exact GS_o h0.1 (by decide) (by decide) | exact RRd_o h0 (by assumption) | exact RRd_o h0 (Or.inr (by assumption)) | exact OBq_o h0 (by assumption) | exact OBq_o h0 (Obt_q (by assumption)) | exact G_part h0.1 (by assumption) | exact Nmo_o (by assumption)); decide; decide) | ((with_reducible refine sf_gJ ?_ ?_ ?_ ?_); (first | assumption | exact GS_o h0.1 (by decide) (by decide) | exact RRd_o h0 (by assumption) | exact RRd_o h0 (Or.inr (by assumption)) | exact OBq_o h0 (by assumption) | exact OBq_o h0 (Obt_q (by assumption)) | exact G_part h0.1 (by assumption) | exact Nmo_o (by assumption)); decide; decide) | ((with_reducible refine sf_gN ?_ ?_ ?_ ?_); (first | assumption | exact GS_o h0.1 (by decide) (by decide) | exact RRd_o h0 (by assumption) | exact RRd_o h0 (Or.inr (by assumption)) | exact OBq_o h0 (by assumption) | exact OBq_o h0 (Obt_q (by assumption)) | exact G_part h0.1 (by assumption) | exact Nmo_o (by assumption)); decide; decide) | ((with_reducible refine sf_gG h0 (by assumption) ?_ ?_ ?_ ?_ (by with_unfolding_all exact rfl) ?_); decide; decide; decide; decide) | ((with_reducible refine sf_o ?_ (fun l => ?_)); (first | assumption | exact GS_o h0.1 (by decide) (by decide) | exact RRd_o h0 (by assumption) | exact RRd_o h0 (Or.inr (by assumption)) | exact OBq_o h0 (by assumption) | exact OBq_o h0 (Obt_q (by assumption)) | exact G_part h0.1 (by assumption) | exact Nmo_o (by assumption))) | ((with_reducible refine sf_s ?_)) | ((with_reducible refine sf_sb (by assumption) ?_)) | ((with_reducible refine sf_r ?_ ?_); (first | exact any | assumption | exact ⟨false, rfl⟩ | exact ⟨true, rfl⟩); assumption) | ((with_reducible refine sf_z ?_ ?_ ?_); (first | exact ⟨false, rfl⟩ | exact ⟨true, rfl⟩ | assumption); (first | exact any | exact ⟨false, rfl⟩ | exact ⟨true, rfl⟩ | assumption); assumption))
theorem sf_lookL {a1 : Int32} (h0 : S0 sk L τ0) (hF : 65540 < F) (hI : SI zb sk L τ0 τ) : Sf sk L (SI zb sk L τ0) Any (f_H_lookAtLink F c 0 a1 (cH sk L τ)) := by
  unfold f_H_lookAtLink f_H_lookAtLink_15 f_H_lookAtLink_31
  repeat' (first | (exact sf_lookL_36 h0 hF hI) | exact absurd (show nI 0 = 0 from rfl) (by assumption) | exact absurd (show nI 1 = 0 by assumption) (by decide) | ((with_reducible refine sf_i (fun hc => ?_) (fun hc => ?_))) | ((with_reducible refine sf_gF h0 ?_ ?_ ?_ ?_ ?_); decide; decide; decide; decide) | ((with_reducible refine sf_gI ?_ ?_ ?_ ?_); (first | assumption | exact GS_o h0.1 (by decide) (by decide) | exact RRd_o h0 (by assumption) | exact RRd_o h0 (Or.inr (by assumption)) | exact OBq_o h0 (by assumption) | exact OBq_o h0 (Obt_q (by assumption)) | exact G_part h0.1 (by assumption) | exact Nmo_o (by assumption)); decide; decide) | ((with_reducible refine sf_gJ ?_ ?_ ?_ ?_); (first | assumption | exact GS_o h0.1 (by decide) (by decide) | exact RRd_o h0 (by assumption) | exact RRd_o h0 (Or.inr (by assumption)) | exact OBq_o h0 (by assumption) | exact OBq_o h0 (Obt_q (by assumption)) | exact G_part h0.1 (by assumption) | exact Nmo_o (by assumption)); decide; decide) | ((with_reducible refine sf_gN ?_ ?_ ?_ ?_); (first | assumption | exact GS_o h0.1 (by decide) (by decide) | exact RRd_o h0 (by assumption) | exact RRd_o h0 (Or.inr (by assumption)) | exact OBq_o h0 (by assumption) | exact OBq_o h0 (Obt_q (by assumption)) | exact G_part h0.1 (by assumption) | exact Nmo_o (by assumption)); decide; decide) | ((with_reducible refine sf_gG h0 (by assumption) ?_ ?_ ?_ ?_ (by with_unfolding_all exact rfl) ?_); decide; decide; decide; decide) | ((with_reducible refine sf_o ?_ (fun l => ?_)); (first | assumption | exact GS_o h0.1 (by decide) (by decide) | exact RRd_o h0 (by assumption) | exact RRd_o h0 (Or.inr (by assumption)) | exact OBq_o h0 (by assumption) | exact OBq_o h0 (Obt_q (by assumption)) | exact G_part h0.1 (by assumption) | exact Nmo_o (by assumption))) | ((with_reducible refine sf_s ?_)) | ((with_reducible refine sf_sb (by assumption) ?_)) | ((with_reducible refine sf_r ?_ ?_); (first | exact any | assumption | exact ⟨false, rfl⟩ | exact ⟨true, rfl⟩); assumption) | ((with_reducible refine sf_z ?_ ?_ ?_); (first | exact ⟨false, rfl⟩ | exact ⟨true, rfl⟩ | assumption); (first | exact any | exact ⟨false, rfl⟩ | exact ⟨true, rfl⟩ | assumption); assumption))
theorem sf_Hlook {a1 : Int32} (h0 : S0 sk L τ0) (hF : 65540 < F) (hI : SI zb sk L τ0 τ) (h1 : ¬ a1 < 0) (h2 : a1 ≤ nI 18) : Sf sk L (SI zb sk L τ0) Any (f_H_look F c 0 a1 (cH sk L τ)) := by
  unfold f_H_look
  rw [if_neg h1, if_pos h2]
  repeat' (first | ((with_reducible refine sx_outR h0 (by assumption) (fun r hr => ?_))) | exact absurd (show nI 0 = 0 from rfl) (by assumption) | exact absurd (show nI 1 = 0 by assumption) (by decide) | ((with_reducible refine sf_i (fun hc => ?_) (fun hc => ?_))) | ((with_reducible refine sf_gF h0 ?_ ?_ ?_ ?_ ?_); decide; decide; decide; decide) | ((with_reducible refine sf_gI ?_ ?_ ?_ ?_); (first | assumption | exact GS_o h0.1 (by decide) (by decide) | exact RRd_o h0 (by assumption) | exact RRd_o h0 (Or.inr (by assumption)) | exact OBq_o h0 (by assumption) | exact OBq_o h0 (Obt_q (by assumption)) | exact G_part h0.1 (by assumption) | exact Nmo_o (by assumption)); decide; decide) | ((with_reducible refine sf_gJ ?_ ?_ ?_ ?_); (first | assumption | exact GS_o h0.1 (by decide) (by decide) | exact RRd_o h0 (by assumption) | exact RRd_o h0 (Or.inr (by assumption)) | exact OBq_o h0 (by assumption) | exact OBq_o h0 (Obt_q (by assumption)) | exact G_part h0.1 (by assumption) | exact Nmo_o (by assumption)); decide; decide) | ((with_reducible refine sf_gN ?_ ?_ ?_ ?_); (first | assumption | exact GS_o h0.1 (by decide) (by decide) | exact RRd_o h0 (by assumption) | exact RRd_o h0 (Or.inr (by assumption)) | exact OBq_o h0 (by assumption) | exact OBq_o h0 (Obt_q (by assumption)) | exact G_part h0.1 (by assumption) | exact Nmo_o (by assumption)); decide; decide) | ((with_reducible refine sf_gG h0 (by assumption) ?_ ?_ ?_ ?_ (by with_unfolding_all exact rfl) ?_); decide; decide; decide; decide) | ((with_reducible refine sf_o ?_ (fun l => ?_)); (first | assumption | exact GS_o h0.1 (by decide) (by decide) | exact RRd_o h0 (by assumption) | exact RRd_o h0 (Or.inr (by assumption)) | exact OBq_o h0 (by assumption) | exact OBq_o h0 (Obt_q (by assumption)) | exact G_part h0.1 (by assumption) | exact Nmo_o (by assumption))) | ((with_reducible refine sf_s ?_)) | ((with_reducible refine sf_sb (by assumption) ?_)) | ((with_reducible refine sf_r ?_ ?_); (first | exact any | assumption | exact ⟨false, rfl⟩ | exact ⟨true, rfl⟩); assumption) | ((with_reducible refine sf_z ?_ ?_ ?_); (first | exact ⟨false, rfl⟩ | exact ⟨true, rfl⟩ | assumption); (first | exact any | exact ⟨false, rfl⟩ | exact ⟨true, rfl⟩ | assumption); assumption) | ((with_reducible refine sf_x (sf_lookL h0 hF (by assumption)) ?_); intro v τ hv hi))
theorem so_findN_2 {p : Nat} (hS : GS sk L) (hR : GR τ) (hnt : NTb sk L τ) (hp : ob sk L 5 p) : ∀ (d j f : Nat), j + d = 4128 → d < f → ∃ o, f_Names_find_2 F c f 148 (some p) (nI j) (cH sk L τ) = some (o, cH sk L τ) ∧ ∀ p', o = some p' → ob sk L 5 p' := by
  obtain ⟨m, n4, e2, n7⟩ := hnt
  have go : ∀ (d j f : Nat), j + d = 4128 → m ≤ j → d < f → ∃ o, f_Names_find_2 F c f 148 (some p) (nI j) (cH sk L τ) = some (o, cH sk L τ) ∧ ∀ p', o = some p' → ob sk L 5 p' := by
    intro d j f hj hx hf
    obtain ⟨f, rfl⟩ : ∃ y, f = y + 1 := ⟨f - 1, by omega⟩
    unfold f_Names_find_2 f_Names_find_85
    exact ⟨none, by rw [C6g2 (G148 hS), bs, e2, if_pos (nI_le hx (by omega))], fun p' e => by cases e⟩
  intro d
  induction d with
  | zero => intro j f hj hf; exact go 0 j f hj (by omega) hf
  | succ d ih =>
    intro j f hj hf
    by_cases hx : m ≤ j
    · exact go (d + 1) j f hj hx hf
    obtain ⟨p1, ej, _, hn⟩ := n7 j (by omega)
    obtain ⟨f, rfl⟩ : ∃ y, f = y + 1 := ⟨f - 1, by omega⟩
    obtain ⟨o, eo, ho⟩ := ih (j + 1) f (by omega) (by omega)
    unfold f_Names_find_2 f_Names_find_79 f_Names_find_77
    rw [C6g2 (G148 hS), bs, e2, if_neg (nI_ge (by omega) (by omega)), C6r0 (G148 hS) (GR_r (v := 149) hR (by decide)), bs, c_l (G149 hS) (by decide), bs, if_neg (nI_ge (by omega) (by omega)), bs, c_aN (G149 hS) (Or.inr (Or.inl rfl)) (by decide) (by omega), bs, ej]
    dsimp only
    rw [nI_add, C5g0 hn, bs, bs, eo, C5g0 hp, bs, C5g1 hn, bs, C5g1 hp, bs, C5g2 hn, bs, C5g2 hp, bs, C5g3 hn, bs, C5g3 hp, bs]
    split
    · split
      · split
        · split
          · exact ⟨_, rfl, fun p' e => by injection e with e; rw [← e]; exact hn⟩
          · exact ⟨o, rfl, ho⟩
        · exact ⟨o, rfl, ho⟩
      · exact ⟨o, rfl, ho⟩
    · exact ⟨o, rfl, ho⟩
theorem k_Haddress {n : Nat} {b : Nat → Nat} (hF : 65540 < F) (hS : GS sk L) (hR : GR τ) (ht : CTp τ n b) (hnt : NTb sk L τ) (ha : fI τ 147 18 = nI 0) : ∃ v τ', f_H_address F c 0 (cH sk L τ) = some (v, cH sk L τ') ∧ GR τ' ∧ CTp τ' 0 (fun _ => 0) ∧ frT τ τ' := by
  have o0 := G0 hS
  have o147 := G147 hS
  obtain ⟨τ', e, hR', ht', hf, _⟩ := k_readTapeName (F := F) (c := c) hS hR (by omega) ht
  have hnt' : NTb sk L τ' := by
    obtain ⟨m, n4, e2, n7⟩ := hnt
    exact ⟨m, n4, (hf.1 148 2 (by decide) (by decide)).trans e2, fun i hi => by rw [hf.2.2.2.2.2 149]; exact n7 i hi⟩
  unfold f_H_address f_H_address_45 f_H_address_60
  rw [C0r11 o0 (GR_r (v := 147) hR (by decide)), bs, C3g18 o147, bs, if_pos (show fI τ 147 18 = 0 from ha), c_o o0, bs, e, xb_mk]
  cases tnm b n with
  | false =>
    rw [if_pos (show bI false = 0 from rfl)]
    exact ⟨_, τ', rfl, hR', ht', hf⟩
  | true =>
    rw [if_neg (show ¬ bI true = 0 by decide), C0r11 o0 (GR_r (v := 147) hR' (by decide)), bs, C3r3 o147 (GR_r (v := 148) hR' (by decide)), bs, C0r10 o0 (GR_r (v := 146) hR' (by decide)), bs, c_o (G148 hS), bs]
    obtain ⟨o, eo, ho⟩ := so_findN_2 (F := F) (c := c) hS hR' hnt' (G146 hS) 4128 0 F rfl (by omega)
    unfold f_Names_find
    rw [eo, xb_mk]
    cases o with
    | none => exact ⟨_, τ', rfl, hR', ht', hf⟩
    | some p =>
      dsimp only
      rw [C5g14 (ho p rfl), bs]
      exact ⟨_, τ', rfl, hR', ht', hf⟩
theorem sf_boot_15 {a1 : Int32} (h4 : S4 sk L τ0) (hK : KT c) (hF : 65540 < F) (hr : RRd r) (hI : SI none sk L τ0 τ) : Sf sk L (fun τ' => (a1 = 0 ∧ SI none sk L τ0 τ') ∨ (¬ a1 = 0 ∧ ∃ τ1, SI none sk L τ0 τ1 ∧ τ' = tI (tI τ1 1 1 (nI 0)) 1 2 (bI false))) Any (f_H_boot_15 F c 0 a1 r (cH sk L τ)) := by
  have h0 := h4.1.1.1
  have o0 := G0 h0.1
  have hcs : ∀ τ', SI none sk L τ0 τ' → ∃ A, fN τ' r 0 = some A ∧ CS sk L τ' A := fun τ' hi => by
    rcases hr with rfl | hr
    · exact ⟨2, GR_r (GR_Z h0.2.1 hi.1) (by decide), 8192, G2 h0.1, by decide, fun k => by rw [hi.2.1.2.1]; exact h4.2.2.2.2.2 k⟩
    · obtain ⟨A, n, hT⟩ := RWr_T hr
      exact ⟨A, (SI_row hi hT).2.2.2.1, CS_S hi hT⟩
  have key : ∀ τ, SI none sk L τ0 τ → Sf sk L (fun τ' => (a1 = 0 ∧ SI none sk L τ0 τ') ∨ (¬ a1 = 0 ∧ ∃ τ1, SI none sk L τ0 τ1 ∧ τ' = tI (tI τ1 1 1 (nI 0)) 1 2 (bI false))) Any (f_H_boot_43 F c 0 a1 (cH sk L τ)) := fun τ hi => by
    unfold f_H_boot_43 f_H_boot_54
    by_cases c1 : a1 = 0
    · rw [if_pos c1]
      exact sf_gI o0 (by decide) (by decide) (sf_r any (Or.inl ⟨c1, hi⟩))
    · rw [if_neg c1, C0r0 o0 (GR_r (v := 1) (GR_Z h0.2.1 hi.1) (by decide)), bs, c_o (G1 h0.1), bs, k_clear h0.1, xb_mk]
      exact sf_gI o0 (by decide) (by decide) (sf_r any (Or.inr ⟨c1, τ, hi, rfl⟩))
  unfold f_H_boot_15
  refine sf_gG h0 hI (by decide) (by decide) (by decide) (by decide) (q := 1718) rfl ?_
  refine sf_o (GS_o h0.1 (by decide) (by decide)) (fun _ => sw_x (sf_err h0 hK hF hr hI) ?_)
  rintro v _ hv rfl
  refine sw_pI (I1 := SI none sk L τ0) o0 (by decide) (by decide) (SI_tI hI (Or.inl ⟨rfl, by decide⟩)) (fun τ hi => ?_)
  refine sf_gI o0 (by decide) (by decide) (sf_i (fun hc => ?_) (fun hc => key _ hi))
  refine sf_gG h0 hi (by decide) (by decide) (by decide) (by decide) (q := 1718) rfl ?_
  exact sf_o (GS_o h0.1 (by decide) (by decide)) (fun _ => sw_x (sf_load h0 hF hr hcs hi) (fun v τ hv hi => key _ hi))
theorem sf_Hboot {a1 : Int32} (h4 : S4 sk L τ0) (hK : KT c) (hF : 65540 < F) (hI : SI none sk L τ0 τ) : Sf sk L (fun τ' => (a1 = 0 ∧ SI none sk L τ0 τ') ∨ (¬ a1 = 0 ∧ ∃ τ1, SI none sk L τ0 τ1 ∧ τ' = tI (tI τ1 1 1 (nI 0)) 1 2 (bI false))) Any (f_H_boot F c 0 a1 (cH sk L τ)) := by
  have h0 := h4.1.1.1
  unfold f_H_boot
  refine sf_i (fun hc => sx_outR h0 hI (fun r hr => sf_boot_15 h4 hK hF (Or.inr hr) hI)) (fun hc => ?_)
  refine sf_gG h0 hI (by decide) (by decide) (by decide) (by decide) (q := 1) rfl ?_
  exact sf_boot_15 h4 hK hF (Or.inl rfl) hI
end CLK
