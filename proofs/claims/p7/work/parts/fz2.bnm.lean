/-! named: class and reference answer alike (steps spelled out by sf/pp.py) -/
section CNZ
variable {F : Nat} {c : px_CT} {sk : Nat → Nat × Nat × Nat} {L : Nat} {r A n : Nat}
theorem k_set_3Z {v : Int64} {k : Nat} {p : Int32} (hk : k < 2 ^ 31) : ∀ (d j f : Nat) (τ : px_TT), j + d = k → d < f → rowOK sk L τ r A n → ∃ τ', f_Row_set_3 F c f r p (nI k) v (nI j) (cH sk L τ) = some ((), cH sk L τ') ∧ rowOK sk L τ' r A n ∧ frRw r A τ τ' ∧ ∀ a k, fI τ' a k = fI τ a k := by
  intro d
  induction d with
  | zero =>
    intro j f τ hj hf h
    obtain ⟨f, rfl⟩ : ∃ x, f = x + 1 := ⟨f - 1, by omega⟩
    refine ⟨τ, ?_, h, frRw_refl, fun _ _ => rfl⟩
    unfold f_Row_set_3 f_Row_set_51
    rw [if_pos (nI_le (by omega) (by omega))]
  | succ d ih =>
    intro j f τ hj hf h
    obtain ⟨f, rfl⟩ : ∃ x, f = x + 1 := ⟨f - 1, by omega⟩
    obtain ⟨z, hz, ez⟩ := h.2.2.2.2.1
    have hn := h.2.2.1
    unfold f_Row_set_3 f_Row_set_45
    rw [if_neg (nI_ge (by omega) (by omega)), nI_add]
    by_cases c0 : p + nI j < 0
    · obtain ⟨τ', g1, g2, g3, g4⟩ := ih (j + 1) f τ (by omega) (by omega) h
      refine ⟨τ', ?_, g2, g3, g4⟩
      rw [if_pos c0]; exact g1
    · rw [if_neg c0, C10g1 h.1, bs, ez]
      obtain ⟨i, hi, ei⟩ := nI_of c0
      by_cases c1 : z ≤ i
      · obtain ⟨τ', g1, g2, g3, g4⟩ := ih (j + 1) f τ (by omega) (by omega) h
        refine ⟨τ', ?_, g2, g3, g4⟩
        rw [ei, if_pos (nI_le c1 hi)]; exact g1
      · have h1 := rowOK_v (g := upd (eI τ A) i (bV v j)) h (upd_B h.2.2.2.2.2.2 (isB_8 _))
        obtain ⟨τ', g1, g2, g3, g4⟩ := ih (j + 1) f _ (by omega) (by omega) h1
        refine ⟨τ', ?_, g2, frRw_trans frRw_v g3, fun a k => g4 a k⟩
        rw [ei, if_neg (nI_ge (by omega) (by omega)), C10r0 h.1 h.2.2.2.1, bs, c_sI h.2.1 (Or.inl rfl) (by omega) (by omega), bs]
        exact g1
theorem k_setZ {τ : px_TT} {v : Int64} {k : Nat} {p : Int32} (hF : k < F) (hk : k < 2 ^ 31) (h : rowOK sk L τ r A n) : ∃ τ', f_Row_set F c r p (nI k) v (cH sk L τ) = some ((), cH sk L τ') ∧ rowOK sk L τ' r A n ∧ frRw r A τ τ' ∧ ∀ a k, fI τ' a k = fI τ a k := k_set_3Z hk k 0 F τ (Nat.zero_add _) hF h
theorem k_fill0Z {τ : px_TT} {e cc : Nat} {w : Int32} (hF : 65536 < F) (he : e < 2 ^ 62) (h : rowOK sk L τ r A n) (hz : rz τ r n cc) (hx : cc ≤ n → e = cc) : ∃ τ', f_Row_fillTo F c r (lN e) w (cH sk L τ) = some ((), cH sk L τ') ∧ rowOK sk L τ' r A n ∧ frRw r A τ τ' ∧ rz τ' r n cc := by
  have hn := h.2.2.1
  unfold f_Row_fillTo
  rw [C10r0 h.1 h.2.2.2.1, bs, c_l h.2.1 (by decide), bs]
  by_cases c1 : lN e ≤ (nI n).toInt64
  · rw [if_pos c1]
    rw [nI_l (by omega)] at c1
    have c1' : e ≤ n := (pk_lLE (by omega) (by omega)).mp c1
    obtain ⟨τ', g1, g2, g3, g4, g5⟩ := k_fillTo_16Z (F := F) (c := c) (e := e) (w := w) hF he h
    refine ⟨τ', g1, g2, g3, fun q => ?_, fun q => g4.trans (hz.2 q)⟩
    have ee := hx q
    exact ⟨by rw [g5 cc (by omega) c1' (hz.1 q).1, ee], g4.trans (hz.1 q).2⟩
  · obtain ⟨τ', g1, g2, g3, g4, g5⟩ := k_fillTo_16Z (F := F) (c := c) (e := e) (w := w) hF he (rowOK_2 (b := true) h)
    refine ⟨τ', ?_, g2, frRw_trans frRw_2 g3, fun q => ?_, fun _ => g4.trans tI_at⟩
    · rw [if_neg c1, show (nI 1 : Int32) = bI true from rfl, C10z2 h.1, bs]
      exact g1
    · exfalso
      have ee := hx q
      refine c1 ?_
      rw [nI_l (by omega)]
      exact (pk_lLE (by omega) (by omega)).mpr (by omega)
end CNZ
theorem up8 (z : Nat) : upN z (2 ^ 3) = wiN z := by
  show (z + 8 - 1) / 8 * 8 = (z + 7) / 8 * 8
  omega
section CNY
variable {F : Nat} {c : px_CT} {sk : Nat → Nat × Nat × Nat} {L : Nat} {zb : Option Nat} {τ0 τ : px_TT} {r A n cc U : Nat}
theorem sz_set {v : Int64} {k : Nat} {p : Int32} (hF : 65540 < F) (hr : TRw r A n) (hk : k ≤ 8) (hI : SZ zb sk L τ0 r n cc τ) : Sf sk L (SZ zb sk L τ0 r n cc) Any (f_Row_set F c r p (nI k) v (cH sk L τ)) := by
  obtain ⟨τ', e, h1, h2, h3⟩ := k_setZ (F := F) (c := c) (v := v) (k := k) (p := p) (by omega) (by omega) (SI_row hI.1 hr)
  exact sz_Rw hI.1 hI.2.2 hr ⟨τ', e, h1, h2, rz_fr hI.2.1 (fun k => h3 r k)⟩
theorem sz_next (hF : 65540 < F) (hr : TRw r A n) (hI : SZ zb sk L τ0 r n cc τ) : Sf sk L (SZ zb sk L τ0 r n (wiN cc)) Any (f_Scribe_nextPlace F c r (cH sk L τ)) := by
  have hro := SI_row hI.1 hr
  obtain ⟨z, hz, ez⟩ := hro.2.2.2.2.1
  have hn := hro.2.2.1
  have hu := wiN_b z
  have hw := wiN_b cc
  have ex : cc ≤ n → wiN z = wiN cc := fun q => by rw [rz_z hI.2.1 hn hz ez q]
  have key : Sf sk L (SZ zb sk L τ0 r n (wiN cc)) Any (f_Row_fillTo F c r (lN (wiN z)) (nI 0) (cH sk L τ)) := by
    by_cases ce : wiN cc = cc
    · have h := sz_Rw hI.1 hI.2.2 hr (k_fill0Z (F := F) (c := c) (e := wiN z) (cc := cc) (w := nI 0) (by omega) (by omega) hro hI.2.1 (fun q => (ex q).trans ce))
      rw [ce]
      exact h
    · have h := sz_Rw hI.1 hI.2.2 hr (k_fillToZ (F := F) (c := c) (e := wiN z) (cc := cc) (k := wiN cc - cc) (w := nI 0) (by omega) (by omega) hro hI.2.1 (by omega) (fun q => by rw [ex q]; omega))
      rw [show cc + (wiN cc - cc) = wiN cc by omega] at h
      exact h
  unfold f_Scribe_nextPlace
  rw [C10g1 hro.1, bs, ez, nI_l (by omega), show (8 : Int64) = lN (2 ^ 3) from rfl, k_up (by decide) (by omega), xb_mk, c_o hro.1, bs, up8]
  refine sz_x key (fun _ τ1 _ i1 => ?_)
  rw [C10g1 hro.1, bs]
  exact sf_r any i1
theorem sz_putSym {a1 a2 a3 : Int32} {a4 a6 : Int64} (hF : 65540 < F) (hr : TRw r A n) (hI : SZ zb sk L τ0 r n cc τ) : Sf sk L (SZ zb sk L τ0 r n (cc + 24)) Any (f_Scribe_putSymbol F c r a1 a2 a3 a4 a6 (cH sk L τ)) := by
  have orr := (SI_row hI.1 hr).1
  unfold f_Scribe_putSymbol
  rw [c_o orr, bs]
  refine sz_x (sz_put hF hr (by decide) hI) (fun _ τ1 _ i1 => ?_)
  rw [c_o orr, bs]
  refine sz_x (sz_put hF hr (by decide) i1) (fun _ τ2 _ i2 => ?_)
  rw [c_o orr, bs]
  refine sz_x (sz_put hF hr (by decide) i2) (fun _ τ3 _ i3 => ?_)
  rw [c_o orr, bs]
  refine sz_x (sz_put hF hr (by decide) i3) (fun _ τ4 _ i4 => ?_)
  rw [c_o orr, bs]
  refine sz_x (sz_put hF hr (by decide) i4) (fun _ τ5 _ i5 => ?_)
  rw [c_o orr, bs]
  refine sz_x (sz_put hF hr (by decide) i5) (fun _ τ6 _ i6 => ?_)
  exact sf_r any i6
/-- .. and U bytes into the rows of sections -/
def SW (zb : Option Nat) (sk : Nat → Nat × Nat × Nat) (L : Nat) (τ0 : px_TT) (r n cc U : Nat) (τ : px_TT) : Prop := SZ zb sk L τ0 r n cc τ ∧ rz τ 1714 1536 U
theorem T14 : TRw 1714 1715 1536 := Or.inr (Or.inr (Or.inl ⟨rfl, rfl, rfl⟩))
theorem sw_Rw {β : Type} {m : Option (β × px_H)} {v : β} (hI : SZ zb sk L τ0 r n cc τ) (hr : r ≠ 1714) (h : ∃ τ', m = some (v, cH sk L τ') ∧ rowOK sk L τ' 1714 1715 1536 ∧ frRw 1714 1715 τ τ' ∧ rz τ' 1714 1536 U) : Sf sk L (SW zb sk L τ0 r n cc U) Any m := by
  obtain ⟨τ', e, h1, h2, h3⟩ := h
  exact ⟨v, τ', e, any, ⟨SI_Rw hI.1 T14 h2 h1, rz_fr hI.2.1 (fun k => h2.1 r k (Or.inl hr)), fun k => (h2.2.2.1 0 k).trans (hI.2.2 k)⟩, h3⟩
theorem sw_put {v : Int64} {k : Nat} (hF : 65540 < F) (hr : r ≠ 1714) (hk : k ≤ 8) (hI : SW zb sk L τ0 r n cc U τ) : Sf sk L (SW zb sk L τ0 r n cc (U + k)) Any (f_Row_put F c 1714 (nI k) v (cH sk L τ)) := sw_Rw hI.1 hr (k_putZ (by omega) (by omega) (SI_row hI.1.1 T14) hI.2)
theorem sw_putRow {a1 a3 a5 a7 : Int64} {a9 a10 : Int32} (h0 : S0 sk L τ0) (hF : 65540 < F) (hr : r ≠ 1714) (hI : SW zb sk L τ0 r n cc U τ) : Sf sk L (SW zb sk L τ0 r n cc (U + 48)) Any (f_Scribe_putRow F c 1713 a1 a3 a5 a7 a9 a10 (cH sk L τ)) := by
  have o13 := G1713 h0.1
  have orr := (SI_row hI.1.1 T14).1
  have rd : ∀ τ, SI zb sk L τ0 τ → fN τ 1713 3 = some 1714 := fun τ i => GR_r (GR_Z h0.2.1 i.1) (by decide)
  unfold f_Scribe_putRow
  rw [C11r3 o13 (rd _ hI.1.1), bs, c_o orr, bs]
  refine sz_x (sw_put hF hr (by decide) hI) (fun _ τ1 _ i1 => ?_)
  rw [C11r3 o13 (rd _ i1.1.1), bs, c_o orr, bs]
  refine sz_x (sw_put hF hr (by decide) i1) (fun _ τ2 _ i2 => ?_)
  rw [C11r3 o13 (rd _ i2.1.1), bs, c_o orr, bs]
  refine sz_x (sw_put hF hr (by decide) i2) (fun _ τ3 _ i3 => ?_)
  rw [C11r3 o13 (rd _ i3.1.1), bs, c_o orr, bs]
  refine sz_x (sw_put hF hr (by decide) i3) (fun _ τ4 _ i4 => ?_)
  rw [C11r3 o13 (rd _ i4.1.1), bs, c_o orr, bs]
  refine sz_x (sw_put hF hr (by decide) i4) (fun _ τ5 _ i5 => ?_)
  rw [C11r3 o13 (rd _ i5.1.1), bs, c_o orr, bs]
  refine sz_x (sw_put hF hr (by decide) i5) (fun _ τ6 _ i6 => ?_)
  rw [C11r3 o13 (rd _ i6.1.1), bs, c_o orr, bs]
  refine sz_x (sw_put hF hr (by decide) i6) (fun _ τ7 _ i7 => ?_)
  rw [C11r3 o13 (rd _ i7.1.1), bs, c_o orr, bs]
  refine sz_x (sw_put hF hr (by decide) i7) (fun _ τ8 _ i8 => ?_)
  exact sf_r any i8
theorem sw_endRow {a1 : Int64} {a3 : Int32} (h0 : S0 sk L τ0) (hF : 65540 < F) (hr : r ≠ 1714) (hI : SW zb sk L τ0 r n cc U τ) : Sf sk L (SW zb sk L τ0 r n cc (U + 16)) Any (f_Scribe_endRow F c 1713 a1 a3 (cH sk L τ)) := by
  have o13 := G1713 h0.1
  have orr := (SI_row hI.1.1 T14).1
  have rd : ∀ τ, SI zb sk L τ0 τ → fN τ 1713 3 = some 1714 := fun τ i => GR_r (GR_Z h0.2.1 i.1) (by decide)
  unfold f_Scribe_endRow
  rw [C11r3 o13 (rd _ hI.1.1), bs, c_o orr, bs]
  refine sz_x (sw_put hF hr (by decide) hI) (fun _ τ1 _ i1 => ?_)
  rw [C11r3 o13 (rd _ i1.1.1), bs, c_o orr, bs]
  refine sz_x (sw_put hF hr (by decide) i1) (fun _ τ2 _ i2 => ?_)
  exact sf_r any i2
/-- rowOf only reads -/
theorem so_ro_108 {s : Nat} (h0 : S0 sk L τ0) (hF : 65540 < F) (hs : s < 3) (hI : SI zb sk L τ0 τ) : ∀ (d j f : Nat) (a5 : Int32), j + d = s → d < f → Sf sk L (fun τ' => τ' = τ) Any (f_Scribe_rowOf_108 F c f 1713 (nI s) a5 (nI j) (cH sk L τ)) := by
  intro d
  induction d with
  | zero =>
    intro j f a5 hj hf
    obtain ⟨f, rfl⟩ : ∃ y, f = y + 1 := ⟨f - 1, by omega⟩
    unfold f_Scribe_rowOf_108 f_Scribe_rowOf_144
    rw [if_pos (nI_le (by omega) (by omega))]
    exact sf_r any rfl
  | succ d ih =>
    intro j f a5 hj hf
    obtain ⟨f, rfl⟩ : ∃ y, f = y + 1 := ⟨f - 1, by omega⟩
    unfold f_Scribe_rowOf_108 f_Scribe_rowOf_144 f_Scribe_rowOf_135
    rw [nI_add]
    repeat' (first | (exact sf_r any rfl) | ((with_reducible refine sf_aIF h0 ?_ (by with_unfolding_all exact rfl) ?_ ?_ ?_ (fun m hm em => ?_)); decide; decide; decide; exact ⟨j, by omega, rfl⟩) | (exact ih _ _ _ (by omega) (by omega)) | exact absurd (show nI 0 = 0 from rfl) (by assumption) | exact absurd (show nI 1 = 0 by assumption) (by decide) | ((with_reducible refine sf_i (fun hc => ?_) (fun hc => ?_))) | ((with_reducible refine sf_gF h0 ?_ ?_ ?_ ?_ ?_); decide; decide; decide; decide) | ((with_reducible refine sf_gI ?_ ?_ ?_ ?_); (first | assumption | exact GS_o h0.1 (by decide) (by decide) | exact RRd_o h0 (by assumption) | exact RRd_o h0 (Or.inr (by assumption)) | exact OBq_o h0 (by assumption) | exact OBq_o h0 (Obt_q (by assumption)) | exact G_part h0.1 (by assumption) | exact Nmo_o (by assumption)); decide; decide) | ((with_reducible refine sf_gJ ?_ ?_ ?_ ?_); (first | assumption | exact GS_o h0.1 (by decide) (by decide) | exact RRd_o h0 (by assumption) | exact RRd_o h0 (Or.inr (by assumption)) | exact OBq_o h0 (by assumption) | exact OBq_o h0 (Obt_q (by assumption)) | exact G_part h0.1 (by assumption) | exact Nmo_o (by assumption)); decide; decide) | ((with_reducible refine sf_gN ?_ ?_ ?_ ?_); (first | assumption | exact GS_o h0.1 (by decide) (by decide) | exact RRd_o h0 (by assumption) | exact RRd_o h0 (Or.inr (by assumption)) | exact OBq_o h0 (by assumption) | exact OBq_o h0 (Obt_q (by assumption)) | exact G_part h0.1 (by assumption) | exact Nmo_o (by assumption)); decide; decide) | ((with_reducible refine sf_gG h0 (by assumption) ?_ ?_ ?_ ?_ (by with_unfolding_all exact rfl) ?_); decide; decide; decide; decide) | ((with_reducible refine sf_o ?_ (fun l => ?_)); (first | assumption | exact GS_o h0.1 (by decide) (by decide) | exact RRd_o h0 (by assumption) | exact RRd_o h0 (Or.inr (by assumption)) | exact OBq_o h0 (by assumption) | exact OBq_o h0 (Obt_q (by assumption)) | exact G_part h0.1 (by assumption) | exact Nmo_o (by assumption))) | ((with_reducible refine sf_s ?_)) | ((with_reducible refine sf_sb (by assumption) ?_)) | ((with_reducible refine sf_r ?_ ?_); (first | exact any | assumption | exact ⟨false, rfl⟩ | exact ⟨true, rfl⟩); assumption) | ((with_reducible refine sf_z ?_ ?_ ?_); (first | exact ⟨false, rfl⟩ | exact ⟨true, rfl⟩ | assumption); (first | exact any | exact ⟨false, rfl⟩ | exact ⟨true, rfl⟩ | assumption); assumption))
theorem so_ro_83 {s : Nat} (h0 : S0 sk L τ0) (hF : 65540 < F) (hs : s < 3) (hI : SI zb sk L τ0 τ) : Sf sk L (fun τ' => τ' = τ) Any (f_Scribe_rowOf_83 F c 1713 (nI s) (cH sk L τ)) := by
  unfold f_Scribe_rowOf_83
  repeat' (first | (exact sf_r any rfl) | ((with_reducible refine sf_aIF h0 ?_ (by with_unfolding_all exact rfl) ?_ ?_ ?_ (fun m hm em => ?_)); decide; decide; decide; exact ⟨s, by omega, rfl⟩) | (exact so_ro_108 h0 hF hs hI _ 0 F _ (Nat.zero_add _) (by omega)) | exact absurd (show nI 0 = 0 from rfl) (by assumption) | exact absurd (show nI 1 = 0 by assumption) (by decide) | ((with_reducible refine sf_i (fun hc => ?_) (fun hc => ?_))) | ((with_reducible refine sf_gF h0 ?_ ?_ ?_ ?_ ?_); decide; decide; decide; decide) | ((with_reducible refine sf_gI ?_ ?_ ?_ ?_); (first | assumption | exact GS_o h0.1 (by decide) (by decide) | exact RRd_o h0 (by assumption) | exact RRd_o h0 (Or.inr (by assumption)) | exact OBq_o h0 (by assumption) | exact OBq_o h0 (Obt_q (by assumption)) | exact G_part h0.1 (by assumption) | exact Nmo_o (by assumption)); decide; decide) | ((with_reducible refine sf_gJ ?_ ?_ ?_ ?_); (first | assumption | exact GS_o h0.1 (by decide) (by decide) | exact RRd_o h0 (by assumption) | exact RRd_o h0 (Or.inr (by assumption)) | exact OBq_o h0 (by assumption) | exact OBq_o h0 (Obt_q (by assumption)) | exact G_part h0.1 (by assumption) | exact Nmo_o (by assumption)); decide; decide) | ((with_reducible refine sf_gN ?_ ?_ ?_ ?_); (first | assumption | exact GS_o h0.1 (by decide) (by decide) | exact RRd_o h0 (by assumption) | exact RRd_o h0 (Or.inr (by assumption)) | exact OBq_o h0 (by assumption) | exact OBq_o h0 (Obt_q (by assumption)) | exact G_part h0.1 (by assumption) | exact Nmo_o (by assumption)); decide; decide) | ((with_reducible refine sf_gG h0 (by assumption) ?_ ?_ ?_ ?_ (by with_unfolding_all exact rfl) ?_); decide; decide; decide; decide) | ((with_reducible refine sf_o ?_ (fun l => ?_)); (first | assumption | exact GS_o h0.1 (by decide) (by decide) | exact RRd_o h0 (by assumption) | exact RRd_o h0 (Or.inr (by assumption)) | exact OBq_o h0 (by assumption) | exact OBq_o h0 (Obt_q (by assumption)) | exact G_part h0.1 (by assumption) | exact Nmo_o (by assumption))) | ((with_reducible refine sf_s ?_)) | ((with_reducible refine sf_sb (by assumption) ?_)) | ((with_reducible refine sf_r ?_ ?_); (first | exact any | assumption | exact ⟨false, rfl⟩ | exact ⟨true, rfl⟩); assumption) | ((with_reducible refine sf_z ?_ ?_ ?_); (first | exact ⟨false, rfl⟩ | exact ⟨true, rfl⟩ | assumption); (first | exact any | exact ⟨false, rfl⟩ | exact ⟨true, rfl⟩ | assumption); assumption))
theorem so_rowOf {p : Nat} (h0 : S0 sk L τ0) (hK : KT c) (hF : 65540 < F) (hn : Nmo sk L τ0 p) (hI : SI zb sk L τ0 τ) : Sf sk L (fun τ' => τ' = τ) Any (f_Scribe_rowOf F c 1713 (some p) (cH sk L τ)) := by
  have ho := hn.2.1
  unfold f_Scribe_rowOf f_Scribe_rowOf_29 f_Scribe_rowOf_30 f_Scribe_rowOf_50 f_Scribe_rowOf_51 f_Scribe_rowOf_64
  by_cases h5 : fI τ p 5 = nI 1
  · obtain ⟨x, hx, e6⟩ := Nmo_6 hI hn h5
    have key : ∀ {α : Type} {V : α → Prop} {f : Option Nat → Option (α × px_H)}, Sf sk L (fun τ' => τ' = τ) V (f (some (152 + x))) → Sf sk L (fun τ' => τ' = τ) V ((xgN (cH sk L τ) 5 6 p).bind f) := fun g => by
      rw [C5n6 ho, bs, e6]; exact g
    repeat' (first | (exact sf_r any rfl) | ((with_reducible refine key ?_)) | ((with_reducible refine sx_segOf hK ?_ (fun s hs => ?_)); exact G_part h0.1 hx) | (exact so_ro_83 h0 hF (by assumption) hI) | (exact so_ro_83 (s := 2) h0 hF (by decide) hI) | exact absurd (show nI 0 = 0 from rfl) (by assumption) | exact absurd (show nI 1 = 0 by assumption) (by decide) | ((with_reducible refine sf_i (fun hc => ?_) (fun hc => ?_))) | ((with_reducible refine sf_gF h0 ?_ ?_ ?_ ?_ ?_); decide; decide; decide; decide) | ((with_reducible refine sf_gI ?_ ?_ ?_ ?_); (first | assumption | exact GS_o h0.1 (by decide) (by decide) | exact RRd_o h0 (by assumption) | exact RRd_o h0 (Or.inr (by assumption)) | exact OBq_o h0 (by assumption) | exact OBq_o h0 (Obt_q (by assumption)) | exact G_part h0.1 (by assumption) | exact Nmo_o (by assumption)); decide; decide) | ((with_reducible refine sf_gJ ?_ ?_ ?_ ?_); (first | assumption | exact GS_o h0.1 (by decide) (by decide) | exact RRd_o h0 (by assumption) | exact RRd_o h0 (Or.inr (by assumption)) | exact OBq_o h0 (by assumption) | exact OBq_o h0 (Obt_q (by assumption)) | exact G_part h0.1 (by assumption) | exact Nmo_o (by assumption)); decide; decide) | ((with_reducible refine sf_gN ?_ ?_ ?_ ?_); (first | assumption | exact GS_o h0.1 (by decide) (by decide) | exact RRd_o h0 (by assumption) | exact RRd_o h0 (Or.inr (by assumption)) | exact OBq_o h0 (by assumption) | exact OBq_o h0 (Obt_q (by assumption)) | exact G_part h0.1 (by assumption) | exact Nmo_o (by assumption)); decide; decide) | ((with_reducible refine sf_gG h0 (by assumption) ?_ ?_ ?_ ?_ (by with_unfolding_all exact rfl) ?_); decide; decide; decide; decide) | ((with_reducible refine sf_o ?_ (fun l => ?_)); (first | assumption | exact GS_o h0.1 (by decide) (by decide) | exact RRd_o h0 (by assumption) | exact RRd_o h0 (Or.inr (by assumption)) | exact OBq_o h0 (by assumption) | exact OBq_o h0 (Obt_q (by assumption)) | exact G_part h0.1 (by assumption) | exact Nmo_o (by assumption))) | ((with_reducible refine sf_s ?_)) | ((with_reducible refine sf_sb (by assumption) ?_)) | ((with_reducible refine sf_r ?_ ?_); (first | exact any | assumption | exact ⟨false, rfl⟩ | exact ⟨true, rfl⟩); assumption) | ((with_reducible refine sf_z ?_ ?_ ?_); (first | exact ⟨false, rfl⟩ | exact ⟨true, rfl⟩ | assumption); (first | exact any | exact ⟨false, rfl⟩ | exact ⟨true, rfl⟩ | assumption); assumption) | (dsimp only))
  · repeat' (first | (exact sf_r any rfl) | (exact absurd (by assumption) h5) | (exact so_ro_83 (s := 2) h0 hF (by decide) hI) | exact absurd (show nI 0 = 0 from rfl) (by assumption) | exact absurd (show nI 1 = 0 by assumption) (by decide) | ((with_reducible refine sf_i (fun hc => ?_) (fun hc => ?_))) | ((with_reducible refine sf_gF h0 ?_ ?_ ?_ ?_ ?_); decide; decide; decide; decide) | ((with_reducible refine sf_gI ?_ ?_ ?_ ?_); (first | assumption | exact GS_o h0.1 (by decide) (by decide) | exact RRd_o h0 (by assumption) | exact RRd_o h0 (Or.inr (by assumption)) | exact OBq_o h0 (by assumption) | exact OBq_o h0 (Obt_q (by assumption)) | exact G_part h0.1 (by assumption) | exact Nmo_o (by assumption)); decide; decide) | ((with_reducible refine sf_gJ ?_ ?_ ?_ ?_); (first | assumption | exact GS_o h0.1 (by decide) (by decide) | exact RRd_o h0 (by assumption) | exact RRd_o h0 (Or.inr (by assumption)) | exact OBq_o h0 (by assumption) | exact OBq_o h0 (Obt_q (by assumption)) | exact G_part h0.1 (by assumption) | exact Nmo_o (by assumption)); decide; decide) | ((with_reducible refine sf_gN ?_ ?_ ?_ ?_); (first | assumption | exact GS_o h0.1 (by decide) (by decide) | exact RRd_o h0 (by assumption) | exact RRd_o h0 (Or.inr (by assumption)) | exact OBq_o h0 (by assumption) | exact OBq_o h0 (Obt_q (by assumption)) | exact G_part h0.1 (by assumption) | exact Nmo_o (by assumption)); decide; decide) | ((with_reducible refine sf_gG h0 (by assumption) ?_ ?_ ?_ ?_ (by with_unfolding_all exact rfl) ?_); decide; decide; decide; decide) | ((with_reducible refine sf_o ?_ (fun l => ?_)); (first | assumption | exact GS_o h0.1 (by decide) (by decide) | exact RRd_o h0 (by assumption) | exact RRd_o h0 (Or.inr (by assumption)) | exact OBq_o h0 (by assumption) | exact OBq_o h0 (Obt_q (by assumption)) | exact G_part h0.1 (by assumption) | exact Nmo_o (by assumption))) | ((with_reducible refine sf_s ?_)) | ((with_reducible refine sf_sb (by assumption) ?_)) | ((with_reducible refine sf_r ?_ ?_); (first | exact any | assumption | exact ⟨false, rfl⟩ | exact ⟨true, rfl⟩); assumption) | ((with_reducible refine sf_z ?_ ?_ ?_); (first | exact ⟨false, rfl⟩ | exact ⟨true, rfl⟩ | assumption); (first | exact any | exact ⟨false, rfl⟩ | exact ⟨true, rfl⟩ | assumption); assumption))
end CNY
/-- how many bytes the executable with names has -/
def nmS (Y : px_Y) : Nat := sumT (fun i => mpL Y i + 1) Y.2.2.2.2.length
def nmT (Y : px_Y) : Nat := wiN (wiN (wiN Y.1.2.1 + 24 * (Y.2.2.2.2.length + 1)) + (1 + nmS Y)) + 64 * (sgN Y.1.2.2 3 + 3)
section CNX
variable {F : Nat} {c : px_CT} {sk : Nat → Nat × Nat × Nat} {L : Nat} {own : Nat → Nat × Nat} {τ0 τ : px_TT} {fs : List (Nat × (Nat → Nat))} {gs : List (List Nat × Int64)} {ws : List (List Nat)} {n : Nat} {b : Nat → Nat} {a : Int32} {Y : px_Y} {r A cc : Nat}
theorem CV_K (hC : CV sk L own τ0 fs gs ws n b a Y) (ha : a = 0) : CKZ τ0 Y.1.2.1 Y.1.2.2 := hC.2.2.2.2.2.2.2.2.1.2 ha
theorem z_seg13 (hF : 65540 < F) (hK : KT c) (hC : CV sk L own τ0 fs gs ws n b a Y) (ha : a = 0) (hr : r ≠ 1714) : ∀ (d j f : Nat) (τ : px_TT), j + d = 3 → d < f → SW none sk L τ0 r 65536 cc (64 + 64 * sgN Y.1.2.2 j) τ → Sf sk L (SW none sk L τ0 r 65536 cc (64 + 64 * sgN Y.1.2.2 3)) Any (f_Scribe_writeSegmentRows_13 F c f 1713 (nI j) (cH sk L τ)) := by
  have h0 := (CV_S4 hC).1.1.1
  have hS := h0.1
  have o13 := G1713 hS
  have o17 := G1700 hS
  intro d
  induction d with
  | zero =>
    intro j f τ hj hf hI
    obtain ⟨f, rfl⟩ : ∃ y, f = y + 1 := ⟨f - 1, by omega⟩
    obtain rfl : j = 3 := by omega
    unfold f_Scribe_writeSegmentRows_13 f_Scribe_writeSegmentRows_141
    rw [if_pos (nI_le (by omega) (by omega))]
    exact sf_r any hI
  | succ d ih =>
    intro j f τ hj hf hI
    obtain ⟨f, rfl⟩ : ∃ y, f = y + 1 := ⟨f - 1, by omega⟩
    have hR := GR_Z h0.2.1 hI.1.1.1
    have et := (CV_K (CV_SI hC hI.1.1) ha).2.2 j (by omega)
    have orr := (SI_row hI.1.1 T14).1
    have rd : ∀ τ, SI none sk L τ0 τ → GR τ := fun τ i => GR_Z h0.2.1 i.1
    have go := fun τ hI => ih (j + 1) f τ (by omega) (by omega) hI
    have es : sgN Y.1.2.2 (j + 1) = sgN Y.1.2.2 j + (if Y.1.2.2 j = true then 1 else 0) := rfl
    rw [es] at go
    generalize sgN Y.1.2.2 j = S at *
    unfold f_Scribe_writeSegmentRows_13 f_Scribe_writeSegmentRows_135
    rw [if_neg (nI_ge (by omega) (by omega)), C11r1 o13 (GR_r (v := 1700) hR (by decide)), bs, C2r4 o17 (GR_r (v := 1703) hR (by decide)), bs, c_aI (G1703 hS) (Or.inr (Or.inr rfl)) (by decide) (by omega), bs, et, nI_add]
    cases ej : Y.1.2.2 j with
    | false =>
      rw [ej, if_neg (by decide)] at go
      rw [if_pos (show bI false = 0 from rfl)]
      exact go τ hI
    | true =>
      rw [ej, if_pos rfl] at go
      rw [if_neg (show ¬ bI true = 0 by decide), C11r3 o13 (GR_r (v := 1714) hR (by decide)), bs, c_o orr, bs]
      refine sz_x (sw_put hF hr (by decide) hI) (fun _ τ1 _ i1 => ?_)
      rw [C11r3 o13 (GR_r (v := 1714) (rd _ i1.1.1) (by decide)), bs, c_o orr, bs]
      refine sz_x (sw_put hF hr (by decide) i1) (fun _ τ2 _ i2 => ?_)
      rw [C11r3 o13 (GR_r (v := 1714) (rd _ i2.1.1) (by decide)), bs, xkI_at hK.2.2.2.2.2.2 (by decide) hK.2.2.2.2.2.1 (by decide) (show j < [6, 2, 3].length from by show j < 3; omega), bs, c_o orr, bs]
      refine sz_x (sw_put hF hr (by decide) i2) (fun _ τ3 _ i3 => ?_)
      rw [C11r3 o13 (GR_r (v := 1714) (rd _ i3.1.1) (by decide)), bs, C11r1 o13 (GR_r (v := 1700) (rd _ i3.1.1) (by decide)), bs, C2r6 o17 (GR_r (v := 1705) (rd _ i3.1.1) (by decide)), bs, c_aJ (G1705 hS) (by decide) (by omega), bs, c_o orr, bs]
      refine sz_x (sw_put hF hr (by decide) i3) (fun _ τ4 _ i4 => ?_)
      rw [C11r3 o13 (GR_r (v := 1714) (rd _ i4.1.1) (by decide)), bs, C11r1 o13 (GR_r (v := 1700) (rd _ i4.1.1) (by decide)), bs, C2r5 o17 (GR_r (v := 1704) (rd _ i4.1.1) (by decide)), bs, c_aJ (G1704 hS) (by decide) (by omega), bs, c_o orr, bs]
      refine sz_x (sw_put hF hr (by decide) i4) (fun _ τ5 _ i5 => ?_)
      rw [C11r3 o13 (GR_r (v := 1714) (rd _ i5.1.1) (by decide)), bs, C11r1 o13 (GR_r (v := 1700) (rd _ i5.1.1) (by decide)), bs, C2r7 o17 (GR_r (v := 1706) (rd _ i5.1.1) (by decide)), bs, c_aJ (G1706 hS) (by decide) (by omega), bs, c_o orr, bs]
      refine sz_x (sw_put hF hr (by decide) i5) (fun _ τ6 _ i6 => ?_)
      rw [C11r3 o13 (GR_r (v := 1714) (rd _ i6.1.1) (by decide)), bs, c_o orr, bs]
      refine sz_x (sw_put hF hr (by decide) i6) (fun _ τ7 _ i7 => ?_)
      rw [c_o o13, bs]
      refine sz_x (sw_endRow h0 hF hr i7) (fun _ τ8 _ i8 => ?_)
      refine go τ8 ?_
      rw [show 64 + 64 * (S + 1) = 64 + 64 * S + 4 + 4 + 8 + 8 + 8 + 8 + 8 + 16 by omega]
      exact i8
theorem z_nam170 {a3 a4 a5 a6 : Int32} (hF : 65540 < F) (hK : KT c) (hC : CV sk L own τ0 fs gs ws n b a Y) (ha : a = 0) (hr : TRw r A 65536) (hI : SZ none sk L τ0 r 65536 (wiN (wiN Y.1.2.1 + 24 * (Y.2.2.2.2.length + 1)) + (1 + nmS Y)) τ) : Sf sk L (SZ none sk L τ0 r 65536 (nmT Y)) (fun v => v = bI (decide (nmT Y ≤ 65536))) (f_Scribe_writeNamed_170 F c 1713 r a3 a4 a5 a6 (cH sk L τ)) := by
  have h0 := (CV_S4 hC).1.1.1
  have hS := h0.1
  have o13 := G1713 hS
  have o47 := G147 hS
  have rd : ∀ τ, SI none sk L τ0 τ → GR τ := fun τ i => GR_Z h0.2.1 i.1
  have hr14 : r ≠ 1714 := by unfold TRw at hr; omega
  have orr := (SI_row hI.1 hr).1
  have o14 := (SI_row hI.1 T14).1
  have eT : nmT Y = wiN (wiN (wiN Y.1.2.1 + 24 * (Y.2.2.2.2.length + 1)) + (1 + nmS Y)) + 64 * (sgN Y.1.2.2 3 + 3) := rfl
  have hsg := sgN_le (th := Y.1.2.2) 3
  rw [eT]
  generalize wiN (wiN Y.1.2.1 + 24 * (Y.2.2.2.2.length + 1)) + (1 + nmS Y) = W at *
  unfold f_Scribe_writeNamed_170
  refine sz_x (sz_next hF hr hI) (fun v1 τ1 _ i1 => ?_)
  generalize wiN W = W1 at *
  rw [C11r3 o13 (GR_r (v := 1714) (rd _ i1.1) (by decide)), bs, c_o o14, bs]
  refine sz_x (sw_Rw i1 hr14 (k_clearZ (SI_row i1.1 T14))) (fun _ τ2 _ i2 => ?_)
  rw [c_o o13, bs]
  unfold f_Scribe_writeSegmentRows
  have key : Sf sk L (SW none sk L τ0 r 65536 W1 (64 + 64 * sgN Y.1.2.2 3)) Any ((xgR (cH sk L τ2) 11 3 1713).bind fun t1 => (xo (cH sk L τ2) 10 t1).bind fun _ => xb (f_Row_fillTo F c t1 ((64 : Int64)) (nI 0) (cH sk L τ2)) fun _ ph2 => f_Scribe_writeSegmentRows_13 F c F 1713 (nI 0) ph2) := by
    rw [C11r3 o13 (GR_r (v := 1714) (rd _ i2.1.1) (by decide)), bs, c_o o14, bs, show (64 : Int64) = lN 64 from rfl]
    refine sz_x (sw_Rw (U := 0 + 64) i2.1 hr14 (k_fillToZ (e := 64) (by omega) (by decide) (SI_row i2.1.1 T14) i2.2 (by decide) (fun _ => rfl))) (fun _ τ3 _ i3 => ?_)
    exact z_seg13 hF hK hC ha hr14 3 0 F τ3 rfl (by omega) i3
  refine sz_x key (fun _ τ3 _ i3 => ?_)
  generalize sgN Y.1.2.2 3 = S at *
  rw [C11r0 o13 (GR_r (v := 147) (rd _ i3.1.1) (by decide)), bs, C3g15 o47, bs, c_o o13, bs]
  refine sz_x (sw_putRow h0 hF hr14 i3) (fun _ τ4 _ i4 => ?_)
  rw [c_o o13, bs]
  refine sz_x (sw_endRow h0 hF hr14 i4) (fun _ τ5 _ i5 => ?_)
  rw [c_o o13, bs]
  refine sz_x (sw_putRow h0 hF hr14 i5) (fun _ τ6 _ i6 => ?_)
  rw [c_o o13, bs]
  refine sz_x (sw_endRow h0 hF hr14 i6) (fun _ τ7 _ i7 => ?_)
  have hro := SI_row i7.1.1 T14
  have e1 := (i7.2.1 (by omega)).1
  rw [C11r3 o13 (GR_r (v := 1714) (rd _ i7.1.1) (by decide)), bs, C10r0 o14 hro.2.2.2.1, bs, bs, C10g1 o14, bs, e1, c_o orr, bs]
  refine sz_x (sz_Rw (cc := W1 + 64 * (S + 3)) i7.1.1 i7.1.2.2 hr (by
    have h := k_copyZ (F := F) (c := c) (q := 0) (m := 64 + 64 * S + 48 + 16 + 48 + 16) hro.2.1 (by decide) hro.2.2.2.2.2.2 (by omega) (SI_row i7.1.1 hr) i7.1.2.1
    rw [show W1 + (64 + 64 * S + 48 + 16 + 48 + 16) = W1 + 64 * (S + 3) by omega] at h
    exact h)) (fun _ τ8 _ i8 => ?_)
  generalize W1 + 64 * (S + 3) = T at *
  rw [c_o orr, bs]
  refine sz_x (sz_set hF hr (by decide) i8) (fun _ τ9 _ i9 => ?_)
  rw [c_o orr, bs]
  refine sz_x (sz_set hF hr (by decide) i9) (fun _ τa _ ia => ?_)
  rw [c_o orr, bs]
  refine sz_x (sz_set hF hr (by decide) ia) (fun _ τb _ ib => ?_)
  rw [c_o orr, bs]
  refine sz_x (sz_set hF hr (by decide) ib) (fun _ τc _ ic => ?_)
  unfold f_Scribe_writeNamed_321
  rw [C10g2 orr, bs]
  by_cases cT : T ≤ 65536
  · rw [(ic.2.1.1 cT).2, if_pos (show bI false = 0 from rfl), decide_eq_true cT]
    exact ⟨_, τc, xz_b true _, rfl, ic⟩
  · rw [ic.2.1.2 (by omega), if_neg (show ¬ bI true = 0 by decide), decide_eq_false cT]
    exact ⟨_, τc, xz_b false _, rfl, ic⟩
/-- a definition of the link, while rows are written -/
theorem z_defined {i : Nat} (hC : CV sk L own τ0 fs gs ws n b a Y) (ha : a = 0) (hod : Y.2.2.2.2.length ≤ 4096) (hi : i < Y.2.2.2.2.length) : ∃ p, Nmo sk L τ0 p ∧ mpL Y i ≤ 20 ∧ ∀ τ, SI none sk L τ0 τ → f_Link_definedAt F c 147 (nI i) (cH sk L τ) = some (some p, cH sk L τ) ∧ fI τ p 3 = nI (mpL Y i) := by
  have o47 := G147 hC.1
  obtain ⟨⟨hns, hnt⟩, hna, e15, hod2⟩ := ((CV_X hC).2 ha).2
  obtain ⟨dd, hd⟩ : ∃ dd, Y.2.2.2.2[i]? = some dd := ⟨_, List.getElem?_eq_getElem hi⟩
  obtain ⟨d1, d2⟩ := hod2 i dd hd
  have hx : Y.2.2.2.1[dd]? = some Y.2.2.2.1[dd] := List.getElem?_eq_getElem d1
  have hxw : (Y.2.2.2.1.map Prod.fst)[dd]? = some Y.2.2.2.1[dd].1 := by rw [List.getElem?_map, hx]; rfl
  obtain ⟨_, n2, op, nm⟩ := hns.2.2.2.2.2.2 dd _ hxw
  have hge := (hC.2.2.1 149 dd _ (Or.inr (Or.inr rfl)) n2).1
  have hw20 := (hnt _ (List.mem_of_getElem? hxw)).2.1
  have eL : mpL Y i = Y.2.2.2.1[dd].1.length := by
    unfold mpL
    rw [List.getD_eq_getElem?_getD, List.getD_eq_getElem?_getD, hd]
    show (Y.2.2.2.1[dd]?.getD ([], 0)).1.length = _
    rw [hx]
    rfl
  have hN : Nmo sk L τ0 (pN τ0 149 dd) := by
    obtain ⟨⟨o, ho, eo, hw⟩, _⟩ := hC.2.2.2.2.2.2.2.1.2.2.2.1
    have hoe : o = Y.2.2.2.2.length := (nI_eq (by omega) (by omega)).mp (eo.symm.trans e15)
    obtain ⟨p, p1, p2, _⟩ := hw i (by omega)
    rw [d2] at p1
    rw [Option.some.inj p1]
    exact p2
  refine ⟨pN τ0 149 dd, hN, by rw [eL]; exact hw20, fun τ hI => ⟨?_, ?_⟩⟩
  · have hR := GR_Z hC.2.1 hI.1
    have e15' : fI τ 147 15 = nI Y.2.2.2.2.length := (hI.1.1 147 15 (Zc_no (by omega)) (by omega) (by omega) (by omega) (by omega)).trans e15
    have d2' : eN τ 1693 i = some (pN τ0 149 dd) := by rw [hI.1.2.2.2.2.2 1693 (by decide)]; exact d2
    unfold f_Link_definedAt f_Link_definedAt_31 f_Link_definedAt_47
    rw [if_neg (nI_n0 (by omega)), C3g15 o47, bs, e15', if_neg (nI_ge (by omega) (by omega)), C3r9 o47 (GR_r (v := 1693) hR (by decide)), bs, c_l (G1693 hC.1) (by decide), bs, if_neg (nI_ge (by omega) (by decide)), bs, c_aN (G1693 hC.1) (Or.inr (Or.inl rfl)) (by decide) (by omega), bs, d2']
  · rw [hI.1.1 (pN τ0 149 dd) 3 (Zc_no (by omega)) (by omega) (by omega) (by omega) (by omega), eL]
    exact nm.2.2.2
theorem z_nam133 {a3 a4 a5 a6 : Int32} (hF : 65540 < F) (hK : KT c) (hC : CV sk L own τ0 fs gs ws n b a Y) (ha : a = 0) (hr : TRw r A 65536) (hod : Y.2.2.2.2.length ≤ 4096) : ∀ (d i f : Nat) (τ : px_TT), i + d = Y.2.2.2.2.length → d < f → SZ none sk L τ0 r 65536 (wiN (wiN Y.1.2.1 + 24 * (Y.2.2.2.2.length + 1)) + (1 + sumT (fun i => mpL Y i + 1) i)) τ → Sf sk L (SZ none sk L τ0 r 65536 (nmT Y)) (fun v => v = bI (decide (nmT Y ≤ 65536))) (f_Scribe_writeNamed_133 F c f 1713 r a3 a4 a5 a6 (nI i) (cH sk L τ)) := by
  have h0 := (CV_S4 hC).1.1.1
  have o13 := G1713 hC.1
  have o47 := G147 hC.1
  intro d
  induction d with
  | zero =>
    intro i f τ hi hf hI
    obtain ⟨f, rfl⟩ : ∃ y, f = y + 1 := ⟨f - 1, by omega⟩
    have ei : i = Y.2.2.2.2.length := by omega
    have hR := GR_Z h0.2.1 hI.1.1
    obtain ⟨_, _, e15, _⟩ := ((CV_X (CV_SI hC hI.1)).2 ha).2
    rw [ei] at hI
    unfold f_Scribe_writeNamed_133
    rw [C11r0 o13 (GR_r (v := 147) hR (by decide)), bs, C3g15 o47, bs, e15, if_pos (nI_le (by omega) (by omega))]
    exact z_nam170 hF hK hC ha hr hI
  | succ d ih =>
    intro i f τ hi hf hI
    obtain ⟨f, rfl⟩ : ∃ y, f = y + 1 := ⟨f - 1, by omega⟩
    have hR := GR_Z h0.2.1 hI.1.1
    obtain ⟨_, _, e15, _⟩ := ((CV_X (CV_SI hC hI.1)).2 ha).2
    obtain ⟨p, hp, hl, hq⟩ := z_defined (F := F) (c := c) (i := i) hC ha hod (by omega)
    have op := hp.2.1
    have hge := hp.1
    have orr := (SI_row hI.1 hr).1
    have hrp : r < 1815 := by unfold TRw at hr; omega
    have es : sumT (fun i => mpL Y i + 1) (i + 1) = sumT (fun i => mpL Y i + 1) i + (mpL Y i + 1) := rfl
    have go := fun τ hI => ih (i + 1) f τ (by omega) (by omega) hI
    rw [es] at go
    generalize wiN (wiN Y.1.2.1 + 24 * (Y.2.2.2.2.length + 1)) = W at *
    generalize sumT (fun i => mpL Y i + 1) i = S at *
    generalize mpL Y i = l at *
    unfold f_Scribe_writeNamed_133
    rw [C11r0 o13 (GR_r (v := 147) hR (by decide)), bs, C3g15 o47, bs, e15, if_neg (nI_ge (by omega) (by omega)), bs, c_o o47, bs, (hq τ hI.1).1, xb_mk, bs, c_o op, bs]
    refine sz_x (sz_wto hF hr op (by omega) (by omega) (hq τ hI.1).2 hI) (fun _ τ1 _ i1 => ?_)
    rw [c_o orr, bs]
    refine sz_x (sz_put hF hr (by decide) i1) (fun _ τ2 _ i2 => ?_)
    rw [nI_add]
    refine go τ2 ?_
    rw [show W + (1 + (S + (l + 1))) = W + (1 + S) + l + 1 by omega]
    exact i2
theorem z_nam50 {a3 a4 : Int32} (hF : 65540 < F) (hK : KT c) (hC : CV sk L own τ0 fs gs ws n b a Y) (ha : a = 0) (hr : TRw r A 65536) (hod : Y.2.2.2.2.length ≤ 4096) : ∀ (d i f : Nat) (a5 : Int32) (τ : px_TT), i + d = Y.2.2.2.2.length → d < f → SZ none sk L τ0 r 65536 (wiN Y.1.2.1 + 24 * (i + 1)) τ → Sf sk L (SZ none sk L τ0 r 65536 (nmT Y)) (fun v => v = bI (decide (nmT Y ≤ 65536))) (f_Scribe_writeNamed_50 F c f 1713 r a3 a4 a5 (nI i) (cH sk L τ)) := by
  have h0 := (CV_S4 hC).1.1.1
  have o13 := G1713 hC.1
  have o47 := G147 hC.1
  intro d
  induction d with
  | zero =>
    intro i f a5 τ hi hf hI
    obtain ⟨f, rfl⟩ : ∃ y, f = y + 1 := ⟨f - 1, by omega⟩
    have ei : i = Y.2.2.2.2.length := by omega
    have hR := GR_Z h0.2.1 hI.1.1
    obtain ⟨_, _, e15, _⟩ := ((CV_X (CV_SI hC hI.1)).2 ha).2
    have orr := (SI_row hI.1 hr).1
    rw [ei] at hI
    unfold f_Scribe_writeNamed_50 f_Scribe_writeNamed_118
    rw [C11r0 o13 (GR_r (v := 147) hR (by decide)), bs, C3g15 o47, bs, e15, if_pos (nI_le (by omega) (by omega))]
    refine sz_x (sz_next hF hr hI) (fun v1 τ1 _ i1 => ?_)
    rw [c_o orr, bs]
    refine sz_x (sz_put hF hr (by decide) i1) (fun _ τ2 _ i2 => ?_)
    exact z_nam133 hF hK hC ha hr hod Y.2.2.2.2.length 0 F τ2 (Nat.zero_add _) (by omega) i2
  | succ d ih =>
    intro i f a5 τ hi hf hI
    obtain ⟨f, rfl⟩ : ∃ y, f = y + 1 := ⟨f - 1, by omega⟩
    have hR := GR_Z h0.2.1 hI.1.1
    obtain ⟨_, _, e15, _⟩ := ((CV_X (CV_SI hC hI.1)).2 ha).2
    obtain ⟨p, hp, hl, hq⟩ := z_defined (F := F) (c := c) (i := i) hC ha hod (by omega)
    have op := hp.2.1
    unfold f_Scribe_writeNamed_50
    rw [C11r0 o13 (GR_r (v := 147) hR (by decide)), bs, C3g15 o47, bs, e15, if_neg (nI_ge (by omega) (by omega)), bs, c_o o47, bs, (hq τ hI.1).1, xb_mk, bs, C5g9 op, bs, c_o o13, bs]
    obtain ⟨v8, τ8, e8, _, rfl⟩ := so_rowOf (F := F) (c := c) h0 hK hF hp hI.1
    rw [e8, xb_mk, C5g14 op, bs, C5g8 op, bs]
    refine sz_x (sz_putSym hF hr hI) (fun _ τ1 _ i1 => ?_)
    rw [C5g3 op, bs, nI_add]
    refine ih (i + 1) f _ τ1 (by omega) (by omega) ?_
    rw [show wiN Y.1.2.1 + 24 * (i + 1 + 1) = wiN Y.1.2.1 + 24 * (i + 1) + 24 by omega]
    exact i1
theorem z_named (hF : 65540 < F) (hK : KT c) (hC : CV sk L own τ0 fs gs ws n b a Y) (ha : a = 0) (hr : TRw r A 65536) (hod : Y.2.2.2.2.length ≤ 4096) (hI : SI none sk L τ0 τ) (hN : ∀ k, fN τ 0 k = fN τ0 0 k) : Sf sk L (SZ none sk L τ0 r 65536 (nmT Y)) (fun v => v = bI (decide (nmT Y ≤ 65536))) (f_Scribe_writeNamed F c 1713 r 1711 (cH sk L τ)) := by
  have h0 := (CV_S4 hC).1.1.1
  have hS := h0.1
  have o13 := G1713 hC.1
  have o11 := G1711 hC.1
  have orr := (SI_row hI hr).1
  unfold f_Scribe_writeNamed
  rw [C11r1 o13 (GR_r (v := 1700) (GR_Z h0.2.1 hI.1) (by decide)), bs, c_o (G1700 hS), bs]
  obtain ⟨v2, e2⟩ := so_segs (F := F) (c := c) h0 hF hI
  rw [e2, xb_mk, c_o orr, bs]
  refine sz_x (sz_clear hI hN hr) (fun _ τ1 _ i1 => ?_)
  obtain ⟨k1, k2, _⟩ := CV_K (CV_SI hC i1.1) ha
  have hfl := SI_fl i1.1
  rw [C10r0 o11 hfl.2.2.2.1, bs, C10g1 o11, bs, k2, c_o orr, bs]
  refine sz_x (sz_Rw (cc := Y.1.2.1) i1.1 i1.2.2 hr (by
    have h := k_copyZ (F := F) (c := c) (q := 0) (m := Y.1.2.1) hfl.2.1 (by decide) hfl.2.2.2.2.2.2 (by omega) (SI_row i1.1 hr) i1.2.1
    rw [Nat.zero_add] at h
    exact h)) (fun _ τ2 _ i2 => ?_)
  refine sz_x (sz_next hF hr i2) (fun v8 τ3 _ i3 => ?_)
  rw [C10g1 orr, bs, c_o orr, bs]
  refine sz_x (sz_fill hF hr (by decide) (by decide) i3) (fun _ τ4 _ i4 => ?_)
  exact z_nam50 hF hK hC ha hr hod Y.2.2.2.2.length 0 F _ τ4 (Nat.zero_add _) (by omega) i4
end CNX
section BNM
variable {F : Nat} {c : px_CT} {sk : Nat → Nat × Nat × Nat} {L : Nat} {own : Nat → Nat × Nat} {τ : px_TT} {σ : px_S} {fs : List (Nat × (Nat → Nat))} {gs : List (List Nat × Int64)} {ws : List (List Nat)} {n : Nat} {b : Nat → Nat} {a : Int32} {Y : px_Y} {k N : Nat}
/-- what the reference's named reads -/
theorem NMs_X (hC : CV sk L own τ fs gs ws n b a Y) (hR : RV σ fs gs ws n b a Y) (ha : a = 0) : NMs σ Y.1.2.1 Y.2.2.2.2.length Y.1.2.2 (mpL Y) (fun i => Y.2.2.2.2.getD i 0) := by
  obtain ⟨_, m2, m3, m4⟩ := MPs_X hC (RV_X hR) ha
  obtain ⟨z1, z2, z3, z4⟩ := hR.2.2.2.2.2.2.2.1.2.2.2.2 ha
  have h13 : gI σ 13 = a := hR.2.2.2.2.2.2.2.2.1
  obtain ⟨_, e', nD', th', lf', df', _, _, n5, n6, n7⟩ := hR.2.2.2.2.2.2.2.1.2.2.1 (h13.trans ha)
  have eD : nD' = Y.2.2.2.2.length := (nI_eq (by omega) (by omega)).mp (n6.symm.trans m3)
  refine ⟨⟨z1, z2⟩, ⟨z3, z4⟩, m2, m3, fun i hi => ?_⟩
  obtain ⟨q1, q2, q3, q4⟩ := m4 i hi
  have q2 : Y.2.2.2.2.getD i 0 < 4096 := q2
  obtain ⟨w1, w2, _, _, w5⟩ := n7 i (by omega)
  have ed : df' i = Y.2.2.2.2.getD i 0 := (nI_eq (by omega) (by omega)).mp (w1.symm.trans q1)
  rw [ed] at w5
  exact ⟨q1, q2, q3, q4, w5⟩
theorem Bx_named (hK : KT c) (hF : 65540 < F) (hC : CV sk L own τ fs gs ws n b a Y) (hR : RV σ fs gs ws n b a Y) (hm : RMk sk L (k + 210)) (hN : n + (fs.map Prod.fst).sum ≤ N) : BT RnI (fun ci σ => ci = 14 ∧ gI σ 0 = nI 1) sk L τ k N (f_H_named F c 0 (cH sk L τ)) (g_H_named F c 0 (cH sk L τ)) (fun h => f_M_named F 1726 (mh 1726 h σ)) := by
  have o0 := G0 hC.1
  have ea : fI τ 147 18 = a := hC.2.2.2.2.2.2.2.2.2.2
  have h13 : gI σ 13 = a := hR.2.2.2.2.2.2.2.2.1
  by_cases c0 : a = 0
  · have hM := NMs_X hC hR c0
    have hod : Y.2.2.2.2.length ≤ 4096 := hM.2.2.1
    obtain ⟨rd, A, hT, e2⟩ := CV_rd hC
    have orr := (SI_row (SI_self hC) hT).1
    obtain ⟨v, τ1, e1, hv, i1, z1, n1⟩ := z_named (F := F) (c := c) hF hK hC c0 hT hod (SI_self hC) (fun _ => rfl)
    have key : ∃ τ2, f_H_named F c 0 (cH sk L τ) = some (mpA (nmT Y), cH sk L τ2) ∧ SI none sk L τ τ2 := by
      unfold f_H_named
      rw [C0r11 o0 (GR_r (v := 147) hC.2.1 (by decide)), bs, C3g18 (G147 hC.1), bs, ea, if_pos c0, C0r15 o0 (GR_r (v := 1713) hC.2.1 (by decide)), bs, C0r2 o0 e2, bs, C0r14 o0 (GR_r (v := 1710) hC.2.1 (by decide)), bs, C1r4 (G1710 hC.1) (GR_r (v := 1711) hC.2.1 (by decide)), bs, c_o (G1713 hC.1), bs, e1, xb_mk, hv]
      unfold mpA
      by_cases cT : nmT Y ≤ 65536
      · obtain ⟨τ2, e3, i2⟩ := z_publish (F := F) (c := c) hC i1 ((n1 2).trans e2) orr
        refine ⟨τ2, ?_, i2⟩
        rw [decide_eq_true cT, if_neg (show ¬ bI true = 0 by decide), if_pos cT, c_o o0, bs, e3, xb_mk, (z1.1 cT).1]
      · refine ⟨τ1, ?_, i1⟩
        rw [decide_eq_false cT, if_pos (show bI false = 0 from rfl), if_neg cT]
    obtain ⟨τ2, eC, i2⟩ := key
    refine ⟨fs, gs, ws, n, b, a, Y, hN, Or.inl ⟨_, sk, L, τ2, own, eC, EX_refl, K26_Z i2.1, RMk_le hm (by omega), CV_SI hC i2, fun h hl => ?_⟩⟩
    obtain ⟨w, σ', e3, hw, cc, hcc, hW, h00⟩ := (q_named (F := F) (h := h) hl hF hR.2.2.2.2.1).2 (h13.trans c0) hM
    exact ⟨w, σ', e3, RV_W hR ⟨cc, hcc, hW⟩, hw.symm, h00⟩
  · refine ⟨fs, gs, ws, n, b, a, Y, hN, Or.inr ⟨14, τ, own, ?_, K26_refl τ, RMk_le hm (by omega), hC, fun h hl => ⟨_, _, (q_named (F := F) (e := 0) (nD := 0) (th := fun _ => false) (lf := id) (df := id) hl hF hR.2.2.2.2.1).1 (by rw [h13]; exact c0), RV_0 hR (FR_I _ _ _), rfl, rfl⟩⟩⟩
    unfold g_H_named
    rw [C0r11 o0 (GR_r (v := 147) hC.2.1 (by decide)), bs, C3g18 (G147 hC.1), bs, if_neg (by rw [ea]; exact c0)]
end BNM
