section
/-! named of the class: head and rows of the link's file stay (made by a program out of fz2) -/
/-- places of the head that tell of sections -/
def Ex7 (i : Nat) : Prop := (40 ≤ i ∧ i < 48) ∨ (58 ≤ i ∧ i < 64)
theorem vAt_ex {g g' : Nat → Int32} {p k x H : Nat} (h : vAt g p k x) (hH : p + k ≤ H) (hx : ∀ i, p ≤ i → i < p + k → ¬ Ex7 i) (e : ∀ i, i < H → ¬ Ex7 i → g' i = g i) : vAt g' p k x := fun j hj => (e (p + j) (by omega) (hx _ (by omega) (by omega))).trans (h j hj)
theorem EX7_ex {g g' : Nat → Int32} {en n : Nat} {l : List px_R7} (h : EX7 g en n l) (e : ∀ i, i < 64 + 56 * l.length → ¬ Ex7 i → g' i = g i) : EX7 g' en n l := by
  obtain ⟨⟨a1, a2, a3, a4, a5, a6, a7, a8⟩, hr⟩ := h
  have nx : ∀ {p k : Nat}, (p + k ≤ 40 ∨ (48 ≤ p ∧ p + k ≤ 58) ∨ 64 ≤ p) → ∀ i, p ≤ i → i < p + k → ¬ Ex7 i := fun hp i h1 h2 h3 => by unfold Ex7 at h3; omega
  refine ⟨⟨vAt_ex a1 (by omega) (nx (by omega)) e, vAt_ex a2 (by omega) (nx (by omega)) e, vAt_ex a3 (by omega) (nx (by omega)) e, vAt_ex a4 (by omega) (nx (by omega)) e, vAt_ex a5 (by omega) (nx (by omega)) e, vAt_ex a6 (by omega) (nx (by omega)) e, vAt_ex a7 (by omega) (nx (by omega)) e, vAt_ex a8 (by omega) (nx (by omega)) e⟩, fun k r hk => ?_⟩
  have hl := (List.getElem?_eq_some_iff.mp hk).1
  obtain ⟨⟨b1, b2⟩, b3⟩ := hr k r hk
  refine ⟨⟨vAt_ex b1 (by omega) (nx (by omega)) e, b2⟩, fun h1 => ?_⟩
  obtain ⟨c1, c2, c3, c4, c5, c6⟩ := b3 h1
  exact ⟨vAt_ex c1 (by omega) (nx (by omega)) e, vAt_ex c2 (by omega) (nx (by omega)) e, vAt_ex c3 (by omega) (nx (by omega)) e, vAt_ex c4 (by omega) (nx (by omega)) e, vAt_ex c5 (by omega) (nx (by omega)) e, vAt_ex c6 (by omega) (nx (by omega)) e⟩
/-- the row begins with the H bytes W, but for those places -/
def PRf (r H : Nat) (W : Nat → Int32) (τ : px_TT) : Prop := (∃ z, H ≤ z ∧ z ≤ 65536 ∧ fI τ r 1 = nI z) ∧ ∀ i, i < H → ¬ Ex7 i → eI τ (r + 1) i = W i
theorem stA_PRf {r H : Nat} {W : Nat → Int32} : StA r (PRf r H W) := ⟨fun τ τ' h f => by
  obtain ⟨⟨z, a1, a2, a3⟩, a4⟩ := h
  obtain ⟨z', b1, b2, b3, b4⟩ := f z a2 a3
  exact ⟨⟨z', by omega, b2, b3⟩, fun i hi he => (b4 i (by omega)).trans (a4 i hi he)⟩, fun τ τ' h e1 e2 => by
  obtain ⟨⟨z, a1, a2, a3⟩, a4⟩ := h
  exact ⟨⟨z, a1, a2, e1.trans a3⟩, fun i hi he => by rw [e2]; exact a4 i hi he⟩⟩
theorem wS1_ne {p b : Int32} {w : px_FW} {i : Nat} (hp : ¬ p < 0 → iN p ≠ i) : (wS1 p b w).2 i = w.2 i := by
  unfold wS1
  by_cases c1 : p < 0
  · rw [if_pos c1]
  · rw [if_neg c1]
    by_cases c2 : w.1 ≤ iN p
    · rw [if_pos c2]
    · rw [if_neg c2]
      exact pk_un (Ne.symm (hp c1))
theorem itr_ne {g : Nat → px_FW → px_FW} {n i : Nat} (hg : ∀ j w, j < n → (g j w).2 i = w.2 i) : ∀ (d j : Nat) (w : px_FW), j + d ≤ n → (itr g j d w).2 i = w.2 i := by
  intro d
  induction d with
  | zero => intro j w _; rw [itr_0]
  | succ d ih => intro j w hn; rw [itr_s, ih _ _ (by omega), hg j w (by omega)]
theorem wSet_ne {q k : Nat} {v : Int64} {w : px_FW} {i : Nat} (h31 : q + k < 2 ^ 31) (hi : i < q ∨ q + k ≤ i) : (wSet (nI q) k v w).2 i = w.2 i := by
  unfold wSet
  refine itr_ne (n := k) (fun j w hj => wS1_ne (fun _ => ?_)) k 0 w (by omega)
  rw [nI_add, iN_n (by omega)]
  omega
section CNQ
variable {F : Nat} {c : px_CT} {sk : Nat → Nat × Nat × Nat} {L : Nat} {zb : Option Nat} {τ0 τ : px_TT} {r n cc U H : Nat} {P : px_TT → Prop} {W : Nat → Int32}
theorem sq_set {q k : Nat} {v : Int64} (hF : 65540 < F) (hr : TRw r (r + 1) 65536) (hk : k ≤ 8) (hq : q + k ≤ 64) (hx : ∀ i, q ≤ i → i < q + k → Ex7 i) (hc : 0 < cc) (hI : SZQ (PRf r H W) zb sk L τ0 r 65536 cc τ) : Sf sk L (SZQ (PRf r H W) zb sk L τ0 r 65536 cc) Any (f_Row_set F c r (nI q) (nI k) v (cH sk L τ)) := by
  obtain ⟨v1, τ1, e1, _, s1⟩ := sz_set (F := F) (c := c) (v := v) (p := nI q) hF hr hk hI.1
  obtain ⟨τ2, e2, k2, f2, w2⟩ := k_setC (F := F) (c := c) (v := v) (k := k) (p := nI q) (by omega) (by omega) (SI_row hI.1.1 hr)
  have e : cH sk L τ2 = cH sk L τ1 := by
    rw [e1] at e2
    exact (Prod.mk.inj (Option.some.inj e2)).2.symm
  refine ⟨v1, τ1, e1, any, s1, fun _ => StA_H stA_PRf k2.1 k2.2.1 e ?_, stA_PRf⟩
  obtain ⟨⟨z, a1, a2, a3⟩, a4⟩ := hI.2.1 hc
  obtain ⟨b1, b2, b3⟩ := w2 (z, eI τ (r + 1)) ⟨a2, a3, fun _ _ => rfl⟩
  have e0 : (wSet (nI q) k v (z, eI τ (r + 1))).1 = z := wSet_z
  refine ⟨⟨z, a1, a2, b2.trans (by rw [e0])⟩, fun i hi he => ?_⟩
  have hn : i < q ∨ q + k ≤ i := by
    rcases Nat.lt_or_ge i q with h | h
    · exact Or.inl h
    · rcases Nat.lt_or_ge i (q + k) with h2 | h2
      · exact absurd (hx i h h2) he
      · exact Or.inr h2
  rw [b3 i (by rw [e0]; omega), wSet_ne (by omega) hn]
  exact a4 i hi he
theorem sq_next (hF : 65540 < F) (hr : TRw r (r + 1) 65536) (hI : SZQ P zb sk L τ0 r 65536 cc τ) (hc : 0 < cc := by omega) : Sf sk L (SZQ P zb sk L τ0 r 65536 (wiN cc)) Any (f_Scribe_nextPlace F c r (cH sk L τ)) := by
  have hro := SI_row hI.1.1 hr
  obtain ⟨z, hz, ez⟩ := hro.2.2.2.2.1
  have hu := wiN_b z
  have hw := wiN_b cc
  have ex : cc ≤ 65536 → wiN z = wiN cc := fun q => by rw [rz_z hI.1.2.1 (Nat.le_refl _) hz ez q]
  have key : Sf sk L (SZ zb sk L τ0 r 65536 (wiN cc)) Any (f_Row_fillTo F c r (lN (wiN z)) (nI 0) (cH sk L τ)) := by
    by_cases ce : wiN cc = cc
    · have h := sz_Rw hI.1.1 hI.1.2.2 hr (k_fill0Z (F := F) (c := c) (e := wiN z) (cc := cc) (w := nI 0) (by omega) (by omega) hro hI.1.2.1 (fun q => (ex q).trans ce))
      rw [ce]
      exact h
    · have h := sz_Rw hI.1.1 hI.1.2.2 hr (k_fillToZ (F := F) (c := c) (e := wiN z) (cc := cc) (k := wiN cc - cc) (w := nI 0) (by omega) (by omega) hro hI.1.2.1 (by omega) (fun q => by rw [ex q]; omega))
      rw [show cc + (wiN cc - cc) = wiN cc by omega] at h
      exact h
  unfold f_Scribe_nextPlace
  rw [C10g1 hro.1, bs, ez, nI_l (by omega), show (8 : Int64) = lN (2 ^ 3) from rfl, k_up (by decide) (by omega), xb_mk, c_o hro.1, bs, up8]
  refine sz_x (sp_pos hI hc key (k_fillToA (by omega) (by omega) hro)) (fun _ τ1 _ i1 => ?_)
  rw [C10g1 hro.1, bs]
  exact sf_r any i1
theorem sq_fill (hF : 65540 < F) (hr : TRw r (r + 1) 65536) {k : Nat} {w : Int32} (hk : 1 ≤ k) (hk2 : k ≤ 64) (hI : SZQ P zb sk L τ0 r 65536 cc τ) (hc : 0 < cc := by omega) : Sf sk L (SZQ P zb sk L τ0 r 65536 (cc + k)) Any (f_Row_fillTo F c r ((fI τ r 1 + nI k).toInt64) w (cH sk L τ)) := by
  have hS := sz_fill (w := w) (c := c) hF hr hk hk2 hI.1
  obtain ⟨_, _, hn, _, ⟨z, hz, ez⟩, _⟩ := SI_row hI.1.1 hr
  have e : (fI τ r 1 + nI k).toInt64 = lN (z + k) := by rw [ez, nI_add, nI_l (by omega)]
  rw [e] at hS ⊢
  exact sp_pos hI hc hS (k_fillToA (by omega) (by omega) (SI_row hI.1.1 hr))
def SWQ (P : px_TT → Prop) (zb : Option Nat) (sk : Nat → Nat × Nat × Nat) (L : Nat) (τ0 : px_TT) (r n cc U : Nat) (τ : px_TT) : Prop := SZQ P zb sk L τ0 r n cc τ ∧ rz τ 1714 1536 U
theorem sqw_Rw {β : Type} {m : Option (β × px_H)} {v : β} (hI : SZQ P zb sk L τ0 r n cc τ) (hr : r ≠ 1714) (h : ∃ τ', m = some (v, cH sk L τ') ∧ rowOK sk L τ' 1714 1715 1536 ∧ frRw 1714 1715 τ τ' ∧ rz τ' 1714 1536 U) : Sf sk L (SWQ P zb sk L τ0 r n cc U) Any m := by
  obtain ⟨τ', e, h1, h2, h3⟩ := h
  exact ⟨v, τ', e, any, ⟨⟨SI_Rw hI.1.1 T14 h2 h1, rz_fr hI.1.2.1 (fun k => h2.1 r k (Or.inl hr)), fun k => (h2.2.2.1 0 k).trans (hI.1.2.2 k)⟩, fun hc => hI.2.2.2 τ τ' (hI.2.1 hc) (h2.1 r 1 (Or.inl hr)) (h2.2.2.2.1 (r + 1) (by omega)), hI.2.2⟩, h3⟩
theorem sqw_put {v : Int64} {k : Nat} (hF : 65540 < F) (hr : r ≠ 1714) (hk : k ≤ 8) (hI : SWQ P zb sk L τ0 r n cc U τ) : Sf sk L (SWQ P zb sk L τ0 r n cc (U + k)) Any (f_Row_put F c 1714 (nI k) v (cH sk L τ)) := sqw_Rw hI.1 hr (k_putZ (by omega) (by omega) (SI_row hI.1.1.1 T14) hI.2)
theorem sqw_putRow {a1 a3 a5 a7 : Int64} {a9 a10 : Int32} (h0 : S0 sk L τ0) (hF : 65540 < F) (hr : r ≠ 1714) (hI : SWQ P zb sk L τ0 r n cc U τ) : Sf sk L (SWQ P zb sk L τ0 r n cc (U + 48)) Any (f_Scribe_putRow F c 1713 a1 a3 a5 a7 a9 a10 (cH sk L τ)) := by
  have o13 := G1713 h0.1
  have orr := (SI_row hI.1.1.1 T14).1
  have rd : ∀ τ, SI zb sk L τ0 τ → fN τ 1713 3 = some 1714 := fun τ i => GR_r (GR_Z h0.2.1 i.1) (by decide)
  unfold f_Scribe_putRow
  rw [C11r3 o13 (rd _ hI.1.1.1), bs, c_o orr, bs]
  refine sz_x (sqw_put hF hr (by decide) hI) (fun _ τ1 _ i1 => ?_)
  rw [C11r3 o13 (rd _ i1.1.1.1), bs, c_o orr, bs]
  refine sz_x (sqw_put hF hr (by decide) i1) (fun _ τ2 _ i2 => ?_)
  rw [C11r3 o13 (rd _ i2.1.1.1), bs, c_o orr, bs]
  refine sz_x (sqw_put hF hr (by decide) i2) (fun _ τ3 _ i3 => ?_)
  rw [C11r3 o13 (rd _ i3.1.1.1), bs, c_o orr, bs]
  refine sz_x (sqw_put hF hr (by decide) i3) (fun _ τ4 _ i4 => ?_)
  rw [C11r3 o13 (rd _ i4.1.1.1), bs, c_o orr, bs]
  refine sz_x (sqw_put hF hr (by decide) i4) (fun _ τ5 _ i5 => ?_)
  rw [C11r3 o13 (rd _ i5.1.1.1), bs, c_o orr, bs]
  refine sz_x (sqw_put hF hr (by decide) i5) (fun _ τ6 _ i6 => ?_)
  rw [C11r3 o13 (rd _ i6.1.1.1), bs, c_o orr, bs]
  refine sz_x (sqw_put hF hr (by decide) i6) (fun _ τ7 _ i7 => ?_)
  rw [C11r3 o13 (rd _ i7.1.1.1), bs, c_o orr, bs]
  refine sz_x (sqw_put hF hr (by decide) i7) (fun _ τ8 _ i8 => ?_)
  exact sf_r any i8
theorem sqw_endRow {a1 : Int64} {a3 : Int32} (h0 : S0 sk L τ0) (hF : 65540 < F) (hr : r ≠ 1714) (hI : SWQ P zb sk L τ0 r n cc U τ) : Sf sk L (SWQ P zb sk L τ0 r n cc (U + 16)) Any (f_Scribe_endRow F c 1713 a1 a3 (cH sk L τ)) := by
  have o13 := G1713 h0.1
  have orr := (SI_row hI.1.1.1 T14).1
  have rd : ∀ τ, SI zb sk L τ0 τ → fN τ 1713 3 = some 1714 := fun τ i => GR_r (GR_Z h0.2.1 i.1) (by decide)
  unfold f_Scribe_endRow
  rw [C11r3 o13 (rd _ hI.1.1.1), bs, c_o orr, bs]
  refine sz_x (sqw_put hF hr (by decide) hI) (fun _ τ1 _ i1 => ?_)
  rw [C11r3 o13 (rd _ i1.1.1.1), bs, c_o orr, bs]
  refine sz_x (sqw_put hF hr (by decide) i1) (fun _ τ2 _ i2 => ?_)
  exact sf_r any i2
theorem sq_putSym {a1 a2 a3 : Int32} {a4 a6 : Int64} (hF : 65540 < F) (hr : TRw r (r + 1) 65536) (hI : SZQ P zb sk L τ0 r 65536 cc τ) (hc : 0 < cc := by omega) : Sf sk L (SZQ P zb sk L τ0 r 65536 (cc + 24)) Any (f_Scribe_putSymbol F c r a1 a2 a3 a4 a6 (cH sk L τ)) := by
  have orr := (SI_row hI.1.1 hr).1
  unfold f_Scribe_putSymbol
  rw [c_o orr, bs]
  refine sz_x (sp_put hF hr (by decide) hI) (fun _ τ1 _ i1 => ?_)
  rw [c_o orr, bs]
  refine sz_x (sp_put hF hr (by decide) i1) (fun _ τ2 _ i2 => ?_)
  rw [c_o orr, bs]
  refine sz_x (sp_put hF hr (by decide) i2) (fun _ τ3 _ i3 => ?_)
  rw [c_o orr, bs]
  refine sz_x (sp_put hF hr (by decide) i3) (fun _ τ4 _ i4 => ?_)
  rw [c_o orr, bs]
  refine sz_x (sp_put hF hr (by decide) i4) (fun _ τ5 _ i5 => ?_)
  rw [c_o orr, bs]
  refine sz_x (sp_put hF hr (by decide) i5) (fun _ τ6 _ i6 => ?_)
  exact sf_r any i6
end CNQ
section CNR
variable {F : Nat} {c : px_CT} {sk : Nat → Nat × Nat × Nat} {L : Nat} {own : Nat → Nat × Nat} {τ0 τ : px_TT} {fs : List (Nat × (Nat → Nat))} {gs : List (List Nat × Int64)} {ws : List (List Nat)} {n : Nat} {b : Nat → Nat} {a : Int32} {Y : px_Y} {r H cc : Nat} {P : px_TT → Prop} {W0 : Nat → Int32}
theorem zq_seg13 (hF : 65540 < F) (hK : KT c) (hC : CV sk L own τ0 fs gs ws n b a Y) (ha : a = 0) (hr : r ≠ 1714) : ∀ (d j f : Nat) (τ : px_TT), j + d = 3 → d < f → SWQ P none sk L τ0 r 65536 cc (64 + 64 * sgN Y.1.2.2 j) τ → Sf sk L (SWQ P none sk L τ0 r 65536 cc (64 + 64 * sgN Y.1.2.2 3)) Any (f_Scribe_writeSegmentRows_13 F c f 1713 (nI j) (cH sk L τ)) := by
  have h0 := (CV_S4 hC).1.1.1
  have hS := h0.1
  have o13 := G1713 hS
  have o17 := G1700 hS
  intro d
  induction d with
  | zero =>
    intro j f τ hj hf hI
    obtain ⟨f, rfl⟩ : ∃ y, f = y + 1 := ⟨f - 1, by omega⟩
    obtain rfl : j = 3 := by omega
    unfold f_Scribe_writeSegmentRows_13 f_Scribe_writeSegmentRows_141
    rw [if_pos (nI_le (by omega) (by omega))]
    exact sf_r any hI
  | succ d ih =>
    intro j f τ hj hf hI
    obtain ⟨f, rfl⟩ : ∃ y, f = y + 1 := ⟨f - 1, by omega⟩
    have hR := GR_Z h0.2.1 hI.1.1.1.1
    have et := (CV_K (CV_SI hC hI.1.1.1) ha).2.2 j (by omega)
    have orr := (SI_row hI.1.1.1 T14).1
    have rd : ∀ τ, SI none sk L τ0 τ → GR τ := fun τ i => GR_Z h0.2.1 i.1
    have go := fun τ hI => ih (j + 1) f τ (by omega) (by omega) hI
    have es : sgN Y.1.2.2 (j + 1) = sgN Y.1.2.2 j + (if Y.1.2.2 j = true then 1 else 0) := rfl
    rw [es] at go
    generalize sgN Y.1.2.2 j = S at *
    unfold f_Scribe_writeSegmentRows_13 f_Scribe_writeSegmentRows_135
    rw [if_neg (nI_ge (by omega) (by omega)), C11r1 o13 (GR_r (v := 1700) hR (by decide)), bs, C2r4 o17 (GR_r (v := 1703) hR (by decide)), bs, c_aI (G1703 hS) (Or.inr (Or.inr rfl)) (by decide) (by omega), bs, et, nI_add]
    cases ej : Y.1.2.2 j with
    | false =>
      rw [ej, if_neg (by decide)] at go
      rw [if_pos (show bI false = 0 from rfl)]
      exact go τ hI
    | true =>
      rw [ej, if_pos rfl] at go
      rw [if_neg (show ¬ bI true = 0 by decide), C11r3 o13 (GR_r (v := 1714) hR (by decide)), bs, c_o orr, bs]
      refine sz_x (sqw_put hF hr (by decide) hI) (fun _ τ1 _ i1 => ?_)
      rw [C11r3 o13 (GR_r (v := 1714) (rd _ i1.1.1.1) (by decide)), bs, c_o orr, bs]
      refine sz_x (sqw_put hF hr (by decide) i1) (fun _ τ2 _ i2 => ?_)
      rw [C11r3 o13 (GR_r (v := 1714) (rd _ i2.1.1.1) (by decide)), bs, xkI_at hK.2.2.2.2.2.2 (by decide) hK.2.2.2.2.2.1 (by decide) (show j < [6, 2, 3].length from by show j < 3; omega), bs, c_o orr, bs]
      refine sz_x (sqw_put hF hr (by decide) i2) (fun _ τ3 _ i3 => ?_)
      rw [C11r3 o13 (GR_r (v := 1714) (rd _ i3.1.1.1) (by decide)), bs, C11r1 o13 (GR_r (v := 1700) (rd _ i3.1.1.1) (by decide)), bs, C2r6 o17 (GR_r (v := 1705) (rd _ i3.1.1.1) (by decide)), bs, c_aJ (G1705 hS) (by decide) (by omega), bs, c_o orr, bs]
      refine sz_x (sqw_put hF hr (by decide) i3) (fun _ τ4 _ i4 => ?_)
      rw [C11r3 o13 (GR_r (v := 1714) (rd _ i4.1.1.1) (by decide)), bs, C11r1 o13 (GR_r (v := 1700) (rd _ i4.1.1.1) (by decide)), bs, C2r5 o17 (GR_r (v := 1704) (rd _ i4.1.1.1) (by decide)), bs, c_aJ (G1704 hS) (by decide) (by omega), bs, c_o orr, bs]
      refine sz_x (sqw_put hF hr (by decide) i4) (fun _ τ5 _ i5 => ?_)
      rw [C11r3 o13 (GR_r (v := 1714) (rd _ i5.1.1.1) (by decide)), bs, C11r1 o13 (GR_r (v := 1700) (rd _ i5.1.1.1) (by decide)), bs, C2r7 o17 (GR_r (v := 1706) (rd _ i5.1.1.1) (by decide)), bs, c_aJ (G1706 hS) (by decide) (by omega), bs, c_o orr, bs]
      refine sz_x (sqw_put hF hr (by decide) i5) (fun _ τ6 _ i6 => ?_)
      rw [C11r3 o13 (GR_r (v := 1714) (rd _ i6.1.1.1) (by decide)), bs, c_o orr, bs]
      refine sz_x (sqw_put hF hr (by decide) i6) (fun _ τ7 _ i7 => ?_)
      rw [c_o o13, bs]
      refine sz_x (sqw_endRow h0 hF hr i7) (fun _ τ8 _ i8 => ?_)
      refine go τ8 ?_
      rw [show 64 + 64 * (S + 1) = 64 + 64 * S + 4 + 4 + 8 + 8 + 8 + 8 + 8 + 16 by omega]
      exact i8
theorem zq_nam170 {a3 a4 a5 a6 : Int32} (hF : 65540 < F) (hK : KT c) (hC : CV sk L own τ0 fs gs ws n b a Y) (ha : a = 0) (hr : TRw r (r + 1) 65536) (hI : SZQ (PRf r H W0) none sk L τ0 r 65536 (wiN (wiN Y.1.2.1 + 24 * (Y.2.2.2.2.length + 1)) + (1 + nmS Y)) τ) : Sf sk L (SZQ (PRf r H W0) none sk L τ0 r 65536 (nmT Y)) (fun v => v = bI (decide (nmT Y ≤ 65536))) (f_Scribe_writeNamed_170 F c 1713 r a3 a4 a5 a6 (cH sk L τ)) := by
  have h0 := (CV_S4 hC).1.1.1
  have hS := h0.1
  have o13 := G1713 hS
  have o47 := G147 hS
  have rd : ∀ τ, SI none sk L τ0 τ → GR τ := fun τ i => GR_Z h0.2.1 i.1
  have hr14 : r ≠ 1714 := by unfold TRw at hr; omega
  have orr := (SI_row hI.1.1 hr).1
  have o14 := (SI_row hI.1.1 T14).1
  have eT : nmT Y = wiN (wiN (wiN Y.1.2.1 + 24 * (Y.2.2.2.2.length + 1)) + (1 + nmS Y)) + 64 * (sgN Y.1.2.2 3 + 3) := rfl
  have hsg := sgN_le (th := Y.1.2.2) 3
  rw [eT]
  have hpos : 0 < wiN (wiN Y.1.2.1 + 24 * (Y.2.2.2.2.length + 1)) + (1 + nmS Y) := by omega
  generalize wiN (wiN Y.1.2.1 + 24 * (Y.2.2.2.2.length + 1)) + (1 + nmS Y) = W at *
  have hpos1 : 0 < wiN W := by have := wiN_b W; omega
  unfold f_Scribe_writeNamed_170
  refine sz_x (sq_next hF hr hI) (fun v1 τ1 _ i1 => ?_)
  generalize wiN W = W1 at *
  rw [C11r3 o13 (GR_r (v := 1714) (rd _ i1.1.1) (by decide)), bs, c_o o14, bs]
  refine sz_x (sqw_Rw i1 hr14 (k_clearZ (SI_row i1.1.1 T14))) (fun _ τ2 _ i2 => ?_)
  rw [c_o o13, bs]
  unfold f_Scribe_writeSegmentRows
  have key : Sf sk L (SWQ (PRf r H W0) none sk L τ0 r 65536 W1 (64 + 64 * sgN Y.1.2.2 3)) Any ((xgR (cH sk L τ2) 11 3 1713).bind fun t1 => (xo (cH sk L τ2) 10 t1).bind fun _ => xb (f_Row_fillTo F c t1 ((64 : Int64)) (nI 0) (cH sk L τ2)) fun _ ph2 => f_Scribe_writeSegmentRows_13 F c F 1713 (nI 0) ph2) := by
    rw [C11r3 o13 (GR_r (v := 1714) (rd _ i2.1.1.1) (by decide)), bs, c_o o14, bs, show (64 : Int64) = lN 64 from rfl]
    refine sz_x (sqw_Rw (U := 0 + 64) i2.1 hr14 (k_fillToZ (e := 64) (by omega) (by decide) (SI_row i2.1.1.1 T14) i2.2 (by decide) (fun _ => rfl))) (fun _ τ3 _ i3 => ?_)
    exact zq_seg13 hF hK hC ha hr14 3 0 F τ3 rfl (by omega) i3
  refine sz_x key (fun _ τ3 _ i3 => ?_)
  generalize sgN Y.1.2.2 3 = S at *
  rw [C11r0 o13 (GR_r (v := 147) (rd _ i3.1.1.1) (by decide)), bs, C3g15 o47, bs, c_o o13, bs]
  refine sz_x (sqw_putRow h0 hF hr14 i3) (fun _ τ4 _ i4 => ?_)
  rw [c_o o13, bs]
  refine sz_x (sqw_endRow h0 hF hr14 i4) (fun _ τ5 _ i5 => ?_)
  rw [c_o o13, bs]
  refine sz_x (sqw_putRow h0 hF hr14 i5) (fun _ τ6 _ i6 => ?_)
  rw [c_o o13, bs]
  refine sz_x (sqw_endRow h0 hF hr14 i6) (fun _ τ7 _ i7 => ?_)
  have hro := SI_row i7.1.1.1 T14
  have e1 := (i7.2.1 (by omega)).1
  rw [C11r3 o13 (GR_r (v := 1714) (rd _ i7.1.1.1) (by decide)), bs, C10r0 o14 hro.2.2.2.1, bs, bs, C10g1 o14, bs, e1, c_o orr, bs]
  refine sz_x (sp_pos (cd := W1 + 64 * (S + 3)) i7.1 hpos1 (sz_Rw (cc := W1 + 64 * (S + 3)) i7.1.1.1 i7.1.1.2.2 hr (by
    have h := k_copyZ (F := F) (c := c) (q := 0) (m := 64 + 64 * S + 48 + 16 + 48 + 16) hro.2.1 (by decide) hro.2.2.2.2.2.2 (by omega) (SI_row i7.1.1.1 hr) i7.1.1.2.1
    rw [show W1 + (64 + 64 * S + 48 + 16 + 48 + 16) = W1 + 64 * (S + 3) by omega] at h
    exact h)) (k_copyA (q := 0) (m := 64 + 64 * S + 48 + 16 + 48 + 16) hro.2.1 (by decide) hro.2.2.2.2.2.2 (by omega) (SI_row i7.1.1.1 hr))) (fun _ τ8 _ i8 => ?_)
  have hposT : 0 < W1 + 64 * (S + 3) := by omega
  generalize W1 + 64 * (S + 3) = T at *
  rw [c_o orr, bs]
  refine sz_x (sq_set hF hr (by decide) (by decide) (fun i h1 h2 => by unfold Ex7; omega) hposT i8) (fun _ τ9 _ i9 => ?_)
  rw [c_o orr, bs]
  refine sz_x (sq_set hF hr (by decide) (by decide) (fun i h1 h2 => by unfold Ex7; omega) hposT i9) (fun _ τa _ ia => ?_)
  rw [c_o orr, bs]
  refine sz_x (sq_set hF hr (by decide) (by decide) (fun i h1 h2 => by unfold Ex7; omega) hposT ia) (fun _ τb _ ib => ?_)
  rw [c_o orr, bs]
  refine sz_x (sq_set hF hr (by decide) (by decide) (fun i h1 h2 => by unfold Ex7; omega) hposT ib) (fun _ τc _ ic => ?_)
  unfold f_Scribe_writeNamed_321
  rw [C10g2 orr, bs]
  by_cases cT : T ≤ 65536
  · rw [(ic.1.2.1.1 cT).2, if_pos (show bI false = 0 from rfl), decide_eq_true cT]
    exact ⟨_, τc, xz_b true _, rfl, ic⟩
  · rw [ic.1.2.1.2 (by omega), if_neg (show ¬ bI true = 0 by decide), decide_eq_false cT]
    exact ⟨_, τc, xz_b false _, rfl, ic⟩
theorem zq_nam133 {a3 a4 a5 a6 : Int32} (hF : 65540 < F) (hK : KT c) (hC : CV sk L own τ0 fs gs ws n b a Y) (ha : a = 0) (hr : TRw r (r + 1) 65536) (hod : Y.2.2.2.2.length ≤ 4096) : ∀ (d i f : Nat) (τ : px_TT), i + d = Y.2.2.2.2.length → d < f → SZQ (PRf r H W0) none sk L τ0 r 65536 (wiN (wiN Y.1.2.1 + 24 * (Y.2.2.2.2.length + 1)) + (1 + sumT (fun i => mpL Y i + 1) i)) τ → Sf sk L (SZQ (PRf r H W0) none sk L τ0 r 65536 (nmT Y)) (fun v => v = bI (decide (nmT Y ≤ 65536))) (f_Scribe_writeNamed_133 F c f 1713 r a3 a4 a5 a6 (nI i) (cH sk L τ)) := by
  have h0 := (CV_S4 hC).1.1.1
  have o13 := G1713 hC.1
  have o47 := G147 hC.1
  intro d
  induction d with
  | zero =>
    intro i f τ hi hf hI
    obtain ⟨f, rfl⟩ : ∃ y, f = y + 1 := ⟨f - 1, by omega⟩
    have ei : i = Y.2.2.2.2.length := by omega
    have hR := GR_Z h0.2.1 hI.1.1.1
    obtain ⟨_, _, e15, _⟩ := ((CV_X (CV_SI hC hI.1.1)).2 ha).2
    rw [ei] at hI
    unfold f_Scribe_writeNamed_133
    rw [C11r0 o13 (GR_r (v := 147) hR (by decide)), bs, C3g15 o47, bs, e15, if_pos (nI_le (by omega) (by omega))]
    exact zq_nam170 hF hK hC ha hr hI
  | succ d ih =>
    intro i f τ hi hf hI
    obtain ⟨f, rfl⟩ : ∃ y, f = y + 1 := ⟨f - 1, by omega⟩
    have hR := GR_Z h0.2.1 hI.1.1.1
    obtain ⟨_, _, e15, _⟩ := ((CV_X (CV_SI hC hI.1.1)).2 ha).2
    obtain ⟨p, hp, hl, hq⟩ := z_defined (F := F) (c := c) (i := i) hC ha hod (by omega)
    have op := hp.2.1
    have hge := hp.1
    have orr := (SI_row hI.1.1 hr).1
    have hrp : r < 1815 := by unfold TRw at hr; omega
    have es : sumT (fun i => mpL Y i + 1) (i + 1) = sumT (fun i => mpL Y i + 1) i + (mpL Y i + 1) := rfl
    have go := fun τ hI => ih (i + 1) f τ (by omega) (by omega) hI
    rw [es] at go
    generalize wiN (wiN Y.1.2.1 + 24 * (Y.2.2.2.2.length + 1)) = W at *
    generalize sumT (fun i => mpL Y i + 1) i = S at *
    generalize mpL Y i = l at *
    unfold f_Scribe_writeNamed_133
    rw [C11r0 o13 (GR_r (v := 147) hR (by decide)), bs, C3g15 o47, bs, e15, if_neg (nI_ge (by omega) (by omega)), bs, c_o o47, bs, (hq τ hI.1.1).1, xb_mk, bs, c_o op, bs]
    refine sz_x (sp_wto hF hr op (by omega) (by omega) (hq τ hI.1.1).2 hI) (fun _ τ1 _ i1 => ?_)
    rw [c_o orr, bs]
    refine sz_x (sp_put hF hr (by decide) i1) (fun _ τ2 _ i2 => ?_)
    rw [nI_add]
    refine go τ2 ?_
    rw [show W + (1 + (S + (l + 1))) = W + (1 + S) + l + 1 by omega]
    exact i2
theorem zq_nam50 {a3 a4 : Int32} (hF : 65540 < F) (hK : KT c) (hC : CV sk L own τ0 fs gs ws n b a Y) (ha : a = 0) (hr : TRw r (r + 1) 65536) (hod : Y.2.2.2.2.length ≤ 4096) : ∀ (d i f : Nat) (a5 : Int32) (τ : px_TT), i + d = Y.2.2.2.2.length → d < f → SZQ (PRf r H W0) none sk L τ0 r 65536 (wiN Y.1.2.1 + 24 * (i + 1)) τ → Sf sk L (SZQ (PRf r H W0) none sk L τ0 r 65536 (nmT Y)) (fun v => v = bI (decide (nmT Y ≤ 65536))) (f_Scribe_writeNamed_50 F c f 1713 r a3 a4 a5 (nI i) (cH sk L τ)) := by
  have h0 := (CV_S4 hC).1.1.1
  have o13 := G1713 hC.1
  have o47 := G147 hC.1
  intro d
  induction d with
  | zero =>
    intro i f a5 τ hi hf hI
    obtain ⟨f, rfl⟩ : ∃ y, f = y + 1 := ⟨f - 1, by omega⟩
    have ei : i = Y.2.2.2.2.length := by omega
    have hR := GR_Z h0.2.1 hI.1.1.1
    obtain ⟨_, _, e15, _⟩ := ((CV_X (CV_SI hC hI.1.1)).2 ha).2
    have orr := (SI_row hI.1.1 hr).1
    rw [ei] at hI
    unfold f_Scribe_writeNamed_50 f_Scribe_writeNamed_118
    rw [C11r0 o13 (GR_r (v := 147) hR (by decide)), bs, C3g15 o47, bs, e15, if_pos (nI_le (by omega) (by omega))]
    refine sz_x (sq_next hF hr hI) (fun v1 τ1 _ i1 => ?_)
    rw [c_o orr, bs]
    refine sz_x (sp_put hF hr (by decide) i1 (hc := Nat.lt_of_lt_of_le (show 0 < wiN Y.1.2.1 + 24 * (Y.2.2.2.2.length + 1) by omega) (wiN_b _).1)) (fun _ τ2 _ i2 => ?_)
    exact zq_nam133 hF hK hC ha hr hod Y.2.2.2.2.length 0 F τ2 (Nat.zero_add _) (by omega) i2
  | succ d ih =>
    intro i f a5 τ hi hf hI
    obtain ⟨f, rfl⟩ : ∃ y, f = y + 1 := ⟨f - 1, by omega⟩
    have hR := GR_Z h0.2.1 hI.1.1.1
    obtain ⟨_, _, e15, _⟩ := ((CV_X (CV_SI hC hI.1.1)).2 ha).2
    obtain ⟨p, hp, hl, hq⟩ := z_defined (F := F) (c := c) (i := i) hC ha hod (by omega)
    have op := hp.2.1
    unfold f_Scribe_writeNamed_50
    rw [C11r0 o13 (GR_r (v := 147) hR (by decide)), bs, C3g15 o47, bs, e15, if_neg (nI_ge (by omega) (by omega)), bs, c_o o47, bs, (hq τ hI.1.1).1, xb_mk, bs, C5g9 op, bs, c_o o13, bs]
    obtain ⟨v8, τ8, e8, _, rfl⟩ := so_rowOf (F := F) (c := c) h0 hK hF hp hI.1.1
    rw [e8, xb_mk, C5g14 op, bs, C5g8 op, bs]
    refine sz_x (sq_putSym hF hr hI) (fun _ τ1 _ i1 => ?_)
    rw [C5g3 op, bs, nI_add]
    refine ih (i + 1) f _ τ1 (by omega) (by omega) ?_
    rw [show wiN Y.1.2.1 + 24 * (i + 1 + 1) = wiN Y.1.2.1 + 24 * (i + 1) + 24 by omega]
    exact i1
theorem zq_named (hF : 65540 < F) (hK : KT c) (hC : CV sk L own τ0 fs gs ws n b a Y) (ha : a = 0) (hr : TRw r (r + 1) 65536) (hod : Y.2.2.2.2.length ≤ 4096) (h1 : 1 ≤ H) (hH : H ≤ Y.1.2.1) (hI : SI none sk L τ0 τ) (hN : ∀ k, fN τ 0 k = fN τ0 0 k) : Sf sk L (SZQ (PRf r H (eI τ0 1712)) none sk L τ0 r 65536 (nmT Y)) (fun v => v = bI (decide (nmT Y ≤ 65536))) (f_Scribe_writeNamed F c 1713 r 1711 (cH sk L τ)) := by
  have h0 := (CV_S4 hC).1.1.1
  have hS := h0.1
  have o13 := G1713 hC.1
  have o11 := G1711 hC.1
  have orr := (SI_row hI hr).1
  unfold f_Scribe_writeNamed
  rw [C11r1 o13 (GR_r (v := 1700) (GR_Z h0.2.1 hI.1) (by decide)), bs, c_o (G1700 hS), bs]
  obtain ⟨v2, e2⟩ := so_segs (F := F) (c := c) h0 hF hI
  rw [e2, xb_mk, c_o orr, bs]
  refine sz_x (sz_clear hI hN hr) (fun _ τ1 _ i1 => ?_)
  obtain ⟨k1, k2, _⟩ := CV_K (CV_SI hC i1.1) ha
  have hfl := SI_fl i1.1
  rw [C10r0 o11 hfl.2.2.2.1, bs, C10g1 o11, bs, k2, c_o orr, bs]
  have key : Sf sk L (SZQ (PRf r H (eI τ0 1712)) none sk L τ0 r 65536 Y.1.2.1) Any (f_Row_copy F c r 1712 (nI 0) (nI Y.1.2.1) (cH sk L τ1)) := by
    obtain ⟨v1, τ2, e1, _, s1⟩ := sz_Rw (cc := Y.1.2.1) i1.1 i1.2.2 hr (by
      have h := k_copyZ (F := F) (c := c) (q := 0) (m := Y.1.2.1) hfl.2.1 (by decide) hfl.2.2.2.2.2.2 (by omega) (SI_row i1.1 hr) i1.2.1
      rw [Nat.zero_add] at h
      exact h)
    obtain ⟨τ3, e3, k3, f3, w3⟩ := k_copyC (F := F) (c := c) (q := 0) (m := Y.1.2.1) hfl.2.1 (by decide) hfl.2.2.2.2.2.2 (by omega) (SI_row i1.1 hr)
    have e : cH sk L τ3 = cH sk L τ2 := by
      rw [e1] at e3
      exact (Prod.mk.inj (Option.some.inj e3)).2.symm
    refine ⟨v1, τ2, e1, any, s1, fun _ => StA_H stA_PRf k3.1 k3.2.1 e ?_, stA_PRf⟩
    have u := w3 (0, eI τ1 (r + 1)) ⟨Nat.zero_le _, (i1.2.1.1 (Nat.zero_le _)).1, fun i hi => absurd hi (Nat.not_lt_zero _)⟩
    unfold wCpy at u
    rw [if_pos (show (0, eI τ1 (r + 1)).1 + Y.1.2.1 ≤ 65536 by show 0 + Y.1.2.1 ≤ 65536; omega)] at u
    obtain ⟨u1, u2, u3⟩ := u
    have u2 : fI τ3 r 1 = nI (0 + Y.1.2.1) := u2
    have u3 : ∀ i, i < 0 + Y.1.2.1 → eI τ3 (r + 1) i = va_cpy (eI τ1 1712) (eI τ1 (r + 1)) 0 0 Y.1.2.1 i := u3
    rw [Nat.zero_add] at u2 u3
    refine ⟨⟨Y.1.2.1, hH, k1, u2⟩, fun i hi _ => ?_⟩
    rw [u3 i (by omega), pk_cpy_in (Nat.zero_le _) (by omega), Nat.zero_add, Nat.sub_zero, i1.1.2.1.2.2.2.2]
  refine sz_x key (fun _ τ2 _ i2 => ?_)
  have hw := wiN_b Y.1.2.1
  refine sz_x (sq_next hF hr i2) (fun v8 τ3 _ i3 => ?_)
  rw [C10g1 orr, bs, c_o orr, bs]
  refine sz_x (sq_fill hF hr (by decide) (by decide) i3) (fun _ τ4 _ i4 => ?_)
  exact zq_nam50 hF hK hC ha hr hod Y.2.2.2.2.length 0 F _ τ4 (Nat.zero_add _) (by omega) i4
end CNR
end
section
/-! named of the reference: head and rows of the link's file stay (made by a program out of fz1) -/
def OWq (H : Nat) (W : Nat → Int32) (σ0 σ : px_S) (c : Nat) : Prop := OWx σ0 σ c ∧ ∀ i, i < H → ¬ Ex7 i → gA σ 3 i = W i
def OWqe (H : Nat) (W : Nat → Int32) (σ0 σ : px_S) (c : Nat) : Prop := c ≤ 65536 ∧ OWq H W σ0 σ c
section MNQ
variable {F m : Nat} {h : px_H} {σ0 σ : px_S} {c e nD H : Nat} {th : Nat → Bool} {lf df : Nat → Nat} {I : px_S → Prop} {W : Nat → Int32}
theorem qn_w3 {I : px_S → Prop} {α : Type} {V : α → Prop} {f : px_H → Option (α × px_H)} {p : Nat} {v : Int32} (hm : m ≤ h.length) (hI : OWq H W σ0 σ c) (h1 : H ≤ p) (hp : p < 65536) (g : ∀ σ, OWq H W σ0 σ c → Sm m h I V (f (mh m h σ))) : Sm m h I V ((xsI (mh m h σ) 0 (m + 2) (nI p) v.toInt8.toInt32).bind f) := by
  rw [Ms3 hm hp, bs]
  refine g _ ⟨OWx_w hI.1, fun i hi he => ?_⟩
  rw [gA_sA, if_pos rfl, upd_ne (by omega)]
  exact hI.2 i hi he
theorem qn_p4 {I : px_S → Prop} {α : Type} {V : α → Prop} {f : px_H → Option (α × px_H)} {c' : Nat} (hm : m ≤ h.length) (hI : OWq H W σ0 σ c) (g : ∀ σ, OWq H W σ0 σ c' → Sm m h I V (f (mh m h σ))) : Sm m h I V ((xpI (mh m h σ) 12 4 m (nI c')).bind f) := by
  rw [Mp4 hm, bs]; exact g _ ⟨OWx_p hI.1, hI.2⟩
theorem qn_puX {α : Type} {V : α → Prop} {f : Unit → px_H → Option (α × px_H)} {q n : Nat} {v : Int64} (hm : m ≤ h.length) (hF : 65540 < F) (hI : OWq H W σ0 σ c) (hq : q + n ≤ 65536) (hx : ∀ i, q ≤ i → i < q + n → i < H → Ex7 i) (g : ∀ σ, OWq H W σ0 σ c → Sm m h I V (f () (mh m h σ))) : Sm m h I V ((xo (mh m h σ) 12 m).bind fun _ => xb (f_M_put F m (nI q) v (nI n) (mh m h σ)) f) := by
  obtain ⟨σ', e, w1, w2, w3⟩ := q_putV (F := F) (σ := σ) (at0 := q) (n := n) (v := v) hm (by omega) hq hI.1.1.2.2
  rw [e_o hm, bs, e, xb_mk]
  refine g σ' ⟨⟨⟨FR_trans hI.1.1.1 (FR_mono w1 (by decide) (by decide) (by decide) (by decide)), (w1.1 4 List.not_mem_nil).trans hI.1.1.2.1, w2⟩, (w1.1 0 List.not_mem_nil).trans hI.1.2⟩, fun i hi he => ?_⟩
  by_cases cq : q ≤ i ∧ i < q + n
  · exact absurd (hx i cq.1 cq.2 hi) he
  · rw [w3 i, if_neg cq]
    exact hI.2 i hi he
theorem qn_put {α : Type} {V : α → Prop} {f : Unit → px_H → Option (α × px_H)} {q n : Nat} {v : Int64} (hm : m ≤ h.length) (hF : 65540 < F) (hI : OWq H W σ0 σ c) (hH : H ≤ q) (hq : q + n ≤ 65536) (g : ∀ σ, OWq H W σ0 σ c → Sm m h I V (f () (mh m h σ))) : Sm m h I V ((xo (mh m h σ) 12 m).bind fun _ => xb (f_M_put F m (nI q) v (nI n) (mh m h σ)) f) := qn_puX hm hF hI hq (fun i h1 _ h3 => absurd h3 (by omega)) g
theorem qn_seg {q i : Nat} (hm : m ≤ h.length) (hF : 65540 < F) (hH : H ≤ q) (hq : q + 64 ≤ 65536) (hi3 : i < 3) (hI : OWq H W σ0 σ c) : Sm m h (fun σ' => OWq H W σ0 σ' c) Any (f_M_namedSegment F m (nI q) (nI i) (mh m h σ)) := by
  have f38 : ∀ {v : Int64} (σ : px_S), OWq H W σ0 σ c → Sm m h (fun σ' => OWq H W σ0 σ' c) Any (f_M_namedSegment_38 F m (nI q) (nI i) m (nI (q + 8)) v (mh m h σ)) := fun {v} σ hi => by
    unfold f_M_namedSegment_38
    refine qn_put hm hF hi (by omega) (by omega) (fun σ hi => ?_)
    rw [Mr61 hm, bs, Ma61 hm hi3, bs, nI_add]
    refine qn_put hm hF hi (by omega) (by omega) (fun σ hi => ?_)
    rw [Mr60 hm, bs, Ma60 hm hi3, bs, nI_add]
    refine qn_put hm hF hi (by omega) (by omega) (fun σ hi => ?_)
    rw [Mr62 hm, bs, Ma62 hm hi3, bs, nI_add]
    refine qn_put hm hF hi (by omega) (by omega) (fun σ hi => ?_)
    rw [nI_add]
    exact qn_put hm hF hi (by omega) (by omega) (fun σ hi => sm_r any hi)
  unfold f_M_namedSegment
  rw [nI_add]
  refine qn_put hm hF hI (by omega) (by omega) (fun σ hi => ?_)
  rw [nI_add]
  exact sm_i (fun _ => f38 σ hi) (fun _ => sm_i (fun _ => f38 σ hi) (fun _ => f38 σ hi))
theorem qn_nm443 {x1 x2 x3 x5 : Int32} {q4 : Nat} (hm : m ≤ h.length) (hF : 65540 < F) (hM : NMs σ0 e nD th lf df) (hH4 : H ≤ q4) (hq : q4 + 64 * (sgN th 3 + 3) ≤ 65536) (hc : c ≤ 65536) (hI : OWq H W σ0 σ c) : Sm m h (fun σ' => OWqe H W σ0 σ' c) (fun v => v = x5) (f_M_named_443 F m x1 x2 x3 (nI q4) x5 (mh m h σ)) := by
  have h15 := (NMs_O hM hI.1.1).2.1.1
  generalize sgN th 3 = ns at *
  unfold f_M_named_443
  rw [Mg15 hm, bs, h15, nI_add, show nI 64 * nI (ns + 1) = nI (64 * (ns + 1)) from (Int32.ofNat_mul _ _).symm, nI_add]
  rw [nI_add]
  refine qn_put hm hF hI (by omega) (by omega) (fun σ hi => ?_)
  rw [nI_add]
  refine qn_put hm hF hi (by omega) (by omega) (fun σ hi => ?_)
  rw [Mg48 hm, bs, nI_add]
  refine qn_put hm hF hi (by omega) (by omega) (fun σ hi => ?_)
  rw [Mg15 hm, bs, nI_add]
  refine qn_put hm hF hi (by omega) (by omega) (fun σ hi => ?_)
  rw [nI_add]
  refine qn_put hm hF hi (by omega) (by omega) (fun σ hi => ?_)
  rw [nI_add]
  refine qn_put hm hF hi (by omega) (by omega) (fun σ hi => ?_)
  rw [nI_add]
  refine qn_put hm hF hi (by omega) (by omega) (fun σ hi => ?_)
  rw [nI_add]
  refine qn_put hm hF hi (by omega) (by omega) (fun σ hi => ?_)
  rw [nI_add]
  refine qn_put hm hF hi (by omega) (by omega) (fun σ hi => ?_)
  rw [nI_add]
  refine qn_put hm hF hi (by omega) (by omega) (fun σ hi => ?_)
  rw [nI_add]
  refine qn_put hm hF hi (by omega) (by omega) (fun σ hi => ?_)
  refine qn_puX (q := 40) (n := 8) hm hF hi (by decide) (fun i h1 h2 _ => by unfold Ex7; omega) (fun σ hi => ?_)
  refine qn_puX (q := 58) (n := 2) hm hF hi (by decide) (fun i h1 h2 _ => by unfold Ex7; omega) (fun σ hi => ?_)
  rw [Mg15 hm, bs]
  refine qn_puX (q := 60) (n := 2) hm hF hi (by decide) (fun i h1 h2 _ => by unfold Ex7; omega) (fun σ hi => ?_)
  rw [Mg15 hm, bs]
  exact qn_puX (q := 62) (n := 2) hm hF hi (by decide) (fun i h1 h2 _ => by unfold Ex7; omega) (fun σ hi => sm_r rfl ⟨hc, hi⟩)
theorem qn_nm403 {x1 x2 x3 x5 : Int32} {q4 : Nat} (hm : m ≤ h.length) (hF : 65540 < F) (hM : NMs σ0 e nD th lf df) (hH4 : H ≤ q4) (hq : q4 + 64 * (sgN th 3 + 3) ≤ 65536) (hc : c ≤ 65536) : ∀ (d i f : Nat) (σ : px_S), i + d = 3 → d < f → OWq H W σ0 σ c → Sm m h (fun σ' => OWqe H W σ0 σ' c) (fun v => v = x5) (f_M_named_403 F f m x1 x2 x3 (nI q4) x5 (nI i) (mh m h σ)) := by
  intro d
  induction d with
  | zero =>
    intro i f σ hi hf hI
    obtain ⟨f, rfl⟩ : ∃ y, f = y + 1 := ⟨f - 1, by omega⟩
    unfold f_M_named_403
    rw [if_pos (nI_le (by omega) (by omega))]
    exact qn_nm443 hm hF hM hH4 hq hc hI
  | succ d ih =>
    intro i f σ hi hf hI
    obtain ⟨f, rfl⟩ : ∃ y, f = y + 1 := ⟨f - 1, by omega⟩
    have hm59 := (NMs_O hM hI.1.1).2.1.2
    have hle := sgN_m (th := th) (show i + 1 ≤ 3 by omega)
    unfold f_M_named_403 f_M_named_437
    rw [if_neg (nI_ge (by omega) (by omega)), Mr59 hm, bs, Ma59 hm (by omega), bs, nI_add]
    refine sm_i (fun _ => ih _ _ _ (by omega) (by omega) hI) (fun _ => ?_)
    rw [e_o hm, bs, q_no hm (by omega) hm59 (by omega), xb_mk, show nI 64 * nI (sgN th (i + 1)) = nI (64 * sgN th (i + 1)) from (Int32.ofNat_mul _ _).symm, nI_add]
    exact sm_o hm (fun _ => sm_x (qn_seg hm hF (by omega) (by omega) (by omega) hI) (fun _ σ _ hi => ih _ _ _ (by omega) (by omega) hi))
theorem qn_nm340 {V : Int32 → Prop} {k167 : Nat → Int32 → Int32 → Int32 → Int32 → Int32 → Int32 → px_H → Option (Int32 × px_H)} {x2 x4 x5 : Int32} {x q3 i d' l : Nat} (hm : m ≤ h.length) (hd : d' < 4096) (e22 : gA σ0 22 d' = nI l) (hl : l ≤ 20) (hH3 : H ≤ q3) (hq : q3 + x + l ≤ 65536) (hx : x < 2 ^ 20) (hK : ∀ σ, OWq H W σ0 σ c → Sm m h I V (k167 m (nI (x + (l + 1))) x2 (nI q3) x4 x5 (nI (i + 1)) (mh m h σ))) : ∀ (d j f : Nat) (σ : px_S), j + d = l → d < f → OWq H W σ0 σ c → Sm m h I V (f_M_named_340 F k167 f m (nI x) x2 (nI q3) x4 x5 (nI i) (nI d') (nI j) (mh m h σ)) := by
  intro d
  induction d with
  | zero =>
    intro j f σ hj hf hI
    obtain ⟨f, rfl⟩ : ∃ y, f = y + 1 := ⟨f - 1, by omega⟩
    have g22 : gA σ 22 d' = nI l := by rw [hI.1.1.1.2.2.1 22 (by decide)]; exact e22
    unfold f_M_named_340 f_M_named_382
    rw [Mr22 hm, bs, Ma22 hm hd, bs, g22, if_pos (nI_le (by omega) (by omega)), bs, Ma22 hm hd, bs, g22, nI_add, nI_add, nI_add]
    exact hK σ hI
  | succ d ih =>
    intro j f σ hj hf hI
    obtain ⟨f, rfl⟩ : ∃ y, f = y + 1 := ⟨f - 1, by omega⟩
    have g22 : gA σ 22 d' = nI l := by rw [hI.1.1.1.2.2.1 22 (by decide)]; exact e22
    unfold f_M_named_340
    rw [Mr22 hm, bs, Ma22 hm hd, bs, g22, if_neg (nI_ge (by omega) (by omega)), Mr3 hm, bs, Mr21 hm, bs, show nI 20 * nI d' = nI (20 * d') from (Int32.ofNat_mul _ _).symm, nI_add, Ma21 hm (by omega), bs, nI_add, nI_add, nI_add]
    exact qn_w3 hm hI (by omega) (by omega) (fun σ hi => ih _ _ _ (by omega) (by omega) hi)
theorem qn_nm297 {V : Int32 → Prop} {k167 : Nat → Int32 → Int32 → Int32 → Int32 → Int32 → Int32 → px_H → Option (Int32 × px_H)} {x2 x4 x5 : Int32} {v : Int64} {x q3 q8 i d' l : Nat} (hm : m ≤ h.length) (hF : 65540 < F) (hd : d' < 4096) (e22 : gA σ0 22 d' = nI l) (hl : l ≤ 20) (hH3 : H ≤ q3) (hq : q3 + x + l ≤ 65536) (hx : x < 2 ^ 20) (hH8 : H ≤ q8) (hq8 : q8 + 24 ≤ 65536) (hK : ∀ σ, OWq H W σ0 σ c → Sm m h I V (k167 m (nI (x + (l + 1))) x2 (nI q3) x4 x5 (nI (i + 1)) (mh m h σ))) (hI : OWq H W σ0 σ c) : Sm m h I V (f_M_named_297 F k167 m (nI x) x2 (nI q3) x4 x5 (nI i) (nI d') (nI q8) m (nI (q8 + 6)) v (mh m h σ)) := by
  unfold f_M_named_297
  refine qn_put hm hF hI (by omega) (by omega) (fun σ hi => ?_)
  rw [Mr29 hm, bs, Ma29 hm hd, bs, nI_add]
  refine qn_put hm hF hi (by omega) (by omega) (fun σ hi => ?_)
  rw [Mr41 hm, bs, Ma41 hm hd, bs, nI_add]
  refine qn_put hm hF hi (by omega) (by omega) (fun σ hi => ?_)
  exact qn_nm340 hm hd e22 hl hH3 hq hx hK l 0 F σ (Nat.zero_add _) (by omega) hi
theorem qn_nm167 {x5 : Int32} {q2 q3 q4 TX : Nat} (hm : m ≤ h.length) (hF : 65540 < F) (hM : NMs σ0 e nD th lf df) (eTX : TX = 1 + sumT (fun i => lf i + 1) nD) (hH2 : H ≤ q2) (hH3 : H ≤ q3) (h2 : q2 + 24 * (nD + 1) ≤ 65536) (h3 : q3 + TX ≤ 65536) (hH4 : H ≤ q4) (hq : q4 + 64 * (sgN th 3 + 3) ≤ 65536) (hc : c ≤ 65536) : ∀ (d i f : Nat) (σ : px_S), i + d = nD → d < f → OWq H W σ0 σ c → Sm m h (fun σ' => OWqe H W σ0 σ' c) (fun v => v = x5) (f_M_named_167 F f m (nI (1 + sumT (fun i => lf i + 1) i)) (nI q2) (nI q3) (nI q4) x5 (nI i) (mh m h σ)) := by
  have hN := hM.2.2.1
  intro d
  induction d with
  | zero =>
    intro i f σ hi hf hI
    obtain ⟨f, rfl⟩ : ∃ y, f = y + 1 := ⟨f - 1, by omega⟩
    unfold f_M_named_167 f_M_named_400
    rw [Mg48 hm, bs, (NMs_O hM hI.1.1).2.2.2.1, if_pos (nI_le (by omega) (by omega))]
    exact qn_nm403 hm hF hM hH4 hq hc 3 0 F σ rfl (by omega) hI
  | succ d ih =>
    intro i f σ hi hf hI
    obtain ⟨f, rfl⟩ : ∃ y, f = y + 1 := ⟨f - 1, by omega⟩
    have hMs := NMs_O hM hI.1.1
    obtain ⟨e49, hd, e22, hl, hok⟩ := hMs.2.2.2.2 i (by omega)
    have e22' := (hM.2.2.2.2 i (by omega)).2.2.1
    have hle := sumT_le (f := fun i => lf i + 1) (show i + 1 ≤ nD by omega)
    have es : sumT (fun i => lf i + 1) (i + 1) = sumT (fun i => lf i + 1) i + (lf i + 1) := rfl
    have go := fun σ hi => ih (i + 1) f σ (by omega) (by omega) hi
    rw [es, ← Nat.add_assoc] at go
    rw [es] at hle
    have h59 := hMs.2.1.2
    unfold f_M_named_167
    rw [Mg48 hm, bs, hMs.2.2.2.1, if_neg (nI_ge (by omega) (by omega)), Mr49 hm, bs, Ma49 hm (by omega), bs, e49, Mr39 hm, bs, Ma39 hm hd, bs, nI_add, show nI 24 * nI (i + 1) = nI (24 * (i + 1)) from (Int32.ofNat_mul _ _).symm, nI_add]
    generalize sumT (fun i => lf i + 1) i = S at *
    generalize sumT (fun i => lf i + 1) nD = SS at *
    have f240 : ∀ {s0 : Int32}, (s0 = 0 ∨ ∃ s, s < 3 ∧ gA σ 39 (df i) = nI s) → Sm m h (fun σ' => OWqe H W σ0 σ' c) (fun v => v = x5) (f_M_named_240 F (f_M_named_167 F f) m (nI (1 + S)) (nI q2) (nI q3) (nI q4) x5 (nI i) (nI (df i)) (nI (q2 + 24 * (i + 1))) s0 (mh m h σ)) := fun {s0} hs => by
      unfold f_M_named_240
      refine qn_put hm hF hI (by omega) (by omega) (fun σ1 hi1 => ?_)
      rw [Mr38 hm, bs, Ma38 hm hd, bs, nI_add]
      refine qn_put hm hF hi1 (by omega) (by omega) (fun σ2 hi2 => ?_)
      rw [nI_add]
      have fin : ∀ {v : Int64}, Sm m h (fun σ' => OWqe H W σ0 σ' c) (fun v => v = x5) (f_M_named_297 F (f_M_named_167 F f) m (nI (1 + S)) (nI q2) (nI q3) (nI q4) x5 (nI i) (nI (df i)) (nI (q2 + 24 * (i + 1))) m (nI (q2 + 24 * (i + 1) + 6)) v (mh m h σ2)) := fun {v} => qn_nm297 hm hF hd e22' hl (by omega) (by omega) (by omega) (by omega) (by omega) go hi2
      rcases hs with w | ⟨s, w1, w2⟩
      · rw [if_pos w]; exact fin
      · refine sm_i (fun _ => fin) (fun _ => ?_)
        have g39 : gA σ2 39 (df i) = nI s := by rw [hi2.1.1.1.2.2.1 39 (by decide), ← hI.1.1.1.2.2.1 39 (by decide)]; exact w2
        rw [Mr39 hm, bs, Ma39 hm hd, bs, g39, e_o hm, bs, q_no hm (by omega) (NMs_O hM hi2.1.1).2.1.2 w1, xb_mk]
        exact fin
    obtain ⟨o, eo, ho⟩ := hok
    cases o with
    | none =>
      rw [eo, if_pos (show tdA none < 0 by decide)]
      unfold f_M_named_239
      exact f240 (Or.inl rfl)
    | some s =>
      have hs3 := ho s rfl
      have eo' : gA σ 39 (df i) = nI s := eo
      rw [eo', if_neg (show ¬ nI s < 0 from fun w => absurd w (Int32.not_lt.mpr (nI_0le (by omega)))), Mr59 hm, bs, bs, Ma39 hm hd, bs, eo', if_pos (nI_0le (by omega)), bs, Ma39 hm hd, bs, eo']
      unfold f_M_named_231 f_M_named_239
      rw [Ma59 hm hs3, bs]
      exact sm_i (fun _ => f240 (Or.inl rfl)) (fun _ => f240 (Or.inr ⟨s, hs3, eo'⟩))
theorem qn_nm116 {q2 q3 q4 q5 TX : Nat} (hm : m ≤ h.length) (hF : 65540 < F) (hM : NMs σ0 e nD th lf df) (eTX : TX = 1 + sumT (fun i => lf i + 1) nD) (h42 : ∀ k, isB (gA σ0 42 k)) (hHe : H ≤ e) (he5 : e ≤ q5) (hH2 : H ≤ q2) (hH3 : H ≤ q3) (h2 : q2 + 24 * (nD + 1) ≤ 65536) (h3 : q3 + TX ≤ 65536) (hH4 : H ≤ q4) (hq : q4 + 64 * (sgN th 3 + 3) ≤ 65536) (h5 : q5 ≤ 65536) : ∀ (d j f : Nat) (σ : px_S), j + d = q5 → d < f → OWx σ0 σ c → (∀ i, i < j → i < e → gA σ 3 i = gA σ0 42 i) → Sm m h (fun σ' => OWqe H (gA σ0 42) σ0 σ' q5) (fun v => v = nI q5) (f_M_named_116 F f m (nI q2) (nI q3) (nI q4) (nI q5) (nI j) (mh m h σ)) := by
  have hN := hM.2.2.1
  intro d
  induction d with
  | zero =>
    intro j f σ hj hf hI hC
    obtain ⟨f, rfl⟩ : ∃ y, f = y + 1 := ⟨f - 1, by omega⟩
    unfold f_M_named_116 f_M_named_156
    rw [if_pos (nI_le (by omega) (by omega))]
    refine qn_p4 hm (W := gA σ0 42) (H := H) ⟨hI, fun i hi _ => hC i (by omega) (by omega)⟩ (fun σ hi => ?_)
    exact qn_nm167 hm hF hM eTX hH2 hH3 h2 h3 hH4 hq h5 nD 0 F σ (Nat.zero_add _) (by omega) hi
  | succ d ih =>
    intro j f σ hj hf hI hC
    obtain ⟨f, rfl⟩ : ∃ y, f = y + 1 := ⟨f - 1, by omega⟩
    unfold f_M_named_116 f_M_named_149
    have e43 : gI σ 43 = nI e := (NMs_O hM hI.1).1.2
    have he6 := hM.1.1
    rw [if_neg (nI_ge (by omega) (by omega)), Mr3 hm, bs, Mg43 hm, bs, nI_add, e43]
    have step : ∀ v : Int32, (j < e → v.toInt8.toInt32 = gA σ0 42 j) → Sm m h (fun σ' => OWqe H (gA σ0 42) σ0 σ' q5) (fun v => v = nI q5) ((xsI (mh m h σ) 0 (m + 2) (nI j) v.toInt8.toInt32).bind fun ph => f_M_named_116 F f m (nI q2) (nI q3) (nI q4) (nI q5) (nI (j + 1)) ph) := fun v hv => by
      rw [Ms3 hm (by omega), bs]
      refine ih _ _ _ (by omega) (by omega) (OWx_w hI) (fun i hi he => ?_)
      rw [gA_sA, if_pos rfl]
      by_cases c1 : i = j
      · rw [c1, upd_eq]; exact hv (by omega)
      · rw [upd_ne c1]; exact hC i (by omega) he
    by_cases ce : nI e ≤ nI j
    · rw [if_pos ce]
      exact step _ (fun w => absurd ce (nI_ge w (by omega)))
    · rw [if_neg ce, Mr42 hm, bs, Ma42 hm (by omega), bs, hI.1.1.2.2.1 42 (by decide)]
      exact step _ (fun _ => isB_c (h42 j))
theorem qn_nm26 (hm : m ≤ h.length) (hF : 65540 < F) (hM : NMs σ0 e nD th lf df) (h42 : ∀ k, isB (gA σ0 42 k)) (hHe : H ≤ e) (hf0 : FR [0] [] [] [] σ0 σ) (hc : c ≤ 65536) (hI : OWx σ0 σ c) : ∀ (d i f : Nat), i + d = nD → d < f → Sm m h (fun σ' => (65536 < wiN (wiN (wiN e + 24 * (nD + 1)) + (1 + sumT (fun i => lf i + 1) nD)) + 64 * (sgN th 3 + 3) ∧ FR [0] [] [] [] σ0 σ') ∨ (wiN (wiN (wiN e + 24 * (nD + 1)) + (1 + sumT (fun i => lf i + 1) nD)) + 64 * (sgN th 3 + 3) ≤ 65536 ∧ OWqe H (gA σ0 42) σ0 σ' (wiN (wiN (wiN e + 24 * (nD + 1)) + (1 + sumT (fun i => lf i + 1) nD)) + 64 * (sgN th 3 + 3)))) (fun v => v = mpA (wiN (wiN (wiN e + 24 * (nD + 1)) + (1 + sumT (fun i => lf i + 1) nD)) + 64 * (sgN th 3 + 3))) (f_M_named_26 F f m (nI (1 + sumT (fun i => lf i + 1) i)) (nI i) (mh m h σ)) := by
  have hMs := NMs_O hM hI.1
  have hN := hM.2.2.1
  have he := hM.1.1
  have hsg := sgN_le (th := th) 3
  intro d
  induction d with
  | zero =>
    intro i f hi hf
    obtain ⟨f, rfl⟩ : ∃ y, f = y + 1 := ⟨f - 1, by omega⟩
    obtain rfl : i = nD := by omega
    have hB := sumT_b' (f := fun i => lf i + 1) (k := 21) (n := i) (fun j hj => by have := (hM.2.2.2.2 j hj).2.2.2.1; show lf j + 1 ≤ 21; omega)
    obtain ⟨TX, eTX⟩ : ∃ TX, TX = 1 + sumT (fun i => lf i + 1) i := ⟨_, rfl⟩
    unfold f_M_named_26 f_M_named_56
    rw [Mg48 hm, bs, hMs.2.2.2.1, if_pos (nI_le (by omega) (by omega)), Mg43 hm, bs, hMs.1.2, e_o hm, bs, q_wider8 (by omega), xb_mk, Mg48 hm, bs, hMs.2.2.2.1, nI_add, show nI 24 * nI (i + 1) = nI (24 * (i + 1)) from (Int32.ofNat_mul _ _).symm, nI_add]
    have w1 := wiN_b e
    generalize wiN e = W1 at *
    rw [e_o hm, bs, q_wider8 (by omega), xb_mk]
    have w2 := wiN_b (W1 + 24 * (i + 1))
    generalize wiN (W1 + 24 * (i + 1)) = W2 at *
    rw [← eTX, nI_add, e_o hm, bs, q_wider8 (by omega), xb_mk]
    have w3 := wiN_b (W2 + TX)
    generalize wiN (W2 + TX) = W3 at *
    rw [Mg15 hm, bs, hMs.2.1.1, nI_add, show nI 64 * nI (sgN th 3 + 3) = nI (64 * (sgN th 3 + 3)) from (Int32.ofNat_mul _ _).symm, nI_add]
    by_cases hT : W3 + 64 * (sgN th 3 + 3) ≤ 65536
    · rw [if_pos (show nI (W3 + 64 * (sgN th 3 + 3)) ≤ (65536 : Int32) from nI_le hT (by decide))]
      have eA : mpA (W3 + 64 * (sgN th 3 + 3)) = nI (W3 + 64 * (sgN th 3 + 3)) := if_pos hT
      rw [eA]
      exact sm_wI (qn_nm116 (H := H) hm hF hM eTX h42 hHe (by omega) (by omega) (by omega) (by omega) (by omega) (by omega) hT hT _ 0 F σ (Nat.zero_add _) (by omega) hI (fun i hi => absurd hi (Nat.not_lt_zero _))) (fun σ2 w => Or.inr ⟨hT, w⟩)
    · rw [if_neg (show ¬ nI (W3 + 64 * (sgN th 3 + 3)) ≤ (65536 : Int32) from nI_ge (a := 65536) (by omega) (by omega))]
      exact sm_r (if_neg hT).symm (Or.inl ⟨by omega, hf0⟩)
  | succ d ih =>
    intro i f hi hf
    obtain ⟨f, rfl⟩ : ∃ y, f = y + 1 := ⟨f - 1, by omega⟩
    obtain ⟨e49, hd, e22, hl, _⟩ := hMs.2.2.2.2 i (by omega)
    have es : sumT (fun i => lf i + 1) (i + 1) = sumT (fun i => lf i + 1) i + (lf i + 1) := rfl
    have go := ih (i + 1) f (by omega) (by omega)
    rw [es, ← Nat.add_assoc 1 (sumT (fun i => lf i + 1) i) (lf i + 1)] at go
    unfold f_M_named_26
    rw [Mg48 hm, bs, hMs.2.2.2.1, if_neg (nI_ge (by omega) (by omega)), Mr22 hm, bs, Mr49 hm, bs, Ma49 hm (by omega), bs, e49, Ma22 hm hd, bs, e22, nI_add, nI_add, nI_add]
    exact go
theorem qn_named (hm : m ≤ h.length) (hF : 65540 < F) (ho : OUo σ) (h42 : ∀ k, isB (gA σ 42 k)) (hHe : H ≤ e) : (¬ gI σ 13 = 0 → f_M_named F m (mh m h σ) = some (nI 0, mh m h (sI σ 0 (nI 1)))) ∧ (gI σ 13 = 0 → NMs σ e nD th lf df → Sm m h (fun σ' => (65536 < wiN (wiN (wiN e + 24 * (nD + 1)) + (1 + sumT (fun i => lf i + 1) nD)) + 64 * (sgN th 3 + 3) ∧ FR [0] [] [] [] σ σ') ∨ (wiN (wiN (wiN e + 24 * (nD + 1)) + (1 + sumT (fun i => lf i + 1) nD)) + 64 * (sgN th 3 + 3) ≤ 65536 ∧ OWqe H (gA σ 42) σ σ' (wiN (wiN (wiN e + 24 * (nD + 1)) + (1 + sumT (fun i => lf i + 1) nD)) + 64 * (sgN th 3 + 3)))) (fun v => v = mpA (wiN (wiN (wiN e + 24 * (nD + 1)) + (1 + sumT (fun i => lf i + 1) nD)) + 64 * (sgN th 3 + 3))) (f_M_named F m (mh m h σ))) := by
  have th1 : f_M_throwing F m (nI 1) (nI 0) (mh m h σ) = some (nI 1, mh m h (sI σ 0 (nI 1))) := q_throwing hm true false
  have th0 : f_M_throwing F m (nI 0) (nI 0) (mh m h σ) = some (nI 0, mh m h (sI σ 0 (nI 0))) := q_throwing hm false false
  refine ⟨fun h13 => ?_, fun h13 hM => ?_⟩
  · unfold f_M_named f_M_named_13
    rw [Mg13 hm, bs, if_neg h13, e_o hm, bs, th1, xb_mk, if_neg (by decide)]
  · unfold f_M_named f_M_named_13
    rw [Mg13 hm, bs, if_pos h13, e_o hm, bs, th0, xb_mk, if_pos (show (nI 0 : Int32) = 0 from rfl)]
    have hN := hM.2.2.1
    obtain ⟨co, hco, hO⟩ := OWe_0 ho (FR_I σ 0 (nI 0))
    exact qn_nm26 hm hF hM h42 hHe (FR_I σ 0 (nI 0)) hco ⟨hO, by rw [gI_sI, if_pos rfl]⟩ nD 0 F (Nat.zero_add _) (by omega)
end MNQ
end
section
/-! what the class merges is no executable (made by a program out of fz5) -/
/-- an object file, not an executable -/
def MG7 (r : Nat) (τ : px_TT) : Prop := ∀ z, z ≤ 65536 → fI τ r 1 = nI z → 64 ≤ z → vAt (eI τ (r + 1)) 16 2 1
/-- places behind are set: what stands ahead stays -/
theorem wSi_lt {v : Int64} {q i : Nat} (hq : q + 8 < 2 ^ 31) : ∀ (d j : Nat) (w : px_FW), j + d ≤ 8 → i < q + j → (itr (fun j => wS1 (nI q + nI j) (bV v j)) j d w).2 i = w.2 i := by
  intro d
  induction d with
  | zero => intro j w _ _; rw [itr_0]
  | succ d ih =>
    intro j w h8 hi
    rw [itr_s, ih (j + 1) _ (by omega) (by omega)]
    exact wS1_ne (fun _ => by rw [nI_add, iN_n (by omega)]; omega)
theorem wSi_at {x q : Nat} (hx : x < 2 ^ 64) (hq : q + 8 < 2 ^ 31) : ∀ (d j : Nat) (w : px_FW), j + d ≤ 8 → q + j + d ≤ w.1 → ∀ t, t < d → (itr (fun j => wS1 (nI q + nI j) (bV (lN x) j)) j d w).2 (q + (j + t)) = nB x (j + t) := by
  intro d
  induction d with
  | zero => intro j w _ _ t ht; exact absurd ht (Nat.not_lt_zero _)
  | succ d ih =>
    intro j w h8 hz t ht
    have e : wS1 (nI q + nI j) (bV (lN x) j) w = (w.1, upd w.2 (q + j) (nB x j)) := by
      unfold wS1
      rw [nI_add, if_neg (nI_n0 (by omega)), iN_n (by omega), if_neg (by omega), bV_n hx (by omega)]
    rw [itr_s, e]
    by_cases c : t = 0
    · rw [c, Nat.add_zero, wSi_lt hq d (j + 1) _ (by omega) (by omega)]
      exact pk_us
    · obtain ⟨t', rfl⟩ : ∃ t', t = t' + 1 := ⟨t - 1, by omega⟩
      have w1 := ih (j + 1) (w.1, upd w.2 (q + j) (nB x j)) (by omega) (by show q + (j + 1) + d ≤ w.1; omega) t' (by omega)
      rw [show j + (t' + 1) = j + 1 + t' by omega]
      exact w1
theorem wSet_at {x q k : Nat} {w : px_FW} (hx : x < 2 ^ 64) (hk : k ≤ 8) (hq : q + 8 < 2 ^ 31) (hz : q + k ≤ w.1) : vAt (wSet (nI q) k (lN x) w).2 q k x := fun j hj => by
  have u := wSi_at hx hq k 0 w (by omega) (by omega) j hj
  rw [Nat.zero_add] at u
  exact u
section CMH
variable {F : Nat} {c : px_CT} {sk : Nat → Nat × Nat × Nat} {L : Nat} {τ0 τ1 τ : px_TT} {own : Nat → Nat × Nat} {fs : px_FS} {s : px_TK} {xs : px_NL} {ST rn : Nat → Bool} {ws : List (List Nat)} {t r A cc U : Nat}
theorem y_s16 (hF : 65540 < F) (hr : TRw r (r + 1) 65536) (hI : SQm sk L τ0 τ1 r cc U τ) : Sf sk L (fun τ => SQm sk L τ0 τ1 r cc U τ ∧ MG7 r τ) Any (f_Row_set F c r (nI 16) (nI 2) (lN 1) (cH sk L τ)) := by
  obtain ⟨v1, τ2, e2, _, i2⟩ := y_set (F := F) (c := c) (v := lN 1) (p := nI 16) (k := 2) hF hr (by decide) hI
  obtain ⟨τ3, e3, k3, f3, w3⟩ := k_setC (F := F) (c := c) (v := lN 1) (k := 2) (p := nI 16) (by omega) (by decide) (SI_row hI.1.1.1 hr)
  have e : cH sk L τ3 = cH sk L τ2 := by
    rw [e2] at e3
    exact (Prod.mk.inj (Option.some.inj e3)).2.symm
  refine ⟨v1, τ2, e2, any, i2, fun z hz ez h64 => ?_⟩
  obtain ⟨z0, hz0, ez0⟩ := (SI_row hI.1.1.1 hr).2.2.2.2.1
  obtain ⟨b1, b2, b3⟩ := w3 (z0, eI τ (r + 1)) ⟨hz0, ez0, fun _ _ => rfl⟩
  have e0 : (wSet (nI 16) 2 (lN 1) (z0, eI τ (r + 1))).1 = z0 := wSet_z
  have ezz : z = z0 := (nI_eq (by omega) (by omega)).mp (ez.symm.trans ((cH_fI k3.1 e).symm.trans (b2.trans (by rw [e0]))))
  rw [← cH_eI k3.2.1 e]
  intro j hj
  rw [b3 (16 + j) (by rw [e0]; omega)]
  exact wSet_at (x := 1) (by decide) (by decide) (by decide) (by show 16 + 2 ≤ z0; omega) j hj
theorem y_sK {q k : Nat} {v : Int64} (hF : 65540 < F) (hr : TRw r (r + 1) 65536) (hk : k ≤ 8) (h18 : 18 ≤ q) (hq : q + k ≤ 64) (hI : SQm sk L τ0 τ1 r cc U τ ∧ MG7 r τ) : Sf sk L (fun τ => SQm sk L τ0 τ1 r cc U τ ∧ MG7 r τ) Any (f_Row_set F c r (nI q) (nI k) v (cH sk L τ)) := by
  obtain ⟨v1, τ2, e2, _, i2⟩ := y_set (F := F) (c := c) (v := v) (p := nI q) (k := k) hF hr hk hI.1
  obtain ⟨τ3, e3, k3, f3, w3⟩ := k_setC (F := F) (c := c) (v := v) (k := k) (p := nI q) (by omega) (by omega) (SI_row hI.1.1.1.1 hr)
  have e : cH sk L τ3 = cH sk L τ2 := by
    rw [e2] at e3
    exact (Prod.mk.inj (Option.some.inj e3)).2.symm
  refine ⟨v1, τ2, e2, any, i2, fun z hz ez h64 => ?_⟩
  obtain ⟨z0, hz0, ez0⟩ := (SI_row hI.1.1.1.1 hr).2.2.2.2.1
  obtain ⟨b1, b2, b3⟩ := w3 (z0, eI τ (r + 1)) ⟨hz0, ez0, fun _ _ => rfl⟩
  have e0 : (wSet (nI q) k v (z0, eI τ (r + 1))).1 = z0 := wSet_z
  have ezz : z = z0 := (nI_eq (by omega) (by omega)).mp (ez.symm.trans ((cH_fI k3.1 e).symm.trans (b2.trans (by rw [e0]))))
  have hv := hI.2 z0 hz0 ez0 (by omega)
  rw [← cH_eI k3.2.1 e]
  intro j hj
  rw [b3 (16 + j) (by rw [e0]; omega), wSet_ne (by omega) (Or.inl (by omega))]
  exact hv j hj
theorem y_143X {a2 : Int32} (h0 : S0 sk L τ0) (hF : 65540 < F) (hr : TRw r (r + 1) 65536) (hI : SQm sk L τ0 τ1 r cc U τ) : Sf sk L (fun τ => SI none sk L τ0 τ ∧ MG7 r τ) (fun v => v = bI (decide (cc ≤ 8192))) (f_Scribe_writeMerged_143 F c 1713 r a2 (cH sk L τ)) := by
  have o13 := G1713 h0.1
  have orr := (SI_row hI.1.1.1 hr).1
  unfold f_Scribe_writeMerged_143
  rw [c_o orr, bs]
  refine sz_x (y_s16 hF hr hI) (fun _ τ2 _ i2 => ?_)
  rw [c_o orr, bs]
  refine sz_x (y_sK (q := 18) hF hr (by decide) (by decide) (by decide) i2) (fun _ τ3 _ i3 => ?_)
  rw [c_o orr, bs]
  refine sz_x (y_sK (q := 20) hF hr (by decide) (by decide) (by decide) i3) (fun _ τ4 _ i4 => ?_)
  rw [c_o orr, bs]
  refine sz_x (y_sK (q := 40) hF hr (by decide) (by decide) (by decide) i4) (fun _ τ5 _ i5 => ?_)
  rw [c_o orr, bs]
  refine sz_x (y_sK (q := 52) hF hr (by decide) (by decide) (by decide) i5) (fun _ τ6 _ i6 => ?_)
  rw [c_o orr, bs]
  refine sz_x (y_sK (q := 58) hF hr (by decide) (by decide) (by decide) i6) (fun _ τ7 _ i7 => ?_)
  rw [C11g8 o13, bs, c_o orr, bs]
  refine sz_x (y_sK (q := 60) hF hr (by decide) (by decide) (by decide) i7) (fun _ τ8 _ i8 => ?_)
  rw [C11g8 o13, bs, c_o orr, bs]
  refine sz_x (y_sK (q := 62) hF hr (by decide) (by decide) (by decide) i8) (fun _ τ9 _ i9 => ?_)
  have hz := i9.1.1.1.2.1
  unfold f_Scribe_writeMerged_248 f_Scribe_writeMerged_249
  rw [C10g2 orr, bs]
  by_cases c1 : cc ≤ 65536
  · rw [(hz.1 c1).2, if_pos (show bI false = 0 from rfl), C10g1 orr, bs, (hz.1 c1).1]
    by_cases c2 : cc ≤ 8192
    · rw [if_neg (Int32.not_lt.mpr (nI_le c2 (by decide))), decide_eq_true c2]
      exact ⟨_, τ9, xz_b true _, rfl, i9.1.1.1.1, i9.2⟩
    · rw [if_pos (Int32.not_le.mp (nI_ge (a := 8192) (b := cc) (by omega) (by omega))), decide_eq_false c2]
      exact ⟨_, τ9, xz_b false _, rfl, i9.1.1.1.1, i9.2⟩
  · rw [hz.2 (by omega), if_neg (show ¬ bI true = 0 by decide), decide_eq_false (by omega)]
    exact ⟨_, τ9, xz_b false _, rfl, i9.1.1.1.1, i9.2⟩
theorem y_117X {a2 : Int32} (h0 : S0 sk L τ0) (hK : KT c) (hF : 65540 < F) (hr : TRw r (r + 1) 65536) : ∀ (d j f : Nat) (τ : px_TT), j + d = 7 → d < f → SQm sk L τ0 τ1 r cc U τ → Sf sk L (fun τ => SI none sk L τ0 τ ∧ MG7 r τ) (fun v => v = bI (decide (cc ≤ 8192))) (f_Scribe_writeMerged_117 F c f 1713 r a2 (nI j) (cH sk L τ)) := by
  intro d
  induction d with
  | zero =>
    intro j f τ hj hf hI
    obtain ⟨f, rfl⟩ : ∃ y, f = y + 1 := ⟨f - 1, by omega⟩
    obtain rfl : j = 7 := by omega
    unfold f_Scribe_writeMerged_117
    rw [xkl_at hK.2.2.1.2 (by decide), bs, if_pos (show nI [127, 69, 76, 70, 2, 1, 1].length ≤ nI 7 by decide)]
    exact y_143X h0 hF hr hI
  | succ d ih =>
    intro j f τ hj hf hI
    obtain ⟨f, rfl⟩ : ∃ y, f = y + 1 := ⟨f - 1, by omega⟩
    have orr := (SI_row hI.1.1.1 hr).1
    unfold f_Scribe_writeMerged_117
    rw [xkl_at hK.2.2.1.2 (by decide), bs, if_neg (nI_ge (show j < [127, 69, 76, 70, 2, 1, 1].length by show j < 7; omega) (by decide)), xkB_at hK.2.2.1.2 (by decide) hK.2.2.1.1 (by decide) (show j < [127, 69, 76, 70, 2, 1, 1].length by show j < 7; omega), bs, nI_add, c_o orr, bs]
    refine sz_x (y_set hF hr (by decide) hI) (fun _ τ2 _ i2 => ?_)
    exact ih (j + 1) f τ2 (by omega) (by omega) i2
theorem y_52X {ls : List Nat} {lc : Nat} {S : Nat × Nat} (h3 : S3 sk L own τ0 fs s xs ST rn ws) (hK : KT c) (hF : 65540 < F) (hr : TRw r (r + 1) 65536) (hk : STk fs s ST) (e6 : fI τ1 1713 6 = nI ls.length) (hl : ls.length ≤ 63) (hls : ∀ (k i : Nat), ls[k]? = some i → eN τ1 1717 k = some (pN τ0 149 i)) (hlt : ∀ i, i ∈ ls → i < xs.length) (elc : lcT s.2.2.1.length (tB fs s.2.2.1) = lc) (hS22 : S.1 ≤ 22) : ∀ (d t f : Nat) (u : Nat × Nat) (τ : px_TT), t + d = s.2.2.1.length → d < f → itr (mgO (tB fs s.2.2.1) ST) t d u = S → SQm sk L τ0 τ1 r u.2 (64 * u.1) τ → Sf sk L (fun τ => SI none sk L τ0 τ ∧ MG7 r τ) (fun v => v = bI (decide (wiN (wiN (wiN S.2 + 24 * (lc + ls.length)) + (1 + (ls.map (fun i => lfN xs i + 1)).sum)) + 64 * (S.1 + 2) ≤ 8192))) (f_Scribe_writeMerged_52 F c f 1713 r (nI t) (cH sk L τ)) := by
  have h0 := h3.1.1.1
  have o13 := G1713 h0.1
  have o47 := G147 h0.1
  have hT := S3_T h3
  intro d
  induction d with
  | zero =>
    intro t f u τ hj hf eS hI
    obtain ⟨f, rfl⟩ : ∃ y, f = y + 1 := ⟨f - 1, by omega⟩
    rw [itr_0] at eS
    subst eS
    have orr := (SI_row hI.1.1.1 hr).1
    unfold f_Scribe_writeMerged_52 f_Scribe_writeMerged_81
    rw [C11r0 o13 (GR_r (v := 147) (GR_Z h0.2.1 hI.1.1.1.1) (by decide)), bs, C3g14 o47, bs, z_tkn h3 hI.1.1.1, if_pos (nI_le (by omega) (by omega)), c_o o13, bs]
    refine sz_x (y_syms h3 hF hr e6 hl hls hlt elc hI) (fun _ τ2 _ i2 => ?_)
    rw [c_o o13, bs]
    refine sz_x (y_names h3 hF hr e6 hl hls hlt i2) (fun _ τ3 _ i3 => ?_)
    refine sz_x (y_next hF hr i3) (fun _ τ4 _ i4 => ?_)
    have hro := SI_row i4.1.1.1 T14
    have e1 := (i4.1.2.1 (by omega)).1
    rw [C11r3 o13 (GR_r (v := 1714) (GR_Z h0.2.1 i4.1.1.1.1) (by decide)), bs, C10r0 hro.1 hro.2.2.2.1, bs, bs, C10g1 hro.1, bs, e1, c_o orr, bs]
    refine sz_x (y_copy hr hro.2.1 (by decide) hro.2.2.2.2.2.2 (by omega) i4) (fun _ τ5 _ i5 => ?_)
    rw [show 64 * u.1 + 64 + 64 = 64 * (u.1 + 2) by omega] at i5
    exact y_117X h0 hK hF hr 7 0 F τ5 rfl (by omega) i5
  | succ d ih =>
    intro t f u τ hj hf eS hI
    obtain ⟨f, rfl⟩ : ∃ y, f = y + 1 := ⟨f - 1, by omega⟩
    rw [itr_s] at eS
    unfold f_Scribe_writeMerged_52
    rw [C11r0 o13 (GR_r (v := 147) (GR_Z h0.2.1 hI.1.1.1.1) (by decide)), bs, C3g14 o47, bs, z_tkn h3 hI.1.1.1, if_neg (nI_ge (by omega) (by omega))]
    exact y_obj h3 hF hr (by omega) hk (fun τ2 i2 => ih (t + 1) f _ τ2 (by omega) (by omega) eS i2) hI
end CMH
section CMI
variable {F : Nat} {c : px_CT} {sk : Nat → Nat × Nat × Nat} {L : Nat} {τ0 τ1 τ : px_TT} {own : Nat → Nat × Nat} {fs : px_FS} {s : px_TK} {xs : px_NL} {ST rn : Nat → Bool} {ws : List (List Nat)} {t r A cc U : Nat}
theorem z_mergedX (h3 : S3 sk L own τ0 fs s xs ST rn ws) (hK : KT c) (hF : 65540 < F) (hr : TRw r (r + 1) 65536) (hST : ∀ x, ST x = (kpB (tB fs s.2.2.1 (x / 24)) (x % 24) && !s.2.1.1 x)) (hall : ∀ i, i < xs.length → mgC fs s xs ws s.1.2.2.1.length ws.length s.2.2.1.length 0 i) (hws : ∀ w, w ∈ ws → w ∈ xs.map Prod.fst) (hod : ∀ d, d ∈ s.1.2.2.1 → d < xs.length) (hI : SI none sk L τ0 τ) : Sf sk L (fun τ => SI none sk L τ0 τ ∧ (mgB s.2.2.1.length (tB fs s.2.2.1) ST (lfN xs) xs.length = true → MG7 r τ)) (fun v => v = bI (mgB s.2.2.1.length (tB fs s.2.2.1) ST (lfN xs) xs.length)) (f_Scribe_writeMerged F c 1713 r (cH sk L τ)) := by
  have h0 := h3.1.1.1
  have o13 := G1713 h0.1
  have hT := S3_T h3
  have hk : STk fs s ST := fun x hx hs => by
    rw [hST] at hs
    have w := (Bool.and_eq_true _ _).mp hs
    exact ⟨w.1, by simpa using w.2⟩
  have hb := lcT_b (tb := tB fs s.2.2.1) (T := s.2.2.1.length) (fun t ht => (TKe_ys h3.2.1 t ht).2.2) s.2.2.1.length 0 1 (by omega)
  have elc : lcT s.2.2.1.length (tB fs s.2.2.1) = itr (lcO (tB fs s.2.2.1)) 0 s.2.2.1.length 1 := rfl
  rw [← elc] at hb
  have hxl : xs.length ≤ 4128 := by have := h3.2.1.2.2.2.1.2.1.1.2.2.2.1; rw [List.length_map] at this; exact this
  have hmb : (mgT s.2.2.1.length (tB fs s.2.2.1) ST).1 < 2 ^ 20 := mgT_b (fun t ht => (TKe_ys h3.2.1 t ht).2.1) hT
  unfold f_Scribe_writeMerged f_Scribe_writeMerged_18
  rw [c_o o13, bs]
  refine sz_x (z_nparts h3 hF hST hI) (fun v τ2 hv i2 => ?_)
  subst hv
  by_cases cp : (mgT s.2.2.1.length (tB fs s.2.2.1) ST).1 ≤ 22
  · rw [if_neg (Int32.not_lt.mpr (nI_le (show (mgT s.2.2.1.length (tB fs s.2.2.1) ST).1 + 2 ≤ 24 by omega) (by decide))), c_o o13, bs]
    refine sz_x (z_nsyms h3 hF hall hws hod i2) (fun v τ3 hv i3 => ?_)
    subst hv
    obtain ⟨i3, ls, ⟨⟨n7, n6⟩, n1, n2, n3, n4⟩, hC⟩ := i3
    obtain ⟨hsum, hlen⟩ := all_sum (f := fun i => lfN xs i + 1) xs.length ls n1 n2 (fun x hx => hC x hx trivial)
    by_cases cs : lcT s.2.2.1.length (tB fs s.2.2.1) + xs.length ≤ 64
    · have orr := (SI_row i3 hr).1
      have o14 := (SI_row i3 T14).1
      have hr' : r ≠ 1714 ∧ r ≠ 1713 := by unfold TRw at hr; omega
      rw [if_pos (nI_le cs (by decide)), c_o orr, bs]
      obtain ⟨τ4, e4, r4, f4, z4⟩ := k_clearZ (F := F) (c := c) (SI_row i3 hr)
      have i4 := SI_Rw i3 hr f4 r4
      rw [e4, xb_mk, c_o orr, bs, show (64 : Int64) = lN 64 from rfl]
      obtain ⟨τ5, e5, r5, f5, z5⟩ := k_fillToZ (F := F) (c := c) (e := 64) (k := 64) (w := nI 0) (by omega) (by decide) (SI_row i4 hr) z4 (by decide) (fun _ => rfl)
      have i5 := SI_Rw i4 hr f5 r5
      rw [e5, xb_mk, C11r3 o13 (GR_r (v := 1714) (GR_Z h0.2.1 i5.1) (by decide)), bs, c_o o14, bs]
      obtain ⟨τ6, e6, r6, f6, z6⟩ := k_clearZ (F := F) (c := c) (SI_row i5 T14)
      have i6 := SI_Rw i5 T14 f6 r6
      rw [e6, xb_mk, C11r3 o13 (GR_r (v := 1714) (GR_Z h0.2.1 i6.1) (by decide)), bs, c_o o14, bs]
      obtain ⟨τ7, e7, r7, f7, z7⟩ := k_fillToZ (F := F) (c := c) (e := 64) (k := 64) (w := nI 0) (by omega) (by decide) (SI_row i6 T14) z6 (by decide) (fun _ => rfl)
      have i7 := SI_Rw i6 T14 f7 r7
      rw [e7, xb_mk]
      have z5' : rz τ7 r 65536 64 := by
        have z5 : rz τ5 r 65536 64 := z5
        exact rz_fr (rz_fr z5 (fun k => f6.1 r k (Or.inl hr'.1))) (fun k => f7.1 r k (Or.inl hr'.1))
      have z7' : rz τ7 1714 1536 (64 * 1) := z7
      have e13 : ∀ k, fI τ7 1713 k = fI τ3 1713 k := fun k => (f7.1 1713 k (Or.inl (by decide))).trans ((f6.1 1713 k (Or.inl (by decide))).trans ((f5.1 1713 k (Or.inl (Ne.symm hr'.2))).trans (f4.1 1713 k (Or.inl (Ne.symm hr'.2)))))
      have e17 : eN τ7 1717 = eN τ3 1717 := (f7.2.2.2.2.2 1717).trans ((f6.2.2.2.2.2 1717).trans ((f5.2.2.2.2.2 1717).trans (f4.2.2.2.2.2 1717)))
      obtain ⟨v, τ', e, hv, hi⟩ := y_52X (F := F) (c := c) (τ1 := τ3) (ls := ls) (lc := lcT s.2.2.1.length (tB fs s.2.2.1)) (S := mgT s.2.2.1.length (tB fs s.2.2.1) ST) h3 hK hF hr hk n6 (by omega) (fun k i hk' => n4 k i hk' (by have := (List.getElem?_eq_some_iff.mp hk').1; omega)) n2 rfl cp s.2.2.1.length 0 F (1, 64) τ7 (Nat.zero_add _) (by omega) rfl ⟨⟨⟨i7, z5', trivial⟩, z7'⟩, e13, e17⟩
      refine ⟨v, τ', e, hv.trans ?_, hi.1, fun _ => hi.2⟩
      rw [hlen, hsum]
      unfold mgB mgZ
      exact congrArg bI (decide_eq_decide.mpr ⟨fun w => ⟨cp, cs, w⟩, fun w => w.2.2⟩)
    · rw [if_neg (nI_ge (by omega) (by omega))]
      have eB : mgB s.2.2.1.length (tB fs s.2.2.1) ST (lfN xs) xs.length = false := by unfold mgB; exact decide_eq_false (fun w => cs w.2.1)
      refine sf_r ?_ ⟨i3, fun q => by rw [eB] at q; cases q⟩
      rw [eB]
      rfl
  · rw [if_pos (Int32.not_le.mp (nI_ge (a := 24) (b := (mgT s.2.2.1.length (tB fs s.2.2.1) ST).1 + 2) (by omega) (by omega)))]
    have eB : mgB s.2.2.1.length (tB fs s.2.2.1) ST (lfN xs) xs.length = false := by unfold mgB; exact decide_eq_false (fun w => cp w.1)
    refine sf_r ?_ ⟨i2, fun q => by rw [eB] at q; cases q⟩
    rw [eB]
    rfl
end CMI
end
section
/-! what the reference merges is no executable (made by a program out of fb, fc, fd, fe, fz7) -/
/-- OUT is being written, it is an object file -/
def OWm (σ0 σ : px_S) (c : Nat) : Prop := OWi σ0 σ c ∧ vAt (gA σ 3) 16 2 1
theorem plA_64 {sz : Nat → Nat} : ∀ k, 64 ≤ plA sz k
  | 0 => Nat.le_refl _
  | k + 1 => by
    have h1 := plA_64 (sz := sz) k
    have h2 := (wiN_b (plA sz k)).1
    rw [plA_s]
    omega
theorem plN_64 (sz : Nat → Nat) (J : Nat) : 64 ≤ plN sz J := by
  have h1 := plA_64 (sz := sz) (J - 1)
  have h2 := (wiN_b (plA sz (J - 1))).1
  unfold plN
  omega
theorem rwN_64 (p a N : Nat) (zf lf : Nat → Nat) : 64 ≤ rwN p a N zf lf := by
  have h1 := plN_64 (szF p a zf) (p + 1)
  unfold rwN
  have h2 := (wiN_b (plN (szF p a zf) (p + 1) + (1 + sumT (fun k => lf k + 1) N))).1
  omega
section MMO
variable {F m : Nat} {h : px_H} {σ0 σ : px_S} {p a N c : Nat} {zf lf : Nat → Nat} {I : px_S → Prop}
theorem sM_w3 {I : px_S → Prop} {α : Type} {V : α → Prop} {f : px_H → Option (α × px_H)} {q : Nat} {v : Int32} (hm : m ≤ h.length) (hI : OWm σ0 σ c) (h18 : 18 ≤ q) (hp : q < 65536) (g : ∀ σ, OWm σ0 σ c → Sm m h I V (f (mh m h σ))) : Sm m h I V ((xsI (mh m h σ) 0 (m + 2) (nI q) v.toInt8.toInt32).bind f) := by
  rw [Ms3 hm hp, bs]
  refine g _ ⟨OWi_w hI.1, fun j hj => ?_⟩
  rw [gA_sA, if_pos rfl, upd_ne (by omega)]
  exact hI.2 j hj
theorem sM_put {α : Type} {V : α → Prop} {f : Unit → px_H → Option (α × px_H)} {q n : Nat} {v : Int64} (hm : m ≤ h.length) (hF : 65540 < F) (hI : OWm σ0 σ c) (h18 : 18 ≤ q) (hq : q + n ≤ 65536) (g : ∀ σ, OWm σ0 σ c → Sm m h I V (f () (mh m h σ))) : Sm m h I V ((xo (mh m h σ) 12 m).bind fun _ => xb (f_M_put F m (nI q) v (nI n) (mh m h σ)) f) := by
  obtain ⟨σ', e, w1, w2, w3⟩ := q_putV (F := F) (σ := σ) (at0 := q) (n := n) (v := v) hm (by omega) hq hI.1.2.2
  rw [e_o hm, bs, e, xb_mk]
  refine g σ' ⟨⟨FR_trans hI.1.1 (FR_mono w1 (by decide) (by decide) (by decide) (by decide)), (w1.1 4 List.not_mem_nil).trans hI.1.2.1, w2⟩, fun j hj => ?_⟩
  rw [w3 (16 + j), if_neg (by omega)]
  exact hI.2 j hj
theorem sM_p16 {α : Type} {V : α → Prop} {f : Unit → px_H → Option (α × px_H)} (hm : m ≤ h.length) (hF : 65540 < F) (hI : OWi σ0 σ c) (g : ∀ σ, OWm σ0 σ c → Sm m h I V (f () (mh m h σ))) : Sm m h I V ((xo (mh m h σ) 12 m).bind fun _ => xb (f_M_put F m (nI 16) (lN 1) (nI 2) (mh m h σ)) f) := by
  obtain ⟨σ', e, w1, w2, w3⟩ := q_putV (F := F) (σ := σ) (at0 := 16) (n := 2) (v := lN 1) hm (by omega) (by decide) hI.2.2
  rw [e_o hm, bs, e, xb_mk]
  refine g σ' ⟨⟨FR_trans hI.1 (FR_mono w1 (by decide) (by decide) (by decide) (by decide)), (w1.1 4 List.not_mem_nil).trans hI.2.1, w2⟩, fun j hj => ?_⟩
  rw [w3 (16 + j), if_pos ⟨by omega, by omega⟩, Nat.add_sub_cancel_left]
  exact bRv_n (by decide) (by omega)
theorem sM_rows {j : Nat} {x1 x2 x5 x6 : Int64} {x3 x4 : Int32} (hm : m ≤ h.length) (hF : 65540 < F) (hS : MGs F m h σ0 p a N zf lf) (hA : rwN p a N zf lf + 64 * (p + 2) ≤ 8192) (h1 : 1 ≤ j) (hj : j ≤ p + 1) (hI : OWm σ0 σ c) : Sm m h (fun σ' => OWm σ0 σ' c) Any (f_M_mergedRows F m (nI j) x1 x2 x3 x4 x5 x6 (mh m h σ)) := by
  have g1 := rwN_64 p a N zf lf
  have hp := hS.1
  unfold f_M_mergedRows
  rw [e_o hm, bs, q_row8 hm hF hS hI.1, xb_mk]
  generalize rwN p a N zf lf = W at *
  rw [nI_add]
  refine sM_put hm hF hI (by omega) (by omega) (fun σ hi => ?_)
  rw [e_o hm, bs, q_pl hm hF hS hi.1 h1 (by omega), xb_mk, nI_add]
  refine sM_put hm hF hi (by omega) (by omega) (fun σ hi => ?_)
  rw [nI_add]
  refine sM_put hm hF hi (by omega) (by omega) (fun σ hi => ?_)
  rw [nI_add]
  refine sM_put hm hF hi (by omega) (by omega) (fun σ hi => ?_)
  rw [nI_add]
  refine sM_put hm hF hi (by omega) (by omega) (fun σ hi => ?_)
  rw [nI_add]
  refine sM_put hm hF hi (by omega) (by omega) (fun σ hi => ?_)
  rw [nI_add]
  exact sM_put hm hF hi (by omega) (by omega) (fun σ hi => sm_r any hi)
theorem sM_mgsy {k : Nat} {x1 x2 : Int32} {x3 x4 : Int64} (hm : m ≤ h.length) (hF : 65540 < F) (hS : MGs F m h σ0 p a N zf lf) (hA : rwN p a N zf lf + 64 * (p + 2) ≤ 8192) (hk : k ≤ 64) (hI : OWm σ0 σ c) : Sm m h (fun σ' => OWm σ0 σ' c) Any (f_M_mergedSymbol F m (nI k) x1 x2 x3 x4 (mh m h σ)) := by
  have g2 := plN_64 (szF p a zf) (p)
  have hp := hS.1
  have b1 := (rwN_b hS).1
  have b2 := plN_m (sz := szF p a zf) (show p ≤ p + 1 by omega)
  unfold f_M_mergedSymbol
  rw [Mg123 hm, bs, hI.1.1.1 123 (by decide), hS.2.1, e_o hm, bs, q_pl hm hF hS hI.1 hp.1 (by omega), xb_mk, show nI 24 * nI k = nI (24 * k) from (Int32.ofNat_mul _ _).symm, nI_add]
  generalize plN (szF p a zf) (p + 1) = W1 at *
  generalize plN (szF p a zf) p = W at *
  generalize rwN p a N zf lf = W2 at *
  rw [nI_add]
  refine sM_put hm hF hI (by omega) (by omega) (fun σ hi => ?_)
  rw [nI_add]
  refine sM_put hm hF hi (by omega) (by omega) (fun σ hi => ?_)
  rw [nI_add]
  refine sM_put hm hF hi (by omega) (by omega) (fun σ hi => ?_)
  rw [nI_add]
  exact sM_put hm hF hi (by omega) (by omega) (fun σ hi => sm_r any hi)
end MMO
section MMP
variable {F m T : Nat} {h : px_H} {σ0 σ : px_S} {tO tn : Nat → Nat} {tb : Nat → Nat → Nat} {dr : Nat → Bool} {xs : px_NL} {od : List Nat} {on : Bool} {R : Nat → Bool} {p a N c j t i : Nat} {zf lf : Nat → Nat}
theorem sM_ms67 {o P : Nat} (hm : m ≤ h.length) (hF : 65540 < F) (hS : MGs F m h σ0 p a N zf lf) (hA : rwN p a N zf lf + 64 * (p + 2) ≤ 8192) (h1 : 1 ≤ j) (hj : j < p) (eb : ∀ σ, OWi σ0 σ c → f_M_beginning F m (nI o) (nI i) (mh m h σ) = some (lN P, mh m h σ)) (hP : 0 < zf j → o + P + zf j ≤ 65536) : ∀ (d k f : Nat) (σ : px_S), k + d = zf j → d < f → OWm σ0 σ c → Sm m h (fun σ' => OWm σ0 σ' c) Any (f_M_mergedSection_67 F f m (nI j) (nI o) (nI i) (nI k) (mh m h σ)) := by
  have g3 := plN_64 (szF p a zf) (j)
  have hp := hS.1
  have b1 := (rwN_b hS).1
  have b2 := plN_m (sz := szF p a zf) (show j + 1 ≤ p + 1 by omega)
  have b3 := plN_in (sz := szF p a zf) h1
  rw [show szF p a zf j = zf j from if_pos hj] at b3
  intro d
  induction d with
  | zero =>
    intro k f σ hk hf hI
    obtain ⟨f, rfl⟩ : ∃ y, f = y + 1 := ⟨f - 1, by omega⟩
    unfold f_M_mergedSection_67 f_M_mergedSection_113
    rw [e_o hm, bs, hS.2.2.2.2.2.2 σ c j hI.1 h1 hj, xb_mk, if_pos (nI_le (by omega) (by omega))]
    exact sm_r any hI
  | succ d ih =>
    intro k f σ hk hf hI
    obtain ⟨f, rfl⟩ : ∃ y, f = y + 1 := ⟨f - 1, by omega⟩
    have hP' := hP (by omega)
    unfold f_M_mergedSection_67
    rw [e_o hm, bs, hS.2.2.2.2.2.2 σ c j hI.1 h1 hj, xb_mk, if_neg (nI_ge (by omega) (by omega)), Mr3 hm, bs, e_o hm, bs, q_pl hm hF hS hI.1 h1 (by omega), xb_mk, Mr6 hm, bs, e_o hm, bs, eb σ hI.1, xb_mk, lN_i, nI_add, nI_add, Ma6 hm (by omega), bs, nI_add, nI_add]
    exact sM_w3 hm hI (by omega) (by omega) (fun σ hi => ih _ _ _ (by omega) (by omega) hi)
theorem sM_msec (hm : m ≤ h.length) (hF : 65540 < F) (hk : MGk σ0 T tO tn tb dr xs od on R) (hS : MGs F m h σ0 p a N zf lf) (hA : rwN p a N zf lf + 64 * (p + 2) ≤ 8192) (h1 : 1 ≤ j) (hj : j < p) (hP : MPj σ0 T tb j t i) (ez : zf j = ptZ (tb t) i) (hI : OWm σ0 σ c) : Sm m h (fun σ' => OWm σ0 σ' c) Any (f_M_mergedSection F m (nI j) (mh m h σ)) := by
  have g1 := rwN_64 p a N zf lf
  have hp := hS.1
  have hpz := ptZ_b hk hP
  have b1 := (rwN_b hS).1
  obtain ⟨p1, p2, p3, p4, p5, p6⟩ := MPj_w hP hI.1
  have hb := MGk_o (MGk_w hk hI.1) p1
  unfold f_M_mergedSection
  rw [Mr120 hm, bs, Ma120 hm (by omega), bs, p4, e_o hm, bs, O_obj hm hb, xb_mk, Mr121 hm, bs, Ma121 hm (by omega), bs, p5, e_o hm, bs, O_type hm (by omega) hb p3, xb_mk, e_o hm, bs, O_size hm (by omega) hb p3, xb_mk, e_o hm, bs, O_align hm (by omega) hb p3, xb_mk]
  refine sm_o hm (fun _ => sm_x (sM_rows hm hF hS hA h1 (by omega) hI) (fun _ σ _ hi => ?_))
  have hb := MGk_o (MGk_w hk hi.1) p1
  rw [e_o hm, bs, q_row8 hm hF hS hi.1, xb_mk, e_o hm, bs, O_flags hm (by omega) hb p3, xb_mk, nI_add]
  have hle : rwN p a N zf lf + 64 * j + 8 + 8 ≤ 65536 := by omega
  refine sM_put hm hF hi (by omega) hle (fun σ hi => ?_)
  exact sM_ms67 hm hF hS hA h1 hj (fun σ hi => O_beg hm (by omega) (MGk_o (MGk_w hk hi) p1) p3) (by rw [ez]; exact hpz.2) (zf j) 0 F σ (Nat.zero_add _) (by have := hS.2.2.2.2.2.1 j; omega) hi
theorem sM_mt117 (hm : m ≤ h.length) (hF : 65540 < F) (hW : WP T tb dr xs) (hk : MGk σ0 T tO tn tb dr xs od on R) (hS : MGs F m h σ0 p a N zf lf) (hA : rwN p a N zf lf + 64 * (p + 2) ≤ 8192) (h1 : 1 ≤ j) (hj : j < p) (ht : t < T) (i1 : 1 ≤ i) (iS : i < oS (tb t)) (hs : isS (tb t) i = true) (ez : 24 * sN (tb t) i ≤ zf j) : ∀ (d k f : Nat) (σ : px_S), k + d = sN (tb t) i → d < f → OWm σ0 σ c → Sm m h (fun σ' => OWm σ0 σ' c) Any (f_M_mergedSites_117 F f m (nI j) (nI t) (nI (tO t)) (nI i) (nI k) (mh m h σ)) := by
  have g3 := plN_64 (szF p a zf) (j)
  have hp := hS.1
  have b1 := (rwN_b hS).1
  have b2 := plN_m (sz := szF p a zf) (show j + 1 ≤ p + 1 by omega)
  have b3 := plN_in (sz := szF p a zf) h1
  rw [show szF p a zf j = zf j from if_pos hj] at b3
  have hzb := hS.2.2.2.2.2.1 j
  have hT := hW.1
  intro d
  induction d with
  | zero =>
    intro k f σ hkk hf hI
    obtain ⟨f, rfl⟩ : ∃ y, f = y + 1 := ⟨f - 1, by omega⟩
    have hb := MGk_o (MGk_w hk hI.1) ht
    unfold f_M_mergedSites_117 f_M_mergedSites_222
    rw [e_o hm, bs, O_sN hm (by omega) hb i1 iS hs, xb_mk, if_pos (nI_le (by omega) (by omega))]
    exact sm_r any hI
  | succ d ih =>
    intro k f σ hkk hf hI
    obtain ⟨f, rfl⟩ : ∃ y, f = y + 1 := ⟨f - 1, by omega⟩
    have hk1 := MGk_w hk hI.1
    have hb := MGk_o hk1 ht
    have hkN : k < sN (tb t) i := by omega
    have hsp := OB_sP hb i1 iS hs hkN
    have hok := (sOK_0w ((eSit_0 hb.2.2.2.1 i1 iS hs).2.2.2.2.2 k hkN)).2.1
    have hM := w2_M (OB_w hb)
    have fin : ∀ {v : Int64}, Sm m h (fun σ' => OWm σ0 σ' c) Any (f_M_mergedSites_212 F (f_M_mergedSites_117 F f) m (nI j) (nI t) (nI (tO t)) (nI i) (nI k) m (nI (plN (szF p a zf) j + 24 * k + 12)) v (mh m h σ)) := fun {v} => by
      unfold f_M_mergedSites_212
      rw [nI_add]
      have hle : plN (szF p a zf) j + 24 * k + 12 + 4 ≤ 65536 := by
        generalize plN (szF p a zf) j = x1 at *
        generalize plN (szF p a zf) (j + 1) = x2 at *
        generalize plN (szF p a zf) (p + 1) = x3 at *
        generalize sN (tb t) i = x4 at *
        omega
      exact sM_put hm hF hI (by omega) hle (fun σ hi => ih _ _ _ (by omega) (by omega) hi)
    unfold f_M_mergedSites_117
    rw [e_o hm, bs, O_sN hm (by omega) hb i1 iS hs, xb_mk, if_neg (nI_ge (by omega) (by omega)), e_o hm, bs, O_site hm (by omega) hb iS, xb_mk, e_o hm, bs, nI_add, O_sY hm (by omega) hb hsp, xb_mk, lN_i, e_o hm, bs, q_pl hm hF hS hI.1 h1 (by omega), xb_mk, show nI 24 * nI k = nI (24 * k) from (Int32.ofNat_mul _ _).symm, nI_add, nI_add]
    by_cases c0 : sY (tb t) i k = 0
    · rw [if_pos (by rw [c0]; rfl)]
      exact fin
    · rw [if_neg (nI_nz (by omega) c0), e_o hm, bs, O_bind hm (by omega) hb hok, xb_mk]
      by_cases c1 : yB (tb t) (sY (tb t) i k) = 0
      · rw [if_pos (by rw [c1]; rfl), Mr118 hm, bs, show nI 64 * nI t = nI (64 * t) from (Int32.ofNat_mul _ _).symm, nI_add, Ma118 hm (by omega), bs]
        exact fin
      · have hyB : yB (tb t) (sY (tb t) i k) < 2 ^ 31 := by
          have := OB_y hb (by omega) hok
          unfold yOK at this
          have := (of_decide_eq_true this).1
          omega
        rw [if_neg (nI_nz hyB c1), Mr119 hm, bs, e_o hm, bs, O_name hm (by omega) hb hk1.1.2.2 (by omega) hok c1, xb_mk]
        have hmem := hW.2.2.2.1 t _ ht (show 1 ≤ sY (tb t) i k by omega) hok c1
        have hx : xs.length ≤ 4096 := by have := hk1.1.2.2.1.2.1; rw [List.length_map] at this; exact this
        cases e : idx (yT (tb t) (sY (tb t) i k)) 0 (xs.map Prod.fst) with
        | none =>
          have := idx_iff.mpr hmem
          rw [e] at this
          cases this
        | some q =>
          have hq := (idx_lt e).2
          rw [List.length_map, Nat.zero_add] at hq
          rw [show tdA (some q) = nI q from rfl, Ma119 hm (by omega), bs]
          exact fin
theorem sM_mt67 {o P t1 : Nat} (hm : m ≤ h.length) (hF : 65540 < F) (hS : MGs F m h σ0 p a N zf lf) (hA : rwN p a N zf lf + 64 * (p + 2) ≤ 8192) (h1 : 1 ≤ j) (hj : j < p) (eb : ∀ σ, OWi σ0 σ c → f_M_beginning F m (nI o) (nI i) (mh m h σ) = some (lN P, mh m h σ)) (hP : 0 < zf j → o + P + zf j ≤ 65536) (hK : ∀ σ, OWm σ0 σ c → Sm m h (fun σ' => OWm σ0 σ' c) Any (f_M_mergedSites_114 F m (nI j) (nI t1) (nI o) (nI i) (mh m h σ))) : ∀ (d k f : Nat) (σ : px_S), k + d = zf j → d < f → OWm σ0 σ c → Sm m h (fun σ' => OWm σ0 σ' c) Any (f_M_mergedSites_67 F f m (nI j) (nI t1) (nI o) (nI i) (nI k) (mh m h σ)) := by
  have g3 := plN_64 (szF p a zf) (j)
  have hp := hS.1
  have b1 := (rwN_b hS).1
  have b2 := plN_m (sz := szF p a zf) (show j + 1 ≤ p + 1 by omega)
  have b3 := plN_in (sz := szF p a zf) h1
  rw [show szF p a zf j = zf j from if_pos hj] at b3
  intro d
  induction d with
  | zero =>
    intro k f σ hk hf hI
    obtain ⟨f, rfl⟩ : ∃ y, f = y + 1 := ⟨f - 1, by omega⟩
    unfold f_M_mergedSites_67
    rw [e_o hm, bs, hS.2.2.2.2.2.2 σ c j hI.1 h1 hj, xb_mk, if_pos (nI_le (by omega) (by omega))]
    exact hK σ hI
  | succ d ih =>
    intro k f σ hk hf hI
    obtain ⟨f, rfl⟩ : ∃ y, f = y + 1 := ⟨f - 1, by omega⟩
    have hP' := hP (by omega)
    unfold f_M_mergedSites_67
    rw [e_o hm, bs, hS.2.2.2.2.2.2 σ c j hI.1 h1 hj, xb_mk, if_neg (nI_ge (by omega) (by omega)), Mr3 hm, bs, e_o hm, bs, q_pl hm hF hS hI.1 h1 (by omega), xb_mk, Mr6 hm, bs, e_o hm, bs, eb σ hI.1, xb_mk, lN_i, nI_add, nI_add, Ma6 hm (by omega), bs, nI_add, nI_add]
    exact sM_w3 hm hI (by omega) (by omega) (fun σ hi => ih _ _ _ (by omega) (by omega) hi)
theorem sM_msit (hm : m ≤ h.length) (hF : 65540 < F) (hW : WP T tb dr xs) (hk : MGk σ0 T tO tn tb dr xs od on R) (hS : MGs F m h σ0 p a N zf lf) (hA : rwN p a N zf lf + 64 * (p + 2) ≤ 8192) (h1 : 1 ≤ j) (hj : j < p) (hP : MPj σ0 T tb j t i) (ez : zf j = ptZ (tb t) i) (h4 : oT (tb t) i = 4) (hI : OWm σ0 σ c) : Sm m h (fun σ' => OWm σ0 σ' c) Any (f_M_mergedSites F m (nI j) (mh m h σ)) := by
  have hp := hS.1
  have hpz := ptZ_b hk hP
  have hT := hW.1
  obtain ⟨p1, p2, p3, p4, p5, p6⟩ := MPj_w hP hI.1
  have hs : isS (tb t) i = true := by
    rcases p6 with p6 | p6
    · unfold oK at p6
      rcases (of_decide_eq_true p6).1 with e | e <;> (rw [h4] at e; cases e)
    · exact p6
  have hb := MGk_o (MGk_w hk hI.1) p1
  have hIs := (eSit_0 hb.2.2.2.1 p2 p3 hs).1
  have h24 := (OB_w hb).1.2.1.2
  have hzN : ptZ (tb t) i = oZ (tb t) i := by unfold ptZ; rw [if_neg (by rw [h4]; decide)]
  have hsn : 24 * sN (tb t) i ≤ zf j := by rw [ez, hzN]; unfold sN; omega
  have hi24 : 24 * t + oI (tb t) i < 1536 := by omega
  unfold f_M_mergedSites
  rw [Mr120 hm, bs, Ma120 hm (by omega), bs, p4, e_o hm, bs, O_obj hm hb, xb_mk, Mr121 hm, bs, Ma121 hm (by omega), bs, p5, e_o hm, bs, O_size hm (by omega) hb p3, xb_mk, Mg123 hm, bs, Mr117 hm, bs, e_o hm, bs, O_info hm (by omega) hb p3, xb_mk, lN_i, show nI 24 * nI t = nI (24 * t) from (Int32.ofNat_mul _ _).symm, nI_add, Ma117 hm hi24, bs]
  refine sm_o hm (fun _ => sm_x (sM_rows hm hF hS hA h1 (by omega) hI) (fun _ σ _ hi => ?_))
  refine sM_mt67 hm hF hS hA h1 hj (fun σ hi => O_beg hm (by omega) (MGk_o (MGk_w hk hi) p1) p3) (by rw [ez]; exact hpz.2) (fun σ hi => ?_) (zf j) 0 F σ (Nat.zero_add _) (by have := hS.2.2.2.2.2.1 j; omega) hi
  unfold f_M_mergedSites_114
  have hzb := hS.2.2.2.2.2.1 j
  exact sM_mt117 hm hF hW hk hS hA h1 hj p1 p2 p3 hs hsn (sN (tb t) i) 0 F σ (Nat.zero_add _) (by omega) hi
end MMP
section MMQ
variable {F m T : Nat} {h : px_H} {σ0 σ : px_S} {tO tn : Nat → Nat} {tb : Nat → Nat → Nat} {dr : Nat → Bool} {xs : px_NL} {od : List Nat} {on : Bool} {R : Nat → Bool} {p a N c j t i : Nat} {zf lf : Nat → Nat}
theorem sM_ml18 {k2 : Nat → Int32 → px_H → Option (Unit × px_H)} (hm : m ≤ h.length) (hF : 65540 < F) (hT : T ≤ 64) (hk : MGk σ0 T tO tn tb dr xs od on R) (hS : MGs F m h σ0 p a N zf lf) (hA : rwN p a N zf lf + 64 * (p + 2) ≤ 8192) (hL : MLo σ0 tb T 0 a) (ht : t < T) (hK : ∀ σ, OWm σ0 σ c → Sm m h (fun σ' => OWm σ0 σ' c) Any (k2 m (nI (t + 1)) (mh m h σ))) : ∀ (d k f : Nat) (σ : px_S), k + d = pkM (oM (tb t)) → 1 ≤ k → d < f → OWm σ0 σ c → Sm m h (fun σ' => OWm σ0 σ' c) Any (f_M_mergedLocals_18 F k2 f m (nI t) (nI (tO t)) (nI k) (mh m h σ)) := by
  have ha := hS.1.2.2.1
  have hM := w2_M (OB_w (MGk_o hk ht))
  obtain ⟨m1, m2, m3⟩ := pkM_1 (oM (tb t))
  have hMx : pkM (oM (tb t)) ≤ 64 := by unfold pkM; split <;> omega
  intro d
  induction d with
  | zero =>
    intro k f σ hkk h1 hf hI
    obtain ⟨f, rfl⟩ : ∃ y, f = y + 1 := ⟨f - 1, by omega⟩
    have hb := MGk_o (MGk_w hk hI.1) ht
    unfold f_M_mergedLocals_18 f_M_mergedLocals_195
    rw [e_o hm, bs, O_many hm (by omega) hb, xb_mk, if_pos (nI_le (by omega) (by omega)), nI_add]
    exact hK σ hI
  | succ d ih =>
    intro k f σ hkk h1 hf hI
    obtain ⟨f, rfl⟩ : ∃ y, f = y + 1 := ⟨f - 1, by omega⟩
    have hk1 := MGk_w hk hI.1
    have hb := MGk_o hk1 ht
    have hkM := m3 k h1 (by omega)
    have hyo := OB_y hb h1 hkM
    unfold yOK at hyo
    have hyo := of_decide_eq_true hyo
    have hyB : yB (tb t) k < 2 ^ 31 := by omega
    have h24 := (OB_w hb).1.2.1.2
    have hyW : yW (tb t) k < 2 ^ 31 := by rcases hyo.2.1 with e | e | e | e <;> omega
    have hn := hb.2.2.1
    have hyP := w2_y (OB_w hb) hkM
    have go := fun σ hi => ih (k + 1) f σ (by omega) (by omega) (by omega) hi
    unfold f_M_mergedLocals_18 f_M_mergedLocals_189
    rw [e_o hm, bs, O_many hm (by omega) hb, xb_mk, if_neg (nI_ge (by omega) (by omega)), e_o hm, bs, O_bind hm (by omega) hb hkM, xb_mk, nI_add]
    by_cases c0 : yB (tb t) k = 0
    · obtain ⟨v, v1, v2⟩ := hL t k (Or.inl ht) h1 hkM c0
      have e118 : gA σ 118 (64 * t + k) = nI v := by rw [hI.1.1.2.2.1 118 (by decide)]; exact v2
      have f180 : ∀ {s2 s3 : Int32} {s4 : Int64}, Sm m h (fun σ' => OWm σ0 σ' c) Any (f_M_mergedLocals_180 F k2 (f_M_mergedLocals_18 F k2 f) m (nI t) (nI (tO t)) (nI k) m (nI v) s2 s3 s4 (mh m h σ)) := fun {s2 s3 s4} => by
        unfold f_M_mergedLocals_180 f_M_mergedLocals_189
        rw [e_o hm, bs, O_ysize hm (by omega) hb hkM, xb_mk, nI_add]
        exact sm_o hm (fun _ => sm_x (sM_mgsy hm hF hS hA (by omega) hI) (fun _ σ _ hi => go σ hi))
      have f174 : ∀ {s2 s3 : Int32}, Sm m h (fun σ' => OWm σ0 σ' c) Any (f_M_mergedLocals_174 F k2 (f_M_mergedLocals_18 F k2 f) m (nI t) (nI (tO t)) (nI k) m (nI v) s2 s3 (mh m h σ)) := fun {s2 s3} => by
        unfold f_M_mergedLocals_174
        rw [e_o hm, bs, O_value hm (by omega) hb hkM, xb_mk]
        exact f180
      have f86 : ∀ {a5 s0 : Int32}, (a5 = 0 ∧ s0 = 0) ∨ yW (tb t) k < 24 → Sm m h (fun σ' => OWm σ0 σ' c) Any (f_M_mergedLocals_86 F k2 (f_M_mergedLocals_18 F k2 f) m (nI t) (nI (tO t)) (nI k) (nI (yW (tb t) k)) a5 s0 (mh m h σ)) := fun {a5 s0} hw => by
        unfold f_M_mergedLocals_86 f_M_mergedLocals_150
        rw [Mr118 hm, bs, show nI 64 * nI t = nI (64 * t) from (Int32.ofNat_mul _ _).symm, nI_add, Ma118 hm (by omega), bs, e118, Mr6 hm, bs, e_o hm, bs, O_sym hm (by omega) hb, xb_mk, nI_add, Ma6 hm (by omega), bs, show nI 24 * nI t = nI (24 * t) from (Int32.ofNat_mul _ _).symm, nI_add]
        rcases hw with ⟨w1, w2⟩ | w
        · rw [if_pos w2, if_pos w1, if_pos w2]
          exact f174
        · have hix : 24 * t + yW (tb t) k < 1536 := by omega
          refine sm_i (fun c1 => ?_) (fun c1 => ?_)
          · refine sm_i (fun _ => ?_) (fun _ => ?_)
            · rw [if_pos c1]
              exact f174
            · rw [Mr117 hm, bs, Ma117 hm hix, bs, if_pos c1]
              exact f174
          · rw [if_neg c1, Mr65 hm, bs, Ma65 hm hix, bs]
            exact sm_i (fun _ => f174) (fun _ => f180)
      have f63 : Sm m h (fun σ' => OWm σ0 σ' c) Any (f_M_mergedLocals_63 F k2 (f_M_mergedLocals_18 F k2 f) m (nI t) (nI (tO t)) (nI k) (nI (yW (tb t) k)) (mh m h σ)) := by
        unfold f_M_mergedLocals_63 f_M_mergedLocals_64 f_M_mergedLocals_85
        rw [if_pos (show nI 0 = 0 from rfl)]
        exact f86 (Or.inl ⟨rfl, rfl⟩)
      rw [if_pos (by rw [c0]; rfl), e_o hm, bs, O_where hm (by omega) hb hkM, xb_mk]
      refine sm_i (fun _ => f63) (fun w0 => sm_i (fun _ => f63) (fun w1 => ?_))
      have w24 : yW (tb t) k < 24 := Nat.lt_of_not_le (fun q => w1 (nI_le q hyW))
      have w1' : 0 < yW (tb t) k := by
        apply Nat.pos_of_ne_zero
        intro q
        apply w0
        rw [q]
        decide
      have wS : yW (tb t) k < oS (tb t) := by rcases hyo.2.1 with e | e | e | e <;> omega
      unfold f_M_mergedLocals_64 f_M_mergedLocals_85
      rw [if_neg (show ¬ nI 1 = 0 by decide), e_o hm, bs, q_stays hm (by omega) hb hk1.1.2.1 hk1.2.1 wS, xb_mk]
      exact sm_i (fun _ => f86 (Or.inr w24)) (fun _ => f86 (Or.inr w24))
    · rw [if_neg (nI_nz hyB c0)]
      exact go σ hI
theorem sM_ml2 (hm : m ≤ h.length) (hF : 65540 < F) (hT : T ≤ 64) (hk : MGk σ0 T tO tn tb dr xs od on R) (hS : MGs F m h σ0 p a N zf lf) (hA : rwN p a N zf lf + 64 * (p + 2) ≤ 8192) (hL : MLo σ0 tb T 0 a) : ∀ (d t f : Nat) (σ : px_S), t + d = T → d < f → OWm σ0 σ c → Sm m h (fun σ' => OWm σ0 σ' c) Any (f_M_mergedLocals_2 F f m (nI t) (mh m h σ)) := by
  intro d
  induction d with
  | zero =>
    intro t f σ ht hf hI
    obtain ⟨f, rfl⟩ : ∃ y, f = y + 1 := ⟨f - 1, by omega⟩
    unfold f_M_mergedLocals_2 f_M_mergedLocals_201
    rw [Mg14 hm, bs, (MGk_w hk hI.1).2.2.2, if_pos (nI_le (by omega) (by omega))]
    exact sm_r any hI
  | succ d ih =>
    intro t f σ ht hf hI
    obtain ⟨f, rfl⟩ : ∃ y, f = y + 1 := ⟨f - 1, by omega⟩
    have hk1 := MGk_w hk hI.1
    have hb := MGk_o hk1 (show t < T by omega)
    have hM := w2_M (OB_w hb)
    obtain ⟨m1, m2, m3⟩ := pkM_1 (oM (tb t))
    have hMx : pkM (oM (tb t)) ≤ 64 := by unfold pkM; split <;> omega
    unfold f_M_mergedLocals_2
    rw [Mg14 hm, bs, hk1.2.2.2, if_neg (nI_ge (by omega) (by omega)), e_o hm, bs, O_obj hm hb, xb_mk]
    exact sM_ml18 hm hF hT hk hS hA hL (by omega) (fun σ hi => ih _ _ _ (by omega) (by omega) hi) (pkM (oM (tb t)) - 1) 1 F σ (by omega) (Nat.le_refl _) (by omega) hI
theorem sM_mdef {k s : Nat} (hm : m ≤ h.length) (hF : 65540 < F) (hT : T ≤ 64) (hk : MGk σ0 T tO tn tb dr xs od on R) (hS : MGs F m h σ0 p a N zf lf) (hA : rwN p a N zf lf + 64 * (p + 2) ≤ 8192) (hk64 : k ≤ 64) (ht : t < T) (h1 : 1 ≤ s) (hs : s < oM (tb t)) (hw : yW (tb t) s ≠ 65522) (hI : OWm σ0 σ c) : Sm m h (fun σ' => OWm σ0 σ' c) Any (f_M_mergedDefinition F m (nI k) (nI t) (nI s) (mh m h σ)) := by
  have hb := MGk_o (MGk_w hk hI.1) ht
  have hyo := OB_y hb h1 hs
  unfold yOK at hyo
  have hyo := of_decide_eq_true hyo
  have h24 := (OB_w hb).1.2.1.2
  have hn := hb.2.2.1
  have hyP := w2_y (OB_w hb) hs
  have fin : ∀ {s2 s3 : Int32}, Sm m h (fun σ' => OWm σ0 σ' c) Any (f_M_mergedDefinition_62 F m (nI s) (nI (tO t)) m (nI k) s2 s3 (mh m h σ)) := fun {s2 s3} => by
    unfold f_M_mergedDefinition_62
    rw [e_o hm, bs, O_value hm (by omega) hb hs, xb_mk, e_o hm, bs, O_ysize hm (by omega) hb hs, xb_mk]
    exact sm_o hm (fun _ => sm_x (sM_mgsy hm hF hS hA hk64 hI) (fun _ σ _ hi => sm_r any hi))
  unfold f_M_mergedDefinition
  rw [e_o hm, bs, O_obj hm hb, xb_mk, e_o hm, bs, O_where hm (by omega) hb hs, xb_mk, Mr6 hm, bs, e_o hm, bs, O_sym hm (by omega) hb, xb_mk, nI_add, Ma6 hm (by omega), bs]
  refine sm_i (fun _ => fin) (fun c1 => ?_)
  have hix : 24 * t + yW (tb t) s < 1536 := by
    have : yW (tb t) s ≠ 65521 := fun q => c1 (by rw [q]; rfl)
    rcases hyo.2.1 with e | e | e | e <;> omega
  rw [Mr117 hm, bs, show nI 24 * nI t = nI (24 * t) from (Int32.ofNat_mul _ _).symm, nI_add, Ma117 hm hix, bs]
  exact fin
theorem sM_mn173 {k7 : Nat → Int32 → Int32 → px_H → Option (Unit × px_H)} {x k n : Nat} (hm : m ≤ h.length) (hF : 65540 < F) (hS : MGs F m h σ0 p a N zf lf) (hA : rwN p a N zf lf + 64 * (p + 2) ≤ 8192) (hn : n < N) (hx : x ≤ 2000) (hK : ∀ σ, OWm σ0 σ c → Sm m h (fun σ' => OWm σ0 σ' c) Any (k7 m (nI (x + (lf n + 1))) (nI (k + 1)) (mh m h σ))) : ∀ (d i f : Nat) (σ : px_S), i + d = lf n → d < f → OWm σ0 σ c → Sm m h (fun σ' => OWm σ0 σ' c) Any (f_M_mergedNames_173 F k7 f m (nI x) (nI k) (nI n) (nI i) (mh m h σ)) := by
  have g4 := plN_64 (szF p a zf) (p + 1)
  have hp := hS.1
  obtain ⟨e22, hl⟩ := hS.2.2.2.2.1 n hn
  have b1 := (rwN_b hS).1
  intro d
  induction d with
  | zero =>
    intro i f σ hi hf hI
    obtain ⟨f, rfl⟩ : ∃ y, f = y + 1 := ⟨f - 1, by omega⟩
    unfold f_M_mergedNames_173 f_M_mergedNames_222
    rw [Mr22 hm, bs, Ma22 hm (by omega), bs, hI.1.1.2.2.1 22 (by decide), e22, if_pos (nI_le (by omega) (by omega)), bs, Ma22 hm (by omega), bs, hI.1.1.2.2.1 22 (by decide), e22, nI_add, nI_add, nI_add]
    exact hK σ hI
  | succ d ih =>
    intro i f σ hi hf hI
    obtain ⟨f, rfl⟩ : ∃ y, f = y + 1 := ⟨f - 1, by omega⟩
    unfold f_M_mergedNames_173
    rw [Mr22 hm, bs, Ma22 hm (by omega), bs, hI.1.1.2.2.1 22 (by decide), e22, if_neg (nI_ge (by omega) (by omega)), Mr3 hm, bs, Mg123 hm, bs, hI.1.1.1 123 (by decide), hS.2.1, nI_add, e_o hm, bs, q_pl hm hF hS hI.1 (by omega) (by omega), xb_mk, Mr21 hm, bs, show nI 20 * nI n = nI (20 * n) from (Int32.ofNat_mul _ _).symm, nI_add, Ma21 hm (by omega), bs, nI_add, nI_add, nI_add]
    exact sM_w3 hm hI (by omega) (by omega) (fun σ hi => ih _ _ _ (by omega) (by omega) hi)
theorem sM_mn150 {k7 : Nat → Int32 → Int32 → px_H → Option (Unit × px_H)} {x k n : Nat} (hm : m ≤ h.length) (hF : 65540 < F) (hS : MGs F m h σ0 p a N zf lf) (hA : rwN p a N zf lf + 64 * (p + 2) ≤ 8192) (hn : n < N) (hx : x ≤ 2000) (hk : k ≤ 64) (hK : ∀ σ, OWm σ0 σ c → Sm m h (fun σ' => OWm σ0 σ' c) Any (k7 m (nI (x + (lf n + 1))) (nI (k + 1)) (mh m h σ))) (hI : OWm σ0 σ c) : Sm m h (fun σ' => OWm σ0 σ' c) Any (f_M_mergedNames_150 F k7 m (nI x) (nI k) (nI n) (mh m h σ)) := by
  have g2 := plN_64 (szF p a zf) (p)
  have hp := hS.1
  have hl := (hS.2.2.2.2.1 n hn).2
  have b1 := (rwN_b hS).1
  have b2 := plN_m (sz := szF p a zf) (show p ≤ p + 1 by omega)
  unfold f_M_mergedNames_150
  rw [Mg123 hm, bs, hI.1.1.1 123 (by decide), hS.2.1, e_o hm, bs, q_pl hm hF hS hI.1 hp.1 (by omega), xb_mk, show nI 24 * nI k = nI (24 * k) from (Int32.ofNat_mul _ _).symm, nI_add]
  refine sM_put hm hF hI (by omega) (by omega) (fun σ hi => ?_)
  exact sM_mn173 hm hF hS hA hn hx hK (lf n) 0 F σ (Nat.zero_add _) (by omega) hi
theorem sM_mn7 {f0 : Nat} (hm : m ≤ h.length) (hF : 65540 < F) (hW : WP T tb dr xs) (hk : MGk σ0 T tO tn tb dr xs od on R) (hS : MGs F m h σ0 p a xs.length zf lf) (hA : rwN p a xs.length zf lf + 64 * (p + 2) ≤ 8192) (hN : MNl σ0 xs.length f0 a) : ∀ (d k f x : Nat) (σ : px_S), k + d = a → f0 ≤ k → d < f → x ≤ 1 + 21 * k → OWm σ0 σ c → Sm m h (fun σ' => OWm σ0 σ' c) Any (f_M_mergedNames_7 F f m (nI x) (nI k) (mh m h σ)) := by
  have hp := hS.1
  intro d
  induction d with
  | zero =>
    intro k f x σ hkk hf0 hf hx hI
    obtain ⟨f, rfl⟩ : ∃ y, f = y + 1 := ⟨f - 1, by omega⟩
    unfold f_M_mergedNames_7 f_M_mergedNames_239
    rw [Mg125 hm, bs, hI.1.1.1 125 (by decide), hS.2.2.1, if_pos (nI_le (by omega) (by omega))]
    exact sm_r any hI
  | succ d ih =>
    intro k f x σ hkk hf0 hf hx hI
    obtain ⟨f, rfl⟩ : ∃ y, f = y + 1 := ⟨f - 1, by omega⟩
    have hk1 := MGk_w hk hI.1
    obtain ⟨n, hn, e122⟩ := hN.2 k hf0 (by omega) (by omega)
    have hxn : xs[n]? = some xs[n] := List.getElem?_eq_getElem hn
    obtain ⟨y, ey⟩ : ∃ y, y = xs[n] := ⟨_, rfl⟩
    rw [← ey] at hxn
    have hrec := hk1.1.2.2.2 n y hxn
    have hst := (hW.2.1 n y hxn).1
    have hby := hW.2.2.1 n y hxn
    have e23 := hrec.1
    have hl := (hS.2.2.2.2.1 n hn).2
    have go : ∀ σ, OWm σ0 σ c → Sm m h (fun σ' => OWm σ0 σ' c) Any (f_M_mergedNames_7 F f m (nI (x + (lf n + 1))) (nI (k + 1)) (mh m h σ)) := fun σ hi => ih (k + 1) f _ σ (by omega) (by omega) (by omega) (by omega) hi
    have fin : ∀ σ, OWm σ0 σ c → Sm m h (fun σ' => OWm σ0 σ' c) Any (f_M_mergedNames_150 F (f_M_mergedNames_7 F f) m (nI x) (nI k) (nI n) (mh m h σ)) := fun σ hi => sM_mn150 hm hF hS hA hn (by omega) (by omega) go hi
    have f78 : Sm m h (fun σ' => OWm σ0 σ' c) Any (f_M_mergedNames_78 F (f_M_mergedNames_7 F f) m (nI x) (nI k) (nI n) (mh m h σ)) := by
      unfold f_M_mergedNames_78 f_M_mergedNames_96
      rw [Mr28 hm, bs, Ma28 hm (by omega), bs]
      refine sm_i (fun _ => ?_) (fun _ => ?_)
      · exact sm_o hm (fun _ => sm_x (sM_mgsy hm hF hS hA (by omega) hI) (fun _ σ _ hi => fin σ hi))
      · exact sm_o hm (fun _ => sm_x (sM_mgsy hm hF hS hA (by omega) hI) (fun _ σ _ hi => fin σ hi))
    unfold f_M_mergedNames_7
    rw [Mg125 hm, bs, hI.1.1.1 125 (by decide), hS.2.2.1, if_neg (nI_ge (by omega) (by omega)), Mr122 hm, bs, Ma122 hm (by omega), bs, hI.1.1.2.2.1 122 (by decide), e122, Mr23 hm, bs, Ma23 hm (by omega), bs, e23]
    refine sm_i (fun _ => ?_) (fun c2 => ?_)
    · rw [Mr27 hm, bs, Ma27 hm (by omega), bs, Mr26 hm, bs, Ma26 hm (by omega), bs]
      exact sm_o hm (fun _ => sm_x (sM_mgsy hm hF hS hA (by omega) hI) (fun _ σ _ hi => fin σ hi))
    · rw [bs, Ma23 hm (by omega), bs, e23]
      refine sm_i (fun _ => f78) (fun c0 => ?_)
      rw [bs, Ma23 hm (by omega), bs, e23]
      refine sm_i (fun _ => f78) (fun c4 => ?_)
      have s2 : y.2.1 ≠ 2 := fun q => c2 (by rw [q])
      have s0 : y.2.1 ≠ 0 := fun q => c0 (by rw [q]; rfl)
      have s4 : y.2.1 ≠ 4 := fun q => c4 (by rw [q])
      have q := q_isGiven (F := F) hm hk1.1.2.2 hW.2.1 hxn (fun q hq => by
        unfold byP at hby
        rw [hq] at hby
        have := hby.1
        have := hW.1
        omega)
      rw [e_o hm, bs, q, xb_mk]
      refine sm_i (fun c5 => ?_) (fun _ => ?_)
      · cases hq : y.2.2.2.2.1 with
        | none =>
          exfalso
          unfold byP at hby
          rw [hq] at hby
          rw [hq] at c5
          have : y.2.1 = 3 := by
            have hby' : y.2.1 = 0 ∨ y.2.1 = 3 ∨ y.2.1 = 4 := hby
            rcases hby' with w | w | w
            · exact absurd w s0
            · exact w
            · exact absurd w s4
          rw [this] at c5
          exact absurd c5 (by decide)
        | some z =>
          unfold byP at hby
          rw [hq] at hby
          obtain ⟨b1, ⟨b2, b3⟩, b4, b5, b6, b7⟩ := hby
          have hr4 := hrec.2.2.2.1
          rw [hq] at hr4
          rw [Mr24 hm, bs, Ma24 hm (by omega), bs, hr4.1, Mr25 hm, bs, Ma25 hm (by omega), bs, hr4.2]
          refine sm_o hm (fun _ => sm_x (sM_mdef hm hF hW.1 hk hS hA (by omega) b1 b2 b3 (fun w => ?_) hI) (fun _ σ _ hi => fin σ hi))
          apply s2
          rw [← b5]
          unfold sOf wNo
          rw [w]
          rfl
      · rw [Mr30 hm, bs, Ma30 hm (by omega), bs]
        exact sm_o hm (fun _ => sm_x (sM_mgsy hm hF hS hA (by omega) hI) (fun _ σ _ hi => fin σ hi))
end MMQ
section MMR
variable {F m T : Nat} {h : px_H} {σ0 σ : px_S} {tO tn : Nat → Nat} {tb : Nat → Nat → Nat} {dr : Nat → Bool} {xs : px_NL} {od : List Nat} {on : Bool} {R : Nat → Bool} {p a N c j t i f0 : Nat} {zf lf pt pi : Nat → Nat}
theorem sM_mg209 (hm : m ≤ h.length) (hF : 65540 < F) (hW : WP T tb dr xs) (hk : MGk σ0 T tO tn tb dr xs od on R) (hS : MGs F m h σ0 p a xs.length zf lf) (hA : rwN p a xs.length zf lf + 64 * (p + 2) ≤ 8192) (hL : MLo σ0 tb T 0 a) (hN : MNl σ0 xs.length f0 a) (hfa : f0 ≤ a) (hc : c ≤ 65536) (hI : OWm σ0 σ c) : Sm m h (fun σ' => OWm σ0 σ' c) (fun v => v = nI 1) (f_M_merges_209 F m (mh m h σ)) := by
  have hp := hS.1
  have hT := hW.1
  unfold f_M_merges_209
  rw [Mg123 hm, bs, hI.1.1.1 123 (by decide), hS.2.1, Mg125 hm, bs, bs, Mg124 hm, bs]
  refine sm_o hm (fun _ => sm_x (sM_rows hm hF hS hA hp.1 (by omega) hI) (fun _ σ _ hi => ?_))
  rw [Mg123 hm, bs, hi.1.1.1 123 (by decide), hS.2.1, nI_add, e_o hm, bs, q_tx hm hF hS hi.1, xb_mk]
  refine sm_o hm (fun _ => sm_x (sM_rows hm hF hS hA (by omega) (by omega) hi) (fun _ σ _ hi => ?_))
  unfold f_M_mergedLocals f_M_mergedNames
  refine sm_o hm (fun _ => sm_x (sM_ml2 hm hF hT hk hS hA hL T 0 F σ (Nat.zero_add _) (by omega) hi) (fun _ σ _ hi => ?_))
  rw [e_o hm, bs, Mg124 hm, bs, hi.1.1.1 124 (by decide), hN.1]
  exact sm_x (sM_mn7 hm hF hW hk hS hA hN (a - f0) f0 F 1 σ (by omega) (Nat.le_refl _) (by omega) (by omega) hi) (fun _ σ _ hi => sm_r rfl hi)
theorem sM_mg171 (hm : m ≤ h.length) (hF : 65540 < F) (hW : WP T tb dr xs) (hk : MGk σ0 T tO tn tb dr xs od on R) (hS : MGs F m h σ0 p a xs.length zf lf) (hA : rwN p a xs.length zf lf + 64 * (p + 2) ≤ 8192) (hL : MLo σ0 tb T 0 a) (hN : MNl σ0 xs.length f0 a) (hfa : f0 ≤ a) (hc : c ≤ 65536) (hP : ∀ j, 1 ≤ j → j < p → MPj σ0 T tb j (pt j) (pi j) ∧ zf j = ptZ (tb (pt j)) (pi j)) : ∀ (d j f : Nat) (σ : px_S), j + d = p → 1 ≤ j → d < f → OWm σ0 σ c → Sm m h (fun σ' => OWm σ0 σ' c) (fun v => v = nI 1) (f_M_merges_171 F f m (nI j) (mh m h σ)) := by
  have hp := hS.1
  intro d
  induction d with
  | zero =>
    intro j f σ hj h1 hf hI
    obtain ⟨f, rfl⟩ : ∃ y, f = y + 1 := ⟨f - 1, by omega⟩
    unfold f_M_merges_171
    rw [Mg123 hm, bs, hI.1.1.1 123 (by decide), hS.2.1, if_pos (nI_le (by omega) (by omega))]
    exact sM_mg209 hm hF hW hk hS hA hL hN hfa hc hI
  | succ d ih =>
    intro j f σ hj h1 hf hI
    obtain ⟨f, rfl⟩ : ∃ y, f = y + 1 := ⟨f - 1, by omega⟩
    obtain ⟨hPj, ez⟩ := hP j h1 (by omega)
    have q := q_isPart (F := F) (y := 4) hm (by omega) (MGk_w hk hI.1) (show j < 24 by omega) (by decide) (MPj_w hPj hI.1)
    unfold f_M_merges_171 f_M_merges_203
    rw [Mg123 hm, bs, hI.1.1.1 123 (by decide), hS.2.1, if_neg (nI_ge (by omega) (by omega)), e_o hm, bs, show (4 : Int64) = lN 4 from rfl, q, xb_mk, nI_add]
    by_cases e : oT (tb (pt j)) (pi j) = 4
    · rw [decide_eq_true e, if_neg (show ¬ bI true = 0 by decide)]
      exact sm_o hm (fun _ => sm_x (sM_msit hm hF hW hk hS hA h1 (by omega) hPj ez e hI) (fun _ σ _ hi => ih _ _ _ (by omega) (by omega) (by omega) hi))
    · rw [decide_eq_false e, if_pos (show bI false = 0 from rfl)]
      exact sm_o hm (fun _ => sm_x (sM_msec hm hF hk hS hA h1 (by omega) hPj ez hI) (fun _ σ _ hi => ih _ _ _ (by omega) (by omega) (by omega) hi))
theorem sM_mg66 (hm : m ≤ h.length) (hF : 65540 < F) (hW : WP T tb dr xs) (hk : MGk σ0 T tO tn tb dr xs od on R) (hS : MGs F m h σ0 p a xs.length zf lf) (hA : rwN p a xs.length zf lf + 64 * (p + 2) ≤ 8192) (hL : MLo σ0 tb T 0 a) (hN : MNl σ0 xs.length f0 a) (hfa : f0 ≤ a) (hP : ∀ j, 1 ≤ j → j < p → MPj σ0 T tb j (pt j) (pi j) ∧ zf j = ptZ (tb (pt j)) (pi j)) (hc : c ≤ 65536) {c0 : Nat} (hI : OWi σ0 σ c0) : Sm m h (fun σ' => OWm σ0 σ' c) (fun v => v = nI 1) (f_M_merges_66 F m (nI c) (mh m h σ)) := by
  have hp := hS.1
  unfold f_M_merges_66
  refine sm_p4 hm hI (fun σ hi => ?_)
  refine sm_put (σ0 := σ0) (c := c) (q := 0) (n := 8) hm hF hi (by decide) (fun σ hi => ?_)
  refine sM_p16 (σ0 := σ0) (c := c) hm hF hi (fun σ hi => ?_)
  refine sM_put (σ0 := σ0) (c := c) (q := 18) (n := 2) hm hF hi (by decide) (by decide) (fun σ hi => ?_)
  refine sM_put (σ0 := σ0) (c := c) (q := 20) (n := 4) hm hF hi (by decide) (by decide) (fun σ hi => ?_)
  rw [e_o hm, bs, q_row8 hm hF hS hi.1, xb_mk]
  refine sM_put (σ0 := σ0) (c := c) (q := 40) (n := 8) hm hF hi (by decide) (by decide) (fun σ hi => ?_)
  refine sM_put (σ0 := σ0) (c := c) (q := 52) (n := 2) hm hF hi (by decide) (by decide) (fun σ hi => ?_)
  refine sM_put (σ0 := σ0) (c := c) (q := 58) (n := 2) hm hF hi (by decide) (by decide) (fun σ hi => ?_)
  rw [Mg123 hm, bs]
  refine sM_put (σ0 := σ0) (c := c) (q := 60) (n := 2) hm hF hi (by decide) (by decide) (fun σ hi => ?_)
  rw [Mg123 hm, bs]
  refine sM_put (σ0 := σ0) (c := c) (q := 62) (n := 2) hm hF hi (by decide) (by decide) (fun σ hi => ?_)
  exact sM_mg171 hm hF hW hk hS hA hL hN hfa hc hP (p - 1) 1 F σ (by omega) (Nat.le_refl _) (by omega) hi
end MMR
section MMT
variable {F m T : Nat} {h : px_H} {σ0 σ : px_S} {tO tn : Nat → Nat} {tb : Nat → Nat → Nat} {dr : Nat → Bool} {xs : px_NL} {od : List Nat} {on : Bool} {R ST : Nat → Bool}
theorem xM_merges (hm : m ≤ h.length) (hF : 65540 < F) (hW : WP T tb dr xs) (hod : ∀ d, d ∈ od → d < xs.length) (hk : MGk σ0 T tO tn tb dr xs od on R) (ho : OUo σ0) (h4 : AL (fun x => x.2.1 ≤ 4) xs) (hSt : ∀ t i, t < T → i < oS (tb t) → ST (24 * t + i) = sta tb dr on R t i) (eA : itr (c04 xs) 0 xs.length (lcT T tb + od.length) = lcT T tb + xs.length) : Sm m h (fun σ' => (mgB T tb ST (fun k => ((xs.map Prod.fst).getD k []).length) xs.length = false ∧ FR [0, 123, 124, 125, 126] [] [117, 118, 119, 120, 121, 122] [] σ0 σ') ∨ (mgB T tb ST (fun k => ((xs.map Prod.fst).getD k []).length) xs.length = true ∧ (∃ cc, cc ≤ 65536 ∧ gI σ' 4 = nI cc ∧ vAt (gA σ' 3) 16 2 1) ∧ FR [0, 4, 123, 124, 125, 126] [] [3, 117, 118, 119, 120, 121, 122] [] σ0 σ')) (fun v => v = bI (mgB T tb ST (fun k => ((xs.map Prod.fst).getD k []).length) xs.length)) (f_M_merges F m (mh m h σ0)) := by
  have hT := hW.1
  unfold f_M_merges
  refine sm_o hm (fun _ => sm_x (x_countParts hm hF hT hk hSt) (fun _ σ1 _ hi1 => ?_))
  obtain ⟨f1, hPt⟩ := hi1
  have hk1 := MGk_g hk f1
  refine sm_o hm (fun _ => sm_x (x_countSymbols hm hF hT hk1 h4 hod eA) (fun _ σ2 _ hi2 => ?_))
  obtain ⟨⟨f2, f0, a, hf1, hfa, ha, e125, hL, hN⟩, e125'⟩ := hi2
  have hk2 := MGk_s hk1 f2
  have hx : xs.length ≤ 4096 := by have := hk.1.2.2.1.2.1; rw [List.length_map] at this; exact this
  have hM : ∀ t, t < T → oM (tb t) ≤ 64 := fun t ht => w2_M (OB_w (MGk_o hk ht))
  have hlb := lcT_b (tb := tb) hM T 0 1 (by omega)
  have elc : lcT T tb = itr (lcO tb) 0 T 1 := rfl
  rw [← elc] at hlb
  have ea : a = lcT T tb + xs.length := (nI_eq (by omega) (by omega)).mp (e125.symm.trans e125')
  have F2 : FR [0, 123, 124, 125, 126] [] [117, 118, 119, 120, 121, 122] [] σ0 σ2 := FR_trans (FR_mono f1 (by decide) (by decide) (by decide) (by decide)) (FR_mono f2 (by decide) (by decide) (by decide) (by decide))
  have ho2 : OUo σ2 := OUo_FR (OUo_FR ho f1 (by decide) (by decide)) f2 (by decide) (by decide)
  obtain ⟨B, eB⟩ : ∃ B, B = mgB T tb ST (fun k => ((xs.map Prod.fst).getD k []).length) xs.length := ⟨_, rfl⟩
  rw [← eB]
  have non : B = false → Sm m h (fun σ' => (B = false ∧ FR [0, 123, 124, 125, 126] [] [117, 118, 119, 120, 121, 122] [] σ0 σ') ∨ (B = true ∧ (∃ cc, cc ≤ 65536 ∧ gI σ' 4 = nI cc ∧ vAt (gA σ' 3) 16 2 1) ∧ FR [0, 4, 123, 124, 125, 126] [] [3, 117, 118, 119, 120, 121, 122] [] σ0 σ')) (fun v => v = bI B) (f_M_merges_24 F (mh m h σ2)) := fun e => by
    unfold f_M_merges_24
    exact sm_r (by rw [e]; rfl) (Or.inl ⟨e, F2⟩)
  rcases hPt with ⟨p2, ⟨p1, e123, e126⟩, pt, pi, hJ, hp⟩ | ⟨p2, e126, _⟩
  · have g123 : gI σ2 123 = nI (mgT T tb ST).1 := (f2.1 123 (by decide)).trans e123
    rw [Mg126 hm, bs, (f2.1 126 (by decide)).trans e126, if_pos (show bI false = 0 from rfl), Mg125 hm, bs, e125]
    by_cases ca : a ≤ 64
    · rw [if_pos (nI_le ca (by decide))]
      generalize hp' : (mgT T tb ST).1 = p at *
      have hJ2 : ∀ j, 1 ≤ j → j < p → MPj σ2 T tb j (pt j) (pi j) := fun j j1 j2 => by
        obtain ⟨w1, w2, w3, w4, w5, w6⟩ := hJ j j1 j2
        exact ⟨w1, w2, w3, by rw [f2.2.2.1 120 (by decide)]; exact w4, by rw [f2.2.2.1 121 (by decide)]; exact w5, w6⟩
      obtain ⟨zf, hz1, hz2⟩ : ∃ zf : Nat → Nat, (∀ j, zf j ≤ 65536) ∧ ∀ j, 1 ≤ j → j < p → zf j = ptZ (tb (pt j)) (pi j) := by
        refine ⟨fun j => if 1 ≤ j ∧ j < p then ptZ (tb (pt j)) (pi j) else 0, fun j => ?_, fun j j1 j2 => if_pos ⟨j1, j2⟩⟩
        show (if 1 ≤ j ∧ j < p then ptZ (tb (pt j)) (pi j) else 0) ≤ 65536
        by_cases hc : 1 ≤ j ∧ j < p
        · rw [if_pos hc]; exact (ptZ_b hk2 (hJ2 j hc.1 hc.2)).1
        · rw [if_neg hc]; exact Nat.zero_le _
      have hR := hk2.1.2.2.1
      have e20 : gI σ2 20 = nI xs.length := by have := hR.1; rw [List.length_map] at this; exact this
      have hS : MGs F m h σ2 p a xs.length zf (fun k => ((xs.map Prod.fst).getD k []).length) := by
        refine ⟨⟨p1, p2, ca, hx⟩, g123, e125, e20, fun k hk => ?_, hz1, fun σ c j hI j1 j2 => ?_⟩
        · have hk' : k < (xs.map Prod.fst).length := by rw [List.length_map]; exact hk
          obtain ⟨z1, z2, _⟩ := hR.2.2 k _ (List.getElem?_eq_getElem hk')
          show gA σ2 22 k = nI ((xs.map Prod.fst).getD k []).length ∧ ((xs.map Prod.fst).getD k []).length ≤ 20
          rw [List.getD_eq_getElem?_getD, List.getElem?_eq_getElem hk']
          exact ⟨z2, z1.1⟩
        · rw [q_partSize hm (by omega) (MGk_w hk2 hI) (by omega) (MPj_w (hJ2 j j1 j2) hI), hz2 j j1 j2]
      have ez : rwN p a xs.length zf (fun k => ((xs.map Prod.fst).getD k []).length) + 64 * (p + 2) = mgZ T tb ST (fun k => ((xs.map Prod.fst).getD k []).length) xs.length := by
        have hpl : plA (szF p a zf) (p - 1) = (mgT T tb ST).2 := by
          rw [← hp]
          refine plA_c (p - 1) (fun j j1 j2 => ?_)
          show (if j < p then zf j else 24 * a) = _
          rw [if_pos (by omega), hz2 j j1 (by omega)]
        have hpp : plA (szF p a zf) p = wiN (mgT T tb ST).2 + 24 * a := by
          have e1 : p = p - 1 + 1 := by omega
          have e2 : plA (szF p a zf) (p - 1 + 1) = wiN (plA (szF p a zf) (p - 1)) + szF p a zf (p - 1 + 1) := plA_s _ _
          rw [← e1, hpl] at e2
          rw [e2]
          show _ + (if p < p then zf p else 24 * a) = _
          rw [if_neg (Nat.lt_irrefl p)]
        unfold rwN plN mgZ
        rw [show p + 1 - 1 = p from rfl, hpp, hp', ea]
      obtain ⟨co, hco, hO⟩ := OWe_0 ho2 (FR_refl σ2)
      have hrb := (rwN_b hS).2
      rw [Mg123 hm, bs, g123, nI_add, e_o hm, bs, q_row8 hm hF hS hO, xb_mk]
      by_cases hA : rwN p a xs.length zf (fun k => ((xs.map Prod.fst).getD k []).length) + 64 * (p + 2) ≤ 8192
      · have eT : B = true := by
          rw [eB]
          unfold mgB
          exact decide_eq_true ⟨by rw [hp']; exact p2, by rw [← ea]; exact ca, by rw [← ez]; exact hA⟩
        rw [if_pos (nI_le hA (by decide)), eT]
        exact sm_wI (sm_mg48 hm (by omega) (fun σ hi => sM_mg66 hm hF hW hk2 hS hA hL hN hfa (fun j j1 j2 => ⟨hJ2 j j1 j2, hz2 j j1 j2⟩) (by omega) hi) _ 0 F σ2 (Nat.zero_add _) (by omega) hO) (fun σ3 w => Or.inr ⟨rfl, ⟨_, by omega, w.1.2.1, w.2⟩, FR_trans (FR_mono F2 (by decide) (by decide) (by decide) (by decide)) (FR_mono w.1.1 (by decide) (by decide) (by decide) (by decide))⟩)
      · rw [if_neg (nI_ge (a := 8192) (by omega) (by omega))]
        have eF : B = false := by
          rw [eB]
          unfold mgB
          exact decide_eq_false (fun w => hA (by rw [ez]; exact w.2.2))
        exact sm_r (by rw [eF]; rfl) (Or.inl ⟨eF, F2⟩)
    · rw [if_neg (nI_ge (by omega) (by omega))]
      exact non (by rw [eB]; unfold mgB; exact decide_eq_false (fun w => ca (by rw [ea]; exact w.2.1)))
  · rw [Mg126 hm, bs, (f2.1 126 (by decide)).trans e126, if_neg (show ¬ bI true = 0 by decide)]
    exact non (by rw [eB]; unfold mgB; exact decide_eq_false (fun w => by have := w.1; omega))
end MMT
section MMU
variable {F m : Nat} {h : px_H} {σ : px_S} {fs : px_FS} {gs : List (List Nat × Int64)} {ws : List (List Nat)} {n : Nat} {b : Nat → Nat} {a : Int32} {Y : px_Y}
theorem u_mergeO {B : Nat → Nat} (hm : m ≤ h.length) (hF : 65540 < F) (hv : RV σ fs gs ws n b a Y) (hnd : (gs.map Prod.fst).Nodup) (hB : RB σ B) (hsum : (fs.map Prod.fst).sum ≤ 4096) : ∃ (σ1 σ' : px_S) (k : Nat) (s : px_TK), f_M_link F m (bI false) (mh m h σ) = some (nI k, mh m h σ1) ∧ f_M_merge F m (mh m h σ) = some (mgV fs s k, mh m h σ') ∧ lnR fs gs ws false B s k ∧ ((k ≠ 1 ∧ mgB s.2.2.1.length (tB fs s.2.2.1) (stW fs s) (lfN (xsN s)) (xsN s).length = true) → ∃ cc, cc ≤ 65536 ∧ gI σ' 4 = nI cc ∧ vAt (gA σ' 3) 16 2 1) ∧ (¬ (k ≠ 1 ∧ mgB s.2.2.1.length (tB fs s.2.2.1) (stW fs s) (lfN (xsN s)) (xsN s).length = true) → gI σ' 4 = gI σ1 4 ∧ gA σ' 3 = gA σ1 3) ∧ FR [0, 4, 123, 124, 125, 126] [] [3, 117, 118, 119, 120, 121, 122] [] σ1 σ' := by
  obtain ⟨v1, v2, v3, v4, v5, v6, v7, v8⟩ := hv
  obtain ⟨σ1, k, s, e, q1, q2, q3, q4, q5, q6, q7, f, q9, q10⟩ := q_link (rc := false) (F := F) hm hF v2 v3 v4 ⟨v5.2, v5.1, v8.2.2.1, v8.2.2.2.1, v8.2.2.2.2.1, v8.2.2.2.2.2⟩ hB hsum
  have hk := lnR_4 q1 q3.2.1.1.1
  have ho : OUo σ1 := ⟨q4.2.1, q4.1⟩
  have key : ∃ σ2, f_M_merge F m (mh m h σ) = some (mgV fs s k, mh m h σ2) ∧ ((k ≠ 1 ∧ mgB s.2.2.1.length (tB fs s.2.2.1) (stW fs s) (lfN (xsN s)) (xsN s).length = true) → ∃ cc, cc ≤ 65536 ∧ gI σ2 4 = nI cc ∧ vAt (gA σ2 3) 16 2 1) ∧ (¬ (k ≠ 1 ∧ mgB s.2.2.1.length (tB fs s.2.2.1) (stW fs s) (lfN (xsN s)) (xsN s).length = true) → gI σ2 4 = gI σ1 4 ∧ gA σ2 3 = gA σ1 3) ∧ FR [0, 4, 123, 124, 125, 126] [] [3, 117, 118, 119, 120, 121, 122] [] σ1 σ2 := by
    unfold f_M_merge f_M_merge_27 mgV
    rw [e_o hm, bs, show nI 0 = bI false from rfl, e, xb_mk]
    by_cases c : k = 1
    · rw [if_pos (show nI k = nI 1 by rw [c]), if_pos c]
      exact ⟨σ1, rfl, fun q => absurd c q.1, fun _ => ⟨rfl, rfl⟩, FR_refl σ1⟩
    · rw [if_neg (fun w => c ((nI_eq (by omega) (by decide)).mp w)), if_neg c]
      have hfo := RF_FSo v2
      have hgl : gs.length ≤ 16 := by have := v3.2.1.1; rw [List.length_map] at this; exact this
      have hwl : ws.length ≤ 16 := v4.2.1
      obtain ⟨k1, k2, k3, k4, ⟨k5, k6⟩, on, R, rn, k7, k8, k9, k10⟩ := q3
      have eon : on = false := by
        have w := k7.1.symm.trans (q10 rfl)
        cases on with
        | false => rfl
        | true => exact absurd w (by decide)
      subst eon
      obtain ⟨l1, l2, l3, l4, l5, l6, l7, l8, l9⟩ := k1
      have hkM : MGk σ1 s.2.2.1.length (tOf fs s.2.2.1) (tNf fs s.2.2.1) (tB fs s.2.2.1) s.2.1.1 (xsN s) s.1.2.2.1 false R := ⟨⟨OB_of l2 k2.1 l7, l5, l3⟩, k7, l4, l1⟩
      have hT := k3.1
      have h4 : AL (fun x => x.2.1 ≤ 4) (xsN s) := fun i x hx => (k3.2.1 i x hx).1
      have hndo := od_nd hfo hgl hwl hnd q1.1
      have hoT : ∀ d, (stN (xsN s) d = 1 ∨ stN (xsN s) d = 2 ∨ stN (xsN s) d = 3) → d ∈ s.1.2.2.1 := fun d hd => by
        have h0 : odT s.1 := by rw [q1.1]; exact odT_0 hfo
        unfold xsN at hd
        by_cases c1 : s.1.1 = 0
        · rw [if_pos c1] at hd; exact odT_own h0 d hd
        · rw [if_neg c1] at hd; exact h0 d hd
      have hSt : ∀ t i, t < s.2.2.1.length → i < oS (tB fs s.2.2.1 t) → stW fs s (24 * t + i) = sta (tB fs s.2.2.1) s.2.1.1 false R t i := fun t i ht hi => by
        have h24 := (OB_w (MGk_o hkM ht)).1.2.1.2
        unfold stW sta kpB
        rw [show (24 * t + i) / 24 = t by omega, show (24 * t + i) % 24 = i by omega, decide_eq_true hi, Bool.true_and, Bool.not_false, Bool.true_or, Bool.and_true]
      obtain ⟨v, σ2, e2, hv2, hI⟩ := xM_merges (F := F) hm hF k3 k5 hkM ho h4 hSt (all04 hndo k5 k6 hoT h4)
      have hv2 : v = bI (mgB s.2.2.1.length (tB fs s.2.2.1) (stW fs s) (lfN (xsN s)) (xsN s).length) := hv2
      rw [e_o hm, bs, e2, xb_mk, hv2]
      have hI : (mgB s.2.2.1.length (tB fs s.2.2.1) (stW fs s) (lfN (xsN s)) (xsN s).length = false ∧ FR [0, 123, 124, 125, 126] [] [117, 118, 119, 120, 121, 122] [] σ1 σ2) ∨ (mgB s.2.2.1.length (tB fs s.2.2.1) (stW fs s) (lfN (xsN s)) (xsN s).length = true ∧ (∃ cc, cc ≤ 65536 ∧ gI σ2 4 = nI cc ∧ vAt (gA σ2 3) 16 2 1) ∧ FR [0, 4, 123, 124, 125, 126] [] [3, 117, 118, 119, 120, 121, 122] [] σ1 σ2) := hI
      cases hB2 : mgB s.2.2.1.length (tB fs s.2.2.1) (stW fs s) (lfN (xsN s)) (xsN s).length with
      | false =>
        rw [if_pos (show bI false = 0 from rfl), if_neg (by decide)]
        rcases hI with ⟨_, w⟩ | ⟨w, _⟩
        · exact ⟨σ2, rfl, fun q => (by cases q.2), fun _ => ⟨w.1 4 (by decide), w.2.2.1 3 (by decide)⟩, FR_mono w (by decide) (by decide) (by decide) (by decide)⟩
        · rw [hB2] at w; cases w
      | true =>
        rw [if_neg (show ¬ bI true = 0 by decide), if_pos rfl]
        rcases hI with ⟨w, _⟩ | ⟨_, w, w2⟩
        · rw [hB2] at w; cases w
        · exact ⟨σ2, rfl, fun _ => w, fun q => absurd ⟨c, rfl⟩ q, w2⟩
  obtain ⟨σ2, e2, g1, g2⟩ := key
  exact ⟨σ1, σ2, k, s, e, e2, q1, g1, g2⟩
end MMU
end
section
/-! the class's near, exact: the row, the nearest of the names -/
def noI : Option Nat → Int32
  | none => Int32.ofInt (-1)
  | some i => nI i
theorem noI_n : noI none = Int32.ofInt (-1) := rfl
theorem noI_s (i : Nat) : noI (some i) = nI i := rfl
/-- the first row that p holds of -/
def rwG (p : px_XR → Bool) : List px_XR → Nat → Option Nat
  | [], _ => none
  | w :: l, j => if p w = true then some j else rwG p l (j + 1)
theorem rwG_t {p : px_XR → Bool} {w : px_XR} {l : List px_XR} {j : Nat} (h : p w = true) : rwG p (w :: l) j = some j := if_pos h
theorem rwG_f {p : px_XR → Bool} {w : px_XR} {l : List px_XR} {j : Nat} (h : p w = false) : rwG p (w :: l) j = rwG p l (j + 1) := if_neg (by rw [h]; decide)
theorem rwG_lt {p : px_XR → Bool} : ∀ {l : List px_XR} {j i : Nat}, rwG p l j = some i → j ≤ i ∧ i < j + l.length ∧ ∃ w, l[i - j]? = some w ∧ p w = true := by
  intro l
  induction l with
  | nil => intro j i h; cases h
  | cons w l ih =>
    intro j i h
    cases hp : p w with
    | true =>
      rw [rwG_t hp] at h
      cases h
      refine ⟨Nat.le_refl _, by rw [List.length_cons]; omega, w, ?_, hp⟩
      rw [Nat.sub_self]
      rfl
    | false =>
      rw [rwG_f hp] at h
      obtain ⟨h1, h2, w', h3, h4⟩ := ih h
      refine ⟨by omega, by rw [List.length_cons]; omega, w', ?_, h4⟩
      rw [show i - j = (i - (j + 1)) + 1 by omega, List.getElem?_cons_succ]
      exact h3
def rwP (x : Nat) (w : px_XR) : Bool := decide (w.2.2.1 ≤ x) && decide (x < w.2.2.1 + w.2.2.2.2)
/-- the nearest name, one more looked at -/
def nr1 (V : Nat → Nat) (N : Nat → Bool) (x j : Nat) (o : Option Nat) : Option Nat := if (decide (V j ≤ x) && (o.all (fun i => decide (V i < V j)) && N j)) = true then some j else o
def nrG (V : Nat → Nat) (N : Nat → Bool) (x : Nat) : Nat → Nat → Option Nat → Option Nat
  | 0, _, o => o
  | d + 1, j, o => nrG V N x d (j + 1) (nr1 V N x j o)
theorem nrG_0 (V : Nat → Nat) (N : Nat → Bool) (x j : Nat) (o : Option Nat) : nrG V N x 0 j o = o := rfl
theorem nrG_s (V : Nat → Nat) (N : Nat → Bool) (x d j : Nat) (o : Option Nat) : nrG V N x (d + 1) j o = nrG V N x d (j + 1) (nr1 V N x j o) := rfl
theorem nr1_f {V : Nat → Nat} {N : Nat → Bool} {x j : Nat} {o : Option Nat} (h : (decide (V j ≤ x) && (o.all (fun i => decide (V i < V j)) && N j)) = false) : nr1 V N x j o = o := if_neg (by rw [h]; decide)
theorem nr1_t {V : Nat → Nat} {N : Nat → Bool} {x j : Nat} {o : Option Nat} (h : (decide (V j ≤ x) && (o.all (fun i => decide (V i < V j)) && N j)) = true) : nr1 V N x j o = some j := if_pos h
theorem nr1_in {V : Nat → Nat} {N : Nat → Bool} {x j m : Nat} {o : Option Nat} (hj : j < m) (h : ∀ i, o = some i → i < m ∧ N i = true) : ∀ i, nr1 V N x j o = some i → i < m ∧ N i = true := fun i hi => by
  cases e : (decide (V j ≤ x) && (o.all (fun i => decide (V i < V j)) && N j)) with
  | false => rw [nr1_f e] at hi; exact h i hi
  | true =>
    rw [nr1_t e] at hi
    cases hi
    refine ⟨hj, ?_⟩
    rw [Bool.and_eq_true, Bool.and_eq_true] at e
    exact e.2.2
theorem nrG_in {V : Nat → Nat} {N : Nat → Bool} {x m : Nat} : ∀ (d j : Nat) (o : Option Nat), j + d ≤ m → (∀ i, o = some i → i < m ∧ N i = true) → ∀ i, nrG V N x d j o = some i → i < m ∧ N i = true := by
  intro d
  induction d with
  | zero => intro j o _ h i hi; exact h i hi
  | succ d ih => intro j o hj h; rw [nrG_s]; exact ih (j + 1) _ (by omega) (nr1_in (by omega) h)
/-- what stands in memory: rows, names -/
def CMe (sk : Nat → Nat × Nat × Nat) (L : Nat) (τ : px_TT) (R : List px_XR) (q : Nat × Nat × Nat × Nat) (z : Nat) (b : Nat → Nat) : Prop := CMr τ R ∧ CMn τ q ∧ q.1 ≤ 2731 ∧ (0 < q.1 → cRA sk L τ 1719 1720 z b ∧ q.2.1 + 24 * q.1 ≤ z ∧ q.2.2.1 + q.2.2.2 ≤ z)
/-- the name that near answers with -/
def nrA (R : List px_XR) (q : Nat × Nat × Nat × Nat) (b : Nat → Nat) (x : Nat) : Option Nat := if (rwG (rwP x) R 0).isSome = true then nrG (nmV b q) (nmN b q) x (q.1 - 1) 1 none else none
section CNR
variable {F : Nat} {c : px_CT} {sk : Nat → Nat × Nat × Nat} {L : Nat} {τ : px_TT} {R : List px_XR} {q : Nat × Nat × Nat × Nat} {z : Nat} {b : Nat → Nat} {x : Nat}
theorem k_rowAt2 (hS : GS sk L) (hR : GR τ) (hM : CMr τ R) (hx : x < 2 ^ 64) : ∀ (d j f : Nat), j + d = R.length → d < f → f_Memory_rowAt_2 F c f 1718 (lN x) (nI j) (cH sk L τ) = some (noI (rwG (rwP x) (R.drop j) j), cH sk L τ) := by
  have o4 := G1718 hS
  have h8 := hM.2.1
  have r1 : fN τ 1718 1 = some 1721 := GR_r hR (by decide)
  have r2 : fN τ 1718 2 = some 1722 := GR_r hR (by decide)
  intro d
  induction d with
  | zero =>
    intro j f hj hf
    obtain ⟨f, rfl⟩ : ∃ y, f = y + 1 := ⟨f - 1, by omega⟩
    unfold f_Memory_rowAt_2 f_Memory_rowAt_47
    rw [C4g6 o4, bs, hM.1, if_pos (nI_le (by omega) (by omega)), List.drop_eq_nil_of_le (by omega)]
    rfl
  | succ d ih =>
    intro j f hj hf
    obtain ⟨f, rfl⟩ : ∃ y, f = y + 1 := ⟨f - 1, by omega⟩
    obtain ⟨w, hw⟩ : ∃ w, R[j]? = some w := ⟨_, List.getElem?_eq_getElem (by omega)⟩
    obtain ⟨⟨_, _, e3, _, e5⟩, _, hb2, hb3, _⟩ := hM.2.2 j w hw
    unfold f_Memory_rowAt_2 f_Memory_rowAt_39
    rw [drop_g hw, C4g6 o4, bs, hM.1, if_neg (nI_ge (by omega) (by omega)), C4r1 o4 r1, bs, c_l (G1721 hS) (by decide), bs, if_neg (nI_ge (by omega) (by decide)), C4r2 o4 r2, bs, c_aJ (G1722 hS) (by decide) (by omega), bs, bs, c_aJ (G1721 hS) (by decide) (by omega), bs, e3, e5, k_within hb2 hb3 hx, xb_mk]
    rw [show (decide (w.2.2.1 ≤ x) && decide (x < w.2.2.1 + w.2.2.2.2)) = rwP x w from rfl]
    cases hp : rwP x w with
    | false =>
      rw [if_pos (show bI false = 0 from rfl), rwG_f hp, nI_add]
      exact ih (j + 1) f (by omega) (by omega)
    | true => rw [if_neg (show ¬ bI true = 0 by decide), rwG_t hp, noI_s]
theorem k_mval {j : Nat} (hF : 65540 < F) (hS : GS sk L) (hR : GR τ) (h : cRA sk L τ 1719 1720 z b) (hn : CMn τ q) (hj : j < q.1) (h1 : q.2.1 + 24 * q.1 ≤ z) : f_Memory_valueOf F c 1718 (nI j) (cH sk L τ) = some (lN (nmV b q j), cH sk L τ) := by
  have hb := cRA_b h
  obtain ⟨hz, o10, _⟩ := cRb_z hb
  have o4 := G1718 hS
  have r0 : fN τ 1718 0 = some 1719 := GR_r hR (by decide)
  have n8 := (hn.2 (by omega)).1
  unfold f_Memory_valueOf
  rw [C4r0 o4 r0, bs, C4g8 o4, bs, n8, c_o o10, bs, pk_mul, nI_add, nI_add, k_rn hb (by omega) (by decide) (by omega), xb_mk]
theorem oall_s {p : Nat → Bool} {i : Nat} : (some i).all p = p i := rfl
theorem oall_n {p : Nat → Bool} : (none : Option Nat).all p = true := rfl
theorem k_nearG {V : Nat → Nat} {N : Nat → Bool} {n : Nat} (o4 : ob sk L 4 1718) (h9 : fI τ 1718 9 = nI n) (hn : n ≤ 2731) (hV : ∀ i, V i < 2 ^ 64) (hv : ∀ j, j < n → f_Memory_valueOf F c 1718 (nI j) (cH sk L τ) = some (lN (V j), cH sk L τ)) (hnm : ∀ j, j < n → f_Memory_isName F c 1718 (nI j) (cH sk L τ) = some (bI (N j), cH sk L τ)) (hx : x < 2 ^ 64) : ∀ (d j f : Nat) (o : Option Nat), j + d = n → d < f → (∀ i, o = some i → i < n) → f_Memory_nearest_5 F c f 1718 (lN x) (noI o) (nI j) (cH sk L τ) = some (noI (nrG V N x d j o), cH sk L τ) := by
  intro d
  induction d with
  | zero =>
    intro j f o hj hf ho
    obtain ⟨f, rfl⟩ : ∃ y, f = y + 1 := ⟨f - 1, by omega⟩
    unfold f_Memory_nearest_5 f_Memory_nearest_78
    rw [C4g9 o4, bs, h9, if_pos (nI_le (by omega) (by omega)), nrG_0]
  | succ d ih =>
    intro j f o hj hf ho
    obtain ⟨f, rfl⟩ : ∃ y, f = y + 1 := ⟨f - 1, by omega⟩
    have vj := hv j (by omega)
    have nj := hnm j (by omega)
    have go1 := ih (j + 1) f o (by omega) (by omega) ho
    have go2 := ih (j + 1) f (some j) (by omega) (by omega) (fun i e => by cases e; omega)
    rw [noI_s] at go2
    have e60 : (decide (V j ≤ x) = true ∧ o.all (fun i => decide (V i < V j)) = true) → f_Memory_nearest_60 F c (f_Memory_nearest_5 F c f) 1718 (lN x) (noI o) (nI j) (cH sk L τ) = some (noI (nrG V N x d (j + 1) (nr1 V N x j o)), cH sk L τ) := fun hc => by
      generalize f_Memory_nearest_5 F c f = K at *
      unfold f_Memory_nearest_60 f_Memory_nearest_72
      rw [c_o o4, bs, nj, xb_mk, nI_add]
      cases hN : N j with
      | false =>
        rw [if_pos (show bI false = 0 from rfl), nr1_f (by rw [hN, Bool.and_false, Bool.and_false])]
        exact go1
      | true =>
        rw [if_neg (show ¬ bI true = 0 by decide), nr1_t (by rw [hN, hc.1, hc.2]; rfl)]
        exact go2
    unfold f_Memory_nearest_5
    generalize f_Memory_nearest_5 F c f = K at *
    unfold f_Memory_nearest_32 f_Memory_nearest_72
    rw [C4g9 o4, bs, h9, if_neg (nI_ge (by omega) (by omega)), c_o o4, bs, vj, xb_mk, k_above (hV j) hx, xb_mk, nrG_s]
    by_cases c1 : x < V j
    · rw [decide_eq_true c1, if_neg (show ¬ bI true = 0 by decide), if_pos (show (nI 0 : Int32) = 0 from rfl), nI_add, nr1_f (by rw [decide_eq_false (show ¬ V j ≤ x by omega), Bool.false_and])]
      exact go1
    · rw [decide_eq_false c1, if_pos (show bI false = 0 from rfl), if_neg (show ¬ (nI 1 : Int32) = 0 by decide)]
      have t1 : decide (V j ≤ x) = true := decide_eq_true (by omega)
      cases o with
      | none =>
        rw [if_pos (show noI none < 0 by decide)]
        exact e60 ⟨t1, oall_n⟩
      | some i =>
        have vi := hv i (ho i rfl)
        have hi := ho i rfl
        rw [noI_s] at e60 go1
        rw [noI_s, if_neg (nI_n0 (by omega)), c_o o4, bs, vj, xb_mk, c_o o4, bs, vi, xb_mk, k_above (hV j) (hV i), xb_mk]
        by_cases c2 : V i < V j
        · rw [decide_eq_true c2, if_neg (show ¬ bI true = 0 by decide)]
          exact e60 ⟨t1, by rw [oall_s]; exact decide_eq_true c2⟩
        · rw [decide_eq_false c2, if_pos (show bI false = 0 from rfl), nI_add, nr1_f (by rw [oall_s, decide_eq_false c2, Bool.false_and, Bool.and_false])]
          exact go1
theorem k_nearest5 (hF : 65540 < F) (hS : GS sk L) (hR : GR τ) (h : cRA sk L τ 1719 1720 z b) (hn : CMn τ q) (h1 : q.2.1 + 24 * q.1 ≤ z) (h2 : q.2.2.1 + q.2.2.2 ≤ z) (hx : x < 2 ^ 64) (hq : q.1 ≤ 2731) : ∀ (d j f : Nat) (o : Option Nat), j + d = q.1 → d < f → (∀ i, o = some i → i < q.1) → f_Memory_nearest_5 F c f 1718 (lN x) (noI o) (nI j) (cH sk L τ) = some (noI (nrG (nmV b q) (nmN b q) x d j o), cH sk L τ) := k_nearG (G1718 hS) hn.1 hq (fun _ => le_le8 (cRb_lt (cRA_b h)) (by decide)) (fun _ hj => k_mval hF hS hR h hn hj h1) (fun _ hj => k_isName hF hS hR h hn hj h1 h2) hx
theorem xnI_at {np ns p : Nat} (h : xnI b np ns p = true) : le b p 4 < ns := by
  unfold xnI at h
  rw [Bool.and_eq_true, Bool.and_eq_true, Bool.and_eq_true] at h
  exact of_decide_eq_true h.2.2.1
theorem run_20 (f : Nat → Nat) : ∀ (d p : Nat), run f p d ≤ d := by
  intro d
  induction d with
  | zero => intro p; exact Nat.le_refl _
  | succ d ih =>
    intro p
    unfold run
    split
    · exact Nat.zero_le _
    · have := ih (p + 1)
      omega
/-- near of the class -/
theorem k_near {ro : Nat} (hF : 65540 < F) (hS : GS sk L) (hR : GR τ) (hM : CMe sk L τ R q z b) (hx : x < 2 ^ 64) (hro : ro = 3 ∨ ro = 5) (hN1 : fN τ 0 1 = some ro) (hrow : rowOK sk L τ ro (ro + 1) 65536) : (nrA R q b x = none → f_H_near F c 0 (lN x) (cH sk L τ) = some ((-1 : Int64), cH sk L τ)) ∧ (∀ i, nrA R q b x = some i → ∃ τ1 τ', f_H_near F c 0 (lN x) (cH sk L τ) = some (lN x - lN (nmV b q i), cH sk L τ') ∧ frN 146 τ τ1 ∧ frRw ro (ro + 1) τ1 τ' ∧ ∃ w, w ≤ 24 ∧ fI τ' ro 1 = nI w) := by
  obtain ⟨m1, m2, m3, m4⟩ := hM
  have o0 := G0 hS
  have o4 := G1718 hS
  have r16 : fN τ 0 16 = some 1718 := GR_r hR (by decide)
  have e1 := k_rowAt2 (F := F) (c := c) hS hR m1 hx R.length 0 F (Nat.zero_add _) (by have := m1.2.1; omega)
  rw [List.drop_zero] at e1
  have hrw : ∀ (i : Nat), rwG (rwP x) R 0 = some i → i < 2 ^ 31 := fun i hi => by
    have := (rwG_lt hi).2.1
    have := m1.2.1
    omega
  have e2 : 0 < q.1 → f_Memory_nearest F c 1718 (lN x) (cH sk L τ) = some (noI (nrG (nmV b q) (nmN b q) x (q.1 - 1) 1 none), cH sk L τ) := fun h0 => by
    obtain ⟨a1, a2, a3⟩ := m4 h0
    unfold f_Memory_nearest
    rw [← noI_n]
    exact k_nearest5 hF hS hR a1 m2 a2 a3 hx m3 (q.1 - 1) 1 F none (by omega) (by omega) (fun i e => by cases e)
  have e2 : f_Memory_nearest F c 1718 (lN x) (cH sk L τ) = some (noI (nrG (nmV b q) (nmN b q) x (q.1 - 1) 1 none), cH sk L τ) := by
    by_cases h0 : 0 < q.1
    · exact e2 h0
    · have h0 : q.1 = 0 := by omega
      obtain ⟨f, ef⟩ : ∃ y, F = y + 1 := ⟨F - 1, by omega⟩
      have e3 : nrG (nmV b q) (nmN b q) x (q.1 - 1) 1 none = none := by rw [h0]; rfl
      rw [e3]
      unfold f_Memory_nearest
      rw [ef]
      unfold f_Memory_nearest_5 f_Memory_nearest_78
      rw [C4g9 o4, bs, m2.1, h0, if_pos (nI_le (by decide) (by decide))]
      rfl
  have e0 : f_H_near F c 0 (lN x) (cH sk L τ) = f_H_near_23 F c 0 (lN x) (noI (nrA R q b x)) (cH sk L τ) := by
    unfold f_H_near f_Memory_rowAt
    rw [C0r16 o0 r16, bs, c_o o4, bs, e1, xb_mk]
    cases hr : rwG (rwP x) R 0 with
    | none =>
      rw [if_neg (show ¬ 0 ≤ noI none by decide)]
      unfold nrA
      rw [hr, if_neg (by decide)]
      rfl
    | some i =>
      rw [noI_s, if_pos (nI_0le (hrw i hr)), C0r16 o0 r16, bs, c_o o4, bs, e2, xb_mk]
      unfold nrA
      rw [hr, if_pos (show (some i).isSome = true from rfl)]
  refine ⟨fun hn => ?_, fun i hi => ?_⟩
  · rw [e0, hn]
    unfold f_H_near_23
    rw [if_neg (show ¬ 0 ≤ noI none by decide)]
  · have hin : i < q.1 ∧ nmN b q i = true ∧ 0 < q.1 := by
      unfold nrA at hi
      by_cases c1 : (rwG (rwP x) R 0).isSome = true
      · rw [if_pos c1] at hi
        by_cases h0 : 0 < q.1
        · obtain ⟨h1, h2⟩ := nrG_in (m := q.1) (q.1 - 1) 1 none (by omega) (fun i e => by cases e) i hi
          exact ⟨h1, h2, h0⟩
        · rw [show q.1 - 1 = 0 by omega, nrG_0] at hi
          cases hi
      · rw [if_neg c1] at hi
        cases hi
    obtain ⟨a1, a2, a3⟩ := m4 hin.2.2
    obtain ⟨N, y1, y2, y3, y4, y5, y6, y7⟩ := id a1
    have hb := cRA_b a1
    obtain ⟨hz, o10, _⟩ := cRb_z hb
    have hat := xnI_at hin.2.1
    have n8 := (m2.2 hin.2.2).1
    have n10 := (m2.2 hin.2.2).2.1
    have r0 : fN τ 1718 0 = some 1719 := GR_r hR (by decide)
    have o146 := G146 hS
    obtain ⟨τ1, b1, b2, b3⟩ := k_nread (F := F) (c := c) (a := 146) (r := 1719) (e := 1720) (ss := z) (N := N) (p := q.2.2.1 + le b (q.2.1 + 24 * i) 4) o146 y1 y3 y5 (by omega) (by omega) (by decide) (by omega) y2 rfl y6
    have hrow1 : rowOK sk L τ1 ro (ro + 1) 65536 := rowOK_fx hrow EX_refl (b2.2.2.1 _ _) (b2.1 _ _ (by omega)) (b2.1 _ _ (by omega)) (b2.2.2.2.1 _)
    obtain ⟨τ2, d1, d2, d3, d4⟩ := k_clearZ (F := F) (c := c) hrow1
    have ew : fI τ2 146 3 = nI (run (fun i => if i < z then b8 (eI τ 1720 i) else 0) (q.2.2.1 + le b (q.2.1 + 24 * i) 4) 20) := by
      rw [d3.1 146 3 (Or.inl (by omega)), b3.2.2.2, tk_len]
    have hw := run_20 (fun i => if i < z then b8 (eI τ 1720 i) else 0) 20 (q.2.2.1 + le b (q.2.1 + 24 * i) 4)
    generalize run (fun i => if i < z then b8 (eI τ 1720 i) else 0) (q.2.2.1 + le b (q.2.1 + 24 * i) 4) 20 = w at *
    obtain ⟨τ3, g1, g2, g3, g4⟩ := k_writeToZ (F := F) (c := c) (p := 146) (w := w) (by omega) o146 (by omega) (by omega) ew d2 d4
    have f13 := frRw_trans d3 g3
    have I3 : ∀ a k, a ≠ ro → (a ≠ 146 ∨ k ≠ 3) → fI τ3 a k = fI τ a k := fun a k h1 h2 => (f13.1 a k (Or.inl h1)).trans (b2.1 a k h2)
    have N1' : ∀ a k, fN τ1 a k = fN τ a k := b2.2.2.1
    have N2' : ∀ a k, fN τ2 a k = fN τ a k := fun a k => (d3.2.2.1 a k).trans (N1' a k)
    have N3' : ∀ a k, fN τ3 a k = fN τ a k := fun a k => (g3.2.2.1 a k).trans (N2' a k)
    have hR3 : GR τ3 := ⟨fun x hx => (N3' _ _).trans (hR.1 x hx), fun i hi => by
      obtain ⟨q1, q2, q3, q4, q5⟩ := hR.2.1 i hi
      exact ⟨(N3' _ _).trans q1, (N3' _ _).trans q2, by rw [f13.2.2.2.2.2 9, b2.2.2.2.2.2 9]; exact q3, (I3 _ _ (by omega) (by omega)).trans q4, (I3 _ _ (by omega) (by omega)).trans q5⟩, fun i hi => by rw [f13.2.2.2.2.2 151, b2.2.2.2.2.2 151]; exact hR.2.2 i hi⟩
    have a1' : cRA sk L τ3 1719 1720 z b := cRA_fx a1 (N3' _ _) (I3 _ _ (by omega) (by omega)) ((f13.2.2.2.1 1720 (by omega)).trans (b2.2.2.2.1 1720))
    have m2' : CMn τ3 q := ⟨(I3 _ _ (by omega) (by omega)).trans m2.1, fun w => ⟨(I3 _ _ (by omega) (by omega)).trans (m2.2 w).1, (I3 _ _ (by omega) (by omega)).trans (m2.2 w).2.1, (I3 _ _ (by omega) (by omega)).trans (m2.2 w).2.2⟩⟩
    have v3 := k_mval (F := F) (c := c) (j := i) hF hS hR3 a1' m2' hin.1 a2
    have o10r := hrow.1
    refine ⟨τ1, τ3, ?_, b2, f13, 0 + w, by omega, (g4.1 (by omega)).1⟩
    rw [e0, hi]
    unfold f_H_near_23 f_Memory_nameStart
    rw [noI_s, if_pos (nI_0le (by omega)), C0r10 o0 (R0_10 hR), bs, C0r16 o0 r16, bs, C4r0 o4 r0, bs, bs, c_o o4, bs, C4g10 o4, bs, n10, C4r0 o4 r0, bs, C4g8 o4, bs, n8, c_o o10, bs, pk_mul, nI_add, k_rn hb (by omega) (by decide) (by omega), xb_mk, xb_mk, lN_i, nI_add, c_o o146, bs, b1, xb_mk, C0r1 o0 ((N1' _ _).trans hN1), bs, c_o o10r, bs, d1, xb_mk, C0r10 o0 ((N2' _ _).trans (R0_10 hR)), bs, C0r1 o0 ((N2' _ _).trans hN1), bs, c_o o146, bs, g1, xb_mk, C0r16 o0 ((N3' _ _).trans r16), bs, c_o o4, bs, v3, xb_mk]
end CNR
end
section
/-! the reference's near, exact -/
/-- the name that near answers with, out of a list of values -/
def nrB (R : List px_XR) (l : List Nat) (x : Nat) : Option Nat := if (rwG (rwP x) R 0).isSome = true then nrG (fun i => l.getD i 0) (fun _ => true) x l.length 0 none else none
theorem oall_map {α β : Type} {V : α → Nat} {V' : β → Nat} {o : Option α} {o' : Option β} (h : o.map V = o'.map V') (y : Nat) : o.all (fun i => decide (V i < y)) = o'.all (fun i => decide (V' i < y)) := by
  cases o with
  | none =>
    cases o' with
    | none => rfl
    | some b => cases h
  | some a =>
    cases o' with
    | none => cases h
    | some b =>
      have e : V a = V' b := Option.some.inj h
      show decide (V a < y) = decide (V' b < y)
      rw [e]
theorem nr_eq {V : Nat → Nat} {N : Nat → Bool} {x : Nat} {l : List Nat} : ∀ (d j : Nat) (l0 : List Nat) (o o' : Option Nat), l = l0 ++ nvL V N d j → o.map V = o'.map (fun i => l.getD i 0) → (nrG V N x d j o).map V = (nrG (fun i => l.getD i 0) (fun _ => true) x (nvL V N d j).length l0.length o').map (fun i => l.getD i 0) := by
  intro d
  induction d with
  | zero => intro j l0 o o' _ h; exact h
  | succ d ih =>
    intro j l0 o o' el h
    rw [nrG_s]
    cases hN : N j with
    | false =>
      rw [nvL_f hN] at el ⊢
      rw [nr1_f (by rw [hN, Bool.and_false, Bool.and_false])]
      exact ih (j + 1) l0 o o' el h
    | true =>
      rw [nvL_t hN] at el ⊢
      rw [List.length_cons, nrG_s]
      have ev : l.getD l0.length 0 = V j := by
        rw [el, List.getD_eq_getElem?_getD, List.getElem?_append_right (Nat.le_refl _), Nat.sub_self]
        rfl
      have el' : l = (l0 ++ [V j]) ++ nvL V N d (j + 1) := by rw [el, List.append_assoc]; rfl
      have ln : (l0 ++ [V j]).length = l0.length + 1 := by rw [List.length_append]; rfl
      have w := ih (j + 1) (l0 ++ [V j]) (nr1 V N x j o) (nr1 (fun i => l.getD i 0) (fun _ => true) x l0.length o') el' ?_
      · rw [ln] at w
        exact w
      · have ea := oall_map h (V j)
        cases hc : (decide (V j ≤ x) && (o.all (fun i => decide (V i < V j)) && N j)) with
        | false =>
          rw [nr1_f hc, nr1_f]
          · exact h
          · show (decide (l.getD l0.length 0 ≤ x) && (o'.all (fun i => decide (l.getD i 0 < l.getD l0.length 0)) && true)) = false
            rw [ev, ← ea]
            rw [hN] at hc
            exact hc
        | true =>
          rw [nr1_t hc, nr1_t]
          · show some (V j) = some (l.getD l0.length 0)
            rw [ev]
          · show (decide (l.getD l0.length 0 ≤ x) && (o'.all (fun i => decide (l.getD i 0 < l.getD l0.length 0)) && true)) = true
            rw [ev, ← ea]
            rw [hN] at hc
            exact hc
/-- the two ways to look for the nearest name come to the same value -/
theorem nrAB_v {R : List px_XR} {V : Nat → Nat} {N : Nat → Bool} {d x : Nat} : (if (rwG (rwP x) R 0).isSome = true then nrG V N x d 1 none else none).map V = (nrB R (nvL V N d 1) x).map (fun i => (nvL V N d 1).getD i 0) := by
  unfold nrB
  by_cases c1 : (rwG (rwP x) R 0).isSome = true
  · rw [if_pos c1, if_pos c1]
    exact nr_eq (l := nvL V N d 1) d 1 [] none none rfl rfl
  · rw [if_neg c1, if_neg c1]
    rfl
theorem nrAB {R : List px_XR} {q : Nat × Nat × Nat × Nat} {b : Nat → Nat} {x : Nat} : (nrA R q b x).map (nmV b q) = (nrB R (nvQ b q) x).map (fun i => (nvQ b q).getD i 0) := by
  unfold nrA nvQ
  exact nrAB_v (V := nmV b q) (N := nmN b q) (d := q.1 - 1)
section MNR2
variable {F m : Nat} {h : px_H} {σ0 σ : px_S} {R : List px_XR} {l : List Nat} {x : Nat}
theorem RMr_0 (hM : RMr σ R) (hf : FR [0] [] [] [] σ σ0) : RMr σ0 R := ⟨(hf.1 102 (by decide)).trans hM.1, hM.2.1, fun i w hw => by
  rw [hf.2.2.2 105 List.not_mem_nil, hf.2.2.2 106 List.not_mem_nil, hf.2.2.2 107 List.not_mem_nil, hf.2.2.2 108 List.not_mem_nil, hf.2.2.2 109 List.not_mem_nil]
  exact hM.2.2 i w hw⟩
theorem RMn_0 (hM : RMn σ l) (hf : FR [0] [] [] [] σ σ0) : RMn σ0 l := ⟨(hf.1 44 (by decide)).trans hM.1, hM.2.1, fun i hi => by
  rw [hf.2.2.1 45 List.not_mem_nil, hf.2.2.1 46 List.not_mem_nil]
  exact hM.2.2.1 i hi, fun i v hv => by
  rw [hf.2.2.2 47 List.not_mem_nil]
  exact hM.2.2.2 i v hv⟩
theorem qx_rowOf2 (hm : m ≤ h.length) (hM : RMr σ R) (hx : x < 2 ^ 64) : ∀ (d j f : Nat), j + d = R.length → d < f → f_M_rowOf_2 F f m (lN x) (nI j) (mh m h σ) = some (noI (rwG (rwP x) (R.drop j) j), mh m h σ) := by
  have h8 := hM.2.1
  intro d
  induction d with
  | zero =>
    intro j f hj hf
    obtain ⟨f, rfl⟩ : ∃ y, f = y + 1 := ⟨f - 1, by omega⟩
    unfold f_M_rowOf_2 f_M_rowOf_47
    rw [Mg102 hm, bs, hM.1, if_pos (nI_le (by omega) (by omega)), List.drop_eq_nil_of_le (by omega)]
    rfl
  | succ d ih =>
    intro j f hj hf
    obtain ⟨f, rfl⟩ : ∃ y, f = y + 1 := ⟨f - 1, by omega⟩
    obtain ⟨w, hw⟩ : ∃ w, R[j]? = some w := ⟨_, List.getElem?_eq_getElem (by omega)⟩
    obtain ⟨⟨_, _, e3, _, e5⟩, _, hb2, hb3, _⟩ := hM.2.2 j w hw
    have go := ih (j + 1) f (by omega) (by omega)
    unfold f_M_rowOf_2 f_M_rowOf_41 f_M_rowOf_39
    rw [drop_g hw, Mg102 hm, bs, hM.1, if_neg (nI_ge (by omega) (by omega)), Mr107 hm, bs, Ma107 hm (by omega), bs, e3, nI_add]
    by_cases c1 : 2 ^ 63 ≤ x ∨ x < w.2.2.1
    · have hp : rwP x w = false := by
        unfold rwP
        by_cases c2 : w.2.2.1 ≤ x
        · rw [decide_eq_true c2, decide_eq_false (by omega), Bool.true_and]
        · rw [decide_eq_false c2, Bool.false_and]
      rw [if_pos ((lN_ltm hx (by omega)).mpr c1), rwG_f hp]
      exact go
    · rw [if_neg (fun q => c1 ((lN_ltm hx (by omega)).mp q)), bs, Ma107 hm (by omega), bs, e3, Mr109 hm, bs, Ma109 hm (by omega), bs, e5, lN_add]
      by_cases c2 : w.2.2.1 + w.2.2.2.2 ≤ x
      · have hp : rwP x w = false := by
          unfold rwP
          rw [decide_eq_false (show ¬ x < w.2.2.1 + w.2.2.2.2 by omega), Bool.and_false]
        rw [if_pos ((pk_lLE (by omega) (by omega)).mpr c2), rwG_f hp]
        exact go
      · have hp : rwP x w = true := by
          unfold rwP
          rw [decide_eq_true (show w.2.2.1 ≤ x by omega), decide_eq_true (show x < w.2.2.1 + w.2.2.2.2 by omega)]
          rfl
        rw [if_neg (fun q => c2 ((pk_lLE (by omega) (by omega)).mp q)), rwG_t hp, noI_s]
theorem RMn_v {i : Nat} (hN : RMn σ l) (hi : i < l.length) : gB σ 47 i = lN (l.getD i 0) ∧ l.getD i 0 < 2 ^ 64 := by
  obtain ⟨v, hv⟩ : ∃ v, l[i]? = some v := ⟨_, List.getElem?_eq_getElem hi⟩
  have w := hN.2.2.2 i v hv
  rw [List.getD_eq_getElem?_getD, hv]
  exact w
/-- the search for the nearest name -/
theorem qx_near10 (hm : m ≤ h.length) (hN : RMn σ l) (hx : x < 2 ^ 63) : ∀ (d j f : Nat) (o : Option Nat), j + d = l.length → d < f → (∀ i, o = some i → i < l.length ∧ l.getD i 0 ≤ x) → f_M_near_10 F f m (lN x) (noI o) (nI j) (mh m h σ) = f_M_near_89 F m (lN x) (noI (nrG (fun i => l.getD i 0) (fun _ => true) x d j o)) (mh m h σ) := by
  have hc := hN.2.1
  intro d
  induction d with
  | zero =>
    intro j f o hj hf ho
    obtain ⟨f, rfl⟩ : ∃ y, f = y + 1 := ⟨f - 1, by omega⟩
    unfold f_M_near_10
    rw [Mg44 hm, bs, hN.1, if_pos (nI_le (by omega) (by omega)), nrG_0]
  | succ d ih =>
    intro j f o hj hf ho
    obtain ⟨f, rfl⟩ : ∃ y, f = y + 1 := ⟨f - 1, by omega⟩
    obtain ⟨ev, hv⟩ := RMn_v (i := j) hN (by omega)
    have go1 := ih (j + 1) f o (by omega) (by omega) ho
    unfold f_M_near_10 f_M_near_47 f_M_near_48 f_M_near_76 f_M_near_81 f_M_near_82
    rw [Mg44 hm, bs, hN.1, if_neg (nI_ge (by omega) (by omega)), Mr47 hm, bs, Ma47 hm (by omega), bs, ev, nI_add, nrG_s]
    by_cases c0 : 2 ^ 63 ≤ l.getD j 0
    · rw [if_pos ((lN_ltm hv (by decide)).mpr (Or.inl c0)), if_pos (show (nI 0 : Int32) = 0 from rfl), nr1_f (by show (decide (l.getD j 0 ≤ x) && _) = false; rw [decide_eq_false (by omega), Bool.false_and])]
      exact go1
    · rw [if_neg (fun q => by rcases (lN_ltm hv (by decide)).mp q with q | q <;> omega), bs, Ma47 hm (by omega), bs, ev]
      by_cases c1 : x < l.getD j 0
      · rw [if_pos ((lN_ltm (by omega) (by omega)).mpr (Or.inr c1)), if_pos (show (nI 0 : Int32) = 0 from rfl), nr1_f (by show (decide (l.getD j 0 ≤ x) && _) = false; rw [decide_eq_false (by omega), Bool.false_and])]
        exact go1
      · have go2 := ih (j + 1) f (some j) (by omega) (by omega) (fun i e => by cases e; exact ⟨by omega, by omega⟩)
        rw [noI_s] at go2
        rw [if_neg (show ¬ lN x < lN (l.getD j 0) from fun q => by rcases (lN_ltm (by omega) (by omega)).mp q with q | q <;> omega), if_neg (show ¬ (nI 1 : Int32) = 0 by decide)]
        have t1 : decide (l.getD j 0 ≤ x) = true := decide_eq_true (by omega)
        cases o with
        | none =>
          rw [if_pos (show noI none < 0 by decide), nr1_t (by show (decide (l.getD j 0 ≤ x) && (true && true)) = true; rw [t1]; rfl)]
          exact go2
        | some i =>
          obtain ⟨hi, hix⟩ := ho i rfl
          obtain ⟨ei, hvi⟩ := RMn_v (i := i) hN hi
          rw [noI_s, if_neg (nI_n0 (by omega)), bs, Ma47 hm (by omega), bs, ev, bs, Ma47 hm (by omega), bs, ei]
          by_cases c2 : l.getD j 0 ≤ l.getD i 0
          · rw [if_pos ((pk_lLE (by omega) (by omega)).mpr c2), nr1_f (by show (decide (l.getD j 0 ≤ x) && (decide (l.getD i 0 < l.getD j 0) && true)) = false; rw [decide_eq_false (show ¬ l.getD i 0 < l.getD j 0 by omega), Bool.false_and, Bool.and_false])]
            rw [noI_s] at go1
            exact go1
          · rw [if_neg (fun q => c2 ((pk_lLE (by omega) (by omega)).mp q)), nr1_t (by show (decide (l.getD j 0 ≤ x) && (decide (l.getD i 0 < l.getD j 0) && true)) = true; rw [t1, decide_eq_true (show l.getD i 0 < l.getD j 0 by omega)]; rfl)]
            exact go2
theorem qx_near10n (hm : m ≤ h.length) (hN : RMn σ l) (hx : x < 2 ^ 64) (hx2 : 2 ^ 63 ≤ x) : ∀ (d j f : Nat), j + d = l.length → d < f → f_M_near_10 F f m (lN x) (noI none) (nI j) (mh m h σ) = f_M_near_89 F m (lN x) (noI none) (mh m h σ) := by
  have hc := hN.2.1
  intro d
  induction d with
  | zero =>
    intro j f hj hf
    obtain ⟨f, rfl⟩ : ∃ y, f = y + 1 := ⟨f - 1, by omega⟩
    unfold f_M_near_10
    rw [Mg44 hm, bs, hN.1, if_pos (nI_le (by omega) (by omega))]
  | succ d ih =>
    intro j f hj hf
    obtain ⟨f, rfl⟩ : ∃ y, f = y + 1 := ⟨f - 1, by omega⟩
    obtain ⟨ev, hv⟩ := RMn_v (i := j) hN (by omega)
    have go1 := ih (j + 1) f (by omega) (by omega)
    unfold f_M_near_10 f_M_near_47 f_M_near_48 f_M_near_76 f_M_near_81 f_M_near_82
    rw [Mg44 hm, bs, hN.1, if_neg (nI_ge (by omega) (by omega)), Mr47 hm, bs, Ma47 hm (by omega), bs, ev, nI_add]
    by_cases c0 : 2 ^ 63 ≤ l.getD j 0
    · rw [if_pos ((lN_ltm hv (by decide)).mpr (Or.inl c0)), if_pos (show (nI 0 : Int32) = 0 from rfl)]
      exact go1
    · rw [if_neg (fun q => by rcases (lN_ltm hv (by decide)).mp q with q | q <;> omega), bs, Ma47 hm (by omega), bs, ev, if_pos (show lN x < lN (l.getD j 0) from (lN_ltm hx (by omega)).mpr (Or.inl hx2)), if_pos (show (nI 0 : Int32) = 0 from rfl)]
      exact go1
/-- a text of the memory is said -/
theorem qx_say100 {p k : Nat} (hm : m ≤ h.length) (hl : k ≤ 20) (hp : p + k ≤ 65536) : ∀ (d j f : Nat) (σ : px_S), j + d = k → d < f → OWe σ0 σ → Sm m h (fun σ' => OWi σ0 σ' k) Any (f_M_say_3 F f m (m + 68) (nI p) (nI k) (nI j) (mh m h σ)) := by
  intro d
  induction d with
  | zero =>
    intro j f σ hj hf hI
    obtain ⟨f, rfl⟩ : ∃ y, f = y + 1 := ⟨f - 1, by omega⟩
    unfold f_M_say_3 f_M_say_28
    rw [if_pos (nI_le (by omega) (by omega)), Mp4 hm, bs]
    obtain ⟨c, hc, w⟩ := hI
    exact sm_r any (OWi_p w)
  | succ d ih =>
    intro j f σ hj hf hI
    obtain ⟨f, rfl⟩ : ∃ y, f = y + 1 := ⟨f - 1, by omega⟩
    unfold f_M_say_3
    rw [if_neg (nI_ge (by omega) (by omega)), Mr3 hm, bs, nI_add, Ma100 hm (by omega), bs, Ms3 hm (by omega), bs, nI_add]
    exact ih _ _ _ (by omega) (by omega) (OWe_w hI)
theorem qx_near (hm : m ≤ h.length) (hF : 65540 < F) (hM : RMr σ R) (hN : RMn σ l) (ho : OUo σ) (hx : x < 2 ^ 64) : (nrB R l x = none → f_M_near F m (lN x) (mh m h σ) = some ((-1 : Int64), mh m h (sI σ 0 (nI 0)))) ∧ (∀ i, nrB R l x = some i → ∃ k σ', f_M_near F m (lN x) (mh m h σ) = some (lN x - lN (l.getD i 0), mh m h σ') ∧ k ≤ 20 ∧ OWi σ σ' k) := by
  have hf : FR [0] [] [] [] σ (sI σ 0 (nI 0)) := FR_I _ _ _
  have hM0 := RMr_0 hM hf
  have hN0 := RMn_0 hN hf
  have h8 := hM.2.1
  have hc := hN.2.1
  obtain ⟨σ1, e1⟩ : ∃ y, y = sI σ 0 (nI 0) := ⟨_, rfl⟩
  have er := qx_rowOf2 (F := F) (m := m) (h := h) hm hM0 hx R.length 0 F (Nat.zero_add _) (by omega)
  rw [List.drop_zero] at er
  have e0 : f_M_near F m (lN x) (mh m h σ) = f_M_near_89 F m (lN x) (noI (if x < 2 ^ 63 then nrG (fun i => l.getD i 0) (fun _ => true) x l.length 0 none else none)) (mh m h (sI σ 0 (nI 0))) := by
    unfold f_M_near
    rw [Mp0 hm, bs, ← noI_n]
    by_cases c0 : x < 2 ^ 63
    · rw [if_pos c0]
      exact qx_near10 hm hN0 c0 l.length 0 F none (Nat.zero_add _) (by omega) (fun i e => by cases e)
    · rw [if_neg c0]
      exact qx_near10n hm hN0 hx (by omega) l.length 0 F (Nat.zero_add _) (by omega)
  have hrow : (rwG (rwP x) R 0).isSome = true → x < 2 ^ 63 := fun w => by
    cases hr : rwG (rwP x) R 0 with
    | none => rw [hr] at w; cases w
    | some i =>
      obtain ⟨_, _, y, y1, y2⟩ := rwG_lt hr
      have hb := (hM.2.2 _ y y1).2
      unfold rwP at y2
      rw [Bool.and_eq_true] at y2
      have := of_decide_eq_true y2.2
      have := hb.2.1
      have := hb.2.2.1
      omega
  refine ⟨fun hn => ?_, fun i hi => ?_⟩
  · rw [e0]
    unfold f_M_near_89 f_M_near_101 f_M_rowOf
    rw [e_o hm, bs, er, xb_mk]
    unfold nrB at hn
    by_cases c1 : (rwG (rwP x) R 0).isSome = true
    · rw [if_pos c1] at hn
      rw [if_pos (hrow c1), hn]
      cases hr : rwG (rwP x) R 0 with
      | none => rw [hr] at c1; cases c1
      | some y =>
        have := (rwG_lt hr).2.1
        rw [noI_s, if_neg (nI_n0 (by omega)), if_neg (show ¬ 0 ≤ noI none by decide)]
    · cases hr : rwG (rwP x) R 0 with
      | some y => rw [hr] at c1; exact absurd rfl c1
      | none => rw [if_pos (show noI none < 0 by decide)]
  · unfold nrB at hi
    by_cases c1 : (rwG (rwP x) R 0).isSome = true
    · rw [if_pos c1] at hi
      have hx3 := hrow c1
      have hin := (nrG_in (V := fun i => l.getD i 0) (N := fun _ => true) (x := x) (m := l.length) l.length 0 none (by omega) (fun i e => by cases e) i hi).1
      obtain ⟨p, k, p1, p2, p3, p4⟩ := hN0.2.2.1 i hin
      obtain ⟨ev, _⟩ := RMn_v (i := i) hN hin
      have hsay := qx_say100 (F := F) (σ0 := σ) (p := p) (k := k) hm p3 p4 k 0 F (sI σ 0 (nI 0)) (Nat.zero_add _) (by omega) (OWe_0 ho hf)
      obtain ⟨v, σ', s1, _, s2⟩ := hsay
      refine ⟨k, σ', ?_, p3, s2⟩
      rw [e0, if_pos hx3, hi]
      unfold f_M_near_89 f_M_rowOf f_M_say
      rw [e_o hm, bs, er, xb_mk]
      cases hr : rwG (rwP x) R 0 with
      | none => rw [hr] at c1; cases c1
      | some y =>
        have := (rwG_lt hr).2.1
        rw [noI_s, noI_s, if_neg (nI_n0 (by omega)), if_pos (nI_0le (by omega)), Mr100 hm, bs, Mr45 hm, bs, Ma45 hm (by omega), bs, p1, Mr46 hm, bs, Ma46 hm (by omega), bs, p2, e_o hm, bs, s1, xb_mk, Mr47 hm, bs, Ma47 hm (by omega), bs, s2.1.2.2.2 47 List.not_mem_nil, ev]
    · rw [if_neg c1] at hi
      cases hi
end MNR2
end
section
/-! flags of both sides, exact -/
/-- the flags of the row that holds an address -/
def flA (R : List px_XR) (x : Nat) : Int64 := match rwG (rwP x) R 0 with
  | none => (-1 : Int64)
  | some i => lN (R.getD i (0, 0, 0, 0, 0)).1
section FLG
variable {F : Nat} {c : px_CT} {sk : Nat → Nat × Nat × Nat} {L : Nat} {τ : px_TT} {R : List px_XR} {x m : Nat} {h : px_H} {σ : px_S}
theorem rwG_R {i : Nat} (hr : rwG (rwP x) R 0 = some i) : i < R.length ∧ R[i]? = some (R.getD i (0, 0, 0, 0, 0)) := by
  obtain ⟨_, h2, w, h3, _⟩ := rwG_lt hr
  rw [Nat.sub_zero] at h3
  refine ⟨by omega, ?_⟩
  rw [List.getD_eq_getElem?_getD, h3]
  rfl
theorem k_flags (hF : 65540 < F) (hS : GS sk L) (hR : GR τ) (hM : CMr τ R) (hx : x < 2 ^ 64) : f_H_flags F c 0 (lN x) (cH sk L τ) = some (flA R x, cH sk L τ) := by
  have o0 := G0 hS
  have o4 := G1718 hS
  have h8 := hM.2.1
  have r16 : fN τ 0 16 = some 1718 := GR_r hR (by decide)
  have r5 : fN τ 1718 5 = some 1725 := GR_r hR (by decide)
  have e1 := k_rowAt2 (F := F) (c := c) hS hR hM hx R.length 0 F (Nat.zero_add _) (by omega)
  rw [List.drop_zero] at e1
  have e2 : f_Memory_flagsAt F c 1718 (lN x) (cH sk L τ) = some (flA R x, cH sk L τ) := by
    unfold f_Memory_flagsAt f_Memory_flagsAt_22 f_Memory_rowAt
    rw [c_o o4, bs, e1, xb_mk]
    unfold flA
    cases hr : rwG (rwP x) R 0 with
    | none => rw [if_neg (show ¬ 0 ≤ noI none by decide)]
    | some i =>
      obtain ⟨hi, hw⟩ := rwG_R hr
      rw [noI_s, if_pos (nI_0le (by omega)), C4r5 o4 r5, bs, c_aJ (G1725 hS) (by decide) (by omega), bs, (hM.2.2 i _ hw).1.1]
  unfold f_H_flags
  rw [C0r16 o0 r16, bs, c_o o4, bs, e2, xb_mk]
theorem qx_flags (hm : m ≤ h.length) (hF : 65540 < F) (hM : RMr σ R) (hx : x < 2 ^ 64) : f_M_flags F m (lN x) (mh m h σ) = some (flA R x, mh m h (sI σ 0 (nI 0))) := by
  have hM0 := RMr_0 hM (FR_I σ 0 (nI 0))
  have h8 := hM.2.1
  have e1 := qx_rowOf2 (F := F) (m := m) (h := h) hm hM0 hx R.length 0 F (Nat.zero_add _) (by omega)
  rw [List.drop_zero] at e1
  unfold f_M_flags f_M_flags_27 f_M_rowOf
  rw [Mp0 hm, bs, e_o hm, bs, e1, xb_mk]
  unfold flA
  cases hr : rwG (rwP x) R 0 with
  | none => rw [if_neg (show ¬ 0 ≤ noI none by decide)]
  | some i =>
    obtain ⟨hi, hw⟩ := rwG_R hr
    rw [noI_s, if_pos (nI_0le (by omega)), Mr105 hm, bs, Ma105 hm (by omega), bs, (hM0.2.2 i _ hw).1.1]
end FLG
end
section
/-! peek of both sides, exact -/
/-- the byte at an address -/
def pekA (R : List px_XR) (b : Nat → Nat) (x : Nat) : Int32 := match rwG (rwP x) R 0 with
  | none => Int32.ofInt (-1)
  | some i => if (R.getD i (0, 0, 0, 0, 0)).2.2.2.1 ≤ x - (R.getD i (0, 0, 0, 0, 0)).2.2.1 then nI 0 else nI (b ((R.getD i (0, 0, 0, 0, 0)).2.1 + (x - (R.getD i (0, 0, 0, 0, 0)).2.2.1)))
section PKB
variable {F : Nat} {c : px_CT} {sk : Nat → Nat × Nat × Nat} {L : Nat} {τ : px_TT} {R : List px_XR} {x z m : Nat} {b b' : Nat → Nat} {h : px_H} {σ : px_S}
theorem rwG_P {i : Nat} (hr : rwG (rwP x) R 0 = some i) : (R.getD i (0, 0, 0, 0, 0)).2.2.1 ≤ x ∧ x < (R.getD i (0, 0, 0, 0, 0)).2.2.1 + (R.getD i (0, 0, 0, 0, 0)).2.2.2.2 := by
  obtain ⟨_, h2, w, h3, h4⟩ := rwG_lt hr
  rw [Nat.sub_zero] at h3
  have e : R.getD i (0, 0, 0, 0, 0) = w := by rw [List.getD_eq_getElem?_getD, h3]; rfl
  rw [e]
  unfold rwP at h4
  rw [Bool.and_eq_true] at h4
  exact ⟨of_decide_eq_true h4.1, of_decide_eq_true h4.2⟩
theorem k_peek (hF : 65540 < F) (hS : GS sk L) (hR : GR τ) (hM : CMr τ R) (hb : R ≠ [] → cRA sk L τ 1719 1720 z b) (hx : x < 2 ^ 64) : f_H_peek F c 0 (lN x) (cH sk L τ) = some (pekA R b x, cH sk L τ) := by
  have o0 := G0 hS
  have o4 := G1718 hS
  have h8 := hM.2.1
  have r16 : fN τ 0 16 = some 1718 := GR_r hR (by decide)
  have r0 : fN τ 1718 0 = some 1719 := GR_r hR (by decide)
  have r1 : fN τ 1718 1 = some 1721 := GR_r hR (by decide)
  have r3 : fN τ 1718 3 = some 1723 := GR_r hR (by decide)
  have r4 : fN τ 1718 4 = some 1724 := GR_r hR (by decide)
  have e1 := k_rowAt2 (F := F) (c := c) hS hR hM hx R.length 0 F (Nat.zero_add _) (by omega)
  rw [List.drop_zero] at e1
  have e2 : f_Memory_byteAt F c 1718 (lN x) (cH sk L τ) = some (pekA R b x, cH sk L τ) := by
    unfold f_Memory_byteAt f_Memory_byteAt_55 f_Memory_rowAt
    rw [c_o o4, bs, e1, xb_mk]
    unfold pekA
    cases hr : rwG (rwP x) R 0 with
    | none => rw [if_neg (show ¬ 0 ≤ noI none by decide)]
    | some i =>
      obtain ⟨hi, hw⟩ := rwG_R hr
      obtain ⟨p1, p2⟩ := rwG_P hr
      have hb' := cRA_b (hb (fun e => by rw [e] at hi; exact absurd hi (Nat.not_lt_zero i)))
      obtain ⟨_, o10, _⟩ := cRb_z hb'
      obtain ⟨⟨_, w2, w3, w4, _⟩, x1, x2, x3, x4⟩ := hM.2.2 i _ hw
      dsimp only
      generalize R.getD i (0, 0, 0, 0, 0) = w at *
      obtain ⟨a1, a2, a3, a4, a5⟩ := w
      dsimp only at *
      rw [noI_s, if_pos (nI_0le (by omega)), C4r1 o4 r1, bs, c_aJ (G1721 hS) (by decide) (by omega), bs, w3, C4r3 o4 r3, bs, c_aJ (G1723 hS) (by decide) (by omega), bs, w4, lN_sub (by omega)]
      by_cases c1 : a4 ≤ x - a3
      · rw [if_pos ((pk_lLE (by omega) (by omega)).mpr c1), if_pos c1]
      · rw [if_neg (fun q => c1 ((pk_lLE (by omega) (by omega)).mp q)), if_neg c1, C4r0 o4 r0, bs, C4r4 o4 r4, bs, c_aI (G1724 hS) (Or.inr (Or.inl rfl)) (by decide) (by omega), bs, w2, c_o o10, bs, lN_i, nI_add, k_ra hb' (by omega), xb_mk]
  unfold f_H_peek
  rw [C0r16 o0 r16, bs, c_o o4, bs, e2, xb_mk]
theorem qx_peek (hm : m ≤ h.length) (hF : 65540 < F) (hM : RMr σ R) (hb : R ≠ [] → RMi σ z b ∧ ∀ w, w ∈ R → w.2.1 + w.2.2.2.1 ≤ z) (hx : x < 2 ^ 64) : f_M_peek F m (lN x) (mh m h σ) = some (pekA R b x, mh m h (sI σ 0 (nI 0))) := by
  have hM0 := RMr_0 hM (FR_I σ 0 (nI 0))
  have h8 := hM.2.1
  have e1 := qx_rowOf2 (F := F) (m := m) (h := h) hm hM0 hx R.length 0 F (Nat.zero_add _) (by omega)
  rw [List.drop_zero] at e1
  unfold f_M_peek f_M_peek_62 f_M_rowOf
  rw [Mp0 hm, bs, e_o hm, bs, e1, xb_mk]
  unfold pekA
  cases hr : rwG (rwP x) R 0 with
  | none => rw [if_neg (show ¬ 0 ≤ noI none by decide)]
  | some i =>
    obtain ⟨hi, hw⟩ := rwG_R hr
    obtain ⟨p1, p2⟩ := rwG_P hr
    obtain ⟨⟨i1, i2, i3⟩, i4⟩ := hb (fun e => by rw [e] at hi; exact absurd hi (Nat.not_lt_zero i))
    have hz := i4 _ (List.mem_of_getElem? hw)
    obtain ⟨⟨_, w2, w3, w4, _⟩, x1, x2, x3, x4⟩ := hM0.2.2 i _ hw
    dsimp only
    generalize R.getD i (0, 0, 0, 0, 0) = w at *
    obtain ⟨a1, a2, a3, a4, a5⟩ := w
    dsimp only at *
    rw [noI_s, if_pos (nI_0le (by omega)), Mr107 hm, bs, Ma107 hm (by omega), bs, w3, Mr108 hm, bs, Ma108 hm (by omega), bs, w4, lN_sub (by omega)]
    by_cases c1 : a4 ≤ x - a3
    · rw [if_pos ((pk_lLE (by omega) (by omega)).mpr c1), if_pos c1]
    · have e5 : b (a2 + (x - a3)) = b8 (gA σ 100 (a2 + (x - a3))) := by
        rw [i2]
        show (if a2 + (x - a3) < z then b8 (gA σ 100 (0 + (a2 + (x - a3)))) else 0) = _
        rw [if_pos (by omega), Nat.zero_add]
      rw [if_neg (fun q => c1 ((pk_lLE (by omega) (by omega)).mp q)), if_neg c1, Mr100 hm, bs, Mr106 hm, bs, Ma106 hm (by omega), bs, w2, lN_add, lN_i, Ma100 hm (by omega), bs, gA_sI, show gA σ 100 (a2 + (x - a3)) &&& nI 255 = nI (b8 (gA σ 100 (a2 + (x - a3)))) from pk_and _ 8 (by decide), e5]
theorem pekA_c (hb : ∀ w, w ∈ R → ∀ i, i < w.2.2.2.1 → b (w.2.1 + i) = b' (w.2.1 + i)) : pekA R b x = pekA R b' x := by
  unfold pekA
  cases hr : rwG (rwP x) R 0 with
  | none => rfl
  | some i =>
    obtain ⟨hi, hw⟩ := rwG_R hr
    have hb := hb _ (List.mem_of_getElem? hw)
    dsimp only
    generalize R.getD i (0, 0, 0, 0, 0) = w at *
    by_cases c1 : w.2.2.2.1 ≤ x - w.2.2.1
    · rw [if_pos c1, if_pos c1]
    · rw [if_neg c1, if_neg c1, hb (x - w.2.2.1) (by omega)]
end PKB
end
