section
/-! named of the class, whole: its loops -/
section CNW
variable {F : Nat} {c : px_CT} {sk : Nat → Nat × Nat × Nat} {L : Nat} {own : Nat → Nat × Nat} {τ0 τ : px_TT} {fs : List (Nat × (Nat → Nat))} {gs : List (List Nat × Int64)} {ws : List (List Nat)} {n : Nat} {b : Nat → Nat} {a : Int32} {Y : px_Y} {r H cc U : Nat} {zb : Option Nat} {W0 : Nat → Int32} {M R : Nat → Nat → Nat → Prop}
/-- what stands in the file at the end -/
def NMe (Y : px_Y) (r H : Nat) (W0 : Nat → Int32) (M : Nat → Nat → Nat → Prop) (sk : Nat → Nat × Nat × Nat) (L : Nat) (τ0 : px_TT) (T : Nat) (τ : px_TT) : Prop := SZQ (PF r H W0 M) none sk L τ0 r 65536 (T + 64 * (sgN Y.1.2.2 3 + 3)) τ ∧ ∀ p k x, HDL T (sgN Y.1.2.2 3) p k x → p + k ≤ 64 ∧ vAt (eI τ (r + 1)) p k x
theorem zf_nam170 {W sp np ns : Nat} (hF : 65540 < F) (hK : KT c) (hC : CV sk L own τ0 fs gs ws n b a Y) (ha : a = 0) (hr : TRw r (r + 1) 65536) (hod : Y.2.2.2.2.length ≤ 4096) (h64 : 64 ≤ W) (hT : wiN W + 64 * (sgN Y.1.2.2 3 + 3) ≤ 65536) (h1 : sp < 2 ^ 31) (h2 : np < 2 ^ 31) (h3 : ns < 2 ^ 31) (hI : SZQ (PF r H W0 M) none sk L τ0 r 65536 W τ) : Sf sk L (NMe Y r H W0 (fun p k x => M p k x ∨ ∃ p0, SCL (sgN Y.1.2.2 3) sp (24 * (Y.2.2.2.2.length + 1)) np ns p0 k x ∧ p = wiN W + p0) sk L τ0 (wiN W)) (fun v => v = bI true) (f_Scribe_writeNamed_170 F c 1713 r (nI (sgN Y.1.2.2 3)) (nI sp) (nI ns) (nI np) (cH sk L τ)) := by
  have h0 := (CV_S4 hC).1.1.1
  have hS := h0.1
  have o13 := G1713 hS
  have o47 := G147 hS
  have rd : ∀ τ, SI none sk L τ0 τ → GR τ := fun τ i => GR_Z h0.2.1 i.1
  have hr14 : r ≠ 1714 := by unfold TRw at hr; omega
  have orr := (SI_row hI.1.1 hr).1
  have o14 := (SI_row hI.1.1 T14).1
  have hsg := sgN_le (th := Y.1.2.2) 3
  have hwi := wiN_b W
  unfold f_Scribe_writeNamed_170 NMe
  refine sz_x (sqf_next hF hr (by omega) hI (by omega)) (fun v1 τ1 hv1 i1 => ?_)
  have hT1 : 64 ≤ wiN W := by omega
  rw [hv1]
  generalize wiN W = W1 at *
  rw [C11r3 o13 (GR_r (v := 1714) (rd _ i1.1.1) (by decide)), bs, c_o o14, bs]
  refine sz_x (sqw_Rw i1 hr14 (k_clearZ (SI_row i1.1.1 T14))) (fun _ τ2 _ i2 => ?_)
  rw [c_o o13, bs]
  unfold f_Scribe_writeSegmentRows
  have key : Sf sk L (SWF r H W0 M (SGL (sgN Y.1.2.2 3)) none sk L τ0 W1 (64 + 64 * sgN Y.1.2.2 3)) Any ((xgR (cH sk L τ2) 11 3 1713).bind fun t1 => (xo (cH sk L τ2) 10 t1).bind fun _ => xb (f_Row_fillTo F c t1 ((64 : Int64)) (nI 0) (cH sk L τ2)) fun _ ph2 => f_Scribe_writeSegmentRows_13 F c F 1713 (nI 0) ph2) := by
    rw [C11r3 o13 (GR_r (v := 1714) (rd _ i2.1.1.1) (by decide)), bs, c_o o14, bs, show (64 : Int64) = lN 64 from rfl]
    have k3 : Sf sk L (SWF r H W0 M (SGL 0) none sk L τ0 W1 (64 + 64 * 0)) Any (f_Row_fillTo F c 1714 (lN 64) (nI 0) (cH sk L τ2)) := by
      obtain ⟨v3, τ3, e3, _, s3⟩ := sqw_Rw (U := 0 + 64) i2.1 hr14 (k_fillToZ (F := F) (c := c) (e := 64) (w := nI 0) (by omega) (by decide) (SI_row i2.1.1.1 T14) i2.2 (by decide) (fun _ => rfl))
      obtain ⟨τ4, e4, k4, f4, w4⟩ := k_fillToC (F := F) (c := c) (e := 64) (x := nI 0) (by omega) (by decide) (SI_row i2.1.1.1 T14)
      have e : cH sk L τ4 = cH sk L τ3 := by
        rw [e3] at e4
        exact (Prod.mk.inj (Option.some.inj e4)).2.symm
      have u := w4 (by decide) (0, eI τ2 1715) ⟨Nat.zero_le _, (i2.2.1 (Nat.zero_le _)).1, fun i hi => absurd hi (Nat.not_lt_zero _)⟩
      unfold wFil at u
      rw [if_neg (show ¬ 64 ≤ (0, eI τ2 1715).1 by show ¬ 64 ≤ 0; decide)] at u
      obtain ⟨_, _, u3⟩ := u
      have u3 : ∀ i, i < 64 → eI τ4 1715 i = if i < 0 then eI τ2 1715 i else (nI 0).toInt8.toInt32.toInt8.toInt32 := u3
      refine ⟨v3, τ3, e3, any, s3, fun p k x hp => ?_⟩
      rcases hp with ⟨e1, e2, e5⟩ | ⟨s, hs, _⟩
      · rw [e1, e2, e5]
        refine ⟨by decide, fun j hj => ?_⟩
        rw [← cH_eI k4.2.1 e, u3 (4 + j) (by omega), if_neg (Nat.not_lt_zero _)]
        have hz : ∀ j, j < 4 → (nI 0).toInt8.toInt32.toInt8.toInt32 = nB 0 j := by decide +kernel
        exact hz j hj
      · exact absurd hs (Nat.not_lt_zero _)
    refine sz_x k3 (fun _ τ3 _ i3 => ?_)
    exact zf_seg13 hF hK hC ha hr14 3 0 F τ3 rfl (by omega) i3
  refine sz_x key (fun _ τ3 _ i3 => ?_)
  obtain ⟨_, _, e15, _⟩ := ((CV_X (CV_SI hC i3.1.1.1.1)).2 ha).2
  generalize sgN Y.1.2.2 3 = S at *
  generalize Y.2.2.2.2.length = nD at *
  rw [C11r0 o13 (GR_r (v := 147) (rd _ i3.1.1.1.1) (by decide)), bs, C3g15 o47, bs, e15, c_o o13, bs, show (2 : Int64) = lN 2 from rfl, show (24 : Int64) = lN 24 from rfl, nI_add, nI_l (by omega), nI_l (by omega), lN_mul, nI_add]
  refine sz_x (swf_putRow h0 hF hr14 (by decide) (by omega) (by omega) (by omega) (by omega) i3) (fun _ τ4 _ i4 => ?_)
  rw [c_o o13, bs]
  refine sz_x (swf_endRow h0 hF hr14 (by omega) i4) (fun _ τ5 _ i5 => ?_)
  rw [c_o o13, bs, show (3 : Int64) = lN 3 from rfl, nI_l h2, nI_l h3]
  refine sz_x (swf_putRow h0 hF hr14 (by decide) (by omega) (by omega) (by omega) (by omega) i5) (fun _ τ6 _ i6 => ?_)
  rw [c_o o13, bs]
  refine sz_x (swf_endRow h0 hF hr14 (by omega) i6) (fun _ τ7 _ i7 => ?_)
  have hro := SI_row i7.1.1.1.1 T14
  have e1 := (i7.1.2.1 (by omega)).1
  rw [C11r3 o13 (GR_r (v := 1714) (rd _ i7.1.1.1.1) (by decide)), bs, C10r0 o14 hro.2.2.2.1, bs, bs, C10g1 o14, bs, e1, c_o orr, bs]
  refine sz_x (sqf_copy hF hr hT1 (by omega) (by omega) i7) (fun _ τ8 _ i8 => ?_)
  rw [show W1 + (64 + 64 * S + 48 + 16 + 48 + 16) = W1 + 64 * (S + 3) by omega] at i8
  have i8' : SZQ (PF r H W0 (fun p k x => M p k x ∨ ∃ p0, SCL S sp (24 * (nD + 1)) np ns p0 k x ∧ p = W1 + p0)) none sk L τ0 r 65536 (W1 + 64 * (S + 3)) τ8 := SZQ_mo i8 (fun p k x hM => by
    rcases hM with hM | ⟨p0, hp, e0⟩
    · exact Or.inl hM
    · refine Or.inr ⟨p0, ?_, e0⟩
      rcases hp with hp | hp | ⟨q1, q2, q3⟩ | ⟨q1, q2, q3⟩ | ⟨q1, q2, q3⟩ | ⟨q1, q2, q3⟩ | ⟨q1, q2, q3⟩ | ⟨q1, q2, q3⟩ | ⟨q1, q2, q3⟩
      · exact Or.inl (Or.inl (Or.inl hp))
      · exact Or.inl (Or.inl (Or.inr hp))
      · exact Or.inl (Or.inr (Or.inl ⟨q1, q2, q3⟩))
      · exact Or.inl (Or.inr (Or.inr (Or.inl ⟨q1, q2, q3⟩)))
      · exact Or.inl (Or.inr (Or.inr (Or.inr (Or.inl ⟨q1, q2, q3⟩))))
      · exact Or.inl (Or.inr (Or.inr (Or.inr (Or.inr ⟨q1, q2, q3⟩))))
      · exact Or.inr (Or.inl ⟨by omega, q2, q3⟩)
      · exact Or.inr (Or.inr (Or.inl ⟨by omega, q2, q3⟩))
      · exact Or.inr (Or.inr (Or.inr (Or.inl ⟨by omega, q2, q3⟩))))
  have hT2 : 64 ≤ W1 + 64 * (S + 3) := by omega
  rw [c_o orr, bs, nI_l (show W1 < 2 ^ 31 by omega)]
  refine sz_x (sqf_set (N := fun _ _ _ => False) hF hr (by decide) (by decide) (by omega) (fun i g1 g2 => by unfold Ex7; omega) hT2 hT ⟨i8', fun _ _ _ hf => hf.elim⟩ (fun _ _ _ hf => hf.elim)) (fun _ τ9 _ i9 => ?_)
  rw [c_o orr, bs, show (64 : Int64) = lN 64 from rfl]
  refine sz_x (sqf_set hF hr (by decide) (by decide) (by decide) (fun i g1 g2 => by unfold Ex7; omega) hT2 hT i9 (fun p' k' x' hp => by
    rcases hp with hp | ⟨q1, q2, q3⟩
    · exact hp.elim
    · omega)) (fun _ τa _ ia => ?_)
  rw [c_o orr, bs, nI_add, nI_l (show S + 3 < 2 ^ 31 by omega)]
  refine sz_x (sqf_set hF hr (by decide) (by decide) (by omega) (fun i g1 g2 => by unfold Ex7; omega) hT2 hT ia (fun p' k' x' hp => by
    rcases hp with (hp | ⟨q1, q2, q3⟩) | ⟨q1, q2, q3⟩
    · exact hp.elim
    · omega
    · omega)) (fun _ τb _ ib => ?_)
  rw [c_o orr, bs, nI_l (show S + 2 < 2 ^ 31 by omega)]
  refine sz_x (sqf_set hF hr (by decide) (by decide) (by omega) (fun i g1 g2 => by unfold Ex7; omega) hT2 hT ib (fun p' k' x' hp => by
    rcases hp with ((hp | ⟨q1, q2, q3⟩) | ⟨q1, q2, q3⟩) | ⟨q1, q2, q3⟩
    · exact hp.elim
    · omega
    · omega
    · omega)) (fun _ τc _ ic => ?_)
  unfold f_Scribe_writeNamed_321
  rw [C10g2 orr, bs, (ic.1.1.2.1.1 hT).2, if_pos (show bI false = 0 from rfl)]
  refine ⟨_, τc, xz_b true _, rfl, ic.1, fun p k x hp => ?_⟩
  rcases hp with ⟨q1, q2, q3⟩ | ⟨q1, q2, q3⟩ | ⟨q1, q2, q3⟩
  · exact ic.2 p k x (Or.inl (Or.inl (Or.inl (Or.inr ⟨q1, q2, q3⟩))))
  · exact ic.2 p k x (Or.inl (Or.inl (Or.inr ⟨q1, q2, q3⟩)))
  · exact ic.2 p k x (Or.inl (Or.inr ⟨q1, q2, q3⟩))
/-- the letters -/
theorem zf_nam133 {sp : Nat} (hF : 65540 < F) (hK : KT c) (hC : CV sk L own τ0 fs gs ws n b a Y) (ha : a = 0) (hr : TRw r (r + 1) 65536) (hod : Y.2.2.2.2.length ≤ 4096) (hif : IFO τ0 Y.2.2.2.2.length) (hsp : sp < 2 ^ 31) {np : Nat} (h64 : 64 ≤ np) (hT : wiN (np + xoY Y Y.2.2.2.2.length) + 64 * (sgN Y.1.2.2 3 + 3) ≤ 65536) : ∀ (d i f : Nat) (τ : px_TT), i + d = Y.2.2.2.2.length → d < f → SZQ (PF r H W0 (fun p k x => M p k x ∨ LTL np (xoY Y) (fun i => (nmY Y i).1) i p k x)) none sk L τ0 r 65536 (np + xoY Y i) τ → Sf sk L (NMe Y r H W0 (fun p k x => (M p k x ∨ LTL np (xoY Y) (fun i => (nmY Y i).1) Y.2.2.2.2.length p k x) ∨ ∃ p0, SCL (sgN Y.1.2.2 3) sp (24 * (Y.2.2.2.2.length + 1)) np (xoY Y Y.2.2.2.2.length) p0 k x ∧ p = wiN (np + xoY Y Y.2.2.2.2.length) + p0) sk L τ0 (wiN (np + xoY Y Y.2.2.2.2.length))) (fun v => v = bI true) (f_Scribe_writeNamed_133 F c f 1713 r (nI (sgN Y.1.2.2 3)) (nI sp) (nI (xoY Y Y.2.2.2.2.length)) (nI np) (nI i) (cH sk L τ)) := by
  have h0 := (CV_S4 hC).1.1.1
  have o13 := G1713 hC.1
  have o47 := G147 hC.1
  have hwi := wiN_b (np + xoY Y Y.2.2.2.2.length)
  have hmono : ∀ (d i : Nat), i + d = Y.2.2.2.2.length → xoY Y i ≤ xoY Y Y.2.2.2.2.length := by
    intro d
    induction d with
    | zero => intro i hi; rw [show i = Y.2.2.2.2.length by omega]; exact Nat.le_refl _
    | succ d ih =>
      intro i hi
      have := ih (i + 1) (by omega)
      rw [xoY_s] at this
      omega
  intro d
  induction d with
  | zero =>
    intro i f τ hi hf hI
    obtain ⟨f, rfl⟩ : ∃ y, f = y + 1 := ⟨f - 1, by omega⟩
    have ei : i = Y.2.2.2.2.length := by omega
    have hR := GR_Z h0.2.1 hI.1.1.1
    obtain ⟨_, _, e15, _⟩ := ((CV_X (CV_SI hC hI.1.1)).2 ha).2
    rw [ei] at hI
    unfold f_Scribe_writeNamed_133
    rw [C11r0 o13 (GR_r (v := 147) hR (by decide)), bs, C3g15 o47, bs, e15, if_pos (nI_le (by omega) (by omega))]
    exact zf_nam170 hF hK hC ha hr hod (by omega) hT hsp (by omega) (by omega) hI
  | succ d ih =>
    intro i f τ hi hf hI
    obtain ⟨f, rfl⟩ : ∃ y, f = y + 1 := ⟨f - 1, by omega⟩
    have hR := GR_Z h0.2.1 hI.1.1.1
    obtain ⟨_, _, e15, _⟩ := ((CV_X (CV_SI hC hI.1.1)).2 ha).2
    obtain ⟨p, v, hp, hok, hnt, _, hq⟩ := z_defX (F := F) (c := c) (i := i) hC ha hod hif (by omega)
    have op := hp.2.1
    have hge := hp.1
    have orr := (SI_row hI.1.1 hr).1
    have hrp : r < 1815 := by unfold TRw at hr; omega
    have hxs := xoY_s Y i
    have hmn := hmono d (i + 1) (by omega)
    have eL : mpL Y i = (nmY Y i).1.length := rfl
    unfold f_Scribe_writeNamed_133
    rw [C11r0 o13 (GR_r (v := 147) hR (by decide)), bs, C3g15 o47, bs, e15, if_neg (nI_ge (by omega) (by omega)), bs, c_o o47, bs, (hq τ hI.1.1).1, xb_mk, bs, c_o op, bs]
    refine sz_x (sqf_wto hF hr op (by omega) hok (hq τ hI.1.1).2.1 (by omega) (by omega) hI) (fun _ τ1 _ i1 => ?_)
    rw [c_o orr, bs]
    refine sz_x (sqf_put hF hr (by decide) (by decide) (by omega) (by omega) i1) (fun _ τ2 _ i2 => ?_)
    rw [nI_add]
    refine ih (i + 1) f τ2 (by omega) (by omega) ?_
    rw [show np + xoY Y (i + 1) = np + xoY Y i + (nmY Y i).1.length + 1 by omega]
    refine SZQ_mo i2 (fun p k x hM => ?_)
    rcases hM with hM | ⟨hk1, j, hj, hM⟩
    · exact Or.inl (Or.inl (Or.inl hM))
    · by_cases cj : j < i
      · exact Or.inl (Or.inl (Or.inr ⟨hk1, j, cj, hM⟩))
      · obtain rfl : j = i := by omega
        rcases hM with ⟨t, h1, h2, h3⟩ | ⟨h2, h3⟩
        · exact Or.inl (Or.inr ⟨t, h1, h2, hk1, h3⟩)
        · exact Or.inr ⟨h2, hk1, h3⟩
/-- the symbols -/
theorem zf_nam50 (hF : 65540 < F) (hK : KT c) (hC : CV sk L own τ0 fs gs ws n b a Y) (ha : a = 0) (hr : TRw r (r + 1) 65536) (hod : Y.2.2.2.2.length ≤ 4096) (hif : IFO τ0 Y.2.2.2.2.length) {sp : Nat} (h64 : 64 ≤ sp) (hT : wiN (wiN (sp + 24 * (Y.2.2.2.2.length + 1)) + xoY Y Y.2.2.2.2.length) + 64 * (sgN Y.1.2.2 3 + 3) ≤ 65536) : ∀ (d i f : Nat) (nf wh : Nat → Nat) (τ : px_TT), i + d = Y.2.2.2.2.length → d < f → SYo nf wh i → SZQ (PF r H W0 (SYL sp (xoY Y) nf wh (adNY Y) i)) none sk L τ0 r 65536 (sp + 24 * (i + 1)) τ → Sf sk L (fun τ => ∃ nf wh, SYo nf wh Y.2.2.2.2.length ∧ NMe Y r H W0 (NMF Y nf wh sp (wiN (sp + 24 * (Y.2.2.2.2.length + 1))) (wiN (wiN (sp + 24 * (Y.2.2.2.2.length + 1)) + xoY Y Y.2.2.2.2.length))) sk L τ0 (wiN (wiN (sp + 24 * (Y.2.2.2.2.length + 1)) + xoY Y Y.2.2.2.2.length)) τ) (fun v => v = bI true) (f_Scribe_writeNamed_50 F c f 1713 r (nI (sgN Y.1.2.2 3)) (nI sp) (nI (xoY Y i)) (nI i) (cH sk L τ)) := by
  have h0 := (CV_S4 hC).1.1.1
  have o13 := G1713 hC.1
  have o47 := G147 hC.1
  have hw1 := wiN_b (sp + 24 * (Y.2.2.2.2.length + 1))
  have hw2 := wiN_b (wiN (sp + 24 * (Y.2.2.2.2.length + 1)) + xoY Y Y.2.2.2.2.length)
  have hmono : ∀ (d i : Nat), i + d = Y.2.2.2.2.length → xoY Y i ≤ xoY Y Y.2.2.2.2.length := by
    intro d
    induction d with
    | zero => intro i hi; rw [show i = Y.2.2.2.2.length by omega]; exact Nat.le_refl _
    | succ d ih =>
      intro i hi
      have := ih (i + 1) (by omega)
      rw [xoY_s] at this
      omega
  intro d
  induction d with
  | zero =>
    intro i f nf wh τ hi hf hs hI
    obtain ⟨f, rfl⟩ : ∃ y, f = y + 1 := ⟨f - 1, by omega⟩
    have ei : i = Y.2.2.2.2.length := by omega
    have hR := GR_Z h0.2.1 hI.1.1.1
    obtain ⟨_, _, e15, _⟩ := ((CV_X (CV_SI hC hI.1.1)).2 ha).2
    have orr := (SI_row hI.1.1 hr).1
    rw [ei] at hI hs ⊢
    have e0 : xoY Y 0 = 1 := rfl
    unfold f_Scribe_writeNamed_50 f_Scribe_writeNamed_118
    rw [C11r0 o13 (GR_r (v := 147) hR (by decide)), bs, C3g15 o47, bs, e15, if_pos (nI_le (by omega) (by omega))]
    refine sz_x (sqf_next hF hr (by omega) hI (by omega)) (fun v1 τ1 hv1 i1 => ?_)
    rw [hv1, c_o orr, bs]
    refine sz_x (sp_put hF hr (by decide) i1) (fun _ τ2 _ i2 => ?_)
    have w := zf_nam133 (F := F) (c := c) (M := SYL sp (xoY Y) nf wh (adNY Y) Y.2.2.2.2.length) (sp := sp) hF hK hC ha hr hod hif (by omega) (np := wiN (sp + 24 * (Y.2.2.2.2.length + 1))) (by omega) hT Y.2.2.2.2.length 0 F τ2 (Nat.zero_add _) (by omega) (SZQ_mo i2 (fun p k x hM => by
      rcases hM with hM | ⟨_, j, hj, _⟩
      · exact hM
      · exact absurd hj (Nat.not_lt_zero _)))
    obtain ⟨v3, τ3, e3, hv3, s3, s4⟩ := w
    refine ⟨v3, τ3, e3, hv3, nf, wh, hs, SZQ_mo s3 (fun p k x hM => ?_), s4⟩
    rcases hM with hM | hM | hM
    · exact Or.inl (Or.inl hM)
    · exact Or.inl (Or.inr hM)
    · exact Or.inr hM
  | succ d ih =>
    intro i f nf wh τ hi hf hs hI
    obtain ⟨f, rfl⟩ : ∃ y, f = y + 1 := ⟨f - 1, by omega⟩
    have hR := GR_Z h0.2.1 hI.1.1.1
    obtain ⟨_, _, e15, _⟩ := ((CV_X (CV_SI hC hI.1.1)).2 ha).2
    obtain ⟨p, v, hp, hok, hnt, hv, hq⟩ := z_defX (F := F) (c := c) (i := i) hC ha hod hif (by omega)
    have op := hp.2.1
    have hmn := hmono (d + 1) i (by omega)
    obtain ⟨v8, τ8, e8, ⟨w8, g1, g2, g3⟩, rfl⟩ := sv_rowOf (F := F) (c := c) h0 hK hF hp hI.1.1
    obtain ⟨q1, q2, q3, q4⟩ := hq τ8 hI.1.1
    have eL : (nmY Y i).1.length = mpL Y i := rfl
    unfold f_Scribe_writeNamed_50
    rw [C11r0 o13 (GR_r (v := 147) hR (by decide)), bs, C3g15 o47, bs, e15, if_neg (nI_ge (by omega) (by omega)), bs, c_o o47, bs, q1, xb_mk, bs, C5g9 op, bs, c_o o13, bs, e8, xb_mk, C5g14 op, bs, C5g8 op, bs, q4, q3, g3]
    refine sz_x (sqf_putSym hF hr (by omega) (by omega) (by omega) (adNY_lt Y i) (by omega) (by omega) hI) (fun _ τ1 _ i1 => ?_)
    rw [C5g3 op, bs, (hq τ1 i1.1.1).2.1.2.2.2, eL, nI_add, nI_add, nI_add, ← xoY_s]
    refine ih (i + 1) f (fun j => if j = i then v else nf j) (fun j => if j = i then w8 else wh j) τ1 (by omega) (by omega) (fun j hj => ?_) ?_
    · dsimp only
      by_cases cj : j = i
      · rw [if_pos cj, if_pos cj]
        exact ⟨hv, g1, g2⟩
      · rw [if_neg cj, if_neg cj]
        exact hs j (by omega)
    · rw [show sp + 24 * (i + 1 + 1) = sp + 24 * (i + 1) + 24 by omega]
      refine SZQ_mo i1 (fun p k x hM => ?_)
      obtain ⟨j, hj, hM⟩ := hM
      dsimp only at hM
      by_cases cj : j = i
      · rw [if_pos cj, if_pos cj, cj] at hM
        exact Or.inr hM
      · rw [if_neg cj, if_neg cj] at hM
        exact Or.inl ⟨j, by omega, hM⟩
end CNW
end
section
/-! named of the class, whole; what its tables come to (made by a program, mkfzw.py, out of fzl) -/
section CNX2
variable {F : Nat} {c : px_CT} {sk : Nat → Nat × Nat × Nat} {L : Nat} {own : Nat → Nat × Nat} {τ0 τ : px_TT} {fs : List (Nat × (Nat → Nat))} {gs : List (List Nat × Int64)} {ws : List (List Nat)} {n : Nat} {b : Nat → Nat} {a : Int32} {Y : px_Y} {r H cc : Nat} {P : px_TT → Prop} {W0 : Nat → Int32}
theorem zf_named (hF : 65540 < F) (hK : KT c) (hC : CV sk L own τ0 fs gs ws n b a Y) (ha : a = 0) (hr : TRw r (r + 1) 65536) (hod : Y.2.2.2.2.length ≤ 4096) (hif : IFO τ0 Y.2.2.2.2.length) (h1 : 64 ≤ H) (hH : H ≤ Y.1.2.1) (hT : nmT Y ≤ 65536) (hI : SI none sk L τ0 τ) (hN : ∀ k, fN τ 0 k = fN τ0 0 k) : Sf sk L (fun τ => ∃ nf wh, SYo nf wh Y.2.2.2.2.length ∧ NMe Y r H (eI τ0 1712) (NMF Y nf wh (wiN Y.1.2.1) (wiN (wiN Y.1.2.1 + 24 * (Y.2.2.2.2.length + 1))) (wiN (wiN (wiN Y.1.2.1 + 24 * (Y.2.2.2.2.length + 1)) + xoY Y Y.2.2.2.2.length))) sk L τ0 (wiN (wiN (wiN Y.1.2.1 + 24 * (Y.2.2.2.2.length + 1)) + xoY Y Y.2.2.2.2.length)) τ) (fun v => v = bI true) (f_Scribe_writeNamed F c 1713 r 1711 (cH sk L τ)) := by
  have h0 := (CV_S4 hC).1.1.1
  have hS := h0.1
  have o13 := G1713 hC.1
  have o11 := G1711 hC.1
  have orr := (SI_row hI hr).1
  unfold f_Scribe_writeNamed
  rw [C11r1 o13 (GR_r (v := 1700) (GR_Z h0.2.1 hI.1) (by decide)), bs, c_o (G1700 hS), bs]
  have hT' : wiN (wiN (wiN Y.1.2.1 + 24 * (Y.2.2.2.2.length + 1)) + xoY Y Y.2.2.2.2.length) + 64 * (sgN Y.1.2.2 3 + 3) ≤ 65536 := hT
  have hw1 := wiN_b Y.1.2.1
  have hw2 := wiN_b (wiN Y.1.2.1 + 24 * (Y.2.2.2.2.length + 1))
  have hw3 := wiN_b (wiN (wiN Y.1.2.1 + 24 * (Y.2.2.2.2.length + 1)) + xoY Y Y.2.2.2.2.length)
  have e2 : f_Layout_countSegments F c 1700 (cH sk L τ) = some (nI (sgN Y.1.2.2 3), cH sk L τ) := so_segsX hF hC ha hI 3 0 F rfl (by omega)
  rw [e2, xb_mk, c_o orr, bs]
  refine sz_x (sz_clear hI hN hr) (fun _ τ1 _ i1 => ?_)
  obtain ⟨k1, k2, _⟩ := CV_K (CV_SI hC i1.1) ha
  have hfl := SI_fl i1.1
  rw [C10r0 o11 hfl.2.2.2.1, bs, C10g1 o11, bs, k2, c_o orr, bs]
  have key : Sf sk L (SZQ (PRf r H (eI τ0 1712)) none sk L τ0 r 65536 Y.1.2.1) Any (f_Row_copy F c r 1712 (nI 0) (nI Y.1.2.1) (cH sk L τ1)) := by
    obtain ⟨v1, τ2, e1, _, s1⟩ := sz_Rw (cc := Y.1.2.1) i1.1 i1.2.2 hr (by
      have h := k_copyZ (F := F) (c := c) (q := 0) (m := Y.1.2.1) hfl.2.1 (by decide) hfl.2.2.2.2.2.2 (by omega) (SI_row i1.1 hr) i1.2.1
      rw [Nat.zero_add] at h
      exact h)
    obtain ⟨τ3, e3, k3, f3, w3⟩ := k_copyC (F := F) (c := c) (q := 0) (m := Y.1.2.1) hfl.2.1 (by decide) hfl.2.2.2.2.2.2 (by omega) (SI_row i1.1 hr)
    have e : cH sk L τ3 = cH sk L τ2 := by
      rw [e1] at e3
      exact (Prod.mk.inj (Option.some.inj e3)).2.symm
    refine ⟨v1, τ2, e1, any, s1, fun _ => StA_H stA_PRf k3.1 k3.2.1 e ?_, stA_PRf⟩
    have u := w3 (0, eI τ1 (r + 1)) ⟨Nat.zero_le _, (i1.2.1.1 (Nat.zero_le _)).1, fun i hi => absurd hi (Nat.not_lt_zero _)⟩
    unfold wCpy at u
    rw [if_pos (show (0, eI τ1 (r + 1)).1 + Y.1.2.1 ≤ 65536 by show 0 + Y.1.2.1 ≤ 65536; omega)] at u
    obtain ⟨u1, u2, u3⟩ := u
    have u2 : fI τ3 r 1 = nI (0 + Y.1.2.1) := u2
    have u3 : ∀ i, i < 0 + Y.1.2.1 → eI τ3 (r + 1) i = va_cpy (eI τ1 1712) (eI τ1 (r + 1)) 0 0 Y.1.2.1 i := u3
    rw [Nat.zero_add] at u2 u3
    refine ⟨⟨Y.1.2.1, hH, k1, u2⟩, fun i hi _ => ?_⟩
    rw [u3 i (by omega), pk_cpy_in (Nat.zero_le _) (by omega), Nat.zero_add, Nat.sub_zero, i1.1.2.1.2.2.2.2]
  refine sz_x key (fun _ τ2 _ i2 => ?_)
  refine sz_x (sqf_next hF hr (by omega) i2 (by omega)) (fun v8 τ3 hv8 i3 => ?_)
  rw [hv8, C10g1 orr, bs, c_o orr, bs]
  refine sz_x (sq_fill hF hr (by decide) (by decide) i3) (fun _ τ4 _ i4 => ?_)
  have i5 : SZQ (PF r H (eI τ0 1712) (SYL (wiN Y.1.2.1) (xoY Y) (fun _ => 0) (fun _ => 0) (adNY Y) 0)) none sk L τ0 r 65536 (wiN Y.1.2.1 + 24 * (0 + 1)) τ4 := ⟨i4.1, fun hc => ⟨i4.2.1 hc, fun p k x hM => by
    obtain ⟨j, hj, _⟩ := hM
    exact absurd hj (Nat.not_lt_zero _)⟩, stA_PF⟩
  exact zf_nam50 hF hK hC ha hr hod hif (by omega) hT' Y.2.2.2.2.length 0 F (fun _ => 0) (fun _ => 0) τ4 (Nat.zero_add _) (by omega) (fun j hj => absurd hj (Nat.not_lt_zero _)) i5
end CNX2
/-! what the tables come to -/
theorem xnG_1 {p : Nat → Bool} {m : Nat} : ∀ (d k : Nat), k + d = m → p m = true → (∀ i, k ≤ i → i < m → p i = false) → ∀ e, xnG p (d + 1 + e) k = some m := by
  intro d
  induction d with
  | zero =>
    intro k hk hm _ e
    obtain rfl : k = m := by omega
    rw [show 0 + 1 + e = e + 1 by omega]
    exact xnG_t hm
  | succ d ih =>
    intro k hk hm hf e
    rw [show d + 1 + 1 + e = (d + 1 + e) + 1 by omega, xnG_f (hf k (Nat.le_refl _) (by omega))]
    exact ih (k + 1) (by omega) hm (fun i h1 h2 => hf i (by omega) h2) e
theorem xnL_at {b : Nat → Nat} {fr e l : Nat} (h0 : b (fr + l) = 0) (he : fr + l < e) (hn : ∀ t, t < l → b (fr + t) ≠ 0) : ∀ (d k : Nat), k ≤ l → l < k + d → xnL b fr e d k = l := by
  intro d
  induction d with
  | zero => intro k h1 h2; omega
  | succ d ih =>
    intro k h1 h2
    unfold xnL
    rw [if_neg (by omega)]
    by_cases c : k = l
    · rw [c, if_pos h0]
    · rw [if_neg (hn k (by omega))]
      exact ih (k + 1) (by omega) (by omega)
theorem nvL_all {V : Nat → Nat} {N : Nat → Bool} : ∀ (d j : Nat), (∀ i, i < d → N (j + i) = true) → nvL V N d j = (List.range d).map (fun i => V (j + i)) := by
  intro d
  induction d with
  | zero => intro j _; rfl
  | succ d ih =>
    intro j h
    rw [nvL_t (show N j = true from h 0 (by omega)), ih (j + 1) (fun i hi => by rw [show j + 1 + i = j + (i + 1) by omega]; exact h (i + 1) (by omega)), List.range_succ_eq_map, List.map_cons, List.map_map]
    congr 1
    apply List.map_congr_left
    intro i _
    show V (j + 1 + i) = V (j + (i + 1))
    rw [show j + 1 + i = j + (i + 1) by omega]
/-- the names of a file that tells them so -/
theorem NMF_nv {Y : px_Y} {g : Nat → Int32} {z sp np T : Nat} {nf wh : Nat → Nat} (hs : SYo nf wh Y.2.2.2.2.length) (hz : T + 64 * (sgN Y.1.2.2 3 + 3) = z) (hz6 : z ≤ 65536) (hsp : sp + 24 * (Y.2.2.2.2.length + 1) ≤ np) (hnp : np + xoY Y Y.2.2.2.2.length ≤ T) (hnt : ∀ i, i < Y.2.2.2.2.length → nT (nmY Y i).1) (hby : ∀ i, i < Y.2.2.2.2.length → ∀ x, x ∈ (nmY Y i).1 → x < 256) (hH : ∀ p k x, HDL T (sgN Y.1.2.2 3) p k x → vAt g p k x) (hM : ∀ p k x, NMF Y nf wh sp np T p k x → p + k ≤ z ∧ vAt g p k x) : nvQ (fun i => if i < z then b8 (g i) else 0) (xnS (fun i => if i < z then b8 (g i) else 0) z) = (List.range Y.2.2.2.2.length).map (adNY Y) := by
  obtain ⟨bb, eb⟩ : ∃ bb, bb = (fun i => if i < z then b8 (g i) else 0) := ⟨_, rfl⟩
  rw [← eb]
  have hS3 := sgN_le (th := Y.1.2.2) 3
  have q : ∀ {p k x : Nat}, vAt g p k x → p + k ≤ z → x < 256 ^ k → le bb p k = x := fun {p k x} v hp hx => by
    rw [vAt_le v (fun i _ hi => by rw [eb]; exact if_pos (by omega)), Nat.mod_eq_of_lt hx]
  have qM : ∀ {p k x : Nat}, NMF Y nf wh sp np T p k x → x < 256 ^ k → le bb p k = x := fun {p k x} h hx => q (hM p k x h).2 (hM p k x h).1 hx
  have one : ∀ {p x : Nat}, NMF Y nf wh sp np T p 1 x → x < 256 → bb p = x := fun {p x} h hx => by
    have w := qM h (by omega)
    rw [le_1] at w
    exact w
  have e58 := q (hH 58 2 64 (Or.inr (Or.inl ⟨rfl, rfl, rfl⟩))) (by omega) (by decide)
  have e60 := q (hH 60 2 (sgN Y.1.2.2 3 + 3) (Or.inr (Or.inr ⟨rfl, rfl, rfl⟩))) (by omega) (by omega)
  have e40 := q (hH 40 8 T (Or.inl ⟨rfl, rfl, rfl⟩)) (by omega) (by omega)
  have sec : ∀ {p0 k x : Nat}, SCL (sgN Y.1.2.2 3) sp (24 * (Y.2.2.2.2.length + 1)) np (xoY Y Y.2.2.2.2.length) p0 k x → x < 256 ^ k → le bb (T + p0) k = x := fun {p0 k x} h hx => qM (Or.inr (Or.inr ⟨p0, h, rfl⟩)) hx
  generalize sgN Y.1.2.2 3 = S at *
  have r0 := sec (Or.inl ⟨rfl, rfl, rfl⟩) (by decide)
  have r1 : ∀ s, s < S → le bb (T + (64 + 64 * s + 4)) 4 = 1 := fun s h => sec (Or.inr (Or.inl ⟨s, h, rfl, rfl, rfl⟩)) (by decide)
  have r2 := sec (Or.inr (Or.inr (Or.inl ⟨rfl, rfl, rfl⟩))) (by decide)
  have r3 := sec (Or.inr (Or.inr (Or.inr (Or.inl ⟨rfl, rfl, rfl⟩)))) (by omega)
  have r4 := sec (Or.inr (Or.inr (Or.inr (Or.inr (Or.inl ⟨rfl, rfl, rfl⟩))))) (by omega)
  have r5 := sec (Or.inr (Or.inr (Or.inr (Or.inr (Or.inr (Or.inl ⟨rfl, rfl, rfl⟩)))))) (by omega)
  have r6 := sec (Or.inr (Or.inr (Or.inr (Or.inr (Or.inr (Or.inr (Or.inl ⟨rfl, rfl, rfl⟩))))))) (by decide)
  have r7 := sec (Or.inr (Or.inr (Or.inr (Or.inr (Or.inr (Or.inr (Or.inr (Or.inl ⟨rfl, rfl, rfl⟩)))))))) (by omega)
  have r8 := sec (Or.inr (Or.inr (Or.inr (Or.inr (Or.inr (Or.inr (Or.inr (Or.inr ⟨rfl, rfl, rfl⟩)))))))) (by omega)
  have hxH : xnH bb z = true := by
    unfold xnH
    rw [e58, e60, e40, decide_eq_true (rfl : 64 = 64), decide_eq_true (show 1 ≤ S + 3 by omega), decide_eq_true (show S + 3 ≤ 24 by omega), decide_eq_true (show T + 64 * (S + 3) ≤ z by omega)]
    rfl
  have hxG : xnG (xnP bb T) (S + 3) 0 = some (S + 1) := by
    have w := xnG_1 (p := xnP bb T) (m := S + 1) (S + 1) 0 (by omega) (by
      unfold xnP
      rw [show T + 64 * (S + 1) + 4 = T + (64 + 64 * S + 4) by omega]
      exact decide_eq_true r2) (fun i _ hi => by
      unfold xnP
      by_cases c : i = 0
      · rw [c, show T + 64 * 0 + 4 = T + 4 by omega, r0]
        decide
      · rw [show T + 64 * i + 4 = T + (64 + 64 * (i - 1) + 4) by omega, r1 (i - 1) (by omega)]
        decide) 1
    exact w
  have hq : xnS bb z = (Y.2.2.2.2.length + 1, sp, np, xoY Y Y.2.2.2.2.length) := by
    rw [xnS_t hxH, e60, e40, hxG]
    show xnM bb z (S + 3) T (S + 1) = _
    unfold xnM xnK
    have f40 : le bb (T + 64 * (S + 1) + 40) 4 = S + 2 := by rw [show T + 64 * (S + 1) + 40 = T + (64 + 64 * S + 40) by omega]; exact r5
    have f24 : le bb (T + 64 * (S + 1) + 24) 8 = sp := by rw [show T + 64 * (S + 1) + 24 = T + (64 + 64 * S + 24) by omega]; exact r3
    have f32 : le bb (T + 64 * (S + 1) + 32) 8 = 24 * (Y.2.2.2.2.length + 1) := by rw [show T + 64 * (S + 1) + 32 = T + (64 + 64 * S + 32) by omega]; exact r4
    rw [f40, f24, f32]
    have g4 : le bb (T + 64 * (S + 2) + 4) 4 = 3 := by rw [show T + 64 * (S + 2) + 4 = T + (128 + 64 * S + 4) by omega]; exact r6
    have g24 : le bb (T + 64 * (S + 2) + 24) 8 = np := by rw [show T + 64 * (S + 2) + 24 = T + (128 + 64 * S + 24) by omega]; exact r7
    have g32 : le bb (T + 64 * (S + 2) + 32) 8 = xoY Y Y.2.2.2.2.length := by rw [show T + 64 * (S + 2) + 32 = T + (128 + 64 * S + 32) by omega]; exact r8
    rw [g4, g24, g32, decide_eq_true (show S + 2 < S + 3 by omega), decide_eq_true (rfl : 3 = 3), decide_eq_true (show sp + 24 * (Y.2.2.2.2.length + 1) ≤ z by omega), decide_eq_true (show np + xoY Y Y.2.2.2.2.length ≤ z by omega), decide_eq_true (show 24 * (Y.2.2.2.2.length + 1) % 24 = 0 by omega), if_pos (show (true && (true && (true && (true && true)))) = true from rfl), Nat.mul_div_cancel_left _ (by decide)]
  have hmono : ∀ (d i : Nat), i + d = Y.2.2.2.2.length → xoY Y i ≤ xoY Y Y.2.2.2.2.length := by
    intro d
    induction d with
    | zero => intro i hi; rw [show i = Y.2.2.2.2.length by omega]; exact Nat.le_refl _
    | succ d ih =>
      intro i hi
      have := ih (i + 1) (by omega)
      rw [xoY_s] at this
      omega
  have sym : ∀ i, i < Y.2.2.2.2.length → nmN bb (xnS bb z) (1 + i) = true ∧ nmV bb (xnS bb z) (1 + i) = adNY Y i := fun i hi => by
    rw [hq]
    show xnI bb np (xoY Y Y.2.2.2.2.length) (sp + 24 * (1 + i)) = true ∧ le bb (sp + 24 * (1 + i) + 8) 8 = adNY Y i
    obtain ⟨⟨s1, s2⟩, s3, s4⟩ := hs i hi
    have hxi := hmono (Y.2.2.2.2.length - (i + 1)) (i + 1) (by omega)
    rw [xoY_s] at hxi
    have eL : mpL Y i = (nmY Y i).1.length := rfl
    obtain ⟨l1, l2, l3⟩ := hnt i hi
    have a0 := qM (Or.inl ⟨i, hi, Or.inl ⟨rfl, rfl, rfl⟩⟩) (show xoY Y i < 256 ^ 4 by omega)
    have a4 := one (Or.inl ⟨i, hi, Or.inr (Or.inl ⟨rfl, rfl, rfl⟩)⟩) s1
    have a6 := qM (Or.inl ⟨i, hi, Or.inr (Or.inr (Or.inl ⟨rfl, rfl, rfl⟩))⟩) (show wh i < 256 ^ 2 by omega)
    have a8 := qM (Or.inl ⟨i, hi, Or.inr (Or.inr (Or.inr ⟨rfl, rfl, rfl⟩))⟩) (show adNY Y i < 256 ^ 8 from adNY_lt Y i)
    rw [show 1 + i = i + 1 by omega]
    refine ⟨?_, a8⟩
    have hl : xnL bb (np + xoY Y i) (np + xoY Y Y.2.2.2.2.length) 21 0 = (nmY Y i).1.length := xnL_at (b := bb) (fr := np + xoY Y i) (e := np + xoY Y Y.2.2.2.2.length) (l := (nmY Y i).1.length) (one (Or.inr (Or.inl ⟨rfl, i, hi, Or.inr ⟨rfl, rfl⟩⟩)) (by decide)) (by omega) (fun t ht => by
      have hm : (nmY Y i).1.getD t 0 ∈ (nmY Y i).1 := by
        rw [List.getD_eq_getElem?_getD, List.getElem?_eq_getElem ht]
        exact List.getElem_mem ht
      rw [one (Or.inr (Or.inl ⟨rfl, i, hi, Or.inl ⟨t, ht, rfl, rfl⟩⟩)) (hby i hi _ hm)]
      exact l3 _ hm) 21 0 (Nat.zero_le _) (by omega)
    unfold xnI
    rw [a0, a4, a6, hl, decide_eq_true (show xoY Y i < xoY Y Y.2.2.2.2.length by omega), decide_eq_true (show wh i ≠ 0 by omega), decide_eq_true (show 0 < (nmY Y i).1.length by omega)]
    rcases s2 with s2 | s2
    · rw [decide_eq_true s2]
      rfl
    · rw [decide_eq_true s2, Bool.or_true]
      rfl
  have e1 : (xnS bb z).1 - 1 = Y.2.2.2.2.length := by rw [hq]; rfl
  unfold nvQ
  rw [nvL_all _ 1 (fun i hi => (sym i (by omega)).1), e1]
  apply List.map_congr_left
  intro i hi
  exact (sym i (List.mem_range.mp hi)).2
end
section
/-! named of the reference: numbers that stand in the file that it writes -/
/-- OUT so far: the link's head and rows, and numbers -/
def OWf (H : Nat) (W : Nat → Int32) (M : Nat → Nat → Nat → Prop) (σ0 σ : px_S) (c : Nat) : Prop := OWq H W σ0 σ c ∧ ∀ p k x, M p k x → vAt (gA σ 3) p k x
/-- the letters of the first i names -/
def LTa (np : Nat) (xo : Nat → Nat) (wt : Nat → List Nat) (i p k x : Nat) : Prop := k = 1 ∧ ∃ j, j < i ∧ ∃ t, t < (wt j).length ∧ p = np + xo j + t ∧ x = (wt j).getD t 0
/-- what is 0 from the start -/
def ZRL (np : Nat) (xo : Nat → Nat) (wt : Nat → List Nat) (nD T p k x : Nat) : Prop := (k = 1 ∧ x = 0 ∧ ∃ j, j < nD ∧ p = np + xo j + (wt j).length) ∨ (p = T + 4 ∧ k = 4 ∧ x = 0)
section MNF
variable {F m : Nat} {h : px_H} {σ0 σ : px_S} {c e nD H : Nat} {th : Nat → Bool} {lf df : Nat → Nat} {I : px_S → Prop} {W : Nat → Int32} {M : Nat → Nat → Nat → Prop}
theorem OWf_mo {M' : Nat → Nat → Nat → Prop} (hI : OWf H W M σ0 σ c) (hM : ∀ p k x, M' p k x → M p k x) : OWf H W M' σ0 σ c := ⟨hI.1, fun p k x hp => hI.2 p k x (hM p k x hp)⟩
theorem qf_puX {α : Type} {V : α → Prop} {f : Unit → px_H → Option (α × px_H)} {q n x : Nat} (hm : m ≤ h.length) (hF : 65540 < F) (hI : OWf H W M σ0 σ c) (hq : q + n ≤ 65536) (hn : n ≤ 8) (hx : x < 2 ^ 64) (hex : ∀ i, q ≤ i → i < q + n → i < H → Ex7 i) (hd : ∀ p k y, M p k y → p + k ≤ q ∨ q + n ≤ p) (g : ∀ σ, OWf H W (adM M q n x) σ0 σ c → Sm m h I V (f () (mh m h σ))) : Sm m h I V ((xo (mh m h σ) 12 m).bind fun _ => xb (f_M_put F m (nI q) (lN x) (nI n) (mh m h σ)) f) := by
  obtain ⟨hI, hM⟩ := hI
  obtain ⟨σ', e, w1, w2, w3⟩ := q_putV (F := F) (σ := σ) (at0 := q) (n := n) (v := lN x) hm (by omega) hq hI.1.1.2.2
  rw [e_o hm, bs, e, xb_mk]
  refine g σ' ⟨⟨⟨⟨FR_trans hI.1.1.1 (FR_mono w1 (by decide) (by decide) (by decide) (by decide)), (w1.1 4 List.not_mem_nil).trans hI.1.1.2.1, w2⟩, (w1.1 0 List.not_mem_nil).trans hI.1.2⟩, fun i hi he => ?_⟩, fun p k y hp => ?_⟩
  · by_cases cq : q ≤ i ∧ i < q + n
    · exact absurd (hex i cq.1 cq.2 hi) he
    · rw [w3 i, if_neg cq]
      exact hI.2 i hi he
  · rcases hp with hp | ⟨h1, h2, h3⟩
    · have hdd := hd p k y hp
      intro j hj
      rw [w3 (p + j), if_neg (by omega)]
      exact hM p k y hp j hj
    · rw [h1, h2, h3]
      intro j hj
      rw [w3 (q + j), if_pos (by omega), Nat.add_sub_cancel_left]
      exact bRv_n hx (by omega)
theorem qf_puA {α : Type} {V : α → Prop} {f : Unit → px_H → Option (α × px_H)} {q n : Nat} {v : Int64} (hm : m ≤ h.length) (hF : 65540 < F) (hI : OWf H W M σ0 σ c) (hq : q + n ≤ 65536) (hn : n ≤ 8) (hex : ∀ i, q ≤ i → i < q + n → i < H → Ex7 i) (hd : ∀ p k y, M p k y → p + k ≤ q ∨ q + n ≤ p) (g : ∀ σ, OWf H W M σ0 σ c → Sm m h I V (f () (mh m h σ))) : Sm m h I V ((xo (mh m h σ) 12 m).bind fun _ => xb (f_M_put F m (nI q) v (nI n) (mh m h σ)) f) := by
  obtain ⟨x, hx, rfl⟩ := wb_of v
  exact qf_puX hm hF hI hq hn hx hex hd (fun σ hi => g σ (OWf_mo hi (fun _ _ _ hp => Or.inl hp)))
theorem hexH {q n : Nat} (hH : H ≤ q) : ∀ i, q ≤ i → i < q + n → i < H → Ex7 i := fun i h1 _ h3 => absurd h3 (by omega)
theorem qf_w3 {α : Type} {V : α → Prop} {f : px_H → Option (α × px_H)} {p : Nat} {v : Int32} {x : Nat} (hm : m ≤ h.length) (hI : OWf H W M σ0 σ c) (h1 : H ≤ p) (hp : p < 65536) (hv : v.toInt8.toInt32 = nB x 0) (hd : ∀ p' k y, M p' k y → p' + k ≤ p ∨ p + 1 ≤ p') (g : ∀ σ, OWf H W (adM M p 1 x) σ0 σ c → Sm m h I V (f (mh m h σ))) : Sm m h I V ((xsI (mh m h σ) 0 (m + 2) (nI p) v.toInt8.toInt32).bind f) := by
  rw [Ms3 hm hp, bs]
  refine g _ ⟨⟨OWx_w hI.1.1, fun i hi he => ?_⟩, fun p' k y hp' => ?_⟩
  · rw [gA_sA, if_pos rfl, upd_ne (by omega)]
    exact hI.1.2 i hi he
  · rcases hp' with hp' | ⟨q1, q2, q3⟩
    · have hdd := hd p' k y hp'
      intro j hj
      rw [gA_sA, if_pos rfl, upd_ne (by omega)]
      exact hI.2 p' k y hp' j hj
    · rw [q1, q2, q3]
      intro j hj
      obtain rfl : j = 0 := by omega
      rw [gA_sA, if_pos rfl, Nat.add_zero, upd_eq]
      exact hv
theorem qf_seg {q i : Nat} (hm : m ≤ h.length) (hF : 65540 < F) (hH : H ≤ q) (hq : q + 64 ≤ 65536) (hi3 : i < 3) (hd : ∀ p k y, M p k y → p + k ≤ q) (hI : OWf H W M σ0 σ c) : Sm m h (fun σ' => OWf H W (adM M (q + 4) 4 1) σ0 σ' c) Any (f_M_namedSegment F m (nI q) (nI i) (mh m h σ)) := by
  have hd2 : ∀ {a n : Nat}, q + 8 ≤ a → ∀ p k y, adM M (q + 4) 4 1 p k y → p + k ≤ a ∨ a + n ≤ p := fun {a n} ha p k y hp => by
    rcases hp with hp | ⟨h1, h2, _⟩
    · have := hd p k y hp
      omega
    · omega
  have f38 : ∀ {v : Int64} (σ : px_S), OWf H W (adM M (q + 4) 4 1) σ0 σ c → Sm m h (fun σ' => OWf H W (adM M (q + 4) 4 1) σ0 σ' c) Any (f_M_namedSegment_38 F m (nI q) (nI i) m (nI (q + 8)) v (mh m h σ)) := fun {v} σ hi => by
    unfold f_M_namedSegment_38
    refine qf_puA hm hF hi (by omega) (by decide) (hexH (by omega)) (hd2 (by omega)) (fun σ hi => ?_)
    rw [Mr61 hm, bs, Ma61 hm hi3, bs, nI_add]
    refine qf_puA hm hF hi (by omega) (by decide) (hexH (by omega)) (hd2 (by omega)) (fun σ hi => ?_)
    rw [Mr60 hm, bs, Ma60 hm hi3, bs, nI_add]
    refine qf_puA hm hF hi (by omega) (by decide) (hexH (by omega)) (hd2 (by omega)) (fun σ hi => ?_)
    rw [Mr62 hm, bs, Ma62 hm hi3, bs, nI_add]
    refine qf_puA hm hF hi (by omega) (by decide) (hexH (by omega)) (hd2 (by omega)) (fun σ hi => ?_)
    rw [nI_add]
    exact qf_puA hm hF hi (by omega) (by decide) (hexH (by omega)) (hd2 (by omega)) (fun σ hi => sm_r any hi)
  unfold f_M_namedSegment
  rw [nI_add]
  refine qf_puX hm hF hI (by omega) (by decide) (by decide) (hexH (by omega)) (fun p k y hp => by have := hd p k y hp; omega) (fun σ hi => ?_)
  rw [nI_add]
  exact sm_i (fun _ => f38 σ hi) (fun _ => sm_i (fun _ => f38 σ hi) (fun _ => f38 σ hi))
/-- the last rows of sections, and the head -/
theorem qf_nm443 {x5 : Int32} {q2 q3 q4 TX : Nat} (hm : m ≤ h.length) (hF : 65540 < F) (hM : NMs σ0 e nD th lf df) (h64 : 64 ≤ q4) (hH4 : H ≤ q4) (hq : q4 + 64 * (sgN th 3 + 3) ≤ 65536) (hc : c ≤ 65536) (h2 : q2 < 2 ^ 31) (h3 : q3 < 2 ^ 31) (hTX : TX < 2 ^ 31) (hd : ∀ p k y, M p k y → 64 ≤ p ∧ p + k ≤ q4 + 64 * (sgN th 3 + 1)) (hI : OWf H W M σ0 σ c) : Sm m h (fun σ' => OWf H W (fun p k x => M p k x ∨ ((p = q4 + (64 + 64 * sgN th 3 + 4) ∧ k = 4 ∧ x = 2) ∨ (p = q4 + (64 + 64 * sgN th 3 + 24) ∧ k = 8 ∧ x = q2) ∨ (p = q4 + (64 + 64 * sgN th 3 + 32) ∧ k = 8 ∧ x = 24 * (nD + 1)) ∨ (p = q4 + (64 + 64 * sgN th 3 + 40) ∧ k = 4 ∧ x = sgN th 3 + 2) ∨ (p = q4 + (128 + 64 * sgN th 3 + 4) ∧ k = 4 ∧ x = 3) ∨ (p = q4 + (128 + 64 * sgN th 3 + 24) ∧ k = 8 ∧ x = q3) ∨ (p = q4 + (128 + 64 * sgN th 3 + 32) ∧ k = 8 ∧ x = TX)) ∨ HDL q4 (sgN th 3) p k x) σ0 σ' c) (fun v => v = x5) (f_M_named_443 F m (nI TX) (nI q2) (nI q3) (nI q4) x5 (mh m h σ)) := by
  have hMs := NMs_O hM hI.1.1.1
  have h15 := hMs.2.1.1
  have h48 := hMs.2.2.2.1
  have hN := hM.2.2.1
  have hsg := sgN_le (th := th) 3
  have g15 : ∀ {M' : Nat → Nat → Nat → Prop} {σ : px_S}, OWf H W M' σ0 σ c → gI σ 15 = nI (sgN th 3) := fun hi => (NMs_O hM hi.1.1.1).2.1.1
  have g48 : ∀ {M' : Nat → Nat → Nat → Prop} {σ : px_S}, OWf H W M' σ0 σ c → gI σ 48 = nI nD := fun hi => (NMs_O hM hi.1.1.1).2.2.2.1
  generalize sgN th 3 = ns at *
  unfold f_M_named_443
  rw [Mg15 hm, bs, h15, nI_add, show nI 64 * nI (ns + 1) = nI (64 * (ns + 1)) from (Int32.ofNat_mul _ _).symm, nI_add]
  rw [nI_add, show (2 : Int64) = lN 2 from rfl]
  refine qf_puX hm hF hI (by omega) (by decide) (by decide) (hexH (by omega)) (fun p k y hp => by have := hd p k y hp; omega) (fun σ1 i1 => ?_)
  rw [nI_add, nI_l h2]
  refine qf_puX hm hF i1 (by omega) (by decide) (by omega) (hexH (by omega)) (fun p k y hp => by
    rcases hp with hp | ⟨e1, e2, _⟩
    · have := hd p k y hp; omega
    · omega) (fun σ2 i2 => ?_)
  rw [Mg48 hm, bs, g48 i2, nI_add, show (24 : Int64) = lN 24 from rfl, nI_add, nI_l (by omega), lN_mul]
  refine qf_puX hm hF i2 (by omega) (by decide) (by omega) (hexH (by omega)) (fun p k y hp => by
    rcases hp with (hp | ⟨e1, e2, _⟩) | ⟨e1, e2, _⟩
    · have := hd p k y hp; omega
    · omega
    · omega) (fun σ3 i3 => ?_)
  rw [Mg15 hm, bs, g15 i3, nI_add, nI_add, nI_l (by omega)]
  refine qf_puX hm hF i3 (by omega) (by decide) (by omega) (hexH (by omega)) (fun p k y hp => by
    rcases hp with ((hp | ⟨e1, e2, _⟩) | ⟨e1, e2, _⟩) | ⟨e1, e2, _⟩
    · have := hd p k y hp; omega
    · omega
    · omega
    · omega) (fun σ4 i4 => ?_)
  have d4 : ∀ {a n : Nat}, q4 + 64 * (ns + 1) + 44 ≤ a → ∀ p k y, adM (adM (adM (adM M (q4 + 64 * (ns + 1) + 4) 4 2) (q4 + 64 * (ns + 1) + 24) 8 q2) (q4 + 64 * (ns + 1) + 32) 8 (24 * (nD + 1))) (q4 + 64 * (ns + 1) + 40) 4 (ns + 2) p k y → p + k ≤ a ∨ a + n ≤ p := fun {a n} ha p k y hp => by
    rcases hp with (((hp | ⟨e1, e2, _⟩) | ⟨e1, e2, _⟩) | ⟨e1, e2, _⟩) | ⟨e1, e2, _⟩
    · have := hd p k y hp; omega
    · omega
    · omega
    · omega
    · omega
  rw [nI_add]
  refine qf_puA hm hF i4 (by omega) (by decide) (hexH (by omega)) (d4 (by omega)) (fun σ5 i5 => ?_)
  rw [nI_add]
  refine qf_puA hm hF i5 (by omega) (by decide) (hexH (by omega)) (d4 (by omega)) (fun σ6 i6 => ?_)
  rw [nI_add]
  refine qf_puA hm hF i6 (by omega) (by decide) (hexH (by omega)) (d4 (by omega)) (fun σ7 i7 => ?_)
  rw [nI_add, show (3 : Int64) = lN 3 from rfl]
  refine qf_puX hm hF i7 (by omega) (by decide) (by decide) (hexH (by omega)) (d4 (by omega)) (fun σ8 i8 => ?_)
  rw [nI_add, nI_l h3]
  refine qf_puX hm hF i8 (by omega) (by decide) (by omega) (hexH (by omega)) (fun p k y hp => by
    rcases hp with hp | ⟨e1, e2, _⟩
    · exact d4 (by omega) p k y hp
    · omega) (fun σ9 i9 => ?_)
  rw [nI_add, nI_l hTX]
  refine qf_puX hm hF i9 (by omega) (by decide) (by omega) (hexH (by omega)) (fun p k y hp => by
    rcases hp with (hp | ⟨e1, e2, _⟩) | ⟨e1, e2, _⟩
    · exact d4 (by omega) p k y hp
    · omega
    · omega) (fun σa ia => ?_)
  rw [nI_add]
  refine qf_puA hm hF ia (by omega) (by decide) (hexH (by omega)) (fun p k y hp => by
    rcases hp with ((hp | ⟨e1, e2, _⟩) | ⟨e1, e2, _⟩) | ⟨e1, e2, _⟩
    · exact d4 (by omega) p k y hp
    · omega
    · omega
    · omega) (fun σb ib => ?_)
  -- the head
  have ge : ∀ p k y, adM (adM (adM (adM (adM (adM (adM M (q4 + 64 * (ns + 1) + 4) 4 2) (q4 + 64 * (ns + 1) + 24) 8 q2) (q4 + 64 * (ns + 1) + 32) 8 (24 * (nD + 1))) (q4 + 64 * (ns + 1) + 40) 4 (ns + 2)) (q4 + 64 * (ns + 1) + 68) 4 3) (q4 + 64 * (ns + 1) + 88) 8 q3) (q4 + 64 * (ns + 1) + 96) 8 TX p k y → 64 ≤ p := fun p k y hp => by
    rcases hp with ((((((hp | ⟨e1, e2, _⟩) | ⟨e1, e2, _⟩) | ⟨e1, e2, _⟩) | ⟨e1, e2, _⟩) | ⟨e1, e2, _⟩) | ⟨e1, e2, _⟩) | ⟨e1, e2, _⟩
    · exact (hd p k y hp).1
    · omega
    · omega
    · omega
    · omega
    · omega
    · omega
    · omega
  obtain ⟨M7, eM7⟩ : ∃ M7, M7 = adM (adM (adM (adM (adM (adM (adM M (q4 + 64 * (ns + 1) + 4) 4 2) (q4 + 64 * (ns + 1) + 24) 8 q2) (q4 + 64 * (ns + 1) + 32) 8 (24 * (nD + 1))) (q4 + 64 * (ns + 1) + 40) 4 (ns + 2)) (q4 + 64 * (ns + 1) + 68) 4 3) (q4 + 64 * (ns + 1) + 88) 8 q3) (q4 + 64 * (ns + 1) + 96) 8 TX := ⟨_, rfl⟩
  rw [← eM7] at ib ge
  rw [nI_l (by omega)]
  refine qf_puX (q := 40) (n := 8) hm hF ib (by decide) (by decide) (by omega) (fun i g1 g2 _ => by unfold Ex7; omega) (fun p k y hp => by have := ge p k y hp; omega) (fun σc ic => ?_)
  rw [show (64 : Int64) = lN 64 from rfl]
  refine qf_puX (q := 58) (n := 2) hm hF ic (by decide) (by decide) (by decide) (fun i g1 g2 _ => by unfold Ex7; omega) (fun p k y hp => by
    rcases hp with hp | ⟨e1, e2, _⟩
    · have := ge p k y hp; omega
    · omega) (fun σd id' => ?_)
  rw [Mg15 hm, bs, g15 id', nI_add, nI_l (by omega)]
  refine qf_puX (q := 60) (n := 2) hm hF id' (by decide) (by decide) (by omega) (fun i g1 g2 _ => by unfold Ex7; omega) (fun p k y hp => by
    rcases hp with (hp | ⟨e1, e2, _⟩) | ⟨e1, e2, _⟩
    · have := ge p k y hp; omega
    · omega
    · omega) (fun σe ie => ?_)
  rw [Mg15 hm, bs]
  refine qf_puA (q := 62) (n := 2) hm hF ie (by decide) (by decide) (fun i g1 g2 _ => by unfold Ex7; omega) (fun p k y hp => by
    rcases hp with ((hp | ⟨e1, e2, _⟩) | ⟨e1, e2, _⟩) | ⟨e1, e2, _⟩
    · have := ge p k y hp; omega
    · omega
    · omega
    · omega) (fun σf if' => sm_r rfl (OWf_mo if' (fun p k x hp => ?_)))
  rw [eM7]
  rcases hp with hp | (⟨e1, e2, e3⟩ | ⟨e1, e2, e3⟩ | ⟨e1, e2, e3⟩ | ⟨e1, e2, e3⟩ | ⟨e1, e2, e3⟩ | ⟨e1, e2, e3⟩ | ⟨e1, e2, e3⟩) | (⟨e1, e2, e3⟩ | ⟨e1, e2, e3⟩ | ⟨e1, e2, e3⟩)
  · exact Or.inl (Or.inl (Or.inl (Or.inl (Or.inl (Or.inl (Or.inl (Or.inl (Or.inl (Or.inl hp)))))))))
  · exact Or.inl (Or.inl (Or.inl (Or.inl (Or.inl (Or.inl (Or.inl (Or.inl (Or.inl (Or.inr ⟨by omega, e2, e3⟩)))))))))
  · exact Or.inl (Or.inl (Or.inl (Or.inl (Or.inl (Or.inl (Or.inl (Or.inl (Or.inr ⟨by omega, e2, e3⟩))))))))
  · exact Or.inl (Or.inl (Or.inl (Or.inl (Or.inl (Or.inl (Or.inl (Or.inr ⟨by omega, e2, e3⟩)))))))
  · exact Or.inl (Or.inl (Or.inl (Or.inl (Or.inl (Or.inl (Or.inr ⟨by omega, e2, e3⟩))))))
  · exact Or.inl (Or.inl (Or.inl (Or.inl (Or.inl (Or.inr ⟨by omega, e2, e3⟩)))))
  · exact Or.inl (Or.inl (Or.inl (Or.inl (Or.inr ⟨by omega, e2, e3⟩))))
  · exact Or.inl (Or.inl (Or.inl (Or.inr ⟨by omega, e2, e3⟩)))
  · exact Or.inl (Or.inl (Or.inr ⟨e1, e2, e3⟩))
  · exact Or.inl (Or.inr ⟨e1, e2, e3⟩)
  · exact Or.inr ⟨e1, e2, e3⟩
end MNF
end
section
/-! named of the reference: its loops, with the numbers of the tables -/
/-- what the link left of the definitions: infos, addresses, letters -/
def NMi (σ : px_S) (nD : Nat) (df : Nat → Nat) (ad : Nat → Nat) (wt : Nat → List Nat) : Prop := ∀ i, i < nD → isI (gA σ 38 (df i)) ∧ gB σ 29 (df i) = lN (ad i) ∧ ad i < 2 ^ 64 ∧ ∀ t, t < (wt i).length → (gA σ 21 (20 * df i + t)).toInt8.toInt32 = nB ((wt i).getD t 0) 0
/-- where names begin, out of their lengths -/
abbrev xoF (lf : Nat → Nat) (i : Nat) : Nat := 1 + sumT (fun i => lf i + 1) i
theorem xoF_s (lf : Nat → Nat) (i : Nat) : xoF lf (i + 1) = xoF lf i + (lf i + 1) := by
  show 1 + (sumT (fun i => lf i + 1) i + (lf i + 1)) = 1 + sumT (fun i => lf i + 1) i + (lf i + 1)
  omega
theorem xoF_le {lf : Nat → Nat} {i j : Nat} (h : i ≤ j) : xoF lf i ≤ xoF lf j := Nat.add_le_add_left (sumT_le h) 1
theorem xoF_lt {lf : Nat → Nat} {i j : Nat} (h : i < j) : xoF lf i + (lf i + 1) ≤ xoF lf j := by
  rw [← xoF_s]
  exact xoF_le h
/-- the numbers up to the symbol i -/
def MNu (q2 q3 q4 nD : Nat) (lf nf wh ad : Nat → Nat) (wt : Nat → List Nat) (i p k x : Nat) : Prop := SYL q2 (xoF lf) nf wh ad i p k x ∨ LTa q3 (xoF lf) wt i p k x ∨ ZRL q3 (xoF lf) wt nD q4 p k x
section MNG
variable {F m : Nat} {h : px_H} {σ0 σ : px_S} {c e nD H : Nat} {th : Nat → Bool} {lf df ad : Nat → Nat} {wt : Nat → List Nat} {I : px_S → Prop} {W : Nat → Int32} {M : Nat → Nat → Nat → Prop}
theorem NMi_O (hM : NMi σ0 nD df ad wt) (hI : OWi σ0 σ c) : NMi σ nD df ad wt := fun i hi => by
  rw [hI.1.2.2.1 38 (by decide), hI.1.2.2.2 29 (by decide), hI.1.2.2.1 21 (by decide)]
  exact hM i hi
theorem qf_nm403 {x5 : Int32} {q2 q3 q4 TX : Nat} (hm : m ≤ h.length) (hF : 65540 < F) (hM : NMs σ0 e nD th lf df) (h64 : 64 ≤ q4) (hH4 : H ≤ q4) (hq : q4 + 64 * (sgN th 3 + 3) ≤ 65536) (hc : c ≤ 65536) (h2 : q2 < 2 ^ 31) (h3 : q3 < 2 ^ 31) (hTX : TX < 2 ^ 31) (hd : ∀ p k y, M p k y → 64 ≤ p ∧ p + k ≤ q4 + 64) : ∀ (d i f : Nat) (σ : px_S), i + d = 3 → d < f → OWf H W (fun p k x => M p k x ∨ ∃ s, s < sgN th i ∧ p = q4 + (64 + 64 * s + 4) ∧ k = 4 ∧ x = 1) σ0 σ c → Sm m h (fun σ' => OWf H W (fun p k x => (M p k x ∨ ∃ s, s < sgN th 3 ∧ p = q4 + (64 + 64 * s + 4) ∧ k = 4 ∧ x = 1) ∨ ((p = q4 + (64 + 64 * sgN th 3 + 4) ∧ k = 4 ∧ x = 2) ∨ (p = q4 + (64 + 64 * sgN th 3 + 24) ∧ k = 8 ∧ x = q2) ∨ (p = q4 + (64 + 64 * sgN th 3 + 32) ∧ k = 8 ∧ x = 24 * (nD + 1)) ∨ (p = q4 + (64 + 64 * sgN th 3 + 40) ∧ k = 4 ∧ x = sgN th 3 + 2) ∨ (p = q4 + (128 + 64 * sgN th 3 + 4) ∧ k = 4 ∧ x = 3) ∨ (p = q4 + (128 + 64 * sgN th 3 + 24) ∧ k = 8 ∧ x = q3) ∨ (p = q4 + (128 + 64 * sgN th 3 + 32) ∧ k = 8 ∧ x = TX)) ∨ HDL q4 (sgN th 3) p k x) σ0 σ' c) (fun v => v = x5) (f_M_named_403 F f m (nI TX) (nI q2) (nI q3) (nI q4) x5 (nI i) (mh m h σ)) := by
  intro d
  induction d with
  | zero =>
    intro i f σ hi hf hI
    obtain ⟨f, rfl⟩ : ∃ y, f = y + 1 := ⟨f - 1, by omega⟩
    obtain rfl : i = 3 := by omega
    unfold f_M_named_403
    rw [if_pos (nI_le (by omega) (by omega))]
    exact qf_nm443 hm hF hM h64 hH4 hq hc h2 h3 hTX (fun p k y hp => by
      rcases hp with hp | ⟨s, hs, e1, e2, _⟩
      · have := hd p k y hp; omega
      · omega) hI
  | succ d ih =>
    intro i f σ hi hf hI
    obtain ⟨f, rfl⟩ : ∃ y, f = y + 1 := ⟨f - 1, by omega⟩
    have hm59 := (NMs_O hM hI.1.1.1).2.1.2
    have hle := sgN_m (th := th) (show i + 1 ≤ 3 by omega)
    have es : sgN th (i + 1) = sgN th i + (if th i = true then 1 else 0) := rfl
    have go := fun σ hi => ih (i + 1) f σ (by omega) (by omega) hi
    unfold f_M_named_403 f_M_named_437
    rw [if_neg (nI_ge (by omega) (by omega)), Mr59 hm, bs, Ma59 hm (by omega), bs, nI_add, hm59 i (by omega)]
    cases et : th i with
    | false =>
      rw [et, if_neg (by decide)] at es
      rw [if_pos (show bI false = 0 from rfl)]
      exact go σ (OWf_mo hI (fun p k x hp => by
        rcases hp with hp | ⟨s, hs, w⟩
        · exact Or.inl hp
        · exact Or.inr ⟨s, by omega, w⟩))
    | true =>
      rw [et, if_pos rfl] at es
      rw [if_neg (show ¬ bI true = 0 by decide), e_o hm, bs, q_no hm (by omega) hm59 (by omega), xb_mk, show nI 64 * nI (sgN th (i + 1)) = nI (64 * sgN th (i + 1)) from (Int32.ofNat_mul _ _).symm, nI_add]
      refine sm_o hm (fun _ => sm_x (qf_seg hm hF (by omega) (by omega) (by omega) (fun p k y hp => ?_) hI) (fun _ σ1 _ i1 => ?_))
      · rcases hp with hp | ⟨s, hs, e1, e2, _⟩
        · have := hd p k y hp; omega
        · omega
      · exact go σ1 (OWf_mo i1 (fun p k x hp => by
          rcases hp with hp | ⟨s, hs, e1, e2, e3⟩
          · exact Or.inl (Or.inl hp)
          · by_cases cs : s < sgN th i
            · exact Or.inl (Or.inr ⟨s, cs, e1, e2, e3⟩)
            · exact Or.inr ⟨by omega, e2, e3⟩))
/-- the letters of a name -/
theorem qf_nm340 {V : Int32 → Prop} {k167 : Nat → Int32 → Int32 → Int32 → Int32 → Int32 → Int32 → px_H → Option (Int32 × px_H)} {x2 x4 x5 : Int32} {x q3 i d' : Nat} {w : List Nat} (hm : m ≤ h.length) (hd' : d' < 4096) (e22 : gA σ0 22 d' = nI w.length) (hl : w.length ≤ 20) (hH3 : H ≤ q3) (hq : q3 + x + w.length ≤ 65536) (hx : x < 2 ^ 20) (hlet : ∀ t, t < w.length → (gA σ0 21 (20 * d' + t)).toInt8.toInt32 = nB (w.getD t 0) 0) (hdis : ∀ p k y, M p k y → p + k ≤ q3 + x ∨ q3 + x + w.length ≤ p) (hK : ∀ σ, OWf H W (fun p k y => M p k y ∨ (k = 1 ∧ ∃ t, t < w.length ∧ p = q3 + x + t ∧ y = w.getD t 0)) σ0 σ c → Sm m h I V (k167 m (nI (x + (w.length + 1))) x2 (nI q3) x4 x5 (nI (i + 1)) (mh m h σ))) : ∀ (d j f : Nat) (σ : px_S), j + d = w.length → d < f → OWf H W (fun p k y => M p k y ∨ (k = 1 ∧ ∃ t, t < j ∧ p = q3 + x + t ∧ y = w.getD t 0)) σ0 σ c → Sm m h I V (f_M_named_340 F k167 f m (nI x) x2 (nI q3) x4 x5 (nI i) (nI d') (nI j) (mh m h σ)) := by
  intro d
  induction d with
  | zero =>
    intro j f σ hj hf hI
    obtain ⟨f, rfl⟩ : ∃ y, f = y + 1 := ⟨f - 1, by omega⟩
    obtain rfl : j = w.length := by omega
    have g22 : gA σ 22 d' = nI w.length := by rw [hI.1.1.1.1.2.2.1 22 (by decide)]; exact e22
    unfold f_M_named_340 f_M_named_382
    rw [Mr22 hm, bs, Ma22 hm hd', bs, g22, if_pos (nI_le (by omega) (by omega)), bs, Ma22 hm hd', bs, g22, nI_add, nI_add, nI_add]
    exact hK σ hI
  | succ d ih =>
    intro j f σ hj hf hI
    obtain ⟨f, rfl⟩ : ∃ y, f = y + 1 := ⟨f - 1, by omega⟩
    have g22 : gA σ 22 d' = nI w.length := by rw [hI.1.1.1.1.2.2.1 22 (by decide)]; exact e22
    have g21 : (gA σ 21 (20 * d' + j)).toInt8.toInt32 = nB (w.getD j 0) 0 := by rw [hI.1.1.1.1.2.2.1 21 (by decide)]; exact hlet j (by omega)
    unfold f_M_named_340
    rw [Mr22 hm, bs, Ma22 hm hd', bs, g22, if_neg (nI_ge (by omega) (by omega)), Mr3 hm, bs, Mr21 hm, bs, show nI 20 * nI d' = nI (20 * d') from (Int32.ofNat_mul _ _).symm, nI_add, Ma21 hm (by omega), bs, nI_add, nI_add, nI_add]
    refine qf_w3 hm hI (by omega) (by omega) g21 (fun p k y hp => ?_) (fun σ1 i1 => ih _ _ _ (by omega) (by omega) (OWf_mo i1 (fun p k y hp => ?_)))
    · rcases hp with hp | ⟨e1, t, ht, e2, _⟩
      · have := hdis p k y hp; omega
      · omega
    · rcases hp with hp | ⟨e1, t, ht, e2, e3⟩
      · exact Or.inl (Or.inl hp)
      · by_cases ct : t < j
        · exact Or.inl (Or.inr ⟨e1, t, ct, e2, e3⟩)
        · obtain rfl : t = j := by omega
          exact Or.inr ⟨e2, e1, e3⟩
/-- the symbols, with their letters -/
theorem qf_nm167 {x5 : Int32} {q2 q3 q4 : Nat} (hm : m ≤ h.length) (hF : 65540 < F) (hM : NMs σ0 e nD th lf df) (hi0 : NMi σ0 nD df ad wt) (hwl : ∀ i, i < nD → (wt i).length = lf i) (h64 : 64 ≤ q2) (hH2 : H ≤ q2) (h23 : q2 + 24 * (nD + 1) ≤ q3) (h34 : q3 + xoF lf nD ≤ q4) (hq : q4 + 64 * (sgN th 3 + 3) ≤ 65536) (hc : c ≤ 65536) : ∀ (d i f : Nat) (nf wh : Nat → Nat) (σ : px_S), i + d = nD → d < f → SYo nf wh i → OWf H W (MNu q2 q3 q4 nD lf nf wh ad wt i) σ0 σ c → Sm m h (fun σ' => ∃ nf wh, SYo nf wh nD ∧ OWf H W (fun p k x => (MNu q2 q3 q4 nD lf nf wh ad wt nD p k x ∨ ∃ s, s < sgN th 3 ∧ p = q4 + (64 + 64 * s + 4) ∧ k = 4 ∧ x = 1) ∨ ((p = q4 + (64 + 64 * sgN th 3 + 4) ∧ k = 4 ∧ x = 2) ∨ (p = q4 + (64 + 64 * sgN th 3 + 24) ∧ k = 8 ∧ x = q2) ∨ (p = q4 + (64 + 64 * sgN th 3 + 32) ∧ k = 8 ∧ x = 24 * (nD + 1)) ∨ (p = q4 + (64 + 64 * sgN th 3 + 40) ∧ k = 4 ∧ x = sgN th 3 + 2) ∨ (p = q4 + (128 + 64 * sgN th 3 + 4) ∧ k = 4 ∧ x = 3) ∨ (p = q4 + (128 + 64 * sgN th 3 + 24) ∧ k = 8 ∧ x = q3) ∨ (p = q4 + (128 + 64 * sgN th 3 + 32) ∧ k = 8 ∧ x = xoF lf nD)) ∨ HDL q4 (sgN th 3) p k x) σ0 σ' c) (fun v => v = x5) (f_M_named_167 F f m (nI (xoF lf i)) (nI q2) (nI q3) (nI q4) x5 (nI i) (mh m h σ)) := by
  have hN := hM.2.2.1
  intro d
  induction d with
  | zero =>
    intro i f nf wh σ hi hf hs hI
    obtain ⟨f, rfl⟩ : ∃ y, f = y + 1 := ⟨f - 1, by omega⟩
    obtain rfl : i = nD := by omega
    unfold f_M_named_167 f_M_named_400
    rw [Mg48 hm, bs, (NMs_O hM hI.1.1.1).2.2.2.1, if_pos (nI_le (by omega) (by omega))]
    have hdd : ∀ p k y, MNu q2 q3 q4 i lf nf wh ad wt i p k y → 64 ≤ p ∧ p + k ≤ q4 + 64 := fun p k y hp => by
      rcases hp with ⟨j, hj, e | e | e | e⟩ | ⟨e1, j, hj, t, ht, e2, _⟩ | (⟨e1, _, j, hj, e2⟩ | ⟨e1, e2, _⟩)
      · omega
      · omega
      · omega
      · omega
      · have := xoF_lt (lf := lf) hj
        have := hwl j hj
        omega
      · have := xoF_lt (lf := lf) hj
        have := hwl j hj
        omega
      · omega
    exact sm_wI (qf_nm403 (σ0 := σ0) (W := W) (M := MNu q2 q3 q4 i lf nf wh ad wt i) hm hF hM (by omega) (by omega) hq hc (by omega) (by omega) (by omega) hdd 3 0 F σ rfl (by omega) (OWf_mo hI (fun p k x hp => by
      rcases hp with hp | ⟨s, hs, _⟩
      · exact hp
      · exact absurd hs (Nat.not_lt_zero _)))) (fun σ2 w => ⟨nf, wh, hs, w⟩)
  | succ d ih =>
    intro i f nf wh σ hi hf hs hI
    obtain ⟨f, rfl⟩ : ∃ y, f = y + 1 := ⟨f - 1, by omega⟩
    have hMs := NMs_O hM hI.1.1.1
    obtain ⟨e49, hd, e22, hl, hok⟩ := hMs.2.2.2.2 i (by omega)
    have e22' := (hM.2.2.2.2 i (by omega)).2.2.1
    have hwi := hwl i (by omega)
    obtain ⟨⟨v, v1, v2, v3⟩, a1, a2, a3⟩ := hi0 i (by omega)
    have hxi := xoF_lt (lf := lf) (show i < nD by omega)
    have h59 := hMs.2.1.2
    have hpre : ∀ p k y, MNu q2 q3 q4 nD lf nf wh ad wt i p k y → (p + k ≤ q2 + 24 * (i + 1) ∨ q3 ≤ p) ∧ (p + k ≤ q3 + xoF lf i ∨ q3 + xoF lf i + lf i ≤ p) := fun p k y hp => by
      rcases hp with ⟨j, hj, e | e | e | e⟩ | ⟨e1, j, hj, t, ht, e2, _⟩ | (⟨e1, _, j, hj, e2⟩ | ⟨e1, e2, _⟩)
      · omega
      · omega
      · omega
      · omega
      · have := xoF_lt (lf := lf) hj
        have := hwl j (by omega)
        omega
      · have hwj := hwl j hj
        rcases Nat.lt_trichotomy j i with cj | cj | cj
        · have := xoF_lt (lf := lf) cj
          omega
        · rw [cj] at e2 hwj
          omega
        · have := xoF_lt (lf := lf) cj
          omega
      · omega
    unfold f_M_named_167
    rw [Mg48 hm, bs, hMs.2.2.2.1, if_neg (nI_ge (by omega) (by omega)), Mr49 hm, bs, Ma49 hm (by omega), bs, e49, Mr39 hm, bs, Ma39 hm hd, bs, nI_add, show nI 24 * nI (i + 1) = nI (24 * (i + 1)) from (Int32.ofNat_mul _ _).symm, nI_add]
    -- the rest of a symbol, then its letters
    have fin : ∀ {w8 : Nat} {σ2 : px_S}, 0 < w8 → w8 < 65536 → OWf H W (adM (adM (MNu q2 q3 q4 nD lf nf wh ad wt i) (q2 + 24 * (i + 1)) 4 (xoF lf i)) (q2 + 24 * (i + 1) + 4) 1 v) σ0 σ2 c → Sm m h (fun σ' => ∃ nf wh, SYo nf wh nD ∧ OWf H W (fun p k x => (MNu q2 q3 q4 nD lf nf wh ad wt nD p k x ∨ ∃ s, s < sgN th 3 ∧ p = q4 + (64 + 64 * s + 4) ∧ k = 4 ∧ x = 1) ∨ ((p = q4 + (64 + 64 * sgN th 3 + 4) ∧ k = 4 ∧ x = 2) ∨ (p = q4 + (64 + 64 * sgN th 3 + 24) ∧ k = 8 ∧ x = q2) ∨ (p = q4 + (64 + 64 * sgN th 3 + 32) ∧ k = 8 ∧ x = 24 * (nD + 1)) ∨ (p = q4 + (64 + 64 * sgN th 3 + 40) ∧ k = 4 ∧ x = sgN th 3 + 2) ∨ (p = q4 + (128 + 64 * sgN th 3 + 4) ∧ k = 4 ∧ x = 3) ∨ (p = q4 + (128 + 64 * sgN th 3 + 24) ∧ k = 8 ∧ x = q3) ∨ (p = q4 + (128 + 64 * sgN th 3 + 32) ∧ k = 8 ∧ x = xoF lf nD)) ∨ HDL q4 (sgN th 3) p k x) σ0 σ' c) (fun v => v = x5) (f_M_named_297 F (f_M_named_167 F f) m (nI (xoF lf i)) (nI q2) (nI q3) (nI q4) x5 (nI i) (nI (df i)) (nI (q2 + 24 * (i + 1))) m (nI (q2 + 24 * (i + 1) + 6)) (lN w8) (mh m h σ2)) := fun {w8 σ2} g1 g2 i2 => by
      unfold f_M_named_297
      refine qf_puX hm hF i2 (by omega) (by decide) (by omega) (hexH (by omega)) (fun p k y hp => ?_) (fun σ3 i3 => ?_)
      · rcases hp with (hp | ⟨e1, e2, _⟩) | ⟨e1, e2, _⟩
        · have := (hpre p k y hp).1; omega
        · omega
        · omega
      rw [Mr29 hm, bs, Ma29 hm hd, bs, i3.1.1.1.1.2.2.2 29 (by decide), a1, nI_add]
      refine qf_puX hm hF i3 (by omega) (by decide) a2 (hexH (by omega)) (fun p k y hp => ?_) (fun σ4 i4 => ?_)
      · rcases hp with ((hp | ⟨e1, e2, _⟩) | ⟨e1, e2, _⟩) | ⟨e1, e2, _⟩
        · have := (hpre p k y hp).1; omega
        · omega
        · omega
        · omega
      rw [Mr41 hm, bs, Ma41 hm hd, bs, nI_add]
      refine qf_puA hm hF i4 (by omega) (by decide) (hexH (by omega)) (fun p k y hp => ?_) (fun σ5 i5 => ?_)
      · rcases hp with (((hp | ⟨e1, e2, _⟩) | ⟨e1, e2, _⟩) | ⟨e1, e2, _⟩) | ⟨e1, e2, _⟩
        · have := (hpre p k y hp).1; omega
        · omega
        · omega
        · omega
        · omega
      refine qf_nm340 (M := adM (adM (adM (adM (MNu q2 q3 q4 nD lf nf wh ad wt i) (q2 + 24 * (i + 1)) 4 (xoF lf i)) (q2 + 24 * (i + 1) + 4) 1 v) (q2 + 24 * (i + 1) + 6) 2 w8) (q2 + 24 * (i + 1) + 8) 8 (ad i)) (w := wt i) hm hd (by rw [hwi]; exact e22') (by omega) (by omega) (by omega) (by omega) a3 (fun p k y hp => ?_) (fun σ6 i6 => ?_) (wt i).length 0 F σ5 (Nat.zero_add _) (by omega) (OWf_mo i5 (fun p k y hp => ?_))
      · rcases hp with (((hp | ⟨e1, e2, _⟩) | ⟨e1, e2, _⟩) | ⟨e1, e2, _⟩) | ⟨e1, e2, _⟩
        · have := (hpre p k y hp).2; omega
        · omega
        · omega
        · omega
        · omega
      · rw [hwi, ← xoF_s]
        refine ih (i + 1) f (fun j => if j = i then v else nf j) (fun j => if j = i then w8 else wh j) σ6 (by omega) (by omega) (fun j hj => ?_) (OWf_mo i6 (fun p k y hp => ?_))
        · dsimp only
          by_cases cj : j = i
          · rw [if_pos cj, if_pos cj]
            exact ⟨⟨v1, v3⟩, g1, g2⟩
          · rw [if_neg cj, if_neg cj]
            exact hs j (by omega)
        · rcases hp with ⟨j, hj, hp⟩ | ⟨e1, j, hj, t, ht, e2, e3⟩ | hp
          · dsimp only at hp
            by_cases cj : j = i
            · rw [if_pos cj, if_pos cj, cj] at hp
              rcases hp with e | e | e | e
              · exact Or.inl (Or.inl (Or.inl (Or.inl (Or.inr e))))
              · exact Or.inl (Or.inl (Or.inl (Or.inr e)))
              · exact Or.inl (Or.inl (Or.inr e))
              · exact Or.inl (Or.inr e)
            · rw [if_neg cj, if_neg cj] at hp
              exact Or.inl (Or.inl (Or.inl (Or.inl (Or.inl (Or.inl ⟨j, by omega, hp⟩)))))
          · by_cases cj : j = i
            · rw [cj] at ht e2 e3
              exact Or.inr ⟨e1, t, ht, e2, e3⟩
            · exact Or.inl (Or.inl (Or.inl (Or.inl (Or.inl (Or.inr (Or.inl ⟨e1, j, by omega, t, ht, e2, e3⟩))))))
          · exact Or.inl (Or.inl (Or.inl (Or.inl (Or.inl (Or.inr (Or.inr hp))))))
      · rcases hp with hp | ⟨_, t, ht, _⟩
        · exact hp
        · exact absurd ht (Nat.not_lt_zero _)
    have f240 : ∀ {s0 : Int32}, (s0 = 0 ∨ ∃ s, s < 3 ∧ gA σ 39 (df i) = nI s ∧ th s = true) → Sm m h (fun σ' => ∃ nf wh, SYo nf wh nD ∧ OWf H W (fun p k x => (MNu q2 q3 q4 nD lf nf wh ad wt nD p k x ∨ ∃ s, s < sgN th 3 ∧ p = q4 + (64 + 64 * s + 4) ∧ k = 4 ∧ x = 1) ∨ ((p = q4 + (64 + 64 * sgN th 3 + 4) ∧ k = 4 ∧ x = 2) ∨ (p = q4 + (64 + 64 * sgN th 3 + 24) ∧ k = 8 ∧ x = q2) ∨ (p = q4 + (64 + 64 * sgN th 3 + 32) ∧ k = 8 ∧ x = 24 * (nD + 1)) ∨ (p = q4 + (64 + 64 * sgN th 3 + 40) ∧ k = 4 ∧ x = sgN th 3 + 2) ∨ (p = q4 + (128 + 64 * sgN th 3 + 4) ∧ k = 4 ∧ x = 3) ∨ (p = q4 + (128 + 64 * sgN th 3 + 24) ∧ k = 8 ∧ x = q3) ∨ (p = q4 + (128 + 64 * sgN th 3 + 32) ∧ k = 8 ∧ x = xoF lf nD)) ∨ HDL q4 (sgN th 3) p k x) σ0 σ' c) (fun v => v = x5) (f_M_named_240 F (f_M_named_167 F f) m (nI (xoF lf i)) (nI q2) (nI q3) (nI q4) x5 (nI i) (nI (df i)) (nI (q2 + 24 * (i + 1))) s0 (mh m h σ)) := fun {s0} hs0 => by
      unfold f_M_named_240
      rw [nI_l (show xoF lf i < 2 ^ 31 by omega)]
      refine qf_puX hm hF hI (by omega) (by decide) (by omega) (hexH (by omega)) (fun p k y hp => by have := (hpre p k y hp).1; omega) (fun σ1 i1 => ?_)
      rw [Mr38 hm, bs, Ma38 hm hd, bs, i1.1.1.1.1.2.2.1 38 (by decide), v2, nI_add, nI_l (by omega)]
      refine qf_puX hm hF i1 (by omega) (by decide) (by omega) (hexH (by omega)) (fun p k y hp => ?_) (fun σ2 i2 => ?_)
      · rcases hp with hp | ⟨e1, e2, _⟩
        · have := (hpre p k y hp).1; omega
        · omega
      rw [nI_add, show (65521 : Int64) = lN 65521 from rfl]
      rcases hs0 with w | ⟨s, w1, w2, w3⟩
      · rw [if_pos w]
        exact fin (by decide) (by decide) i2
      · refine sm_i (fun _ => fin (by decide) (by decide) i2) (fun _ => ?_)
        have g39 : gA σ2 39 (df i) = nI s := by rw [i2.1.1.1.1.2.2.1 39 (by decide), ← hI.1.1.1.1.2.2.1 39 (by decide)]; exact w2
        have es : sgN th (s + 1) = sgN th s + (if th s = true then 1 else 0) := rfl
        rw [w3, if_pos rfl] at es
        have hs3 := sgN_le (th := th) (s + 1)
        rw [Mr39 hm, bs, Ma39 hm hd, bs, g39, e_o hm, bs, q_no hm (by omega) (NMs_O hM i2.1.1.1).2.1.2 w1, xb_mk, nI_l (by omega)]
        exact fin (by omega) (by omega) i2
    obtain ⟨o, eo, ho⟩ := hok
    cases o with
    | none =>
      rw [eo, if_pos (show tdA none < 0 by decide)]
      unfold f_M_named_239
      exact f240 (Or.inl rfl)
    | some s =>
      have hs3 := ho s rfl
      have eo' : gA σ 39 (df i) = nI s := eo
      rw [eo', if_neg (show ¬ nI s < 0 from fun w => absurd w (Int32.not_lt.mpr (nI_0le (by omega)))), Mr59 hm, bs, bs, Ma39 hm hd, bs, eo', if_pos (nI_0le (by omega)), bs, Ma39 hm hd, bs, eo']
      unfold f_M_named_231 f_M_named_239
      rw [Ma59 hm hs3, bs, h59 s hs3]
      cases et : th s with
      | false => rw [if_pos (show bI false = 0 from rfl)]; exact f240 (Or.inl rfl)
      | true => rw [if_neg (show ¬ bI true = 0 by decide)]; exact f240 (Or.inr ⟨s, hs3, eo', et⟩)
end MNG
end
section
/-! named of the reference, whole (made by a program, mkfzz.py, out of fzm) -/
/-- all numbers of named's file -/
def MNz (q2 q3 q4 nD S : Nat) (lf nf wh ad : Nat → Nat) (wt : Nat → List Nat) (p k x : Nat) : Prop := (MNu q2 q3 q4 nD lf nf wh ad wt nD p k x ∨ ∃ s, s < S ∧ p = q4 + (64 + 64 * s + 4) ∧ k = 4 ∧ x = 1) ∨ ((p = q4 + (64 + 64 * S + 4) ∧ k = 4 ∧ x = 2) ∨ (p = q4 + (64 + 64 * S + 24) ∧ k = 8 ∧ x = q2) ∨ (p = q4 + (64 + 64 * S + 32) ∧ k = 8 ∧ x = 24 * (nD + 1)) ∨ (p = q4 + (64 + 64 * S + 40) ∧ k = 4 ∧ x = S + 2) ∨ (p = q4 + (128 + 64 * S + 4) ∧ k = 4 ∧ x = 3) ∨ (p = q4 + (128 + 64 * S + 24) ∧ k = 8 ∧ x = q3) ∨ (p = q4 + (128 + 64 * S + 32) ∧ k = 8 ∧ x = xoF lf nD)) ∨ HDL q4 S p k x
section MNH
variable {F m : Nat} {h : px_H} {σ0 σ : px_S} {c e nD H : Nat} {th : Nat → Bool} {lf df ad : Nat → Nat} {wt : Nat → List Nat} {I : px_S → Prop} {W : Nat → Int32}
theorem qf_nm116 {q2 q3 q4 q5 : Nat} (hm : m ≤ h.length) (hF : 65540 < F) (hM : NMs σ0 e nD th lf df) (hi0 : NMi σ0 nD df ad wt) (hwl : ∀ i, i < nD → (wt i).length = lf i) (h64 : 64 ≤ H) (h42 : ∀ k, isB (gA σ0 42 k)) (hHe : H ≤ e) (he2 : e ≤ q2) (h23 : q2 + 24 * (nD + 1) ≤ q3) (h34 : q3 + xoF lf nD ≤ q4) (hq5 : 64 * (sgN th 3 + 3) + q4 = q5) (h5 : q5 ≤ 65536) : ∀ (d j f : Nat) (σ : px_S), j + d = q5 → d < f → OWx σ0 σ c → (∀ i, i < j → i < e → gA σ 3 i = gA σ0 42 i) → (∀ i, i < j → e ≤ i → gA σ 3 i = nI 0) → Sm m h (fun σ' => ∃ nf wh, SYo nf wh nD ∧ OWf H (gA σ0 42) (MNz q2 q3 q4 nD (sgN th 3) lf nf wh ad wt) σ0 σ' q5) (fun v => v = nI q5) (f_M_named_116 F f m (nI q2) (nI q3) (nI q4) (nI q5) (nI j) (mh m h σ)) := by
  have hN := hM.2.2.1
  intro d
  induction d with
  | zero =>
    intro j f σ hj hf hI hC hZ
    obtain ⟨f, rfl⟩ : ∃ y, f = y + 1 := ⟨f - 1, by omega⟩
    unfold f_M_named_116 f_M_named_156
    rw [if_pos (nI_le (by omega) (by omega)), Mp4 hm, bs]
    have hz0 : ∀ j, j < 4 → nI 0 = nB 0 j := by decide +kernel
    have hO : OWf H (gA σ0 42) (MNu q2 q3 q4 nD lf (fun _ => 0) (fun _ => 0) ad wt 0) σ0 (sI σ 4 (nI q5)) q5 := ⟨⟨OWx_p hI, fun i hi _ => hC i (by omega) (by omega)⟩, fun p k x hp => by
      rcases hp with ⟨t, ht, _⟩ | ⟨_, t, ht, _⟩ | (⟨e1, e2, t, ht, e3⟩ | ⟨e1, e2, e3⟩)
      · exact absurd ht (Nat.not_lt_zero _)
      · exact absurd ht (Nat.not_lt_zero _)
      · have hwt := hwl t ht
        have hx := xoF_lt (lf := lf) ht
        intro u hu
        show gA σ 3 (p + u) = nB x u
        rw [hZ (p + u) (by omega) (by omega), e2]
        exact hz0 u (by omega)
      · intro u hu
        show gA σ 3 (p + u) = nB x u
        rw [hZ (p + u) (by omega) (by omega), e3]
        exact hz0 u (by omega)⟩
    exact qf_nm167 hm hF hM hi0 hwl (by omega) (by omega) h23 h34 (by omega) h5 nD 0 F (fun _ => 0) (fun _ => 0) _ (Nat.zero_add _) (by omega) (fun j hj => absurd hj (Nat.not_lt_zero _)) hO
  | succ d ih =>
    intro j f σ hj hf hI hC hZ
    obtain ⟨f, rfl⟩ : ∃ y, f = y + 1 := ⟨f - 1, by omega⟩
    unfold f_M_named_116 f_M_named_149
    have e43 : gI σ 43 = nI e := (NMs_O hM hI.1).1.2
    have he6 := hM.1.1
    rw [if_neg (nI_ge (by omega) (by omega)), Mr3 hm, bs, Mg43 hm, bs, nI_add, e43]
    have step : ∀ v : Int32, (j < e → v.toInt8.toInt32 = gA σ0 42 j) → (e ≤ j → v.toInt8.toInt32 = nI 0) → Sm m h (fun σ' => ∃ nf wh, SYo nf wh nD ∧ OWf H (gA σ0 42) (MNz q2 q3 q4 nD (sgN th 3) lf nf wh ad wt) σ0 σ' q5) (fun v => v = nI q5) ((xsI (mh m h σ) 0 (m + 2) (nI j) v.toInt8.toInt32).bind fun ph => f_M_named_116 F f m (nI q2) (nI q3) (nI q4) (nI q5) (nI (j + 1)) ph) := fun v hv hz => by
      rw [Ms3 hm (by omega), bs]
      refine ih _ _ _ (by omega) (by omega) (OWx_w hI) (fun i hi he => ?_) (fun i hi he => ?_)
      · rw [gA_sA, if_pos rfl]
        by_cases c1 : i = j
        · rw [c1, upd_eq]; exact hv (by omega)
        · rw [upd_ne c1]; exact hC i (by omega) he
      · rw [gA_sA, if_pos rfl]
        by_cases c1 : i = j
        · rw [c1, upd_eq]; exact hz (by omega)
        · rw [upd_ne c1]; exact hZ i (by omega) he
    by_cases ce : nI e ≤ nI j
    · rw [if_pos ce]
      exact step _ (fun w => absurd ce (nI_ge w (by omega))) (fun _ => by decide)
    · rw [if_neg ce, Mr42 hm, bs, Ma42 hm (by omega), bs, hI.1.1.2.2.1 42 (by decide)]
      exact step _ (fun _ => isB_c (h42 j)) (fun w => absurd (nI_le w (by omega)) ce)
theorem qf_nm26 (hm : m ≤ h.length) (hF : 65540 < F) (hM : NMs σ0 e nD th lf df) (hi0 : NMi σ0 nD df ad wt) (hwl : ∀ i, i < nD → (wt i).length = lf i) (h64 : 64 ≤ H) (h42 : ∀ k, isB (gA σ0 42 k)) (hHe : H ≤ e) (hf0 : FR [0] [] [] [] σ0 σ) (hc : c ≤ 65536) (hI : OWx σ0 σ c) : ∀ (d i f : Nat), i + d = nD → d < f → Sm m h (fun σ' => (65536 < wiN (wiN (wiN e + 24 * (nD + 1)) + (1 + sumT (fun i => lf i + 1) nD)) + 64 * (sgN th 3 + 3) ∧ FR [0] [] [] [] σ0 σ') ∨ (wiN (wiN (wiN e + 24 * (nD + 1)) + (1 + sumT (fun i => lf i + 1) nD)) + 64 * (sgN th 3 + 3) ≤ 65536 ∧ ∃ nf wh, SYo nf wh nD ∧ OWf H (gA σ0 42) (MNz (wiN e) (wiN (wiN e + 24 * (nD + 1))) (wiN (wiN (wiN e + 24 * (nD + 1)) + (1 + sumT (fun i => lf i + 1) nD))) nD (sgN th 3) lf nf wh ad wt) σ0 σ' (wiN (wiN (wiN e + 24 * (nD + 1)) + (1 + sumT (fun i => lf i + 1) nD)) + 64 * (sgN th 3 + 3)))) (fun v => v = mpA (wiN (wiN (wiN e + 24 * (nD + 1)) + (1 + sumT (fun i => lf i + 1) nD)) + 64 * (sgN th 3 + 3))) (f_M_named_26 F f m (nI (1 + sumT (fun i => lf i + 1) i)) (nI i) (mh m h σ)) := by
  have hMs := NMs_O hM hI.1
  have hN := hM.2.2.1
  have he := hM.1.1
  have hsg := sgN_le (th := th) 3
  intro d
  induction d with
  | zero =>
    intro i f hi hf
    obtain ⟨f, rfl⟩ : ∃ y, f = y + 1 := ⟨f - 1, by omega⟩
    obtain rfl : i = nD := by omega
    have hB := sumT_b' (f := fun i => lf i + 1) (k := 21) (n := i) (fun j hj => by have := (hM.2.2.2.2 j hj).2.2.2.1; show lf j + 1 ≤ 21; omega)
    obtain ⟨TX, eTX⟩ : ∃ TX, TX = 1 + sumT (fun i => lf i + 1) i := ⟨_, rfl⟩
    unfold f_M_named_26 f_M_named_56
    rw [Mg48 hm, bs, hMs.2.2.2.1, if_pos (nI_le (by omega) (by omega)), Mg43 hm, bs, hMs.1.2, e_o hm, bs, q_wider8 (by omega), xb_mk, Mg48 hm, bs, hMs.2.2.2.1, nI_add, show nI 24 * nI (i + 1) = nI (24 * (i + 1)) from (Int32.ofNat_mul _ _).symm, nI_add]
    have w1 := wiN_b e
    generalize wiN e = W1 at *
    rw [e_o hm, bs, q_wider8 (by omega), xb_mk]
    have w2 := wiN_b (W1 + 24 * (i + 1))
    generalize wiN (W1 + 24 * (i + 1)) = W2 at *
    rw [← eTX, nI_add, e_o hm, bs, q_wider8 (by omega), xb_mk]
    have w3 := wiN_b (W2 + TX)
    generalize wiN (W2 + TX) = W3 at *
    rw [Mg15 hm, bs, hMs.2.1.1, nI_add, show nI 64 * nI (sgN th 3 + 3) = nI (64 * (sgN th 3 + 3)) from (Int32.ofNat_mul _ _).symm, nI_add]
    by_cases hT : W3 + 64 * (sgN th 3 + 3) ≤ 65536
    · rw [if_pos (show nI (W3 + 64 * (sgN th 3 + 3)) ≤ (65536 : Int32) from nI_le hT (by decide))]
      have eA : mpA (W3 + 64 * (sgN th 3 + 3)) = nI (W3 + 64 * (sgN th 3 + 3)) := if_pos hT
      rw [eA]
      exact sm_wI (qf_nm116 (H := H) hm hF hM hi0 hwl h64 h42 hHe (by omega) (by omega) (show W2 + (1 + sumT (fun i => lf i + 1) i) ≤ W3 by rw [← eTX]; omega) (show 64 * (sgN th 3 + 3) + W3 = W3 + 64 * (sgN th 3 + 3) by omega) hT _ 0 F σ (Nat.zero_add _) (by omega) hI (fun i hi => absurd hi (Nat.not_lt_zero _)) (fun i hi => absurd hi (Nat.not_lt_zero _))) (fun σ2 w => Or.inr ⟨hT, w⟩)
    · rw [if_neg (show ¬ nI (W3 + 64 * (sgN th 3 + 3)) ≤ (65536 : Int32) from nI_ge (a := 65536) (by omega) (by omega))]
      exact sm_r (if_neg hT).symm (Or.inl ⟨by omega, hf0⟩)
  | succ d ih =>
    intro i f hi hf
    obtain ⟨f, rfl⟩ : ∃ y, f = y + 1 := ⟨f - 1, by omega⟩
    obtain ⟨e49, hd, e22, hl, _⟩ := hMs.2.2.2.2 i (by omega)
    have es : sumT (fun i => lf i + 1) (i + 1) = sumT (fun i => lf i + 1) i + (lf i + 1) := rfl
    have go := ih (i + 1) f (by omega) (by omega)
    rw [es, ← Nat.add_assoc 1 (sumT (fun i => lf i + 1) i) (lf i + 1)] at go
    unfold f_M_named_26
    rw [Mg48 hm, bs, hMs.2.2.2.1, if_neg (nI_ge (by omega) (by omega)), Mr22 hm, bs, Mr49 hm, bs, Ma49 hm (by omega), bs, e49, Ma22 hm hd, bs, e22, nI_add, nI_add, nI_add]
    exact go
theorem qf_named (hm : m ≤ h.length) (hF : 65540 < F) (ho : OUo σ) (hi0 : NMi σ nD df ad wt) (hwl : ∀ i, i < nD → (wt i).length = lf i) (h64 : 64 ≤ H) (h42 : ∀ k, isB (gA σ 42 k)) (hHe : H ≤ e) : (¬ gI σ 13 = 0 → f_M_named F m (mh m h σ) = some (nI 0, mh m h (sI σ 0 (nI 1)))) ∧ (gI σ 13 = 0 → NMs σ e nD th lf df → Sm m h (fun σ' => (65536 < wiN (wiN (wiN e + 24 * (nD + 1)) + (1 + sumT (fun i => lf i + 1) nD)) + 64 * (sgN th 3 + 3) ∧ FR [0] [] [] [] σ σ') ∨ (wiN (wiN (wiN e + 24 * (nD + 1)) + (1 + sumT (fun i => lf i + 1) nD)) + 64 * (sgN th 3 + 3) ≤ 65536 ∧ ∃ nf wh, SYo nf wh nD ∧ OWf H (gA σ 42) (MNz (wiN e) (wiN (wiN e + 24 * (nD + 1))) (wiN (wiN (wiN e + 24 * (nD + 1)) + (1 + sumT (fun i => lf i + 1) nD))) nD (sgN th 3) lf nf wh ad wt) σ σ' (wiN (wiN (wiN e + 24 * (nD + 1)) + (1 + sumT (fun i => lf i + 1) nD)) + 64 * (sgN th 3 + 3)))) (fun v => v = mpA (wiN (wiN (wiN e + 24 * (nD + 1)) + (1 + sumT (fun i => lf i + 1) nD)) + 64 * (sgN th 3 + 3))) (f_M_named F m (mh m h σ))) := by
  have th1 : f_M_throwing F m (nI 1) (nI 0) (mh m h σ) = some (nI 1, mh m h (sI σ 0 (nI 1))) := q_throwing hm true false
  have th0 : f_M_throwing F m (nI 0) (nI 0) (mh m h σ) = some (nI 0, mh m h (sI σ 0 (nI 0))) := q_throwing hm false false
  refine ⟨fun h13 => ?_, fun h13 hM => ?_⟩
  · unfold f_M_named f_M_named_13
    rw [Mg13 hm, bs, if_neg h13, e_o hm, bs, th1, xb_mk, if_neg (by decide)]
  · unfold f_M_named f_M_named_13
    rw [Mg13 hm, bs, if_pos h13, e_o hm, bs, th0, xb_mk, if_pos (show (nI 0 : Int32) = 0 from rfl)]
    have hN := hM.2.2.1
    obtain ⟨co, hco, hO⟩ := OWe_0 ho (FR_I σ 0 (nI 0))
    exact qf_nm26 hm hF hM hi0 hwl h64 h42 hHe (FR_I σ 0 (nI 0)) hco ⟨hO, by rw [gI_sI, if_pos rfl]⟩ nD 0 F (Nat.zero_add _) (by omega)
end MNH
/-- the numbers of the reference's file are those of the class's -/
theorem MNz_F {Y : px_Y} {q2 q3 q4 p k x : Nat} {lf nf wh : Nat → Nat} (hlf : ∀ i, i < Y.2.2.2.2.length → lf i = mpL Y i) (hxo : ∀ i, i ≤ Y.2.2.2.2.length → xoF lf i = xoY Y i) (h : NMF Y nf wh q2 q3 q4 p k x ∨ HDL q4 (sgN Y.1.2.2 3) p k x) : MNz q2 q3 q4 Y.2.2.2.2.length (sgN Y.1.2.2 3) lf nf wh (adNY Y) (fun i => (nmY Y i).1) p k x := by
  rcases h with (⟨j, hj, h⟩ | ⟨e1, j, hj, h⟩ | ⟨p0, h, e0⟩) | h
  · rw [← hxo j (by omega)] at h
    exact Or.inl (Or.inl (Or.inl ⟨j, hj, h⟩))
  · rw [← hxo j (by omega)] at h
    rcases h with ⟨t, ht, e2, e3⟩ | ⟨e2, e3⟩
    · exact Or.inl (Or.inl (Or.inr (Or.inl ⟨e1, j, hj, t, ht, e2, e3⟩)))
    · exact Or.inl (Or.inl (Or.inr (Or.inr (Or.inl ⟨e1, e3, j, hj, e2⟩))))
  · rcases h with ⟨h1, h2, h3⟩ | ⟨s, hs, h1, h2, h3⟩ | ⟨h1, h2, h3⟩ | ⟨h1, h2, h3⟩ | ⟨h1, h2, h3⟩ | ⟨h1, h2, h3⟩ | ⟨h1, h2, h3⟩ | ⟨h1, h2, h3⟩ | ⟨h1, h2, h3⟩
    · exact Or.inl (Or.inl (Or.inr (Or.inr (Or.inr ⟨by omega, h2, h3⟩))))
    · exact Or.inl (Or.inr ⟨s, hs, by omega, h2, h3⟩)
    · exact Or.inr (Or.inl (Or.inl ⟨by omega, h2, h3⟩))
    · exact Or.inr (Or.inl (Or.inr (Or.inl ⟨by omega, h2, h3⟩)))
    · exact Or.inr (Or.inl (Or.inr (Or.inr (Or.inl ⟨by omega, h2, h3⟩))))
    · exact Or.inr (Or.inl (Or.inr (Or.inr (Or.inr (Or.inl ⟨by omega, h2, h3⟩)))))
    · exact Or.inr (Or.inl (Or.inr (Or.inr (Or.inr (Or.inr (Or.inl ⟨by omega, h2, h3⟩))))))
    · exact Or.inr (Or.inl (Or.inr (Or.inr (Or.inr (Or.inr (Or.inr (Or.inl ⟨by omega, h2, h3⟩)))))))
    · refine Or.inr (Or.inl (Or.inr (Or.inr (Or.inr (Or.inr (Or.inr (Or.inr ⟨by omega, h2, ?_⟩)))))))
      rw [h3, hxo _ (Nat.le_refl _)]
  · exact Or.inr (Or.inr h)
end
section
/-! what class and reference have alike besides: memory, OUT, the kept file -/
/-- two rows of bytes that boot alike -/
def ALK (b : Nat → Nat) (z : Nat) (b' : Nat → Nat) (z' : Nat) : Prop := xrX b z = xrX b' z' ∧ (xrX b z = 0 → xrS b z = xrS b' z' ∧ nvQ b (xnS b z) = nvQ b' (xnS b' z') ∧ ∀ w, w ∈ xrS b z → ∀ i, i < w.2.2.2.1 → b (w.2.1 + i) = b' (w.2.1 + i))
theorem ALK_e {b : Nat → Nat} {z : Nat} {b' : Nat → Nat} {z' : Nat} (h : xrX b z = 1) (h' : xrX b' z' = 1) : ALK b z b' z' := ⟨h.trans h'.symm, fun q => by rw [h] at q; cases q⟩
theorem ALK_r {b : Nat → Nat} {z : Nat} : ALK b z b z := ⟨rfl, fun _ => ⟨rfl, rfl, fun _ _ _ _ => rfl⟩⟩
/-- OUT of the class, of the reference -/
def OCo (sk : Nat → Nat × Nat × Nat) (L : Nat) (τ : px_TT) (z : Nat) (b : Nat → Nat) : Prop := ∃ ro, (ro = 3 ∨ ro = 5) ∧ fN τ 0 1 = some ro ∧ cRA sk L τ ro (ro + 1) z b
def ORo (σ : px_S) (z : Nat) (b : Nat → Nat) : Prop := z ≤ 65536 ∧ gI σ 4 = nI z ∧ b = cb (gA σ 3) 0 z
def ZU (sk : Nat → Nat × Nat × Nat) (L : Nat) (τ : px_TT) (σ : px_S) : Prop := ∃ z b z' b', OCo sk L τ z b ∧ ORo σ z' b' ∧ ALK b z b' z'
/-- the bytes of memory's rows -/
def MBy (sk : Nat → Nat × Nat × Nat) (L : Nat) (τ : px_TT) (σ : px_S) (R : List px_XR) : Prop := R ≠ [] → ∃ z b z' b', cRA sk L τ 1719 1720 z b ∧ RMi σ z' b' ∧ (∀ w, w ∈ R → w.2.1 + w.2.2.2.1 ≤ z') ∧ ∀ w, w ∈ R → ∀ i, i < w.2.2.2.1 → b (w.2.1 + i) = b' (w.2.1 + i)
def ZM (sk : Nat → Nat × Nat × Nat) (L : Nat) (τ : px_TT) (σ : px_S) : Prop := ∃ R q z b, CMe sk L τ R q z b ∧ RMr σ R ∧ RMn σ (nvQ b q) ∧ MBy sk L τ σ R
/-- infos of the reference's definitions -/
def IFR (σ : px_S) (nD : Nat) : Prop := ∀ i d, i < nD → gA σ 49 i = nI d → d < 4096 → isI (gA σ 38 d)
/-- the file that the latest link left, and its definitions' infos -/
def ZF (τ : px_TT) (σ : px_S) : Prop := (∃ en l fe, fe ≤ 65536 ∧ fI τ 1711 1 = nI fe ∧ gI σ 43 = nI fe ∧ 64 + 56 * l.length ≤ fe ∧ EX7 (eI τ 1712) en l.length l ∧ EX7 (gA σ 42) en l.length l ∧ R7o l fe ∧ ∀ i, 64 + 56 * l.length ≤ i → i < fe → eI τ 1712 i = gA σ 42 i) ∧ (∀ k, isB (gA σ 42 k)) ∧ ∃ nD, nD ≤ 4096 ∧ fI τ 147 15 = nI nD ∧ gI σ 48 = nI nD ∧ IFO τ nD ∧ IFR σ nD
def ZO (sk : Nat → Nat × Nat × Nat) (L : Nat) (τ : px_TT) (σ : px_S) : Prop := ZM sk L τ σ ∧ ZU sk L τ σ ∧ (gI σ 13 = nI 0 → ZF τ σ)
/-- the class leaves OUT, memory, file -/
def KOo (τ τ' : px_TT) : Prop := fN τ' 0 1 = fN τ 0 1 ∧ ∀ r, r = 3 ∨ r = 5 → fI τ' r 1 = fI τ r 1 ∧ fN τ' r 0 = fN τ r 0 ∧ eI τ' (r + 1) = eI τ (r + 1)
def KOm (τ τ' : px_TT) : Prop := (fI τ' 1719 1 = fI τ 1719 1 ∧ fN τ' 1719 0 = fN τ 1719 0 ∧ eI τ' 1720 = eI τ 1720) ∧ (∀ k, k = 6 ∨ k = 8 ∨ k = 9 ∨ k = 10 ∨ k = 11 → fI τ' 1718 k = fI τ 1718 k) ∧ eI τ' 1724 = eI τ 1724 ∧ ∀ a i, 1721 ≤ a → a ≤ 1725 → a ≠ 1724 → i < 8 → eJ τ' a i = eJ τ a i
def KOf (τ τ' : px_TT) : Prop := (fI τ' 1711 1 = fI τ 1711 1 ∧ eI τ' 1712 = eI τ 1712) ∧ fI τ' 147 15 = fI τ 147 15 ∧ ∀ n i, n ≤ 4096 → fI τ 147 15 = nI n → i < n → eN τ' 1693 i = eN τ 1693 i ∧ ∀ p, eN τ 1693 i = some p → fI τ' p 9 = fI τ p 9
section ZLA
variable {sk sk' : Nat → Nat × Nat × Nat} {L L' : Nat} {τ τ' τ1 : px_TT} {σ σ' : px_S} {R : List px_XR} {q : Nat × Nat × Nat × Nat} {z : Nat} {b : Nat → Nat}
theorem cRA_g {r A : Nat} (h : cRA sk L τ r A z b) (ho : ob sk' L' 10 r) (ha : ar sk' L' 0 65536 A) (h0 : fN τ' r 0 = fN τ r 0) (h1 : fI τ' r 1 = fI τ r 1) (hA : eI τ' A = eI τ A) : cRA sk' L' τ' r A z b := by
  obtain ⟨n, a1, a2, a3, a4, a5, a6, a7⟩ := h
  exact ⟨65536, ho, h0.trans a2, ha, Nat.le_refl _, by omega, h1.trans a6, by rw [hA]; exact a7⟩
theorem CMe_g (h : CMe sk L τ R q z b) (hS : GS sk' L') (k : KOm τ τ') : CMe sk' L' τ' R q z b := by
  obtain ⟨m1, m2, m3, m4⟩ := h
  obtain ⟨⟨k1, k2, k3⟩, k4, k5, k6⟩ := k
  have h8 := m1.2.1
  refine ⟨⟨(k4 6 (by omega)).trans m1.1, h8, fun i w hw => ?_⟩, ⟨(k4 9 (by omega)).trans m2.1, fun w => ⟨(k4 8 (by omega)).trans (m2.2 w).1, (k4 10 (by omega)).trans (m2.2 w).2.1, (k4 11 (by omega)).trans (m2.2 w).2.2⟩⟩, m3, fun w => ⟨cRA_g (m4 w).1 (G1719 hS) (GS_a hS (by decide) (by decide)) k2 k1 k3, (m4 w).2⟩⟩
  have hi := (List.getElem?_eq_some_iff.mp hw).1
  rw [k6 1725 i (by decide) (by decide) (by decide) (by omega), k5, k6 1721 i (by decide) (by decide) (by decide) (by omega), k6 1723 i (by decide) (by decide) (by decide) (by omega), k6 1722 i (by decide) (by decide) (by decide) (by omega)]
  exact m1.2.2 i w hw
theorem MBy_K (h : MBy sk L τ σ R) (hS : GS sk' L') (k : KOm τ τ') : MBy sk' L' τ' σ R := fun hR => by
  obtain ⟨z, b, z', b', h1, h2⟩ := h hR
  obtain ⟨⟨k1, k2, k3⟩, _⟩ := k
  exact ⟨z, b, z', b', cRA_g h1 (G1719 hS) (GS_a hS (by decide) (by decide)) k2 k1 k3, h2⟩
theorem MBy_R (h : MBy sk L τ σ R) (e : gA σ' 100 = gA σ 100) : MBy sk L τ σ' R := fun hR => by
  obtain ⟨z, b, z', b', h1, ⟨m1, m2, m3⟩, h3⟩ := h hR
  exact ⟨z, b, z', b', h1, ⟨m1, by rw [e]; exact m2, fun i hi => by rw [e]; exact m3 i hi⟩, h3⟩
theorem ZM_K (h : ZM sk L τ σ) (hS : GS sk' L') (k : KOm τ τ') : ZM sk' L' τ' σ := by
  obtain ⟨R, q, z, b, h1, h2⟩ := h
  exact ⟨R, q, z, b, CMe_g h1 hS k, h2.1, h2.2.1, MBy_K h2.2.2 hS k⟩
theorem OCo_K (h : OCo sk L τ z b) (hS : GS sk' L') (k : KOo τ τ') : OCo sk' L' τ' z b := by
  obtain ⟨ro, h1, h2, h3⟩ := h
  obtain ⟨k1, k2⟩ := k
  obtain ⟨a1, a2, a3⟩ := k2 ro h1
  refine ⟨ro, h1, k1.trans h2, ?_⟩
  rcases h1 with rfl | rfl
  · exact cRA_g h3 (G3 hS) (GS_a hS (by decide) (by decide)) a2 a1 a3
  · exact cRA_g h3 (G5 hS) (GS_a hS (by decide) (by decide)) a2 a1 a3
theorem ZU_K (h : ZU sk L τ σ) (hS : GS sk' L') (k : KOo τ τ') : ZU sk' L' τ' σ := by
  obtain ⟨z, b, z', b', h1, h2⟩ := h
  exact ⟨z, b, z', b', OCo_K h1 hS k, h2⟩
theorem ZF_K (h : ZF τ σ) (k : KOf τ τ') : ZF τ' σ := by
  obtain ⟨⟨en, l, fe, a0, a1, a2, a3, a4, a5⟩, h42, nD, b1, b2, b3, b4, b5⟩ := h
  obtain ⟨⟨k1, k2⟩, k3, k4⟩ := k
  refine ⟨⟨en, l, fe, a0, k1.trans a1, a2, a3, by rw [k2]; exact a4, a5.1, a5.2.1, by rw [k2]; exact a5.2.2⟩, h42, nD, b1, k3.trans b2, b3, fun i hi => ?_, b5⟩
  obtain ⟨p, p1, p2⟩ := b4 i hi
  obtain ⟨q1, q2⟩ := k4 nD i b1 b2 hi
  exact ⟨p, q1.trans p1, by rw [q2 p p1]; exact p2⟩
theorem ZO_K (h : ZO sk L τ σ) (hS : GS sk' L') (k1 : KOo τ τ') (k2 : KOm τ τ') (k3 : gI σ 13 = nI 0 → KOf τ τ') : ZO sk' L' τ' σ := ⟨ZM_K h.1 hS k2, ZU_K h.2.1 hS k1, fun w => ZF_K (h.2.2 w) (k3 w)⟩
theorem KOo_refl : KOo τ τ := ⟨rfl, fun _ _ => ⟨rfl, rfl, rfl⟩⟩
theorem KOm_refl : KOm τ τ := ⟨⟨rfl, rfl, rfl⟩, fun _ _ => rfl, rfl, fun _ _ _ _ _ _ => rfl⟩
theorem KOf_refl : KOf τ τ := ⟨⟨rfl, rfl⟩, rfl, fun _ _ _ _ _ => ⟨rfl, fun _ _ => rfl⟩⟩
theorem KOo_tr (h : KOo τ τ1) (g : KOo τ1 τ') : KOo τ τ' := ⟨g.1.trans h.1, fun r hr => ⟨(g.2 r hr).1.trans (h.2 r hr).1, (g.2 r hr).2.1.trans (h.2 r hr).2.1, (g.2 r hr).2.2.trans (h.2 r hr).2.2⟩⟩
theorem KOm_tr (h : KOm τ τ1) (g : KOm τ1 τ') : KOm τ τ' := ⟨⟨g.1.1.trans h.1.1, g.1.2.1.trans h.1.2.1, g.1.2.2.trans h.1.2.2⟩, fun k hk => (g.2.1 k hk).trans (h.2.1 k hk), g.2.2.1.trans h.2.2.1, fun a i h1 h2 h3 h4 => (g.2.2.2 a i h1 h2 h3 h4).trans (h.2.2.2 a i h1 h2 h3 h4)⟩
theorem KOf_tr (h : KOf τ τ1) (g : KOf τ1 τ') : KOf τ τ' := ⟨⟨g.1.1.trans h.1.1, g.1.2.trans h.1.2⟩, g.2.1.trans h.2.1, fun n i hn e hi => ⟨(g.2.2 n i hn (h.2.1.trans e) hi).1.trans (h.2.2 n i hn e hi).1, fun p hp => ((g.2.2 n i hn (h.2.1.trans e) hi).2 p ((h.2.2 n i hn e hi).1.trans hp)).trans ((h.2.2 n i hn e hi).2 p hp)⟩⟩
/-- the same heap: the same OUT, memory, file -/
theorem hp_gI {ci k a : Nat} (h : ob sk L ci a) (h' : ob sk' L' ci a) (hk : cF ci k = 0) (hn : k < cN ci) (e : cH sk L τ = cH sk' L' τ') : fI τ' a k = fI τ a k := by
  have w := c_gI (τ := τ) h hk hn
  rw [e, c_gI h' hk hn] at w
  exact Option.some.inj w
theorem hp_gR {ci k a u v : Nat} (h : ob sk L ci a) (h' : ob sk' L' ci a) (hk : cF ci k = 2) (hn : k < cN ci) (e : cH sk L τ = cH sk' L' τ') (hu : fN τ a k = some u) (hv : fN τ' a k = some v) : fN τ' a k = fN τ a k := by
  have w := c_gR (τ := τ) h hk hn hu
  rw [e, c_gR h' hk hn hv] at w
  rw [hu, hv]
  exact w
theorem hp_A {t n n' a : Nat} (h : ar sk L t n a) (h' : ar sk' L' t n' a) (ht : t = 0 ∨ t = 1 ∨ t = 3) (e : cH sk L τ = cH sk' L' τ') : eI τ' a = eI τ a := by
  have w := c_A (τ := τ) h ht
  rw [e, c_A h' ht] at w
  exact (Prod.mk.inj (Option.some.inj w)).2
theorem hp_J {n n' a i : Nat} (h : ar sk L 2 n a) (h' : ar sk' L' 2 n' a) (hn : n < 2 ^ 31) (hn' : n' < 2 ^ 31) (hi : i < n) (hi' : i < n') (e : cH sk L τ = cH sk' L' τ') : eJ τ' a i = eJ τ a i := by
  have w := c_aJ (τ := τ) h hn hi
  rw [e, c_aJ h' hn' hi'] at w
  exact Option.some.inj w
theorem hp_N {t n n' a i : Nat} (h : ar sk L t n a) (h' : ar sk' L' t n' a) (ht : t = 4 ∨ t = 5 ∨ t = 6) (hn : n < 2 ^ 31) (hn' : n' < 2 ^ 31) (hi : i < n) (hi' : i < n') (e : cH sk L τ = cH sk' L' τ') : eN τ' a i = eN τ a i := by
  have w := c_aN (τ := τ) h ht hn hi
  rw [e, c_aN h' ht hn' hi'] at w
  exact Option.some.inj w
theorem KOo_H (hS : GS sk L) (hS' : GS sk' L') (hR : GR τ) (hR' : GR τ') (ho : ∃ u, fN τ 0 1 = some u) (ho' : ∃ u, fN τ' 0 1 = some u) (e : cH sk L τ = cH sk' L' τ') : KOo τ τ' := by
  obtain ⟨r1, a1⟩ := ho
  obtain ⟨r2, a2⟩ := ho'
  refine ⟨hp_gR (ci := 0) (G0 hS) (G0 hS') rfl (by decide) e a1 a2, fun r hr => ?_⟩
  rcases hr with rfl | rfl
  · exact ⟨hp_gI (ci := 10) (G3 hS) (G3 hS') rfl (by decide) e, by rw [GR_r (v := 4) hR (by decide), GR_r (v := 4) hR' (by decide)], hp_A (GS_a hS (t := 0) (n := 65536) (by decide) (by decide)) (GS_a hS' (t := 0) (n := 65536) (by decide) (by decide)) (Or.inl rfl) e⟩
  · exact ⟨hp_gI (ci := 10) (G5 hS) (G5 hS') rfl (by decide) e, by rw [GR_r (v := 6) hR (by decide), GR_r (v := 6) hR' (by decide)], hp_A (GS_a hS (t := 0) (n := 65536) (by decide) (by decide)) (GS_a hS' (t := 0) (n := 65536) (by decide) (by decide)) (Or.inl rfl) e⟩
theorem KOm_H (hS : GS sk L) (hS' : GS sk' L') (hR : GR τ) (hR' : GR τ') (e : cH sk L τ = cH sk' L' τ') : KOm τ τ' := by
  refine ⟨⟨hp_gI (ci := 10) (G1719 hS) (G1719 hS') rfl (by decide) e, by rw [GR_r (v := 1720) hR (by decide), GR_r (v := 1720) hR' (by decide)], hp_A (GS_a hS (t := 0) (n := 65536) (by decide) (by decide)) (GS_a hS' (t := 0) (n := 65536) (by decide) (by decide)) (Or.inl rfl) e⟩, fun k hk => ?_, hp_A (G1724 hS) (G1724 hS') (Or.inr (Or.inl rfl)) e, fun a i h1 h2 h3 hi => ?_⟩
  · rcases hk with rfl | rfl | rfl | rfl | rfl
    all_goals exact hp_gI (ci := 4) (G1718 hS) (G1718 hS') rfl (by decide) e
  · have ha : a = 1721 ∨ a = 1722 ∨ a = 1723 ∨ a = 1724 ∨ a = 1725 := by omega
    rcases ha with rfl | rfl | rfl | rfl | rfl
    · exact hp_J (G1721 hS) (G1721 hS') (by decide) (by decide) hi hi e
    · exact hp_J (G1722 hS) (G1722 hS') (by decide) (by decide) hi hi e
    · exact hp_J (G1723 hS) (G1723 hS') (by decide) (by decide) hi hi e
    · exact absurd rfl h3
    · exact hp_J (G1725 hS) (G1725 hS') (by decide) (by decide) hi hi e
theorem KOf_H (hS : GS sk L) (hS' : GS sk' L') (e : cH sk L τ = cH sk' L' τ') (hp : ∀ n i p, n ≤ 4096 → fI τ 147 15 = nI n → i < n → eN τ 1693 i = some p → ob sk L 5 p ∧ ob sk' L' 5 p) : KOf τ τ' := by
  refine ⟨⟨hp_gI (ci := 10) (G1711 hS) (G1711 hS') rfl (by decide) e, hp_A (G1712 hS) (G1712 hS') (Or.inl rfl) e⟩, hp_gI (ci := 3) (G147 hS) (G147 hS') rfl (by decide) e, fun n i hn e15 hi => ⟨hp_N (G1693 hS) (G1693 hS') (Or.inr (Or.inl rfl)) (by decide) (by decide) (by omega) (by omega) e, fun p hq => ?_⟩⟩
  obtain ⟨o1, o2⟩ := hp n i p hn e15 hi hq
  exact hp_gI (ci := 5) o1 o2 rfl (by decide) e
end ZLA
/-- the reference leaves OUT, memory, file -/
def KRo (σ σ' : px_S) : Prop := gI σ' 4 = gI σ 4 ∧ gA σ' 3 = gA σ 3
def KRm (σ σ' : px_S) : Prop := (gI σ' 102 = gI σ 102 ∧ gA σ' 100 = gA σ 100) ∧ (∀ k i, k = 105 ∨ k = 106 ∨ k = 107 ∨ k = 108 ∨ k = 109 → i < 8 → gB σ' k i = gB σ k i) ∧ gI σ' 44 = gI σ 44 ∧ ∀ i, i < 2800 → gA σ' 45 i = gA σ 45 i ∧ gA σ' 46 i = gA σ 46 i ∧ gB σ' 47 i = gB σ 47 i
def KRf (σ σ' : px_S) : Prop := gI σ' 43 = gI σ 43 ∧ gA σ' 42 = gA σ 42 ∧ gI σ' 48 = gI σ 48 ∧ ∀ i, i < 4096 → gA σ' 49 i = gA σ 49 i ∧ gA σ' 38 i = gA σ 38 i
section ZLB
variable {sk : Nat → Nat × Nat × Nat} {L : Nat} {τ : px_TT} {σ σ' σ1 : px_S} {R : List px_XR} {l : List Nat} {m : Nat} {h : px_H}
theorem RMr_K (hM : RMr σ R) (k : KRm σ σ') : RMr σ' R := ⟨k.1.1.trans hM.1, hM.2.1, fun i w hw => by
  have hi := (List.getElem?_eq_some_iff.mp hw).1
  have h8 := hM.2.1
  rw [k.2.1 105 i (by omega) (by omega), k.2.1 106 i (by omega) (by omega), k.2.1 107 i (by omega) (by omega), k.2.1 108 i (by omega) (by omega), k.2.1 109 i (by omega) (by omega)]
  exact hM.2.2 i w hw⟩
theorem RMn_K (hN : RMn σ l) (k : KRm σ σ') : RMn σ' l := ⟨k.2.2.1.trans hN.1, hN.2.1, fun i hi => by
  have hl := hN.2.1
  rw [(k.2.2.2 i (by omega)).1, (k.2.2.2 i (by omega)).2.1]
  exact hN.2.2.1 i hi, fun i v hv => by
  have hi := (List.getElem?_eq_some_iff.mp hv).1
  have hl := hN.2.1
  rw [(k.2.2.2 i (by omega)).2.2]
  exact hN.2.2.2 i v hv⟩
theorem ZO_R (h : ZO sk L τ σ) (k1 : KRo σ σ') (k2 : KRm σ σ') (k0 : gI σ' 13 = gI σ 13) (k3 : gI σ 13 = nI 0 → KRf σ σ') : ZO sk L τ σ' := by
  obtain ⟨⟨R, q, z, b, h1, h2, h3⟩, ⟨z1, b1, z2, b2, u1, u2, u3⟩, hF⟩ := h
  refine ⟨⟨R, q, z, b, h1, RMr_K h2 k2, RMn_K h3.1 k2, MBy_R h3.2 k2.1.2⟩, ⟨z1, b1, z2, b2, u1, ⟨u2.1, k1.1.trans u2.2.1, by rw [k1.2]; exact u2.2.2⟩, u3⟩, fun w => ?_⟩
  have w0 : gI σ 13 = nI 0 := k0.symm.trans w
  obtain ⟨⟨en, l, fe, a0, a1, a2, a3, a4, a5⟩, h42, nD, c1, c2, c3, c4, c5⟩ := hF w0
  obtain ⟨r1, r2, r3, r4⟩ := k3 w0
  refine ⟨⟨en, l, fe, a0, a1, r1.trans a2, a3, a4, by rw [r2]; exact a5⟩, fun k => by rw [r2]; exact h42 k, nD, c1, c2, r3.trans c3, c4, fun i d hi hd h4 => ?_⟩
  rw [(r4 d h4).2]
  exact c5 i d hi ((r4 i (by omega)).1.symm.trans hd) h4
theorem KRo_FR {I J A B : List Nat} (f : FR I J A B σ σ') (hI : 4 ∉ I) (hA : 3 ∉ A) : KRo σ σ' := ⟨f.1 4 hI, f.2.2.1 3 hA⟩
theorem KRm_FR {I J A B : List Nat} (f : FR I J A B σ σ') (hI : 102 ∉ I ∧ 44 ∉ I) (hA : 45 ∉ A ∧ 46 ∉ A ∧ 100 ∉ A) (hB : 47 ∉ B ∧ 105 ∉ B ∧ 106 ∉ B ∧ 107 ∉ B ∧ 108 ∉ B ∧ 109 ∉ B) : KRm σ σ' := ⟨⟨f.1 102 hI.1, f.2.2.1 100 hA.2.2⟩, fun k i hk _ => by
  rcases hk with rfl | rfl | rfl | rfl | rfl
  · rw [f.2.2.2 105 hB.2.1]
  · rw [f.2.2.2 106 hB.2.2.1]
  · rw [f.2.2.2 107 hB.2.2.2.1]
  · rw [f.2.2.2 108 hB.2.2.2.2.1]
  · rw [f.2.2.2 109 hB.2.2.2.2.2], f.1 44 hI.2, fun i _ => ⟨by rw [f.2.2.1 45 hA.1], by rw [f.2.2.1 46 hA.2.1], by rw [f.2.2.2 47 hB.1]⟩⟩
theorem KRf_FR {I J A B : List Nat} (f : FR I J A B σ σ') (hI : 43 ∉ I ∧ 48 ∉ I) (hA : 42 ∉ A ∧ 49 ∉ A ∧ 38 ∉ A) : KRf σ σ' := ⟨f.1 43 hI.1, f.2.2.1 42 hA.1, f.1 48 hI.2, fun i _ => ⟨by rw [f.2.2.1 49 hA.2.1], by rw [f.2.2.1 38 hA.2.2]⟩⟩
/-- the same heap: the same state of the reference -/
theorem mp_I (hm : m ≤ h.length) {k : Nat} (hk : (mr k).1 = 0) (e : mh m h σ = mh m h σ') : gI σ' k = gI σ k := by
  have w := e_gI (σ := σ) hm hk
  rw [e, e_gI hm hk] at w
  exact Option.some.inj w
theorem mp_A (hm : m ≤ h.length) {k : Nat} (hk : (mr k).1 = 2) (e : mh m h σ = mh m h σ') : gA σ' k = gA σ k := by
  have w := e_A (σ := σ) hm hk
  rw [e, e_A hm hk] at w
  exact (Prod.mk.inj (Option.some.inj w)).2
theorem mp_B (hm : m ≤ h.length) {k i : Nat} (hk : (mr k).1 = 3) (hi : i < (mr k).2.2.2) (e : mh m h σ = mh m h σ') : gB σ' k i = gB σ k i := by
  have w := e_aJ (σ := σ) hm hk hi
  rw [e, e_aJ hm hk hi] at w
  exact Option.some.inj w
theorem KR_H (hm : m ≤ h.length) (e : mh m h σ = mh m h σ') : KRo σ σ' ∧ KRm σ σ' ∧ gI σ' 13 = gI σ 13 ∧ KRf σ σ' := by
  refine ⟨⟨mp_I hm rfl e, mp_A hm rfl e⟩, ⟨⟨mp_I hm rfl e, mp_A hm rfl e⟩, fun k i hk hi => ?_, mp_I hm rfl e, fun i hi => ⟨by rw [mp_A hm (k := 45) rfl e], by rw [mp_A hm (k := 46) rfl e], mp_B hm (k := 47) rfl hi e⟩⟩, mp_I hm rfl e, ⟨mp_I hm rfl e, mp_A hm rfl e, mp_I hm rfl e, fun i _ => ⟨by rw [mp_A hm (k := 49) rfl e], by rw [mp_A hm (k := 38) rfl e]⟩⟩⟩
  rcases hk with rfl | rfl | rfl | rfl | rfl
  all_goals exact mp_B hm rfl hi e
theorem ZO_mh (hm : m ≤ h.length) (hz : ZO sk L τ σ) (e : mh m h σ = mh m h σ') : ZO sk L τ σ' := by
  obtain ⟨a, b, c, d⟩ := KR_H hm e
  exact ZO_R hz a b c (fun _ => d)
end ZLB
/-- BT, with memory, OUT and file alike at the end -/
def BTO {α β : Type} (Rn : α → β → px_S → Prop) (Rt : Nat → px_S → Prop) (sk : Nat → Nat × Nat × Nat) (L : Nat) (τ : px_TT) (k N : Nat) (f : Option (α × px_H)) (g : Option (Nat × px_H)) (q : px_H → Option (β × px_H)) : Prop := ∃ fs gs ws n b a Y, n + (List.map Prod.fst fs).sum ≤ N ∧ ((∃ v sk' L' τ' own', f = some (v, cH sk' L' τ') ∧ EX sk L sk' L' ∧ K26 τ τ' ∧ RMk sk' L' k ∧ CV sk' L' own' τ' fs gs ws n b a Y ∧ ∀ h : px_H, 1726 ≤ h.length → ∃ w σ', q h = some (w, mh 1726 h σ') ∧ RV σ' fs gs ws n b a Y ∧ Rn v w σ' ∧ ZO sk' L' τ' σ') ∨ ∃ ci τ' own', g = some (ci, cH sk L τ') ∧ K26 τ τ' ∧ RMk sk L (k + 1) ∧ CV sk L own' τ' fs gs ws n b a Y ∧ ∀ h : px_H, 1726 ≤ h.length → ∃ w σ', q h = some (w, mh 1726 h σ') ∧ RV σ' fs gs ws n b a Y ∧ Rt ci σ' ∧ ZO sk L τ' σ')
theorem BTO_of {α β : Type} {Rn : α → β → px_S → Prop} {Rt : Nat → px_S → Prop} {sk : Nat → Nat × Nat × Nat} {L : Nat} {τ : px_TT} {k N : Nat} {f : Option (α × px_H)} {g : Option (Nat × px_H)} {q : px_H → Option (β × px_H)} (hb : BT Rn Rt sk L τ k N f g q) (h1 : ∀ v sk' L' τ' own' fs gs ws n b a Y h w σ', f = some (v, cH sk' L' τ') → EX sk L sk' L' → CV sk' L' own' τ' fs gs ws n b a Y → 1726 ≤ List.length h → q h = some (w, mh 1726 h σ') → RV σ' fs gs ws n b a Y → Rn v w σ' → ZO sk' L' τ' σ') (h2 : ∀ ci τ' own' fs gs ws n b a Y h w σ', g = some (ci, cH sk L τ') → CV sk L own' τ' fs gs ws n b a Y → 1726 ≤ List.length h → q h = some (w, mh 1726 h σ') → RV σ' fs gs ws n b a Y → Rt ci σ' → ZO sk L τ' σ') : BTO Rn Rt sk L τ k N f g q := by
  obtain ⟨fs, gs, ws, n, b, a, Y, hN, hb⟩ := hb
  refine ⟨fs, gs, ws, n, b, a, Y, hN, ?_⟩
  rcases hb with ⟨v, sk', L', τ', own', e1, e2, e3, e4, e5, e6⟩ | ⟨ci, τ', own', e1, e2, e3, e4, e5⟩
  · refine Or.inl ⟨v, sk', L', τ', own', e1, e2, e3, e4, e5, fun h hl => ?_⟩
    obtain ⟨w, σ', a1, a2, a3⟩ := e6 h hl
    exact ⟨w, σ', a1, a2, a3, h1 v sk' L' τ' own' fs gs ws n b a Y h w σ' e1 e2 e5 hl a1 a2 a3⟩
  · refine Or.inr ⟨ci, τ', own', e1, e2, e3, e4, fun h hl => ?_⟩
    obtain ⟨w, σ', a1, a2, a3⟩ := e5 h hl
    exact ⟨w, σ', a1, a2, a3, h2 ci τ' own' fs gs ws n b a Y h w σ' e1 e4 hl a1 a2 a3⟩
end
section
/-! calls that leave memory, OUT and file -/
section ZLC
variable {F : Nat} {c : px_CT} {sk sk' sk2 : Nat → Nat × Nat × Nat} {L L' L2 : Nat} {own own' own2 : Nat → Nat × Nat} {τ τ' τ2 : px_TT} {σ σ' : px_S} {fs fs' : List (Nat × (Nat → Nat))} {gs gs' : List (List Nat × Int64)} {ws ws' : List (List Nat)} {n n' : Nat} {b b' : Nat → Nat} {a a' : Int32} {Y Y' : px_Y}
theorem CV_od (hC : CV sk L own τ fs gs ws n b a Y) : ∀ m i p, m ≤ 4096 → fI τ 147 15 = nI m → i < m → eN τ 1693 i = some p → ob sk L 5 p ∧ 1815 ≤ p := fun m i p hm e hi hp => by
  obtain ⟨⟨o, ho, eo, hw⟩, _⟩ := hC.2.2.2.2.2.2.2.1.2.2.2.1
  have hoe : o = m := (nI_eq (by omega) (by omega)).mp (eo.symm.trans e)
  obtain ⟨p', p1, p2, _⟩ := hw i (by omega)
  rw [hp] at p1
  cases p1
  exact ⟨p2.2.1, p2.1⟩
theorem CV_out (hC : CV sk L own τ fs gs ws n b a Y) : ∃ ro, (ro = 3 ∨ ro = 5) ∧ fN τ 0 1 = some ro ∧ rowOK sk L τ ro (ro + 1) 65536 := ROk_out (SI_self hC).2.2.1
/-- a call's state τ2, by its frame, and the same heap told otherwise: τ' -/
theorem ZC (hz : ZO sk L τ σ) (hC : CV sk L own τ fs gs ws n b a Y) (hC' : CV sk' L' own' τ' fs' gs' ws' n' b' a' Y') (e2 : EX sk L sk2 L2) (e' : EX sk L sk' L') (hR2 : GR τ2) (k1 : KOo τ τ2) (k2 : KOm τ τ2) (ha : gI σ 13 = a) (k3 : a = nI 0 → KOf τ τ2) (eh : cH sk2 L2 τ2 = cH sk' L' τ') : ZO sk' L' τ' σ := by
  obtain ⟨ro, _, r1, _⟩ := CV_out hC
  obtain ⟨ro', _, r1', _⟩ := CV_out hC'
  have hS2 : GS sk2 L2 := ⟨Nat.le_trans hC.1.1 e2.1, fun x hx => (e2.2 x (Nat.lt_of_lt_of_le hx (Nat.le_trans (by decide) hC.1.1))).trans (hC.1.2 x hx)⟩
  have j1 := KOo_H hS2 hC'.1 hR2 hC'.2.1 ⟨ro, k1.1.trans r1⟩ ⟨ro', r1'⟩ eh
  have j2 := KOm_H hS2 hC'.1 hR2 hC'.2.1 eh
  have j3 : KOf τ τ2 → KOf τ2 τ' := fun k3 => KOf_H hS2 hC'.1 eh (fun m i p hm e hi hp => by
    have e0 : fI τ 147 15 = nI m := k3.2.1.symm.trans e
    have w := (CV_od hC m i p hm e0 hi ((k3.2.2 m i hm e0 hi).1.symm.trans hp)).1
    exact ⟨ob_ex w e2, ob_ex w e'⟩)
  exact ZO_K hz hC'.1 (KOo_tr k1 j1) (KOm_tr k2 j2) (fun w => KOf_tr (k3 (ha.symm.trans w)) (j3 (k3 (ha.symm.trans w))))
/-- the state is as it was -/
theorem ZC_0 (hz : ZO sk L τ σ) (ha0 : gI σ 13 = a) (hC : CV sk L own τ fs gs ws n b a Y) (hC' : CV sk' L' own' τ' fs' gs' ws' n' b' a' Y') (e' : EX sk L sk' L') (eh : cH sk L τ = cH sk' L' τ') : ZO sk' L' τ' σ := ZC hz hC hC' EX_refl e' hC.2.1 KOo_refl KOm_refl ha0 (fun _ => KOf_refl) eh
/-- frames that leave it all -/
theorem KO_fr (hI : ∀ x k, (x = 3 ∨ x = 5 ∨ x = 147 ∨ x = 1711 ∨ x = 1718 ∨ x = 1719 ∨ 1815 ≤ x) → fI τ' x k = fI τ x k) (hN : ∀ x k, fN τ' x k = fN τ x k) (hA : ∀ x, (x = 4 ∨ x = 6 ∨ 1700 ≤ x) → eI τ' x = eI τ x) (hJ : ∀ x, 1700 ≤ x → eJ τ' x = eJ τ x) (hE : eN τ' 1693 = eN τ 1693) (hC : CV sk L own τ fs gs ws n b a Y) : KOo τ τ' ∧ KOm τ τ' ∧ KOf τ τ' := by
  refine ⟨⟨hN 0 1, fun r hr => ?_⟩, ⟨⟨hI 1719 1 (by omega), hN 1719 0, hA 1720 (by omega)⟩, fun k _ => hI 1718 k (by omega), hA 1724 (by omega), fun x i h1 _ _ _ => by rw [hJ x (by omega)]⟩, ⟨hI 1711 1 (by omega), hA 1712 (by omega)⟩, hI 147 15 (by omega), fun m i hm e hi => ⟨by rw [hE], fun p hp => hI p 9 (by have := (CV_od hC m i p hm e hi hp).2; omega)⟩⟩
  rcases hr with rfl | rfl
  · exact ⟨hI 3 1 (by omega), hN 3 0, hA 4 (by omega)⟩
  · exact ⟨hI 5 1 (by omega), hN 5 0, hA 6 (by omega)⟩
theorem out_eq {α : Type} {f : Option (α × px_H)} {v v' : α} {x y : px_H} (h : f = some (v, x)) (h' : f = some (v', y)) : v = v' ∧ x = y := by
  rw [h] at h'
  exact Prod.mk.inj (Option.some.inj h')
/-! the class's calls -/
theorem zc_feed {v w : Nat} (hF : 65540 < F) (hz : ZO sk L τ σ) (ha0 : gI σ 13 = a) (hC : CV sk L own τ fs gs ws n b a Y) (hC' : CV sk' L' own' τ' fs' gs' ws' n' b' a' Y') (e' : EX sk L sk' L') (hv : v < 2 ^ 64) (h1 : 1 ≤ w) (hw8 : w ≤ 8) (hnw : n + w ≤ 8192) {x : Int32} (hf : f_H_feed F c 0 (nI w) (lN v) (cH sk L τ) = some (x, cH sk' L' τ')) : ZO sk' L' τ' σ := by
  obtain ⟨hS, hR, hn, hf0, hg, hw, ht, hr, hz0, hnd⟩ := id hC
  obtain ⟨τ2, e, g1, g2, f1, f2, f3, f4, f5, f6⟩ := k_feed (F := F) (c := c) hS hR (by omega) hv h1 hw8 hnw ht
  obtain ⟨k1, k2, k3⟩ := KO_fr (fun x k hx => f1 x k (by omega)) f3 (fun x hx => f4 x (by omega)) (fun x _ => f5 x) (f6 1693) hC
  exact ZC hz hC hC' EX_refl e' g1 k1 k2 ha0 (fun _ => k3) (out_eq e hf).2
theorem zc_add (hK : KT c) (hF : 65540 < F) (hz : ZO sk L τ σ) (ha0 : gI σ 13 = a) (hC : CV sk L own τ fs gs ws n b a Y) (hC' : CV sk' L' own' τ' fs' gs' ws' n' b' a' Y') (e' : EX sk L sk' L') (hfl : fs.length < 8) {x : Int32} (hf : f_H_add F c 0 (cH sk L τ) = some (x, cH sk' L' τ')) : ZO sk' L' τ' σ := by
  obtain ⟨hS, hR, hn, hf0, hg, hw, ht, hr, hz0, hnd⟩ := id hC
  obtain ⟨τ2, e, g1, g2, g3, fD⟩ := k_add (F := F) (c := c) hK hS hR (by omega) ht hf0 hfl
  obtain ⟨f1, f2, f3, f4, f5, f6, f7⟩ := id fD
  obtain ⟨k1, k2, k3⟩ := KO_fr (fun x k hx => f1 x k (by omega) (by omega) (by omega) (by omega)) f3 (fun x hx => f4 x (by omega) (by omega) (by omega) (by omega)) (fun x _ => f5 x) (f6 1693) hC
  exact ZC hz hC hC' EX_refl e' g1 k1 k2 ha0 (fun _ => k3) (out_eq e hf).2
theorem zc_drop {y : Nat × (Nat → Nat)} (hF : 65540 < F) (hz : ZO sk L τ σ) (ha0 : gI σ 13 = a) (hC : CV sk L own τ (fs ++ [y]) gs ws n b a Y) (hC' : CV sk' L' own' τ' fs' gs' ws' n' b' a' Y') (e' : EX sk L sk' L') {x : Int32} (hf : f_H_drop F c 0 (cH sk L τ) = some (x, cH sk' L' τ')) : ZO sk' L' τ' σ := by
  obtain ⟨hS, hR, hn, hf0, hg, hw, ht, hr, hz0, hnd⟩ := id hC
  have hl : fs.length < 8 := by have := hf0.2.1; rw [List.length_append, List.length_singleton] at this; omega
  obtain ⟨τ2, e, g1, g2, g3, fD, hcl⟩ := k_drop (F := F) (c := c) hS hR (by omega) ht hf0
  obtain ⟨f1, f2, f3, f4, f5, f6, f7⟩ := id fD
  obtain ⟨k1, k2, k3⟩ := KO_fr (fun x k hx => f1 x k (by omega) (by omega) (by omega) (by omega)) f3 (fun x hx => f4 x (by omega) (by omega) (by omega) (by omega)) (fun x _ => f5 x) (f6 1693) hC
  exact ZC hz hC hC' EX_refl e' g1 k1 k2 ha0 (fun _ => k3) (out_eq e hf).2
theorem zc_forget (hz : ZO sk L τ σ) (ha0 : gI σ 13 = a) (hC : CV sk L own τ fs gs ws n b a Y) (hC' : CV sk' L' own' τ' fs' gs' ws' n' b' a' Y') (e' : EX sk L sk' L') (hf : f_H_forget F c 0 (cH sk L τ) = some ((), cH sk' L' τ')) : ZO sk' L' τ' σ := by
  obtain ⟨hS, hR, hn, hf0, hg, hw, ht, hr, hz0, hnd⟩ := id hC
  obtain ⟨τ2, e, g1, g2, g3, f1, f2⟩ := k_forget (F := F) (c := c) hS hR hg hw
  obtain ⟨k1, k2, k3⟩ := KO_fr (fun x k hx => f1 x k (by omega) (by omega)) (fun x k => by unfold fN; rw [f2]) (fun x _ => by unfold eI; rw [f2]) (fun x _ => by unfold eJ; rw [f2]) (by unfold eN; rw [f2]) hC
  exact ZC hz hC hC' EX_refl e' g1 k1 k2 ha0 (fun _ => k3) (out_eq e hf).2
theorem zc_address (hF : 65540 < F) (hz : ZO sk L τ σ) (ha0 : gI σ 13 = a) (hC : CV sk L own τ fs gs ws n b a Y) (hC' : CV sk' L' own' τ' fs' gs' ws' n' b' a' Y') (e' : EX sk L sk' L') (ha : a = nI 0) {x : Int64} (hf : f_H_address F c 0 (cH sk L τ) = some (x, cH sk' L' τ')) : ZO sk' L' τ' σ := by
  obtain ⟨hS, hR, hn, hf0, hg, hw, ht, hr, hz0, hnd⟩ := id hC
  obtain ⟨v, τ2, e, g1, g2, f1, f2, f3, f4, f5, f6⟩ := k_Haddress (F := F) (c := c) hF hS hR ht hr.2.2.2.2.1 (hnd.2.trans ha)
  obtain ⟨k1, k2, k3⟩ := KO_fr (fun x k hx => f1 x k (by omega) (by omega)) f3 (fun x _ => f4 x) (fun x _ => f5 x) (f6 1693) hC
  exact ZC hz hC hC' EX_refl e' g1 k1 k2 ha0 (fun _ => k3) (out_eq e hf).2
theorem zc_readT (hF : 65540 < F) (hC : CV sk L own τ fs gs ws n b a Y) : ∃ τ2, f_H_readTapeName F c 0 (cH sk L τ) = some (bI (tnm b n), cH sk L τ2) ∧ GR τ2 ∧ KOo τ τ2 ∧ KOm τ τ2 ∧ KOf τ τ2 := by
  obtain ⟨hS, hR, hn, hf0, hg, hw, ht, hr, hz0, hnd⟩ := id hC
  obtain ⟨τ2, e, g1, g2, ⟨f1, f2, f3, f4, f5, f6⟩, g3⟩ := k_readTapeName (F := F) (c := c) hS hR (by omega) ht
  exact ⟨τ2, e, g1, KO_fr (fun x k hx => f1 x k (by omega) (by omega)) f3 (fun x _ => f4 x) (fun x _ => f5 x) (f6 1693) hC⟩
theorem KO_U {p A j : Nat} (hol : a = nI 0 → Y.2.2.2.2.length < 2 ^ 31) (hC : CV sk L own τ fs gs ws n b a Y) (hp : 1815 ≤ p) (hn' : NP sk' L' τ' own') (hA : A = 141 ∨ A = 144) (ep : eN τ' A j = some p) (f : frU p τ τ') : KOo τ τ' ∧ KOm τ τ' ∧ (a = nI 0 → KOf τ τ') := by
  obtain ⟨f1, f2, f3, f4, f5, f6⟩ := f
  refine ⟨⟨f3 0 1 (by omega), fun r hr => ?_⟩, ⟨⟨f1 1719 1 (by omega) (by omega) (by omega) (by omega) (by omega), f3 1719 0 (by omega), f4 1720⟩, fun k _ => f1 1718 k (by omega) (by omega) (by omega) (by omega) (by omega), f4 1724, fun x i h1 _ _ _ => by rw [f5 x]⟩, fun ha => ⟨⟨f1 1711 1 (by omega) (by omega) (by omega) (by omega) (by omega), f4 1712⟩, f1 147 15 (by omega) (by omega) (by omega) (by omega) (by omega), fun m i hm e hi => ⟨by rw [f6 1693 (by decide) (by decide)], fun q hq => ?_⟩⟩⟩
  · rcases hr with rfl | rfl
    · exact ⟨f1 3 1 (by omega) (by omega) (by omega) (by omega) (by omega), f3 3 0 (by omega), f4 4⟩
    · exact ⟨f1 5 1 (by omega) (by omega) (by omega) (by omega) (by omega), f3 5 0 (by omega), f4 6⟩
  · obtain ⟨⟨hns, _⟩, _, e15, hod⟩ := ((CV_X hC).2 ha).2
    have hm' : m = Y.2.2.2.2.length := by
      obtain ⟨⟨o, ho, eo, hw⟩, _⟩ := hC.2.2.2.2.2.2.2.1.2.2.2.1
      have h1 : o = m := (nI_eq (by omega) (by omega)).mp (eo.symm.trans e)
      have h2 := hns.2.2.2.1
      by_cases c : Y.2.2.2.2.length < 2 ^ 31
      · exact (nI_eq (by omega) c).mp (e.symm.trans e15)
      · exact absurd (hol ha) c
    obtain ⟨d, hd⟩ : ∃ d, Y.2.2.2.2[i]? = some d := ⟨_, List.getElem?_eq_getElem (by omega)⟩
    obtain ⟨d1, d2⟩ := hod i d hd
    rw [d2] at hq
    have hx : (Y.2.2.2.1.map Prod.fst)[d]? = some Y.2.2.2.1[d].1 := by rw [List.getElem?_map, List.getElem?_eq_getElem d1]; rfl
    have n2 := (hns.2.2.2.2.2.2 d _ hx).2.1
    have hqe : q = pN τ 149 d := (Option.some.inj hq).symm
    have n2' : eN τ' 149 d = some q := by rw [f6 149 (by decide) (by decide), n2, hqe]
    have hne : q ≠ p := NP_ne hn' (Or.inr (Or.inr rfl)) (by omega) n2' ep (by omega)
    have hq18 := (CV_od hC m i q hm e hi (by rw [d2, hqe])).2
    exact f1 q 9 hne (by omega) (by omega) (by omega) (by omega)
theorem zc_give {v : Int64} {k : Nat} (hol : a = nI 0 → Y.2.2.2.2.length < 2 ^ 31) (hF : 65540 < F) (hz : ZO sk L τ σ) (ha0 : gI σ 13 = a) (hC : CV sk L own τ fs gs ws n b a Y) (hC' : CV sk' L' own' τ' fs' gs' ws' n' b' a' Y') (e' : EX sk L sk' L') (hr : RMk sk L (k + 1)) (hz0 : gcd' b n (gs.map Prod.fst) = 0) {x : Int32} (hf : f_H_give F c 0 v (cH sk L τ) = some (x, cH sk' L' τ')) : ZO sk' L' τ' σ := by
  obtain ⟨hS, hR, hn, hf0, hg, hw, ht, hrr, hzz, hnd⟩ := id hC
  obtain ⟨sk2, L2, τ2, own2, p, e, a1, a2, a3, a4, a5, a6, a7, a8, a9, a10, a11, a12⟩ := k_give (F := F) (c := c) (v := v) hS hR (by omega) ht hf0 hn hg hw hr hz0
  obtain ⟨k1, k2, k3⟩ := KO_U hol hC a10 a7 (Or.inl rfl) a11 a12
  exact ZC hz hC hC' a1 e' a4 k1 k2 ha0 k3 (out_eq e hf).2
theorem zc_wish {k : Nat} (hol : a = nI 0 → Y.2.2.2.2.length < 2 ^ 31) (hF : 65540 < F) (hz : ZO sk L τ σ) (ha0 : gI σ 13 = a) (hC : CV sk L own τ fs gs ws n b a Y) (hC' : CV sk' L' own' τ' fs' gs' ws' n' b' a' Y') (e' : EX sk L sk' L') (hr : RMk sk L (k + 1)) (hz0 : gcd' b n ws = 0) {x : Int32} (hf : f_H_wish F c 0 (cH sk L τ) = some (x, cH sk' L' τ')) : ZO sk' L' τ' σ := by
  obtain ⟨hS, hR, hn, hf0, hg, hw, ht, hrr, hzz, hnd⟩ := id hC
  obtain ⟨sk2, L2, τ2, own2, p, e, a1, a2, a3, a4, a5, a6, a7, a8, a9, a10, a11, a12⟩ := k_wish (F := F) (c := c) hS hR (by omega) ht hf0 hn hg hw hr hz0
  obtain ⟨k1, k2, k3⟩ := KO_U hol hC a10 a7 (Or.inr rfl) a11 a12
  exact ZC hz hC hC' a1 e' a4 k1 k2 ha0 k3 (out_eq e hf).2
end ZLC
end
section
/-! calls that leave memory, OUT and file: both sides -/
theorem bnone {α β : Type} (o : Option α) : (o.bind fun _ => (none : Option β)) = none := by cases o <;> rfl
theorem xnone {α β : Type} (o : Option (α × px_H)) : (xb o fun _ _ => (none : Option (β × px_H))) = none := by
  cases o with
  | none => rfl
  | some p => cases p; rfl
/-- the reference leaves all that -/
def KRa (σ σ' : px_S) : Prop := KRo σ σ' ∧ KRm σ σ' ∧ gI σ' 13 = gI σ 13 ∧ KRf σ σ'
theorem KRa_FR {I J A B : List Nat} {σ σ' : px_S} (f : FR I J A B σ σ') (hI : 4 ∉ I ∧ 102 ∉ I ∧ 44 ∉ I ∧ 13 ∉ I ∧ 43 ∉ I ∧ 48 ∉ I) (hA : 3 ∉ A ∧ 45 ∉ A ∧ 46 ∉ A ∧ 42 ∉ A ∧ 49 ∉ A ∧ 38 ∉ A ∧ 100 ∉ A) (hB : 47 ∉ B ∧ 105 ∉ B ∧ 106 ∉ B ∧ 107 ∉ B ∧ 108 ∉ B ∧ 109 ∉ B) : KRa σ σ' := ⟨KRo_FR f hI.1 hA.1, KRm_FR f ⟨hI.2.1, hI.2.2.1⟩ ⟨hA.2.1, hA.2.2.1, hA.2.2.2.2.2.2⟩ hB, f.1 13 hI.2.2.2.1, KRf_FR f ⟨hI.2.2.2.2.1, hI.2.2.2.2.2⟩ ⟨hA.2.2.2.1, hA.2.2.2.2.1, hA.2.2.2.2.2.1⟩⟩
theorem Z_of {α β : Type} {Rn : α → β → px_S → Prop} {Rt : Nat → px_S → Prop} {sk : Nat → Nat × Nat × Nat} {L : Nat} {τ : px_TT} {σ : px_S} {k N : Nat} {f : Option (α × px_H)} {g : Option (Nat × px_H)} {q : px_H → Option (β × px_H)} (hb : BT Rn Rt sk L τ k N f g q) (h1 : ∀ v sk' L' τ' own' fs gs ws n b a Y, f = some (v, cH sk' L' τ') → EX sk L sk' L' → CV sk' L' own' τ' fs gs ws n b a Y → ZO sk' L' τ' σ) (h2 : ∀ ci τ' own' fs gs ws n b a Y, g = some (ci, cH sk L τ') → CV sk L own' τ' fs gs ws n b a Y → ZO sk L τ' σ) (h3 : ∀ h : px_H, 1726 ≤ h.length → ∃ w σ', q h = some (w, mh 1726 h σ') ∧ KRa σ σ') : BTO Rn Rt sk L τ k N f g q := by
  have fin : ∀ {sk' : Nat → Nat × Nat × Nat} {L' : Nat} {τ' : px_TT} {h : px_H} {w : β} {σ' : px_S}, ZO sk' L' τ' σ → 1726 ≤ h.length → q h = some (w, mh 1726 h σ') → ZO sk' L' τ' σ' := fun {sk' L' τ' h w σ'} hz hl e => by
    obtain ⟨w0, σ2, e2, k1, k2, k3, k4⟩ := h3 h hl
    exact ZO_mh hl (ZO_R hz k1 k2 k3 (fun _ => k4)) (out_eq e2 e).2
  exact BTO_of hb (fun v sk' L' τ' own' fs gs ws n b a Y h w σ' e1 e2 e3 hl e4 _ _ => fin (h1 v sk' L' τ' own' fs gs ws n b a Y e1 e2 e3) hl e4) (fun ci τ' own' fs gs ws n b a Y h w σ' e1 e3 hl e4 _ _ => fin (h2 ci τ' own' fs gs ws n b a Y e1 e3) hl e4)
section ZLD
variable {F : Nat} {c : px_CT} {sk : Nat → Nat × Nat × Nat} {L : Nat} {own : Nat → Nat × Nat} {τ : px_TT} {σ : px_S} {fs : List (Nat × (Nat → Nat))} {gs : List (List Nat × Int64)} {ws : List (List Nat)} {n : Nat} {b : Nat → Nat} {a : Int32} {Y : px_Y} {k N : Nat}
/-- a reader of the reference -/
theorem KR_0 {β : Type} {V : β → Prop} {o : Option (β × px_H)} {h : px_H} (w : Sm 1726 h (FR [0] [] [] [] σ) V o) : ∃ v σ', o = some (v, mh 1726 h σ') ∧ KRa σ σ' := by
  obtain ⟨v, σ', e, _, f⟩ := w
  exact ⟨v, σ', e, KRa_FR f (by decide) (by decide) (by decide)⟩
theorem RV13 (hR : RV σ fs gs ws n b a Y) : gI σ 13 = a := hR.2.2.2.2.2.2.2.2.1
theorem RV_ol (hR : RV σ fs gs ws n b a Y) (ha : a = nI 0) : Y.2.2.2.2.length < 2 ^ 31 := by
  have w := (hR.2.2.2.2.2.2.2.1.2.2.2.1.2 ha).2.2.2.2.1
  omega
/-- an exception that leaves the state -/
theorem ZT0 {g : Option (Nat × px_H)} (hz : ZO sk L τ σ) (hR : RV σ fs gs ws n b a Y) (hC : CV sk L own τ fs gs ws n b a Y) (hg : ∀ ci x, g = some (ci, x) → x = cH sk L τ) : ∀ ci τ' own' fs gs ws n b a Y, g = some (ci, cH sk L τ') → CV sk L own' τ' fs gs ws n b a Y → ZO sk L τ' σ := fun ci τ' own' fs' gs' ws' n' b' a' Y' e hC' => ZC_0 hz (RV13 hR) hC hC' EX_refl (hg ci _ e).symm
theorem Z_feed {y : Int32} {z : Int64} (hF : 65540 < F) (hz : ZO sk L τ σ) (hC : CV sk L own τ fs gs ws n b a Y) (hR : RV σ fs gs ws n b a Y) (hm : RMk sk L (k + 210)) (hN : n + (fs.map Prod.fst).sum + 8 ≤ N) : BTO RnI (fun ci σ => (ci = 13 ∧ gI σ 0 = nI 1) ∨ (ci = 14 ∧ gI σ 0 = nI 2)) sk L τ k N (f_H_feed F c 0 y z (cH sk L τ)) (g_H_feed F c 0 y z (cH sk L τ)) (fun h => f_M_feed F 1726 y z (mh 1726 h σ)) := by
  have ht := hC.2.2.2.2.2.2.1
  have hn := ht.2.1
  have o0 := C0r0 (τ := τ) (G0 hC.1) (R0_0 hC.2.1)
  refine Z_of (B_feed hF hC hR hm hN) (fun v sk' L' τ' own' fs' gs' ws' n' b' a' Y' e e2 hC' => ?_) (ZT0 hz hR hC (fun ci x e => ?_)) (fun h hl => ?_)
  · by_cases c1 : y < nI 1
    · unfold f_H_feed f_H_feed_11 at e
      rw [if_pos c1] at e
      cases e
    · by_cases c2 : y ≤ nI 8
      · obtain ⟨w, w1, w8, rfl⟩ := nI_18 c1 c2
        obtain ⟨v0, hv, rfl⟩ := wb_of z
        by_cases c3 : n + w ≤ 8192
        · exact zc_feed hF hz (RV13 hR) hC hC' e2 hv w1 w8 c3 e
        · unfold f_H_feed at e
          rw [if_neg c1, if_pos c2, o0, bs, C10g1 (G1 hC.1), bs, ht.1, nI_add, if_neg (nI_ge (a := 8192) (by omega) (by omega))] at e
          cases e
      · unfold f_H_feed f_H_feed_11 at e
        rw [if_neg c1, if_neg c2] at e
        cases e
  · unfold g_H_feed g_H_feed_11 at e
    by_cases c1 : y < nI 1
    · rw [if_pos c1] at e
      exact ((Prod.mk.inj (Option.some.inj e)).2).symm
    · rw [if_neg c1] at e
      by_cases c2 : y ≤ nI 8
      · obtain ⟨w, w1, w8, rfl⟩ := nI_18 c1 c2
        obtain ⟨v0, hv, rfl⟩ := wb_of z
        rw [if_pos c2, o0, bs, C10g1 (G1 hC.1), bs, ht.1, nI_add] at e
        by_cases c3 : n + w ≤ 8192
        · rw [if_pos (nI_le (b := 8192) (by omega) (by decide))] at e
          exact absurd e (by intro q; first | (simp only [bnone, xnone] at q; done) | (simp only [bnone, xnone] at q; cases q))
        · rw [if_neg (nI_ge (a := 8192) (by omega) (by omega))] at e
          exact ((Prod.mk.inj (Option.some.inj e)).2).symm
      · rw [if_neg c2] at e
        exact ((Prod.mk.inj (Option.some.inj e)).2).symm
  · by_cases c1 : y < nI 1
    · exact ⟨_, _, q_feed_w hl (Or.inl c1), KRa_FR (FR_I _ _ _) (by decide) (by decide) (by decide)⟩
    · by_cases c2 : y ≤ nI 8
      · obtain ⟨w, w1, w8, rfl⟩ := nI_18 c1 c2
        obtain ⟨v0, hv, rfl⟩ := wb_of z
        by_cases c3 : n + w ≤ 8192
        · obtain ⟨σ', e, g1, g2, f1, f2, f3, f4⟩ := q_feed (F := F) hl (by omega) hv w1 w8 c3 hR.1
          have f : FR [0, 2] [] [1] [] σ σ' := ⟨fun k hk => by simp only [List.mem_cons, List.not_mem_nil, or_false, not_or] at hk; exact f1 k hk.1 hk.2, fun k _ => f2 k, fun k hk => by simp only [List.mem_cons, List.not_mem_nil, or_false] at hk; exact f3 k hk, fun k _ => f4 k⟩
          exact ⟨_, σ', e, KRa_FR f (by decide) (by decide) (by decide)⟩
        · exact ⟨_, _, q_feed_n hl w1 w8 c3 hR.1, KRa_FR (FR_I _ _ _) (by decide) (by decide) (by decide)⟩
      · exact ⟨_, _, q_feed_w hl (Or.inr c2), KRa_FR (FR_I _ _ _) (by decide) (by decide) (by decide)⟩
end ZLD
end
section
/-! more calls that leave memory, OUT and file (made by a program, mkfzz3.py) -/
section ZLE
variable {F : Nat} {c : px_CT} {sk : Nat → Nat × Nat × Nat} {L : Nat} {own : Nat → Nat × Nat} {τ : px_TT} {σ : px_S} {fs : List (Nat × (Nat → Nat))} {gs : List (List Nat × Int64)} {ws : List (List Nat)} {n : Nat} {b : Nat → Nat} {a : Int32} {Y : px_Y} {k N : Nat}
theorem Z_add (hK : KT c) (hF : 65540 < F) (hz : ZO sk L τ σ) (hC : CV sk L own τ fs gs ws n b a Y) (hR : RV σ fs gs ws n b a Y) (hm : RMk sk L (k + 210)) (hN : n + (fs.map Prod.fst).sum ≤ N) : BTO RnI (fun ci σ => ci = 14 ∧ gI σ 0 = nI 1) sk L τ k N (f_H_add F c 0 (cH sk L τ)) (g_H_add F c 0 (cH sk L τ)) (fun h => f_M_add F 1726 (mh 1726 h σ)) := by
  have h8 := hR.2.1.2.1
  have e6 := hC.2.2.2.1.1
  refine Z_of (B_add hK hF hC hR hm hN) (fun v sk' L' τ' own' fs' gs' ws' n' b' a' Y' e e2 hC' => ?_) (ZT0 hz hR hC (fun ci x e => ?_)) (fun h hl => ?_)
  · by_cases c8 : fs.length = 8
    · unfold f_H_add at e
      rw [C0g6 (G0 hC.1), bs, e6, c8, if_neg (by decide)] at e
      cases e
    · exact zc_add hK hF hz (RV13 hR) hC hC' e2 (by omega) e
  · unfold g_H_add at e
    rw [C0g6 (G0 hC.1), bs, e6] at e
    by_cases c8 : fs.length = 8
    · rw [c8, if_neg (by decide)] at e
      exact ((Prod.mk.inj (Option.some.inj e)).2).symm
    · rw [if_pos (nI_lt (by omega) (by decide))] at e
      exact absurd e (by intro q; first | (simp only [bnone, xnone, ite_self, g_H_add_79] at q; done) | (simp only [bnone, xnone, ite_self, g_H_add_79] at q; cases q))
  · obtain ⟨v1, v2, v3, v4, v5, v6, v7, v8⟩ := id hR
    obtain ⟨σ', e, ⟨f1, f2, f3, f4⟩, g1, g2⟩ := q_add (F := F) (by omega) hl v1 v2
    have f : FR [0, 2, 5] [] [6, 7, 8, 9, 10, 11, 12, 19, 96] [] σ σ' := ⟨fun k hk => by simp only [List.mem_cons, List.not_mem_nil, or_false, not_or] at hk; exact f1 k hk.1 hk.2.1 hk.2.2, fun k _ => f2 k, fun k hk => by simp only [List.mem_cons, List.not_mem_nil, or_false, not_or] at hk; obtain ⟨a1, a2, a3, a4, a5, a6, a7, a8, a9⟩ := hk; exact f4 k a1 a2 a3 a4 a5 a6 a7 a8 a9, fun k _ => f3 k⟩
    exact ⟨_, σ', e, KRa_FR f (by decide) (by decide) (by decide)⟩
theorem Z_drop (hF : 65540 < F) (hz : ZO sk L τ σ) (hC : CV sk L own τ fs gs ws n b a Y) (hR : RV σ fs gs ws n b a Y) (hm : RMk sk L (k + 210)) (hN : n + (fs.map Prod.fst).sum ≤ N) : BTO RnI (fun ci σ => ci = 14 ∧ gI σ 0 = nI 1) sk L τ k N (f_H_drop F c 0 (cH sk L τ)) (g_H_drop F c 0 (cH sk L τ)) (fun h => f_M_drop F 1726 (mh 1726 h σ)) := by
  have hb := B_drop (F := F) (c := c) (k := k) hF hC hR hm hN
  rcases List.eq_nil_or_concat fs with e0 | ⟨fi, x, e0⟩
  · subst e0
    have e6 : fI τ 0 6 = nI 0 := hC.2.2.2.1.1
    refine Z_of hb (fun v sk' L' τ' own' fs' gs' ws' n' b' a' Y' e e2 hC' => ?_) (ZT0 hz hR hC (fun ci x e => ?_)) (fun h hl => ?_)
    · unfold f_H_drop at e
      rw [C0g6 (G0 hC.1), bs, e6, if_neg (show ¬ (0 : Int32) < nI 0 by decide)] at e
      cases e
    · unfold g_H_drop at e
      rw [C0g6 (G0 hC.1), bs, e6, if_neg (show ¬ (0 : Int32) < nI 0 by decide)] at e
      exact ((Prod.mk.inj (Option.some.inj e)).2).symm
    · exact ⟨_, _, q_drop_n hl hR.2.1, KRa_FR (FR_I _ _ _) (by decide) (by decide) (by decide)⟩
  · rw [List.concat_eq_append] at e0
    subst e0
    have e6 : fI τ 0 6 = nI (fi ++ [x]).length := hC.2.2.2.1.1
    have hl8 : (fi ++ [x]).length ≤ 8 := hR.2.1.2.1
    have hlx : (fi ++ [x]).length = fi.length + 1 := by rw [List.length_append]; rfl
    refine Z_of hb (fun v sk' L' τ' own' fs' gs' ws' n' b' a' Y' e e2 hC' => ?_) (ZT0 hz hR hC (fun ci x e => ?_)) (fun h hl => ?_)
    · exact zc_drop hF hz (RV13 hR) hC hC' e2 e
    · unfold g_H_drop at e
      rw [C0g6 (G0 hC.1), bs, e6, hlx, if_pos (show (0 : Int32) < nI (fi.length + 1) from nI_lt (a := 0) (by omega) (by omega))] at e
      exact absurd e (by intro q; first | (simp only [bnone, xnone, ite_self] at q; done) | (simp only [bnone, xnone, ite_self] at q; cases q))
    · obtain ⟨v1, v2, v3, v4, v5, v6, v7, v8⟩ := id hR
      obtain ⟨σ', e, g1, g2, f1, f2, f3, f4⟩ := q_drop (F := F) hl v2
      have f : FR [0, 5] [] [] [] σ σ' := ⟨fun k hk => by simp only [List.mem_cons, List.not_mem_nil, or_false, not_or] at hk; exact f1 k hk.1 hk.2, fun k _ => f2 k, fun k _ => f3 k, fun k _ => f4 k⟩
      exact ⟨_, σ', e, KRa_FR f (by decide) (by decide) (by decide)⟩
theorem Z_forget (hz : ZO sk L τ σ) (hC : CV sk L own τ fs gs ws n b a Y) (hR : RV σ fs gs ws n b a Y) (hm : RMk sk L (k + 210)) (hN : n + (fs.map Prod.fst).sum ≤ N) : BTO Rn0 (fun _ _ => False) sk L τ k N (f_H_forget F c 0 (cH sk L τ)) none (fun h => f_M_forget F 1726 (mh 1726 h σ)) := by
  refine Z_of (σ := σ) (B_forget hC hR hm hN) (fun v sk' L' τ' own' fs' gs' ws' n' b' a' Y' e e2 hC' => ?_) (fun _ _ _ _ _ _ _ _ _ _ e => by cases e) (fun h hl => ?_)
  · exact zc_forget hz (RV13 hR) hC hC' e2 e
  · obtain ⟨σ', e, g0, g1, g2, f1, f2, f3, f4⟩ := q_forget (F := F) (σ := σ) hl
    have f : FR [0, 31, 32] [] [] [] σ σ' := ⟨fun k hk => by simp only [List.mem_cons, List.not_mem_nil, or_false, not_or] at hk; exact f1 k hk.1 hk.2.1 hk.2.2, fun k _ => f2 k, fun k _ => f3 k, fun k _ => f4 k⟩
    exact ⟨(), σ', e, KRa_FR f (by decide) (by decide) (by decide)⟩
theorem ga45 (o : Option Nat) (ph : px_H) : g_H_address_45 F c o ph = none := by
  unfold g_H_address_45
  cases o with
  | none => rfl
  | some p =>
    show ((xgJ ph 5 14 p).bind fun t2 => g_H_address_60 F c t2 ph) = none
    unfold g_H_address_60
    exact bnone _
theorem Z_address (hF : 65540 < F) (hz : ZO sk L τ σ) (hC : CV sk L own τ fs gs ws n b a Y) (hR : RV σ fs gs ws n b a Y) (hm : RMk sk L (k + 210)) (hN : n + (fs.map Prod.fst).sum ≤ N) : BTO Rn0 (fun ci _ => ci = 14) sk L τ k N (f_H_address F c 0 (cH sk L τ)) (g_H_address F c 0 (cH sk L τ)) (fun h => f_M_address F 1726 (mh 1726 h σ)) := by
  have ea : fI τ 147 18 = a := hC.2.2.2.2.2.2.2.2.2.2
  have r11 := C0r11 (τ := τ) (G0 hC.1) (GR_r (v := 147) hC.2.1 (by decide))
  refine Z_of (B_address hF hC hR hm hN) (fun v sk' L' τ' own' fs' gs' ws' n' b' a' Y' e e2 hC' => ?_) (ZT0 hz hR hC (fun ci x e => ?_)) (fun h hl => ?_)
  · by_cases c0 : a = 0
    · exact zc_address hF hz (RV13 hR) hC hC' e2 c0 e
    · unfold f_H_address at e
      rw [r11, bs, C3g18 (G147 hC.1), bs, ea, if_neg c0] at e
      cases e
  · unfold g_H_address at e
    rw [r11, bs, C3g18 (G147 hC.1), bs, ea] at e
    by_cases c0 : a = 0
    · rw [if_pos c0] at e
      exact absurd e (by intro q; first | (simp only [bnone, xnone, ite_self, ga45] at q; done) | (simp only [bnone, xnone, ite_self, ga45] at q; cases q))
    · rw [if_neg c0] at e
      exact ((Prod.mk.inj (Option.some.inj e)).2).symm
  · obtain ⟨v1, v2, v3, v4, v5, v6, v7, v8⟩ := id hR
    obtain ⟨nms, h1, _⟩ := v8.1.1
    obtain ⟨v, σ', e, _, g1, f, _⟩ := q_address (F := F) hl (by omega) v1 h1
    exact ⟨v, σ', e, KRa_FR f (by decide) (by decide) (by decide)⟩
theorem g_give_st {v : Int64} {τ1 : px_TT} {ci : Nat} {x : px_H} (hF : 65540 < F) (hC : CV sk L own τ fs gs ws n b a Y) (e1 : f_H_readTapeName F c 0 (cH sk L τ) = some (bI (tnm b n), cH sk L τ1)) (e : g_H_give F c 0 v (cH sk L τ) = some (ci, x)) : cH sk L τ1 = x := by
  obtain ⟨τ3, e3, h1, h2, _⟩ := v_readTapeName (F := F) (c := c) hF hC
  rw [(out_eq e1 e3).2]
  unfold g_H_give g_H_give_45 at e
  rw [c_o (G0 hC.1), bs, e3, xb_mk] at e
  cases ht : tnm b n with
  | false =>
    rw [ht, if_pos (show bI false = 0 from rfl)] at e
    exact (Prod.mk.inj (Option.some.inj e)).2
  | true =>
    have hg1 := h1.2.2.2.2.1
    have hl16 : (gs.map Prod.fst).length ≤ 16 := hg1.1.2.2.2.1
    rw [ht, if_neg (show ¬ bI true = 0 by decide), C0r8 (G0 hC.1) (R0_8 h1.2.1), bs, C0r10 (G0 hC.1) (R0_10 h1.2.1), bs, c_o (G140 hC.1), bs, k_find hg1.1 (G146 hC.1) (h2 ht) (tk_ok hC.2.2.2.2.2.2.1 ht) (by omega), xb_mk] at e
    cases hi : idx (tk b 0 n) 0 (gs.map Prod.fst) with
    | some i =>
      rw [hi] at e
      exact (Prod.mk.inj (Option.some.inj e)).2
    | none =>
      rw [hi] at e
      have e : ((xgR (cH sk L τ3) 0 8 0).bind _) = some (ci, x) := e
      rw [C0r8 (G0 hC.1) (R0_8 h1.2.1), bs, C6g2 (G140 hC.1), bs] at e
      by_cases c16 : fI τ3 140 2 < nI 16
      · rw [if_pos c16] at e
        exact absurd e (by intro q; first | (simp only [bnone, xnone, ite_self] at q; done) | (simp only [bnone, xnone, ite_self] at q; cases q))
      · rw [if_neg c16] at e
        exact (Prod.mk.inj (Option.some.inj e)).2
theorem Z_give {v : Int64} (hF : 65540 < F) (hz : ZO sk L τ σ) (hC : CV sk L own τ fs gs ws n b a Y) (hR : RV σ fs gs ws n b a Y) (hm : RMk sk L (k + 210)) (hN : n + (fs.map Prod.fst).sum ≤ N) : BTO RnI (fun ci σ => (ci = 13 ∧ gI σ 0 = nI 1) ∨ (ci = 14 ∧ gI σ 0 = nI 2)) sk L τ k N (f_H_give F c 0 v (cH sk L τ)) (g_H_give F c 0 v (cH sk L τ)) (fun h => f_M_give F 1726 v (mh 1726 h σ)) := by
  have hol := RV_ol hR
  obtain ⟨τ1, e1, R1, k1, k2, k3⟩ := zc_readT (F := F) (c := c) hF hC
  have ref : ∀ h : px_H, 1726 ≤ h.length → ∃ w σ2, f_M_give F 1726 v (mh 1726 h σ) = some (w, mh 1726 h σ2) ∧ gI σ2 0 = nI (gcd' b n (gs.map Prod.fst)) ∧ KRa σ σ2 := fun h hl => by
    obtain ⟨v1, v2, v3, v4, v5, v6, v7, v8⟩ := id hR
    obtain ⟨σ', e, g0, f, g1, g2, g3⟩ := q_give (F := F) (v := v) hl (by omega) v1 v3 v4
    exact ⟨_, σ', e, g0, KRa_FR (frG_FR f) (by decide) (by decide) (by decide)⟩
  have hg2 : gcd' b n (gs.map Prod.fst) ≤ 2 := by
    unfold gcd'
    repeat (first | omega | split)
  refine BTO_of (B_give hF hC hR hm hN) (fun v0 sk' L' τ' own' fs' gs' ws' n' b' a' Y' h w σ' e e2 hC' hl q0 _ hn => ?_) (fun ci τ' own' fs' gs' ws' n' b' a' Y' h w σ' e hC' hl q0 _ _ => ?_)
  · obtain ⟨w2, σ2, q2, z2, j1, j2, j3, j4⟩ := ref h hl
    have eM := (out_eq q2 q0).2
    have c0 : gcd' b n (gs.map Prod.fst) = 0 := by
      have w0 : gI σ' 0 = gI σ2 0 := mp_I hl rfl eM
      exact (nI_eq (b := 0) (by omega) (by decide)).mp (z2.symm.trans (w0.symm.trans hn.2))
    exact ZO_mh hl (ZO_R (zc_give (k := k) hol hF hz (RV13 hR) hC hC' e2 (RMk_le hm (by omega)) c0 e) j1 j2 j3 (fun _ => j4)) eM
  · obtain ⟨w2, σ2, q2, z2, j1, j2, j3, j4⟩ := ref h hl
    have eM := (out_eq q2 q0).2
    exact ZO_mh hl (ZO_R (ZC hz hC hC' EX_refl EX_refl R1 k1 k2 (RV13 hR) (fun _ => k3) (g_give_st hF hC e1 e)) j1 j2 j3 (fun _ => j4)) eM
theorem g_wish_st {τ1 : px_TT} {ci : Nat} {x : px_H} (hF : 65540 < F) (hC : CV sk L own τ fs gs ws n b a Y) (e1 : f_H_readTapeName F c 0 (cH sk L τ) = some (bI (tnm b n), cH sk L τ1)) (e : g_H_wish F c 0 (cH sk L τ) = some (ci, x)) : cH sk L τ1 = x := by
  obtain ⟨τ3, e3, h1, h2, _⟩ := v_readTapeName (F := F) (c := c) hF hC
  rw [(out_eq e1 e3).2]
  unfold g_H_wish g_H_wish_45 at e
  rw [c_o (G0 hC.1), bs, e3, xb_mk] at e
  cases ht : tnm b n with
  | false =>
    rw [ht, if_pos (show bI false = 0 from rfl)] at e
    exact (Prod.mk.inj (Option.some.inj e)).2
  | true =>
    have hg1 := h1.2.2.2.2.2.1
    have hl16 : ws.length ≤ 16 := hg1.2.2.2.1
    rw [ht, if_neg (show ¬ bI true = 0 by decide), C0r9 (G0 hC.1) (R0_9 h1.2.1), bs, C0r10 (G0 hC.1) (R0_10 h1.2.1), bs, c_o (G143 hC.1), bs, k_find hg1 (G146 hC.1) (h2 ht) (tk_ok hC.2.2.2.2.2.2.1 ht) (by omega), xb_mk] at e
    cases hi : idx (tk b 0 n) 0 ws with
    | some i =>
      rw [hi] at e
      exact (Prod.mk.inj (Option.some.inj e)).2
    | none =>
      rw [hi] at e
      have e : ((xgR (cH sk L τ3) 0 9 0).bind _) = some (ci, x) := e
      rw [C0r9 (G0 hC.1) (R0_9 h1.2.1), bs, C6g2 (G143 hC.1), bs] at e
      by_cases c16 : fI τ3 143 2 < nI 16
      · rw [if_pos c16] at e
        exact absurd e (by intro q; first | (simp only [bnone, xnone, ite_self] at q; done) | (simp only [bnone, xnone, ite_self] at q; cases q))
      · rw [if_neg c16] at e
        exact (Prod.mk.inj (Option.some.inj e)).2
theorem Z_wish (hF : 65540 < F) (hz : ZO sk L τ σ) (hC : CV sk L own τ fs gs ws n b a Y) (hR : RV σ fs gs ws n b a Y) (hm : RMk sk L (k + 210)) (hN : n + (fs.map Prod.fst).sum ≤ N) : BTO RnI (fun ci σ => (ci = 13 ∧ gI σ 0 = nI 1) ∨ (ci = 14 ∧ gI σ 0 = nI 2)) sk L τ k N (f_H_wish F c 0 (cH sk L τ)) (g_H_wish F c 0 (cH sk L τ)) (fun h => f_M_wish F 1726 (mh 1726 h σ)) := by
  have hol := RV_ol hR
  obtain ⟨τ1, e1, R1, k1, k2, k3⟩ := zc_readT (F := F) (c := c) hF hC
  have ref : ∀ h : px_H, 1726 ≤ h.length → ∃ w σ2, f_M_wish F 1726 (mh 1726 h σ) = some (w, mh 1726 h σ2) ∧ gI σ2 0 = nI (gcd' b n ws) ∧ KRa σ σ2 := fun h hl => by
    obtain ⟨v1, v2, v3, v4, v5, v6, v7, v8⟩ := id hR
    obtain ⟨σ', e, g0, f, g1, g2, g3⟩ := q_wish (F := F) hl (by omega) v1 v3 v4
    exact ⟨_, σ', e, g0, KRa_FR (frG_FR f) (by decide) (by decide) (by decide)⟩
  have hg2 : gcd' b n ws ≤ 2 := by
    unfold gcd'
    repeat (first | omega | split)
  refine BTO_of (B_wish hF hC hR hm hN) (fun v0 sk' L' τ' own' fs' gs' ws' n' b' a' Y' h w σ' e e2 hC' hl q0 _ hn => ?_) (fun ci τ' own' fs' gs' ws' n' b' a' Y' h w σ' e hC' hl q0 _ _ => ?_)
  · obtain ⟨w2, σ2, q2, z2, j1, j2, j3, j4⟩ := ref h hl
    have eM := (out_eq q2 q0).2
    have c0 : gcd' b n ws = 0 := by
      have w0 : gI σ' 0 = gI σ2 0 := mp_I hl rfl eM
      exact (nI_eq (b := 0) (by omega) (by decide)).mp (z2.symm.trans (w0.symm.trans hn.2))
    exact ZO_mh hl (ZO_R (zc_wish (k := k) hol hF hz (RV13 hR) hC hC' e2 (RMk_le hm (by omega)) c0 e) j1 j2 j3 (fun _ => j4)) eM
  · obtain ⟨w2, σ2, q2, z2, j1, j2, j3, j4⟩ := ref h hl
    have eM := (out_eq q2 q0).2
    exact ZO_mh hl (ZO_R (ZC hz hC hC' EX_refl EX_refl R1 k1 k2 (RV13 hR) (fun _ => k3) (g_wish_st hF hC e1 e)) j1 j2 j3 (fun _ => j4)) eM
end ZLE
end
section
/-! boot, near, flags: both sides -/
section ZLF
variable {F : Nat} {c : px_CT} {sk : Nat → Nat × Nat × Nat} {L : Nat} {own : Nat → Nat × Nat} {τ : px_TT} {σ : px_S} {fs : List (Nat × (Nat → Nat))} {gs : List (List Nat × Int64)} {ws : List (List Nat)} {n : Nat} {b : Nat → Nat} {a : Int32} {Y : px_Y} {k N : Nat}
theorem Z_flags {y : Int64} (hF : 65540 < F) (hz : ZO sk L τ σ) (hC : CV sk L own τ fs gs ws n b a Y) (hR : RV σ fs gs ws n b a Y) (hm : RMk sk L (k + 210)) (hN : n + (fs.map Prod.fst).sum ≤ N) : BTO (fun (v w : Int64) _ => v = w) (fun _ _ => False) sk L τ k N (f_H_flags F c 0 y (cH sk L τ)) none (fun h => f_M_flags F 1726 y (mh 1726 h σ)) := by
  obtain ⟨x, hx, rfl⟩ := wb_of y
  obtain ⟨R, q, z, b1, hM, hM2, hM3⟩ := hz.1
  have e1 := k_flags (F := F) (c := c) (L := L) (sk := sk) hF hC.1 hC.2.1 hM.1 hx
  refine ⟨fs, gs, ws, n, b, a, Y, hN, Or.inl ⟨_, sk, L, τ, own, e1, EX_refl, K26_refl τ, RMk_le hm (by omega), hC, fun h hl => ?_⟩⟩
  have f0 := FR_I σ 0 (nI 0)
  have kr := KRa_FR f0 (by decide) (by decide) (by decide)
  exact ⟨_, _, qx_flags hl hF hM2 hx, RV_0 hR f0, rfl, ZO_R hz kr.1 kr.2.1 kr.2.2.1 (fun _ => kr.2.2.2)⟩
/-- the state of the class behind a name that near found -/
theorem KO_near {ro : Nat} {τ1 τ' : px_TT} (hC : CV sk L own τ fs gs ws n b a Y) (hro : ro = 3 ∨ ro = 5) (f1 : frN 146 τ τ1) (f2 : frRw ro (ro + 1) τ1 τ') : KOm τ τ' ∧ KOf τ τ' ∧ GR τ' ∧ fN τ' 0 1 = fN τ 0 1 := by
  have I : ∀ x j, x ≠ ro → (x ≠ 146 ∨ j ≠ 3) → fI τ' x j = fI τ x j := fun x j h1 h2 => (f2.1 x j (Or.inl h1)).trans (f1.1 x j h2)
  have N' : ∀ x j, fN τ' x j = fN τ x j := fun x j => (f2.2.2.1 x j).trans (f1.2.2.1 x j)
  have A : ∀ x, x ≠ ro + 1 → eI τ' x = eI τ x := fun x h1 => (f2.2.2.2.1 x h1).trans (f1.2.2.2.1 x)
  have E : ∀ x, eN τ' x = eN τ x := fun x => (f2.2.2.2.2.2 x).trans (f1.2.2.2.2.2 x)
  refine ⟨⟨⟨I 1719 1 (by omega) (by omega), N' 1719 0, A 1720 (by omega)⟩, fun j _ => I 1718 j (by omega) (by omega), A 1724 (by omega), fun x i _ _ _ _ => by rw [f2.2.2.2.2.1 x, f1.2.2.2.2.1 x]⟩, ⟨⟨I 1711 1 (by omega) (by omega), A 1712 (by omega)⟩, I 147 15 (by omega) (by omega), fun m i hm e hi => ⟨by rw [E], fun p hp => ?_⟩⟩, GR_mx hC.2.1 (fun x j _ => N' x j) (fun x j hx _ _ => I x j (by omega) (by omega)) (E 9) (E 151), N' 0 1⟩
  have := (CV_od hC m i p hm e hi hp).2
  exact I p 9 (by omega) (by omega)
end ZLF
theorem BTO_of2 {α β : Type} {Rn Rn' : α → β → px_S → Prop} {Rt Rt' : Nat → px_S → Prop} {sk : Nat → Nat × Nat × Nat} {L : Nat} {τ : px_TT} {k N : Nat} {f : Option (α × px_H)} {g : Option (Nat × px_H)} {q : px_H → Option (β × px_H)} (hb : BT Rn Rt sk L τ k N f g q) (h1 : ∀ v sk' L' τ' own' fs gs ws n b a Y h w σ', f = some (v, cH sk' L' τ') → EX sk L sk' L' → CV sk' L' own' τ' fs gs ws n b a Y → 1726 ≤ List.length h → q h = some (w, mh 1726 h σ') → RV σ' fs gs ws n b a Y → Rn v w σ' → Rn' v w σ' ∧ ZO sk' L' τ' σ') (h2 : ∀ ci τ' own' fs gs ws n b a Y h w σ', g = some (ci, cH sk L τ') → CV sk L own' τ' fs gs ws n b a Y → 1726 ≤ List.length h → q h = some (w, mh 1726 h σ') → RV σ' fs gs ws n b a Y → Rt ci σ' → Rt' ci σ' ∧ ZO sk L τ' σ') : BTO Rn' Rt' sk L τ k N f g q := by
  obtain ⟨fs, gs, ws, n, b, a, Y, hN, hb⟩ := hb
  refine ⟨fs, gs, ws, n, b, a, Y, hN, ?_⟩
  rcases hb with ⟨v, sk', L', τ', own', e1, e2, e3, e4, e5, e6⟩ | ⟨ci, τ', own', e1, e2, e3, e4, e5⟩
  · refine Or.inl ⟨v, sk', L', τ', own', e1, e2, e3, e4, e5, fun h hl => ?_⟩
    obtain ⟨w, σ', a1, a2, a3⟩ := e6 h hl
    obtain ⟨b1, b2⟩ := h1 v sk' L' τ' own' fs gs ws n b a Y h w σ' e1 e2 e5 hl a1 a2 a3
    exact ⟨w, σ', a1, a2, b1, b2⟩
  · refine Or.inr ⟨ci, τ', own', e1, e2, e3, e4, fun h hl => ?_⟩
    obtain ⟨w, σ', a1, a2, a3⟩ := e5 h hl
    obtain ⟨b1, b2⟩ := h2 ci τ' own' fs gs ws n b a Y h w σ' e1 e4 hl a1 a2 a3
    exact ⟨w, σ', a1, a2, b1, b2⟩
theorem xrX_sm {b : Nat → Nat} {z : Nat} (h : z < 64) : xrX b z = 1 := by
  unfold xrX
  rw [if_neg]
  intro w
  unfold xrH at w
  simp only [Bool.and_eq_true, decide_eq_true_eq] at w
  omega
section ZLG
variable {F : Nat} {c : px_CT} {sk sk' : Nat → Nat × Nat × Nat} {L L' : Nat} {own own' : Nat → Nat × Nat} {τ τ' : px_TT} {σ σ' : px_S} {fs fs' : List (Nat × (Nat → Nat))} {gs gs' : List (List Nat × Int64)} {ws ws' : List (List Nat)} {n n' : Nat} {b b' : Nat → Nat} {a a' : Int32} {Y Y' : px_Y} {k N : Nat}
theorem CV_row (hC : CV sk L own τ fs gs ws n b a Y) {ro z : Nat} (h1 : fN τ 0 1 = some ro) (hz : z ≤ 65536) (h2 : fI τ ro 1 = nI z) : (ro = 3 ∨ ro = 5) ∧ cRA sk L τ ro (ro + 1) z (fun i => if i < z then b8 (eI τ (ro + 1) i) else 0) ∧ ∀ j, isB (eI τ (ro + 1) j) := by
  obtain ⟨r', h3, h4, h5, h6, h7, h8, _, _, h9⟩ := CV_out hC
  rw [h1] at h4
  cases h4
  exact ⟨h3, ⟨65536, h5, h8, h6, Nat.le_refl _, hz, h2, rfl⟩, h9⟩
/-- both have a short OUT -/
theorem ZU_e (hC : CV sk L own τ fs gs ws n b a Y) {ro w j : Nat} (h1 : fN τ 0 1 = some ro) (h2 : fI τ ro 1 = nI w) (hw : w < 64) (h3 : gI σ 4 = nI j) (hj : j < 64) : ZU sk L τ σ := by
  obtain ⟨a1, a2, _⟩ := CV_row hC h1 (by omega) h2
  exact ⟨w, _, j, _, ⟨ro, a1, h1, a2⟩, ⟨by omega, h3, rfl⟩, ALK_e (xrX_sm hw) (xrX_sm hj)⟩
theorem Z_near {y : Int64} (hF : 65540 < F) (hz : ZO sk L τ σ) (hC : CV sk L own τ fs gs ws n b a Y) (hR : RV σ fs gs ws n b a Y) (hm : RMk sk L (k + 210)) (hN : n + (fs.map Prod.fst).sum ≤ N) : BTO (fun (v w : Int64) _ => v = w) (fun _ _ => False) sk L τ k N (f_H_near F c 0 y (cH sk L τ)) none (fun h => f_M_near F 1726 y (mh 1726 h σ)) := by
  obtain ⟨x, hx, rfl⟩ := wb_of y
  obtain ⟨R, q, z, b1, hM, hM2, hM3⟩ := hz.1
  obtain ⟨ro, hro, hN1, hrow⟩ := CV_out hC
  obtain ⟨ka, kb⟩ := k_near (F := F) (c := c) hF hC.1 hC.2.1 hM hx hro hN1 hrow
  have hv := nrAB (R := R) (q := q) (b := b1) (x := x)
  refine BTO_of2 (B_near hF hC hR hm hN) (fun v sk' L' τ' own' fs' gs' ws' n' b' a' Y' h w σ' e e2 hC' hl q0 _ _ => ?_) (fun _ _ _ _ _ _ _ _ _ _ _ _ _ e => by cases e)
  obtain ⟨qa, qb⟩ := qx_near (F := F) (m := 1726) (h := h) hl hF hM2 hM3.1 hR.2.2.2.2.1 hx
  cases hA : nrA R q b1 x with
  | none =>
    have hB : nrB R (nvQ b1 q) x = none := by
      rw [hA] at hv
      cases hB : nrB R (nvQ b1 q) x with
      | none => rfl
      | some i => rw [hB] at hv; cases hv
    obtain ⟨v1, v2⟩ := out_eq (ka hA) e
    obtain ⟨w1, w2⟩ := out_eq (qa hB) q0
    have kr := KRa_FR (FR_I σ 0 (nI 0)) (by decide) (by decide) (by decide)
    exact ⟨v1.symm.trans w1, ZO_mh hl (ZO_R (ZC_0 hz (RV13 hR) hC hC' e2 v2) kr.1 kr.2.1 kr.2.2.1 (fun _ => kr.2.2.2)) w2⟩
  | some i =>
    rw [hA] at hv
    cases hB : nrB R (nvQ b1 q) x with
    | none => rw [hB] at hv; cases hv
    | some i' =>
      rw [hB] at hv
      have hve : nmV b1 q i = (nvQ b1 q).getD i' 0 := Option.some.inj hv
      obtain ⟨τ1, τ2, d1, d2, d3, w0, d4, d5⟩ := kb i hA
      obtain ⟨j0, σ2, s1, s2, s3⟩ := qb i' hB
      obtain ⟨v1, v2⟩ := out_eq d1 e
      obtain ⟨w1, w2⟩ := out_eq s1 q0
      refine ⟨by rw [← v1, ← w1, hve], ?_⟩
      obtain ⟨k2, k3, R2, n2⟩ := KO_near hC hro d2 d3
      obtain ⟨ro', _, r1', _⟩ := CV_out hC'
      have j1 := KOo_H hC.1 hC'.1 R2 hC'.2.1 ⟨ro, n2.trans hN1⟩ ⟨ro', r1'⟩ v2
      have j2 := KOm_H hC.1 hC'.1 R2 hC'.2.1 v2
      have j3 := KOf_H hC.1 hC'.1 v2 (fun m i p hm e hi hp => by
        have e0 : fI τ 147 15 = nI m := k3.2.1.symm.trans e
        have w := (CV_od hC m i p hm e0 hi ((k3.2.2 m i hm e0 hi).1.symm.trans hp)).1
        exact ⟨w, ob_ex w e2⟩)
      have f13 : FR [0, 4] [] [3] [] σ σ2 := s3.1
      have km := KRm_FR f13 (by decide) (by decide) (by decide)
      have kf := KRf_FR f13 (by decide) (by decide)
      have hz2 : ZO sk' L' τ' σ2 := by
        refine ⟨?_, ZU_e hC' (j1.1.trans (n2.trans hN1)) ((j1.2 ro hro).1.trans d5) (by omega) s3.2.1 (by omega), fun w => ?_⟩
        · obtain ⟨R', q', z', b'', m1, m2, m3⟩ := ZM_K hz.1 hC'.1 (KOm_tr k2 j2)
          exact ⟨R', q', z', b'', m1, RMr_K m2 km, RMn_K m3.1 km, MBy_R m3.2 km.1.2⟩
        · have w0 : gI σ 13 = nI 0 := (f13.1 13 (by decide)).symm.trans w
          obtain ⟨⟨en, l, fe, a0, a1, a2, a3, a4, a5⟩, h42, nD, c1, c2, c3, c4, c5⟩ := ZF_K (hz.2.2 w0) (KOf_tr k3 j3)
          obtain ⟨r1, r2, r3, r4⟩ := kf
          refine ⟨⟨en, l, fe, a0, a1, r1.trans a2, a3, a4, by rw [r2]; exact a5⟩, fun k => by rw [r2]; exact h42 k, nD, c1, c2, r3.trans c3, c4, fun i d hi hd h4 => ?_⟩
          rw [(r4 d h4).2]
          exact c5 i d hi ((r4 i (by omega)).1.symm.trans hd) h4
      exact ZO_mh hl hz2 w2
end ZLG
end
section
/-! boot of both sides, with what they have alike -/
section ZLH
variable {F : Nat} {c : px_CT} {sk sk' : Nat → Nat × Nat × Nat} {L L' : Nat} {own own' : Nat → Nat × Nat} {τ τ' : px_TT} {σ σ' : px_S} {fs fs' : List (Nat × (Nat → Nat))} {gs gs' : List (List Nat × Int64)} {ws ws' : List (List Nat)} {n n' : Nat} {b b' : Nat → Nat} {a a' : Int32} {Y Y' : px_Y} {k N : Nat}
/-- what a boot reads, on both sides -/
theorem bt_src {x : Int32} (hz : ZO sk L τ σ) (hC : CV sk L own τ fs gs ws n b a Y) (hR : RV σ fs gs ws n b a Y) : ∃ r z bc z' br, ((x = 0 ∧ fN τ 0 1 = some r) ∨ (¬ x = 0 ∧ r = 1)) ∧ cRA sk L τ r (r + 1) z bc ∧ (∀ j, isB (eI τ (r + 1) j)) ∧ (1 ≤ r ∧ r < 10) ∧ r + 1 < 10 ∧ RXs x σ z' br ∧ ALK bc z br z' := by
  by_cases c0 : x = 0
  · obtain ⟨z, bc, z', br, ⟨ro, h1, h2, h3⟩, ⟨u1, u2, u3⟩, hA⟩ := hz.2.1
    obtain ⟨N0, _, _, _, _, hz6, ez, _⟩ := id h3
    have hB := (CV_row hC h2 (z := z) (by omega) ez).2.2
    exact ⟨ro, z, bc, z', br, Or.inl ⟨c0, h2⟩, h3, hB, by omega, by omega, ⟨u1, Or.inl ⟨c0, u2, u3, hR.2.2.2.2.1.2⟩⟩, hA⟩
  · have ht := hC.2.2.2.2.2.2.1
    have hT := hR.1
    have r0 : fN τ 1 0 = some 2 := GR_r hC.2.1 (by decide)
    refine ⟨1, n, b, n, b, Or.inr ⟨c0, rfl⟩, ⟨8192, G1 hC.1, r0, G2 hC.1, by decide, ht.2.1, ht.1, ?_⟩, ht.2.2.1, by decide, by decide, ⟨by have := ht.2.1; omega, Or.inr ⟨c0, hT.2.1, hT.1, hT.2.2.2.symm, hT.2.2.1⟩⟩, ALK_r⟩
    rw [← ht.2.2.2]
    funext i
    unfold cb
    by_cases ci : i < n
    · rw [if_pos ci, if_pos ci, Nat.zero_add]
    · rw [if_neg ci, if_neg ci]
theorem Z_boot {x : Int32} (hK : KT c) (hF : 65540 < F) (hz : ZO sk L τ σ) (hC : CV sk L own τ fs gs ws n b a Y) (hR : RV σ fs gs ws n b a Y) (hm : RMk sk L (k + 210)) (hN : n + (fs.map Prod.fst).sum ≤ N) : BTO (fun (v w : Int32) _ => v = w) (fun _ _ => False) sk L τ k N (f_H_boot F c 0 x (cH sk L τ)) none (fun h => f_M_boot F 1726 x (mh 1726 h σ)) := by
  obtain ⟨r, z, bc, z', br, s1, s2, s3, s4, s5, s6, hA⟩ := bt_src (x := x) hz hC hR
  have hrow : rowOK sk L τ 1719 1720 65536 := (SI_self hC).2.2.1.2.2.2.2.2
  obtain ⟨τ2, d1, ⟨f1, f2, f3, f4, f5, f6⟩, d3, d4⟩ := k_boot (F := F) (c := c) hK hF hC.1 hC.2.1 s1 s2 s3 s4 s5 hrow
  obtain ⟨ro, hro, hN1, _⟩ := CV_out hC
  have R2 : GR τ2 := GR_mx hC.2.1 (fun x j _ => f3 x j) (fun x j h1 h2 _ => f1 x j (by omega) (by omega) (by omega) (fun h => absurd h (by omega))) (f6 9) (f6 151)
  have k1 : KOo τ τ2 := ⟨f3 0 1, fun r hr => by
    rcases hr with rfl | rfl
    · exact ⟨f1 3 1 (by decide) (by decide) (by decide) (fun h => absurd h (by decide)), f3 3 0, f4 4 (by decide) (by decide)⟩
    · exact ⟨f1 5 1 (by decide) (by decide) (by decide) (fun h => absurd h (by decide)), f3 5 0, f4 6 (by decide) (by decide)⟩⟩
  have k3 : KOf τ τ2 := ⟨⟨f1 1711 1 (by decide) (by decide) (by decide) (fun h => absurd h (by decide)), f4 1712 (by decide) (by decide)⟩, f1 147 15 (by decide) (by decide) (by decide) (fun h => absurd h (by decide)), fun m i hm e hi => ⟨by rw [f6], fun p hp => by
    have := (CV_od hC m i p hm e hi hp).2
    exact f1 p 9 (by omega) (by omega) (by omega) (fun h => absurd h (by omega))⟩⟩
  refine BTO_of2 (B_boot hK hF hC hR hm hN) (fun v sk' L' τ' own' fs' gs' ws' n' b' a' Y' h w σ' e e2 hC' hl q0 _ _ => ?_) (fun _ _ _ _ _ _ _ _ _ _ _ _ _ e => by cases e)
  obtain ⟨w2, σ2, q2, hw2, ⟨g1, g2, g3⟩⟩ := qx_boot (F := F) (m := 1726) (h := h) hl hF s6
  obtain ⟨v1, v2⟩ := out_eq d1 e
  obtain ⟨y1, y2⟩ := out_eq q2 q0
  refine ⟨by rw [← v1, ← y1, hw2, hA.1], ?_⟩
  obtain ⟨ro', _, r1', _⟩ := CV_out hC'
  have j1 := KOo_H hC.1 hC'.1 R2 hC'.2.1 ⟨ro, (f3 0 1).trans hN1⟩ ⟨ro', r1'⟩ v2
  have j2 := KOm_H hC.1 hC'.1 R2 hC'.2.1 v2
  have j3 := KOf_H hC.1 hC'.1 v2 (fun m i p hm e hi hp => by
    have e0 : fI τ 147 15 = nI m := k3.2.1.symm.trans e
    have w := (CV_od hC m i p hm e0 hi ((k3.2.2 m i hm e0 hi).1.symm.trans hp)).1
    exact ⟨w, ob_ex w e2⟩)
  have ko := KRo_FR g1 (by decide) (by decide)
  have kf := KRf_FR g1 (by decide) (by decide)
  have zm : ZM sk L τ2 σ2 := by
    by_cases c0 : xrX bc z = 0
    · obtain ⟨p1, p2, p3⟩ := d3 c0
      obtain ⟨u1, u2, u3⟩ := g2 (hA.1.symm.trans c0)
      obtain ⟨a1, a2, a3⟩ := hA.2 c0
      have hq : (xnS bc z).1 ≤ 2731 := by
        by_cases h0 : 0 < (xnS bc z).1
        · have := (xnS_ok h0).1
          obtain ⟨_, _, _, _, _, _, _, _⟩ := id s2
          omega
        · omega
      exact ⟨xrS bc z, xnS bc z, z, bc, ⟨p1, p2, hq, fun h0 => ⟨p3, xnS_ok h0⟩⟩, by rw [a1]; exact u1, by rw [a2]; exact u2, fun _ => ⟨z, bc, z', br, p3, u3, fun w hw => xrS_in (b := br) (by rw [← a1]; exact hw), a3⟩⟩
    · obtain ⟨p1, p2, p3, p4, p5, p6⟩ := d4 c0
      obtain ⟨w1, w2, w3, w4, w5, w6, w7⟩ := g3 (fun q => c0 (hA.1.trans q))
      have km : KOm τ τ2 := ⟨⟨p2 1, p3 0, p4⟩, fun j _ => p1 j, p5, fun x i _ _ _ _ => by rw [p6]⟩
      have kr : KRm σ σ2 := ⟨⟨w1, w3⟩, fun j i hj _ => by rw [w2 j (by rcases hj with rfl | rfl | rfl | rfl | rfl <;> simp)], w4, fun i _ => ⟨by rw [w5], by rw [w6], by rw [w7]⟩⟩
      obtain ⟨R', q', z'', b'', m1, m2, m3⟩ := ZM_K hz.1 hC.1 km
      exact ⟨R', q', z'', b'', m1, RMr_K m2 kr, RMn_K m3.1 kr, MBy_R m3.2 kr.1.2⟩
  have hz2 : ZO sk' L' τ' σ2 := by
    refine ⟨ZM_K zm hC'.1 j2, ?_, fun w => ?_⟩
    · obtain ⟨z1, c1, z2, c2, u1, u2, u3⟩ := ZU_K hz.2.1 hC'.1 (KOo_tr k1 j1)
      exact ⟨z1, c1, z2, c2, u1, ⟨u2.1, ko.1.trans u2.2.1, by rw [ko.2]; exact u2.2.2⟩, u3⟩
    · have w0 : gI σ 13 = nI 0 := (g1.1 13 (by decide)).symm.trans w
      obtain ⟨⟨en, l, fe, a0, a1, a2, a3, a4, a5⟩, h42, nD, c1, c2, c3, c4, c5⟩ := ZF_K (hz.2.2 w0) (KOf_tr k3 j3)
      obtain ⟨r1, r2, r3, r4⟩ := kf
      refine ⟨⟨en, l, fe, a0, a1, r1.trans a2, a3, a4, by rw [r2]; exact a5⟩, fun k => by rw [r2]; exact h42 k, nD, c1, c2, r3.trans c3, c4, fun i d hi hd h4 => ?_⟩
      rw [(r4 d h4).2]
      exact c5 i d hi ((r4 i (by omega)).1.symm.trans hd) h4
  exact ZO_mh hl hz2 y2
end ZLH
end
section
/-! calls that leave no executable in OUT -/
theorem ne_b0 {b : Nat → Nat} {z : Nat} (hb : ∀ j, b j < 256) (h : 0 < z → b 0 ≠ 127) : xrX b z = 1 := by
  unfold xrX
  rw [if_neg]
  intro w
  unfold xrH at w
  simp only [Bool.and_eq_true, decide_eq_true_eq] at w
  have h0 := h (by omega)
  have e := w.2.1
  have e2 : le b 0 7 = b 6 * 281474976710656 + (b 5 * 1099511627776 + (b 4 * 4294967296 + (b 3 * 16777216 + (b 2 * 65536 + (b 1 * 256 + (b 0 * 1 + 0)))))) := rfl
  have h1 := hb 0
  omega
theorem ne_16 {b : Nat → Nat} {z : Nat} (h : le b 16 2 ≠ 2) : xrX b z = 1 := by
  unfold xrX
  rw [if_neg]
  intro w
  unfold xrH at w
  simp only [Bool.and_eq_true, decide_eq_true_eq] at w
  exact h w.2.2.1
/-- OUT is no executable -/
def NEc (τ : px_TT) : Prop := ∃ ro z, fN τ 0 1 = some ro ∧ z ≤ 65536 ∧ fI τ ro 1 = nI z ∧ xrX (fun i => if i < z then b8 (eI τ (ro + 1) i) else 0) z = 1
def NEr (σ : px_S) : Prop := ∃ z, z ≤ 65536 ∧ gI σ 4 = nI z ∧ xrX (cb (gA σ 3) 0 z) z = 1
section ZLI
variable {F : Nat} {c : px_CT} {sk sk' : Nat → Nat × Nat × Nat} {L L' : Nat} {own own' : Nat → Nat × Nat} {τ τ' τ2 τ3 : px_TT} {σ σ' σ2 : px_S} {fs fs' : List (Nat × (Nat → Nat))} {gs gs' : List (List Nat × Int64)} {ws ws' : List (List Nat)} {n n' : Nat} {b b' : Nat → Nat} {a a' : Int32} {Y Y' : px_Y} {k N : Nat} {zb : Option Nat}
theorem ZU_ne (hC : CV sk L own τ fs gs ws n b a Y) (h1 : NEc τ) (h2 : NEr σ) : ZU sk L τ σ := by
  obtain ⟨ro, z, a1, a2, a3, a4⟩ := h1
  obtain ⟨z', b1, b2, b3⟩ := h2
  obtain ⟨c1, c2, _⟩ := CV_row hC a1 a2 a3
  exact ⟨z, _, z', _, ⟨ro, c1, a1, c2⟩, ⟨b1, b2, rfl⟩, ALK_e a4 b3⟩
theorem NEc_K (h : NEc τ) (hC : CV sk L own τ fs gs ws n b a Y) (k1 : KOo τ τ') : NEc τ' := by
  obtain ⟨ro, z, a1, a2, a3, a4⟩ := h
  obtain ⟨hro, _, _⟩ := CV_row hC a1 a2 a3
  obtain ⟨c1, _, c3⟩ := k1.2 ro hro
  exact ⟨ro, z, k1.1.trans a1, a2, c1.trans a3, by rw [c3]; exact a4⟩
theorem KOf_SI (hC : CV sk L own τ fs gs ws n b a Y) (hI : SI zb sk L τ τ2) : KOf τ τ2 := ⟨⟨hI.2.1.2.2.2.1 1, hI.2.1.2.2.2.2⟩, hI.1.1 147 15 (Zc_no (by omega)) (by omega) (by omega) (by omega) (by omega), fun m i hm e hi => ⟨by rw [hI.1.2.2.2.2.2 1693 (by decide)], fun p hp => by
  have := (CV_od hC m i p hm e hi hp).2
  exact hI.1.1 p 9 (Zc_no (by omega)) (by omega) (by omega) (by omega) (by omega)⟩⟩
theorem KOm_SJ {wq : Nat} (hJ : SJ wq zb sk L τ τ3) : KOm τ τ3 := by
  obtain ⟨m1, m2, m3, m4, m5, m6⟩ := SJ_M hJ
  exact ⟨⟨m2 1, hJ.1.2.2.1 1719 0 (by omega), m4⟩, fun j _ => m1 j, m5, fun x i h1 h2 _ _ => by rw [m6 x h1 h2]⟩
/-- a call of this kind -/
theorem ZS {α β : Type} {f : Option (α × px_H)} {o : Option (β × px_H)} {v v3 v' : α} {w2 w' : β} {h : px_H} {I J A B : List Nat} (hz : ZO sk L τ σ) (hC : CV sk L own τ fs gs ws n b a Y) (hC' : CV sk' L' own' τ' fs' gs' ws' n' b' a' Y') (e2 : EX sk L sk' L') (e3 : f = some (v, cH sk L τ2)) (hI : SI none sk L τ τ2) (e4 : f = some (v3, cH sk L τ3)) (hJ : SJ 0 none sk L τ τ3) (ne : NEc τ2) (ef : f = some (v', cH sk' L' τ')) (hl : 1726 ≤ h.length) (q2 : o = some (w2, mh 1726 h σ2)) (fr : FR I J A B σ σ2) (hI4 : 102 ∉ I ∧ 44 ∉ I ∧ 13 ∉ I ∧ 43 ∉ I ∧ 48 ∉ I) (hA4 : 45 ∉ A ∧ 46 ∉ A ∧ 42 ∉ A ∧ 49 ∉ A ∧ 38 ∉ A ∧ 100 ∉ A) (hB4 : 47 ∉ B ∧ 105 ∉ B ∧ 106 ∉ B ∧ 107 ∉ B ∧ 108 ∉ B ∧ 109 ∉ B) (nr : NEr σ2) (q0 : o = some (w', mh 1726 h σ')) : ZO sk' L' τ' σ' := by
  have C2 := CV_SI hC hI
  have C3 := CV_SI hC (SJ_I hJ)
  obtain ⟨ro2, _, r2, _⟩ := CV_out C2
  obtain ⟨ro', _, r1', _⟩ := CV_out hC'
  have v2 := (out_eq e3 ef).2
  have v4 := (out_eq e4 ef).2
  have j1 := KOo_H C2.1 hC'.1 C2.2.1 hC'.2.1 ⟨ro2, r2⟩ ⟨ro', r1'⟩ v2
  have j2 := KOm_H C3.1 hC'.1 C3.2.1 hC'.2.1 v4
  have k3 := KOf_SI hC hI
  have j3 := KOf_H C2.1 hC'.1 v2 (fun m i p hm e hi hp => by
    have e0 : fI τ 147 15 = nI m := k3.2.1.symm.trans e
    have w := (CV_od hC m i p hm e0 hi ((k3.2.2 m i hm e0 hi).1.symm.trans hp)).1
    exact ⟨w, ob_ex w e2⟩)
  have km := KRm_FR fr ⟨hI4.1, hI4.2.1⟩ ⟨hA4.1, hA4.2.1, hA4.2.2.2.2.2⟩ hB4
  have kf := KRf_FR fr ⟨hI4.2.2.2.1, hI4.2.2.2.2⟩ ⟨hA4.2.2.1, hA4.2.2.2.1, hA4.2.2.2.2.1⟩
  have hz2 : ZO sk' L' τ' σ2 := by
    refine ⟨?_, ZU_ne hC' (NEc_K ne C2 j1) nr, fun w => ?_⟩
    · obtain ⟨R', q', z', b'', m1, m2, m3⟩ := ZM_K hz.1 hC'.1 (KOm_tr (KOm_SJ hJ) j2)
      exact ⟨R', q', z', b'', m1, RMr_K m2 km, RMn_K m3.1 km, MBy_R m3.2 km.1.2⟩
    · have w0 : gI σ 13 = nI 0 := (fr.1 13 hI4.2.2.1).symm.trans w
      obtain ⟨⟨en, l, fe, a0, a1, a2, a3, a4, a5⟩, h42, nD, c1, c2, c3, c4, c5⟩ := ZF_K (hz.2.2 w0) (KOf_tr k3 j3)
      obtain ⟨r1, r2, r3, r4⟩ := kf
      refine ⟨⟨en, l, fe, a0, a1, r1.trans a2, a3, a4, by rw [r2]; exact a5⟩, fun k => by rw [r2]; exact h42 k, nD, c1, c2, r3.trans c3, c4, fun i d hi hd h4 => ?_⟩
      rw [(r4 d h4).2]
      exact c5 i d hi ((r4 i (by omega)).1.symm.trans hd) h4
  exact ZO_mh hl hz2 (out_eq q2 q0).2
end ZLI
end
