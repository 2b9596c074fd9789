/-! map: class and reference answer alike (steps spelled out by sf/pp.py) -/
/-- of section p: its size, its number -/
def mpZ (Y : px_Y) (p : Nat) : Nat := (Y.2.2.1.getD p (0, 0, 0, 0, 0, 0)).2.2.2.2.1
def mpU (Y : px_Y) (p : Nat) : Nat := (Y.2.2.1.getD p (0, 0, 0, 0, 0, 0)).2.2.1
/-- of definition i: how long its name is -/
def mpL (Y : px_Y) (i : Nat) : Nat := (Y.2.2.2.1.getD (Y.2.2.2.2.getD i 0) ([], 0)).1.length
def mpS (Y : px_Y) : Nat := sumT (fun p => 25 + wdN (mpZ Y p) + wdN (mpU Y p)) Y.2.2.1.length
def mpT (Y : px_Y) : Nat := mpS Y + sumT (fun i => 18 + mpL Y i) Y.2.2.2.2.length
section CMPZ
variable {F : Nat} {c : px_CT} {sk : Nat → Nat × Nat × Nat} {L : Nat} {own : Nat → Nat × Nat} {τ0 τ : px_TT} {fs : List (Nat × (Nat → Nat))} {gs : List (List Nat × Int64)} {ws : List (List Nat)} {n : Nat} {b : Nat → Nat} {a : Int32} {Y : px_Y} {r A : Nat}
theorem mpZ_at {i : Nat} {p : Nat × Nat × Nat × Nat × Nat × Nat} (hp : Y.2.2.1[i]? = some p) : mpZ Y i = p.2.2.2.2.1 ∧ mpU Y i = p.2.2.1 := by
  unfold mpZ mpU
  rw [List.getD_eq_getElem?_getD, hp]
  exact ⟨rfl, rfl⟩
/-- the part at place i, while rows are written -/
theorem z_parts {i : Nat} {p : Nat × Nat × Nat × Nat × Nat × Nat} (hC : CV sk L own τ0 fs gs ws n b a Y) (ha : a = 0) (hp : Y.2.2.1[i]? = some p) : ∃ x, x < 1536 ∧ ∀ τ, SI none sk L τ0 τ → f_Layout_partAt F c 1700 (nI i) (cH sk L τ) = some (some (152 + x), cH sk L τ) ∧ fI τ (152 + x) 1 = nI p.1 ∧ fI τ (152 + x) 2 = nI p.2.1 ∧ fI τ (152 + x) 3 = nI p.2.2.1 ∧ fI τ (152 + x) 4 = nI p.2.2.2.1 ∧ fI τ (152 + x) 5 = nI p.2.2.2.2.1 := by
  obtain ⟨x, x1, x2, _⟩ := z_part (F := F) (c := c) hC ha hp
  refine ⟨x, x1, fun τ hI => ?_⟩
  obtain ⟨y, y1, y2, y3, y4, y5, y6, y7, y8, _⟩ := z_part (F := F) (c := c) (CV_SI hC hI) ha hp
  rw [hI.1.2.2.2.2.2 1701 (by decide)] at y2
  have e : 152 + x = 152 + y := Option.some.inj (x2.symm.trans y2)
  rw [e]
  exact ⟨y3, y4, y5, y6, y7, y8⟩
theorem z_mp6 {J : px_TT → Prop} {V : Int32 → Prop} (hF : 65540 < F) (hC : CV sk L own τ0 fs gs ws n b a Y) (ha : a = 0) (hr : TRw r A 65536) (hT : ∀ τ, SZ none sk L τ0 r 65536 (mpS Y) τ → Sf sk L J V (f_Scribe_writeMap_128 F c 1713 r (cH sk L τ))) : ∀ (d i f : Nat) (τ : px_TT), i + d = Y.2.2.1.length → d < f → SZ none sk L τ0 r 65536 (sumT (fun p => 25 + wdN (mpZ Y p) + wdN (mpU Y p)) i) τ → Sf sk L J V (f_Scribe_writeMap_6 F c f 1713 r (nI i) (cH sk L τ)) := by
  have h0 := (CV_S4 hC).1.1.1
  have o13 := G1713 hC.1
  have o17 : ob sk L 2 1700 := GS_o hC.1 (by decide) (by decide)
  obtain ⟨⟨_, hlen, hps⟩, _⟩ := (CV_X hC).2 ha
  intro d
  induction d with
  | zero =>
    intro i f τ hi hf hI
    obtain ⟨f, rfl⟩ : ∃ y, f = y + 1 := ⟨f - 1, by omega⟩
    have ei : i = Y.2.2.1.length := by omega
    have hR := GR_Z h0.2.1 hI.1.1
    have e11 := ((CV_X (CV_SI hC hI.1)).2 ha).1.1
    unfold f_Scribe_writeMap_6
    rw [C11r1 o13 (GR_r (v := 1700) hR (by decide)), bs, C2g11 o17, bs, e11, if_pos (nI_le (by omega) (by omega))]
    refine hT τ ?_
    rw [ei] at hI
    exact hI
  | succ d ih =>
    intro i f τ hi hf hI
    obtain ⟨f, rfl⟩ : ∃ y, f = y + 1 := ⟨f - 1, by omega⟩
    have hp : Y.2.2.1[i]? = some Y.2.2.1[i] := List.getElem?_eq_getElem (by omega)
    have hbd := (hps i _ hp).1
    obtain ⟨em1, em2⟩ := mpZ_at hp
    obtain ⟨x, x1, hx⟩ := z_parts (F := F) (c := c) hC ha hp
    have oP := G_part hC.1 x1
    have hR := GR_Z h0.2.1 hI.1.1
    have e11 := ((CV_X (CV_SI hC hI.1)).2 ha).1.1
    have orr := (SI_row hI.1 hr).1
    have es : sumT (fun p => 25 + wdN (mpZ Y p) + wdN (mpU Y p)) (i + 1) = sumT (fun p => 25 + wdN (mpZ Y p) + wdN (mpU Y p)) i + (25 + wdN (mpZ Y i) + wdN (mpU Y i)) := rfl
    have go := fun τ hI => ih (i + 1) f τ (by omega) (by omega) hI
    rw [es, em1, em2] at go
    generalize sumT (fun p => 25 + wdN (mpZ Y p) + wdN (mpU Y p)) i = S at *
    generalize Y.2.2.1[i] = p at *
    unfold f_Scribe_writeMap_6
    rw [C11r1 o13 (GR_r (v := 1700) hR (by decide)), bs, C2g11 o17, bs, e11, if_neg (nI_ge (by omega) (by omega)), bs, c_o o17, bs, (hx τ hI.1).1, xb_mk, bs, C8g11 oP, bs, c_o orr, bs]
    refine sz_x (sz_hex hF hr hI) (fun _ τ1 _ i1 => ?_)
    rw [c_o orr, bs]
    refine sz_x (sz_put hF hr (by decide) i1) (fun _ τ2 _ i2 => ?_)
    rw [C8g5 oP, bs, (hx τ2 i2.1).2.2.2.2.2, c_o orr, bs]
    refine sz_x (sz_dec hF hr (by omega) i2) (fun _ τ3 _ i3 => ?_)
    rw [c_o orr, bs]
    refine sz_x (sz_put hF hr (by decide) i3) (fun _ τ4 _ i4 => ?_)
    rw [C8g4 oP, bs, (hx τ4 i4.1).2.2.2.2.1, c_o orr, bs]
    refine sz_x (sz_dec hF hr (by omega) i4) (fun _ τ5 _ i5 => ?_)
    rw [c_o orr, bs]
    refine sz_x (sz_put hF hr (by decide) i5) (fun _ τ6 _ i6 => ?_)
    rw [C8g1 oP, bs, (hx τ6 i6.1).2.1, c_o orr, bs]
    refine sz_x (sz_dec hF hr (by omega) i6) (fun _ τ7 _ i7 => ?_)
    rw [c_o orr, bs]
    refine sz_x (sz_put hF hr (by decide) i7) (fun _ τ8 _ i8 => ?_)
    rw [C8g2 oP, bs, (hx τ8 i8.1).2.2.1, c_o orr, bs]
    refine sz_x (sz_dec hF hr (by omega) i8) (fun _ τ9 _ i9 => ?_)
    rw [c_o orr, bs]
    refine sz_x (sz_put hF hr (by decide) i9) (fun _ τa _ ia => ?_)
    rw [C8g3 oP, bs, (hx τa ia.1).2.2.2.1, c_o orr, bs]
    refine sz_x (sz_dec hF hr (by omega) ia) (fun _ τb _ ib => ?_)
    rw [c_o orr, bs]
    refine sz_x (sz_put hF hr (by decide) ib) (fun _ τc _ ic => ?_)
    rw [wdN_1 hbd.1, wdN_1 hbd.2.1, wdN_1 hbd.2.2.2.1] at ic
    rw [nI_add]
    refine go τc ?_
    rw [show S + (25 + wdN p.2.2.2.2.1 + wdN p.2.2.1) = S + 16 + 1 + wdN p.2.2.2.2.1 + 1 + 1 + 1 + 1 + 1 + 1 + 1 + wdN p.2.2.1 + 1 by omega]
    exact ic
theorem z_mp130 (hF : 65540 < F) (hC : CV sk L own τ0 fs gs ws n b a Y) (ha : a = 0) (hr : TRw r A 65536) (hod : Y.2.2.2.2.length ≤ 4096) : ∀ (d i f : Nat) (τ : px_TT), i + d = Y.2.2.2.2.length → d < f → SZ none sk L τ0 r 65536 (mpS Y + sumT (fun i => 18 + mpL Y i) i) τ → Sf sk L (SZ none sk L τ0 r 65536 (mpT Y)) (fun v => v = bI (decide (mpT Y ≤ 65536))) (f_Scribe_writeMap_130 F c f 1713 r (nI i) (cH sk L τ)) := by
  have h0 := (CV_S4 hC).1.1.1
  have o13 := G1713 hC.1
  have o47 := G147 hC.1
  intro d
  induction d with
  | zero =>
    intro i f τ hi hf hI
    obtain ⟨f, rfl⟩ : ∃ y, f = y + 1 := ⟨f - 1, by omega⟩
    have ei : i = Y.2.2.2.2.length := by omega
    have hR := GR_Z h0.2.1 hI.1.1
    obtain ⟨_, _, e15, _⟩ := ((CV_X (CV_SI hC hI.1)).2 ha).2
    have orr := (SI_row hI.1 hr).1
    rw [ei] at hI
    have hI : SZ none sk L τ0 r 65536 (mpT Y) τ := hI
    unfold f_Scribe_writeMap_130 f_Scribe_writeMap_185 f_Scribe_writeMap_197
    rw [C11r0 o13 (GR_r (v := 147) hR (by decide)), bs, C3g15 o47, bs, e15, if_pos (nI_le (by omega) (by omega)), C10g2 orr, bs]
    by_cases cT : mpT Y ≤ 65536
    · rw [(hI.2.1.1 cT).2, if_pos (show bI false = 0 from rfl), decide_eq_true cT]
      exact ⟨_, τ, xz_b true _, rfl, hI⟩
    · rw [hI.2.1.2 (by omega), if_neg (show ¬ bI true = 0 by decide), decide_eq_false cT]
      exact ⟨_, τ, xz_b false _, rfl, hI⟩
  | succ d ih =>
    intro i f τ hi hf hI
    obtain ⟨f, rfl⟩ : ∃ y, f = y + 1 := ⟨f - 1, by omega⟩
    have hR := GR_Z h0.2.1 hI.1.1
    have hCt := CV_SI hC hI.1
    obtain ⟨⟨hns, hnt⟩, hna, e15, hod2⟩ := ((CV_X hCt).2 ha).2
    obtain ⟨dd, hd⟩ : ∃ dd, Y.2.2.2.2[i]? = some dd := ⟨_, List.getElem?_eq_getElem (by omega)⟩
    obtain ⟨d1, d2⟩ := hod2 i dd hd
    have hx : Y.2.2.2.1[dd]? = some Y.2.2.2.1[dd] := List.getElem?_eq_getElem d1
    have hxw : (Y.2.2.2.1.map Prod.fst)[dd]? = some Y.2.2.2.1[dd].1 := by rw [List.getElem?_map, hx]; rfl
    obtain ⟨_, n2, op, nm⟩ := hns.2.2.2.2.2.2 dd _ hxw
    have hge := (hCt.2.2.1 149 dd _ (Or.inr (Or.inr rfl)) n2).1
    have hw20 := (hnt _ (List.mem_of_getElem? hxw)).2.1
    have eL : mpL Y i = Y.2.2.2.1[dd].1.length := by
      unfold mpL
      rw [List.getD_eq_getElem?_getD, List.getD_eq_getElem?_getD, hd]
      show (Y.2.2.2.1[dd]?.getD ([], 0)).1.length = _
      rw [hx]
      rfl
    have orr := (SI_row hI.1 hr).1
    have hrp : r < 1815 := by unfold TRw at hr; omega
    have es : sumT (fun i => 18 + mpL Y i) (i + 1) = sumT (fun i => 18 + mpL Y i) i + (18 + mpL Y i) := rfl
    have go := fun τ hI => ih (i + 1) f τ (by omega) (by omega) hI
    rw [es, eL] at go
    have eD : f_Link_definedAt F c 147 (nI i) (cH sk L τ) = some (some (pN τ 149 dd), cH sk L τ) := by
      unfold f_Link_definedAt f_Link_definedAt_31 f_Link_definedAt_47
      rw [if_neg (nI_n0 (by omega)), C3g15 o47, bs, e15, if_neg (nI_ge (by omega) (by omega)), C3r9 o47 (GR_r (v := 1693) hR (by decide)), bs, c_l (G1693 hC.1) (by decide), bs, if_neg (nI_ge (by omega) (by decide)), bs, c_aN (G1693 hC.1) (Or.inr (Or.inl rfl)) (by decide) (by omega), bs, d2]
    generalize sumT (fun i => 18 + mpL Y i) i = S at *
    unfold f_Scribe_writeMap_130
    rw [C11r0 o13 (GR_r (v := 147) hR (by decide)), bs, C3g15 o47, bs, e15, if_neg (nI_ge (by omega) (by omega)), bs, c_o o47, bs, eD, xb_mk, bs, C5g14 op, bs, c_o orr, bs]
    refine sz_x (sz_hex hF hr hI) (fun _ τ1 _ i1 => ?_)
    rw [c_o orr, bs]
    refine sz_x (sz_put hF hr (by decide) i1) (fun _ τ2 _ i2 => ?_)
    have e3 : fI τ2 (pN τ 149 dd) 3 = nI Y.2.2.2.1[dd].1.length := by
      have w1' := i2.1.1.1 (pN τ 149 dd) 3 (Zc_no (by omega)) (by omega) (by omega) (by omega) (by omega)
      have w2' := hI.1.1.1 (pN τ 149 dd) 3 (Zc_no (by omega)) (by omega) (by omega) (by omega) (by omega)
      rw [w1', ← w2']
      exact nm.2.2.2
    rw [c_o op, bs]
    refine sz_x (sz_wto hF hr op (by omega) (by omega) e3 i2) (fun _ τ3 _ i3 => ?_)
    rw [c_o orr, bs]
    refine sz_x (sz_put hF hr (by decide) i3) (fun _ τ4 _ i4 => ?_)
    rw [nI_add]
    refine go τ4 ?_
    rw [show mpS Y + (S + (18 + Y.2.2.2.1[dd].1.length)) = mpS Y + S + 16 + 1 + Y.2.2.2.1[dd].1.length + 1 by omega]
    exact i4
theorem z_map (hF : 65540 < F) (hC : CV sk L own τ0 fs gs ws n b a Y) (ha : a = 0) (hr : TRw r A 65536) (hod : Y.2.2.2.2.length ≤ 4096) (hI : SI none sk L τ0 τ) (hN : ∀ k, fN τ 0 k = fN τ0 0 k) : Sf sk L (SZ none sk L τ0 r 65536 (mpT Y)) (fun v => v = bI (decide (mpT Y ≤ 65536))) (f_Scribe_writeMap F c 1713 r (cH sk L τ)) := by
  have hlen := ((CV_X hC).2 ha).1.2.1
  unfold f_Scribe_writeMap
  rw [c_o (SI_row hI hr).1, bs]
  refine sz_x (sz_clear hI hN hr) (fun _ τ1 _ i1 => ?_)
  refine z_mp6 hF hC ha hr (fun τ2 i2 => ?_) Y.2.2.1.length 0 F τ1 (Nat.zero_add _) (by omega) i1
  unfold f_Scribe_writeMap_128
  exact z_mp130 hF hC ha hr hod Y.2.2.2.2.length 0 F τ2 (Nat.zero_add _) (by omega) i2
end CMPZ
section BMPZ
variable {F : Nat} {c : px_CT} {sk : Nat → Nat × Nat × Nat} {L : Nat} {own : Nat → Nat × Nat} {τ : px_TT} {σ : px_S} {fs : List (Nat × (Nat → Nat))} {gs : List (List Nat × Int64)} {ws : List (List Nat)} {n : Nat} {b : Nat → Nat} {a : Int32} {Y : px_Y} {k N : Nat}
/-- what the reference's map reads -/
theorem MPs_X (hC : CV sk L own τ fs gs ws n b a Y) (hX : RXo σ fs a Y) (ha : a = 0) : MPs σ Y.2.2.1.length Y.2.2.2.2.length (mpZ Y) (mpU Y) (fun p => (Y.2.2.1.getD p (0, 0, 0, 0, 0, 0)).2.2.2.1) (fun p => (Y.2.2.1.getD p (0, 0, 0, 0, 0, 0)).1) (fun p => (Y.2.2.1.getD p (0, 0, 0, 0, 0, 0)).2.1) (mpL Y) (fun i => Y.2.2.2.2.getD i 0) := by
  obtain ⟨⟨_, hlen, hps⟩, ⟨_, hnt⟩, _, _, hod2⟩ := (CV_X hC).2 ha
  obtain ⟨⟨k1, k2⟩, k3, _, k5, k6, k7⟩ := hX.2 ha
  refine ⟨⟨hlen, k1, fun p hp => ?_⟩, k6, k5, fun i hi => ?_⟩
  · have hx : Y.2.2.1[p]? = some Y.2.2.1[p] := List.getElem?_eq_getElem hp
    obtain ⟨b1, b2, b3, b4, b5⟩ := (hps p _ hx).1
    obtain ⟨g1, g2, g3, g4, g5, _⟩ := k2 p _ hx
    obtain ⟨em1, em2⟩ := mpZ_at hx
    rw [em1, em2]
    dsimp only
    rw [List.getD_eq_getElem?_getD, hx]
    exact ⟨g5, by omega, g3, by omega, g4, b4, g1, b1, g2, b2⟩
  · obtain ⟨dd, hd⟩ : ∃ dd, Y.2.2.2.2[i]? = some dd := ⟨_, List.getElem?_eq_getElem hi⟩
    obtain ⟨d1, _⟩ := hod2 i dd hd
    have hx : Y.2.2.2.1[dd]? = some Y.2.2.2.1[dd] := List.getElem?_eq_getElem d1
    have hxw : (Y.2.2.2.1.map Prod.fst)[dd]? = some Y.2.2.2.1[dd].1 := by rw [List.getElem?_map, hx]; rfl
    have e0 : Y.2.2.2.2.getD i 0 = dd := by rw [List.getD_eq_getElem?_getD, hd]; rfl
    have eL : mpL Y i = Y.2.2.2.1[dd].1.length := by
      unfold mpL
      rw [e0, List.getD_eq_getElem?_getD, hx]
      rfl
    obtain ⟨z1, z2, _⟩ := k3.2.2 dd _ hxw
    have hl := k3.2.1
    rw [List.length_map] at hl
    dsimp only
    rw [e0, eL]
    exact ⟨k7 i dd hd, by omega, z2, z1.1⟩
theorem Bx_map (hF : 65540 < F) (hC : CV sk L own τ fs gs ws n b a Y) (hR : RV σ fs gs ws n b a Y) (hm : RMk sk L (k + 210)) (hN : n + (fs.map Prod.fst).sum ≤ N) : BT RnI (fun ci σ => ci = 14 ∧ gI σ 0 = nI 1) sk L τ k N (f_H_map F c 0 (cH sk L τ)) (g_H_map F c 0 (cH sk L τ)) (fun h => f_M_map F 1726 (mh 1726 h σ)) := by
  have o0 := G0 hC.1
  have ea : fI τ 147 18 = a := hC.2.2.2.2.2.2.2.2.2.2
  have h13 : gI σ 13 = a := hR.2.2.2.2.2.2.2.2.1
  by_cases c0 : a = 0
  · have hM := MPs_X hC (RV_X hR) c0
    have hod : Y.2.2.2.2.length ≤ 4096 := hM.2.1
    obtain ⟨rd, A, hT, e2⟩ := CV_rd hC
    have orr := (SI_row (SI_self hC) hT).1
    obtain ⟨v, τ1, e1, hv, i1, z1, n1⟩ := z_map (F := F) (c := c) hF hC c0 hT hod (SI_self hC) (fun _ => rfl)
    have key : ∃ τ2, f_H_map F c 0 (cH sk L τ) = some (mpA (mpT Y), cH sk L τ2) ∧ SI none sk L τ τ2 := by
      unfold f_H_map
      rw [C0r11 o0 (GR_r (v := 147) hC.2.1 (by decide)), bs, C3g18 (G147 hC.1), bs, ea, if_pos c0, C0r15 o0 (GR_r (v := 1713) hC.2.1 (by decide)), bs, C0r2 o0 e2, bs, c_o (G1713 hC.1), bs, e1, xb_mk, hv]
      unfold mpA
      by_cases cT : mpT Y ≤ 65536
      · obtain ⟨τ2, e3, i2⟩ := z_publish (F := F) (c := c) hC i1 ((n1 2).trans e2) orr
        refine ⟨τ2, ?_, i2⟩
        rw [decide_eq_true cT, if_neg (show ¬ bI true = 0 by decide), if_pos cT, c_o o0, bs, e3, xb_mk, (z1.1 cT).1]
      · refine ⟨τ1, ?_, i1⟩
        rw [decide_eq_false cT, if_pos (show bI false = 0 from rfl), if_neg cT]
    obtain ⟨τ2, eC, i2⟩ := key
    refine ⟨fs, gs, ws, n, b, a, Y, hN, Or.inl ⟨_, sk, L, τ2, own, eC, EX_refl, K26_Z i2.1, RMk_le hm (by omega), CV_SI hC i2, fun h hl => ?_⟩⟩
    obtain ⟨w, σ', e3, hw, cc, hcc, hW, h00⟩ := (q_map (F := F) (h := h) hl hF hR.2.2.2.2.1).2 (h13.trans c0) hM
    exact ⟨w, σ', e3, RV_W hR ⟨cc, hcc, hW⟩, hw.symm, h00⟩
  · refine ⟨fs, gs, ws, n, b, a, Y, hN, Or.inr ⟨14, τ, own, ?_, K26_refl τ, RMk_le hm (by omega), hC, fun h hl => ⟨_, _, (q_map (F := F) (nS := 0) (nD := 0) (zf := id) (uf := id) (gf := id) (ff := id) (mf := id) (lf := id) (df := id) hl hF hR.2.2.2.2.1).1 (by rw [h13]; exact c0), RV_0 hR (FR_I _ _ _), rfl, rfl⟩⟩⟩
    unfold g_H_map
    rw [C0r11 o0 (GR_r (v := 147) hC.2.1 (by decide)), bs, C3g18 (G147 hC.1), bs, if_neg (by rw [ea]; exact c0)]
end BMPZ
