/-! a link of the class, whole -/
section PRF
variable {fs : px_FS} {gs : List (List Nat × Int64)} {ws : List (List Nat)} {s : px_TK}
/-- what is known of names when none is left -/
theorem LN_f (hf : FSo fs) (hgl : gs.length ≤ 16) (hwl : ws.length ≤ 16) (hs : s = taL fs (xs0 gs ws) (od0 gs)) (h0 : s.1.1 = 0) : xsN s = ownL s.1.2.1 ∧ WK fs s ∧ WP s.2.2.1.length (tB fs s.2.2.1) s.2.1.1 (xsN s) ∧ AL cmP (xsN s) ∧ AL cmQ (xsN s) ∧ AL (fun x => x.2.1 = 4 → 1 ≤ x.2.2.2.1 ∧ x.2.2.2.1 ≤ 4) (xsN s) ∧ (∀ d, d ∈ s.1.2.2.1 → d < (xsN s).length) ∧ ∀ d, stN (xsN s) d = 2 → d ∈ s.1.2.2.1 := by
  obtain ⟨hst0, _⟩ := ST0_xs (gs := gs) (ws := ws) hgl hwl
  have hxs : xsN s = ownL s.1.2.1 := by unfold xsN; rw [if_pos h0]
  have hWK : WK fs s := by rw [hs]; exact WK_0 hf hst0
  have h3 : AL (fun x => x.2.1 ≤ 3) s.1.2.1 := by
    rw [hs]
    exact TK_inv (P := fun s => AL (fun x => x.2.1 ≤ 3) s.2.1) le3_tk hf (fun i x hx => by
      have := (hst0.1 i x hx).2.1.2
      omega)
  have hle : (ownL s.1.2.1).length = s.1.2.1.length := by rw [← List.length_map (f := Prod.fst), ownL_fst, List.length_map]
  refine ⟨hxs, hWK, ?_, ?_, ?_, ?_, ?_, ?_⟩
  · rw [hxs]; exact WP_own (WP_of hWK)
  · rw [hxs]
    refine AL_own (fun k hk x _ hp => ⟨fun e => absurd (show (4 : Nat) = 2 from e) (by decide), hk⟩) ?_
    rw [hs]; exact cmP_0 hf hst0
  · rw [hxs, hs]; exact cmQ_0 hf hst0
  · rw [hxs]; exact ownL_ge h3
  · intro d hd; rw [hxs, hle]; exact hWK.2.2.2.2 d hd
  · intro d hd
    rw [hxs] at hd
    exact odT_own (s := s.1) (by rw [hs]; exact odT_0 hf) d (Or.inr (Or.inl hd))
theorem anN_0 {xs : px_NL} (h : anN fs ws s xs = 0) : s.1.1 = 0 := by
  unfold anN at h
  by_cases c : s.1.1 = 0
  · exact c
  · rw [if_neg c] at h; exact h
theorem anN_2 {xs : px_NL} (h : s.1.1 ≤ 2) : anN fs ws s xs ≤ 2 := by
  unfold anN
  split
  · split <;> omega
  · exact h
/-- the bytes of the files, as the reference has them -/
def BFs (fs : px_FS) (B : Nat → Nat) : Prop := ∀ q o n b, obAt fs q = some (o, n, b, false) → o + n ≤ 65536 ∧ ∀ x, x < n → B (o + x) = b x
end PRF
section CRN
variable {F : Nat} {c : px_CT} {sk : Nat → Nat × Nat × Nat} {L : Nat} {τ : px_TT} {own : Nat → Nat × Nat} {fs : px_FS} {s : px_TK} {xs : px_NL} {ST rn : Nat → Bool} {C B : Nat → Nat} {ll : List Nat} {gs : List (List Nat × Int64)} {ws : List (List Nat)} {k : Nat} {rc : Bool} {R : Nat → Bool}
theorem CBR_of (h : TKe sk L own τ fs s xs ST rn) (hl : llS2 s ST ll) (hk : STk fs s ST) (hb : CB τ C) (hB : BFs fs B) : CBR C B (cAd fs s.2.2.1 (tB fs s.2.2.1)) (tOf fs s.2.2.1) (tB fs s.2.2.1) ll := fun x hx hs => by
  obtain ⟨hx1, hx2⟩ := hl.2 x hx
  have ht : x / 24 < s.2.2.1.length := by omega
  obtain ⟨q, hq⟩ : ∃ q, s.2.2.1[x / 24]? = some q := ⟨_, List.getElem?_eq_getElem ht⟩
  obtain ⟨o, n, b, hob⟩ := (h.2.2.2.2.1.1.2.2.2.2.2.2 q (List.mem_of_getElem? hq)).2
  have eT : obT fs s.2.2.1 (x / 24) = (o, n, b, false) := by unfold obT; rw [hq]; show (obAt fs q).getD _ = _; rw [hob]; rfl
  have eo : tOf fs s.2.2.1 (x / 24) = o := by unfold tOf; rw [eT]
  have eb : tB fs s.2.2.1 (x / 24) = b := by unfold tB; rw [eT]
  have en : tNf fs s.2.2.1 (x / 24) = n := by unfold tNf; rw [eT]
  obtain ⟨q', hq', _, hD, hcb, he, _⟩ := TKe_ob h ht
  have eq : q' = q := Option.some.inj (hq'.symm.trans hq)
  subst eq
  rw [en, eb] at hcb he
  have hi24 : x % 24 < oS b := by have := (TKe_pt h hk hx1 hx2).2.2.2.2.2; rw [eb] at this; exact this
  have hs' : oStr b (x % 24) = true := by unfold sS at hs; rw [eb] at hs; exact hs
  have hs0 : oStr0 b (x % 24) = true := by unfold oStr at hs'; rw [Bool.and_eq_true] at hs'; exact hs'.1
  have hs1 := of_decide_eq_true hs0
  have hin := oK_in (eObj_0 he).1.1 hi24 hs1.1 hs1.2.1
  have hn16 : bsO fs q' + n ≤ 65536 := by have := hD.1.1.1.1.2.2.2.2.2.2.2.2.1; rw [en] at this; exact this
  obtain ⟨b1, b2⟩ := hB q' o n b hob
  have eA : cAd fs s.2.2.1 (tB fs s.2.2.1) x = bsO fs q' + oP b (x % 24) := by unfold cAd; rw [eb, List.getD_eq_getElem?_getD, hq]; rfl
  have eP : pS (tOf fs s.2.2.1) (tB fs s.2.2.1) x = o + oP b (x % 24) := by unfold pS; rw [eo, eb]
  have eZ : zS (tB fs s.2.2.1) x = oZ b (x % 24) := by unfold zS; rw [eb]
  rw [eA, eP, eZ]
  have hCb : ∀ y, y < n → C (bsO fs q' + y) = b y := fun y hy => by rw [hb.2, ← hcb, cb_at hy]
  refine ⟨by omega, by omega, fun i hi => ?_, ?_⟩
  · rw [Nat.add_assoc, hCb _ (by omega), Nat.add_assoc, b2 _ (by omega)]
  · rw [Nat.add_assoc, b2 _ (by omega), show oP b (x % 24) + (oZ b (x % 24) - 1) = oP b (x % 24) + oZ b (x % 24) - 1 by omega]
    exact hs1.2.2.2.2.2
/-- OUT and the draft, and the other rows -/
def ROk (sk : Nat → Nat × Nat × Nat) (L : Nat) (τ : px_TT) : Prop := (∃ ro rd, ((ro = 3 ∧ rd = 5) ∨ (ro = 5 ∧ rd = 3)) ∧ fN τ 0 1 = some ro ∧ fN τ 0 2 = some rd) ∧ rowOK sk L τ 3 4 65536 ∧ rowOK sk L τ 5 6 65536 ∧ rowOK sk L τ 1711 1712 65536 ∧ rowOK sk L τ 1714 1715 1536 ∧ rowOK sk L τ 1719 1720 65536
theorem rowOK_fx {τ' : px_TT} {r A n : Nat} {sk' : Nat → Nat × Nat × Nat} {L' : Nat} (h : rowOK sk L τ r A n) (e : EX sk L sk' L') (h0 : fN τ' r 0 = fN τ r 0) (h1 : fI τ' r 1 = fI τ r 1) (h2 : fI τ' r 2 = fI τ r 2) (hA : eI τ' A = eI τ A) : rowOK sk' L' τ' r A n := by
  obtain ⟨a1, a2, a3, a4, ⟨z, z1, z2⟩, ⟨b, b1⟩, a7⟩ := h
  exact ⟨ob_ex a1 e, ar_ex a2 e, a3, h0.trans a4, ⟨z, z1, h1.trans z2⟩, ⟨b, h2.trans b1⟩, by rw [hA]; exact a7⟩
theorem ROk_fx {τ' : px_TT} {sk' : Nat → Nat × Nat × Nat} {L' : Nat} (h : ROk sk L τ) (e : EX sk L sk' L') (hN0 : ∀ k, fN τ' 0 k = fN τ 0 k) (hN : ∀ a k, (a = 3 ∨ a = 5 ∨ 1711 ≤ a ∧ a < 1726) → fN τ' a k = fN τ a k) (hI : ∀ a k, (a = 3 ∨ a = 5 ∨ 1711 ≤ a ∧ a < 1726) → fI τ' a k = fI τ a k) (hE : ∀ a, (a = 4 ∨ a = 6 ∨ 1711 ≤ a ∧ a < 1726) → eI τ' a = eI τ a) : ROk sk' L' τ' := by
  obtain ⟨⟨ro, rd, r1, r2, r3⟩, h3, h5, h11, h14, h19⟩ := h
  exact ⟨⟨ro, rd, r1, (hN0 1).trans r2, (hN0 2).trans r3⟩, rowOK_fx h3 e (hN _ _ (by omega)) (hI _ _ (by omega)) (hI _ _ (by omega)) (hE _ (by omega)), rowOK_fx h5 e (hN _ _ (by omega)) (hI _ _ (by omega)) (hI _ _ (by omega)) (hE _ (by omega)), rowOK_fx h11 e (hN _ _ (by omega)) (hI _ _ (by omega)) (hI _ _ (by omega)) (hE _ (by omega)), rowOK_fx h14 e (hN _ _ (by omega)) (hI _ _ (by omega)) (hI _ _ (by omega)) (hE _ (by omega)), rowOK_fx h19 e (hN _ _ (by omega)) (hI _ _ (by omega)) (hI _ _ (by omega)) (hE _ (by omega))⟩
/-- a row is written: the rows stay -/
theorem ROk_Rw {τ' : px_TT} {r A n : Nat} (h : ROk sk L τ) (f : frRw r A τ τ') (hr : rowOK sk L τ' r A n) (hc : (r = 3 ∧ A = 4 ∧ n = 65536) ∨ (r = 5 ∧ A = 6 ∧ n = 65536) ∨ (r = 1711 ∧ A = 1712 ∧ n = 65536) ∨ (r = 1714 ∧ A = 1715 ∧ n = 1536) ∨ (r = 1719 ∧ A = 1720 ∧ n = 65536)) : ROk sk L τ' := by
  obtain ⟨⟨ro, rd, r1, r2, r3⟩, h3, h5, h11, h14, h19⟩ := h
  have ot : ∀ {r' A' n' : Nat}, rowOK sk L τ r' A' n' → r' ≠ r → A' ≠ A → rowOK sk L τ' r' A' n' := fun hh h1 h2 => rowOK_fx hh EX_refl (f.2.2.1 _ _) (f.1 _ _ (Or.inl h1)) (f.1 _ _ (Or.inl h1)) (f.2.2.2.1 _ h2)
  refine ⟨⟨ro, rd, r1, (f.2.2.1 _ _).trans r2, (f.2.2.1 _ _).trans r3⟩, ?_⟩
  rcases hc with ⟨e1, e2, e3⟩ | ⟨e1, e2, e3⟩ | ⟨e1, e2, e3⟩ | ⟨e1, e2, e3⟩ | ⟨e1, e2, e3⟩ <;> (subst e1 e2 e3)
  · exact ⟨hr, ot h5 (by decide) (by decide), ot h11 (by decide) (by decide), ot h14 (by decide) (by decide), ot h19 (by decide) (by decide)⟩
  · exact ⟨ot h3 (by decide) (by decide), hr, ot h11 (by decide) (by decide), ot h14 (by decide) (by decide), ot h19 (by decide) (by decide)⟩
  · exact ⟨ot h3 (by decide) (by decide), ot h5 (by decide) (by decide), hr, ot h14 (by decide) (by decide), ot h19 (by decide) (by decide)⟩
  · exact ⟨ot h3 (by decide) (by decide), ot h5 (by decide) (by decide), ot h11 (by decide) (by decide), hr, ot h19 (by decide) (by decide)⟩
  · exact ⟨ot h3 (by decide) (by decide), ot h5 (by decide) (by decide), ot h11 (by decide) (by decide), ot h14 (by decide) (by decide), hr⟩
/-- OUT's row -/
theorem ROk_out (h : ROk sk L τ) : ∃ ro, (ro = 3 ∨ ro = 5) ∧ fN τ 0 1 = some ro ∧ rowOK sk L τ ro (ro + 1) 65536 := by
  obtain ⟨⟨ro, rd, r1, r2, r3⟩, h3, h5, _⟩ := h
  rcases r1 with ⟨e, _⟩ | ⟨e, _⟩
  · subst e; exact ⟨3, Or.inl rfl, r2, h3⟩
  · subst e; exact ⟨5, Or.inr rfl, r2, h5⟩
theorem ROk_dr (h : ROk sk L τ) : ∃ rd, (rd = 3 ∨ rd = 5) ∧ fN τ 0 2 = some rd ∧ rowOK sk L τ rd (rd + 1) 65536 := by
  obtain ⟨⟨ro, rd, r1, r2, r3⟩, h3, h5, _⟩ := h
  rcases r1 with ⟨_, e⟩ | ⟨_, e⟩
  · subst e; exact ⟨5, Or.inr rfl, r3, h5⟩
  · subst e; exact ⟨3, Or.inl rfl, r3, h3⟩
/-- what a link's end writes: its answer, OUT -/
def frE3 (τ τ' : px_TT) : Prop := frZ τ τ' ∧ (∀ a, (a = 1 ∨ a = 2 ∨ 1711 ≤ a) → (∀ k, fI τ' a k = fI τ a k) ∧ (∀ k, fJ τ' a k = fJ τ a k) ∧ eI τ' a = eI τ a ∧ eJ τ' a = eJ τ a ∧ eN τ' a = eN τ a) ∧ (∀ k, fN τ' 0 k = fN τ 0 k) ∧ (∀ k, fI τ' 0 k = fI τ 0 k)
theorem frE3_Rw {τ' : px_TT} {r : Nat} (f : frRw r (r + 1) τ τ') (hr : r = 3 ∨ r = 5) : frE3 τ τ' := ⟨frZ_Rw f (by unfold Zc; omega) (by unfold Zc; omega), fun a ha => ⟨fun k => f.1 a k (Or.inl (by omega)), fun k => f.2.1 a k, f.2.2.2.1 a (by omega), f.2.2.2.2.1 a, f.2.2.2.2.2 a⟩, fun k => f.2.2.1 0 k, fun k => f.1 0 k (Or.inl (by omega))⟩
theorem frE3_trans {τ1 τ2 : px_TT} (h : frE3 τ τ1) (g : frE3 τ1 τ2) : frE3 τ τ2 := ⟨frZ_trans h.1 g.1, fun a ha => ⟨fun k => ((g.2.1 a ha).1 k).trans ((h.2.1 a ha).1 k), fun k => ((g.2.1 a ha).2.1 k).trans ((h.2.1 a ha).2.1 k), (g.2.1 a ha).2.2.1.trans (h.2.1 a ha).2.2.1, (g.2.1 a ha).2.2.2.1.trans (h.2.1 a ha).2.2.2.1, (g.2.1 a ha).2.2.2.2.trans (h.2.1 a ha).2.2.2.2⟩, fun k => (g.2.2.1 k).trans (h.2.2.1 k), fun k => (g.2.2.2 k).trans (h.2.2.2 k)⟩
theorem k_rl_63 {a : Nat} (hF : 65536 < F) (hS : GS sk L) (hR : GR τ) (hro : ROk sk L τ) (hbl : BL sk L τ) (ha : a ≤ 4) : ∃ τ', f_H_runLink_63 F c 0 (nI a) (cH sk L τ) = some (nI a, cH sk L τ') ∧ fI τ' 147 18 = nI a ∧ ROk sk L τ' ∧ frE3 τ τ' := by
  obtain ⟨τ1, hτ1⟩ : ∃ y, y = tI τ 147 18 (nI a) := ⟨_, rfl⟩
  have f1 : frE3 τ τ1 := by
    rw [hτ1]
    exact ⟨frZ_I (Or.inr (Or.inr (Or.inr (Or.inr ⟨rfl, rfl⟩)))), fun x hx => ⟨fun k => tI_ne (Or.inl (by omega)), fun _ => rfl, rfl, rfl, rfl⟩, fun _ => rfl, fun k => tI_ne (Or.inl (by decide))⟩
  have hR1 := GR_Z hR f1.1
  have hro1 : ROk sk L τ1 := ROk_fx hro EX_refl (fun k => f1.2.2.1 k) (fun x k _ => by rw [hτ1]; rfl) (fun x k hx => by rw [hτ1]; exact tI_ne (Or.inl (by omega))) (fun x _ => by rw [hτ1]; rfl)
  have h18 : fI τ1 147 18 = nI a := by rw [hτ1, tI_at]
  obtain ⟨ro, hro2, hN1, hrow⟩ := ROk_out hro1
  obtain ⟨τ2, b1, b2, b3⟩ := k_clearS (F := F) (c := c) hrow
  have hR2 := GR_Rw hR1 b3 (by omega)
  have hro3 := ROk_Rw hro1 b3 b2 (by omega)
  have f2 := frE3_trans f1 (frE3_Rw b3 hro2)
  have hN2 : fN τ2 0 1 = some ro := (b3.2.2.1 0 1).trans hN1
  have e18 : ∀ {τ3 : px_TT}, frRw ro (ro + 1) τ2 τ3 → fI τ3 147 18 = nI a := fun f => by rw [f.1 _ _ (Or.inl (by omega)), b3.1 _ _ (Or.inl (by omega))]; exact h18
  have hob := hrow.1
  unfold f_H_runLink_63 f_H_runLink_139
  rw [C0r11 (G0 hS) (GR_r (v := 147) hR (by decide)), bs, C3p18 (G147 hS), bs, ← hτ1]
  by_cases c0 : a = 0
  · rw [if_pos (show nI a = 0 by rw [c0]; rfl)]
    obtain ⟨τ3, d1, d2, d3⟩ := k_copyS (F := F) (c := c) (q := nI 0) (m := fI τ2 1711 1) (G1712 hS) (by decide) (hro3.2.2.2.1.2.2.2.2.2.2) b2
    refine ⟨τ3, ?_, e18 d3, ROk_Rw hro3 d3 d2 (by omega), frE3_trans f2 (frE3_Rw d3 hro2)⟩
    rw [C0r1 (G0 hS) hN1, bs, c_o hob, bs, b1, xb_mk, C0r1 (G0 hS) hN2, bs, C0r14 (G0 hS) (GR_r (v := 1710) hR2 (by decide)), bs, C1r4 (G1710 hS) (GR_r (v := 1711) hR2 (by decide)), bs, C10r0 (G1711 hS) (GR_r (v := 1712) hR2 (by decide)), bs, bs, C1r4 (G1710 hS) (GR_r (v := 1711) hR2 (by decide)), bs, C10g1 (G1711 hS), bs, c_o hob, bs, d1, xb_mk]
  · rw [if_neg (show ¬ nI a = 0 from fun e => c0 ((nI_eq (b := 0) (by omega) (by decide)).mp e))]
    by_cases c3 : 3 ≤ a
    · rw [if_pos (nI_le c3 (by omega))]
      exact ⟨τ1, rfl, h18, hro1, f1⟩
    · rw [if_neg (nI_ge (by omega) (by decide))]
      obtain ⟨p, w, p1, p2, p3, p4⟩ := hbl
      have p1' : fN τ2 147 13 = some p := by rw [b3.2.2.1, hτ1]; exact p1
      obtain ⟨τ3, d1, d2, d3⟩ := k_writeToS (F := F) (c := c) (by omega) p2 b2
      refine ⟨τ3, ?_, e18 d3, ROk_Rw hro3 d3 d2 (by omega), frE3_trans f2 (frE3_Rw d3 hro2)⟩
      rw [C0r1 (G0 hS) hN1, bs, c_o hob, bs, b1, xb_mk, C0r11 (G0 hS) (GR_r (v := 147) hR2 (by decide)), bs, C3n13 (G147 hS), bs, C0r1 (G0 hS) hN2, bs, p1', bs, c_o p2, bs, d1, xb_mk]
end CRN
