section
/-! runLink of the class -/
/-- what a link leaves as it was -/
def frRL (τ τ' : px_TT) : Prop := (∀ a, (a = 1 ∨ a = 2 ∨ (1713 ≤ a ∧ a < 1815)) → (∀ k, fI τ' a k = fI τ a k) ∧ (∀ k, fJ τ' a k = fJ τ a k) ∧ (∀ k, fN τ' a k = fN τ a k) ∧ eI τ' a = eI τ a ∧ eJ τ' a = eJ τ a ∧ eN τ' a = eN τ a) ∧ (∀ k, fI τ' 0 k = fI τ 0 k) ∧ (∀ a k, a < 1726 → (a ≠ 147 ∨ k ≠ 13) → fN τ' a k = fN τ a k)
theorem frRL_trans {τ τ1 τ2 : px_TT} (h : frRL τ τ1) (g : frRL τ1 τ2) : frRL τ τ2 := ⟨fun a ha => ⟨fun k => ((g.1 a ha).1 k).trans ((h.1 a ha).1 k), fun k => ((g.1 a ha).2.1 k).trans ((h.1 a ha).2.1 k), fun k => ((g.1 a ha).2.2.1 k).trans ((h.1 a ha).2.2.1 k), (g.1 a ha).2.2.2.1.trans (h.1 a ha).2.2.2.1, (g.1 a ha).2.2.2.2.1.trans (h.1 a ha).2.2.2.2.1, (g.1 a ha).2.2.2.2.2.trans (h.1 a ha).2.2.2.2.2⟩, fun k => (g.2.1 k).trans (h.2.1 k), fun a k x y => (g.2.2 a k x y).trans (h.2.2 a k x y)⟩
theorem frRL_Rs {τ τ' : px_TT} (f : frRs τ τ') : frRL τ τ' := ⟨fun a ha => ⟨fun k => f.1 a k (by omega) (by omega) (by omega) (by omega) (by omega) (by omega), fun k => f.2.1 a k (by omega) (by omega) (by omega) (by omega), fun k => f.2.2.1 a k (by omega) (by omega), f.2.2.2.1 a, f.2.2.2.2.1 a, f.2.2.2.2.2 a (by omega) (by omega) (by omega) (by omega) (by omega)⟩, fun k => f.1 0 k (by omega) (by omega) (by omega) (by omega) (by omega) (by omega), fun a k h1 h2 => f.2.2.1 a k (by omega) h2⟩
theorem frRL_Ly {τ τ' : px_TT} (f : frLy τ τ') : frRL τ τ' := ⟨fun a ha => ⟨fun k => f.1 a k (by omega) (by omega) (by omega), fun k => f.2.2.1 a k (by omega) (by omega) (by omega) (by omega), fun k => f.2.2.2.2.1 a k, f.2.2.2.2.2.1 a (by omega), f.2.2.2.2.2.2.1 a (by omega), f.2.2.2.2.2.2.2 a (by omega)⟩, fun k => f.1 0 k (by omega) (by omega) (by omega), fun a k _ _ => f.2.2.2.2.1 a k⟩
theorem frRL_S {τ τ' : px_TT} (f : frSi τ τ') : frRL τ τ' := ⟨fun a ha => ⟨fun k => f.1 a k (Or.inl (by omega)), fun k => f.2.1 a k (by omega), fun k => f.2.2.1 a k, f.2.2.2.1 a (by omega), f.2.2.2.2.1 a, f.2.2.2.2.2 a⟩, fun k => f.1 0 k (Or.inl (by omega)), fun a k _ _ => f.2.2.1 a k⟩
theorem frRL_E {τ τ' : px_TT} (f : frE3 τ τ') : frRL τ τ' := ⟨fun a ha => ⟨(f.2.1 a (by omega)).1, (f.2.1 a (by omega)).2.1, fun k => f.1.2.2.1 a k (by omega), (f.2.1 a (by omega)).2.2.1, (f.2.1 a (by omega)).2.2.2.1, (f.2.1 a (by omega)).2.2.2.2⟩, f.2.2.2, fun a k _ _ => by
    by_cases e : a = 0
    · subst e; exact f.2.2.1 k
    · exact f.1.2.2.1 a k (fun h => absurd h e)⟩
/-- the file's size, the segments that are there -/
def CKZ (τ : px_TT) (fe : Nat) (th : Nat → Bool) : Prop := fe ≤ 65536 ∧ fI τ 1711 1 = nI fe ∧ ∀ j, j < 3 → eI τ 1703 j = bI (th j)
def CKY (fs : px_FS) (s : px_TK) (rc : Bool) (B : Nat → Nat) (τ : px_TT) : Prop := ∃ ll ad NA, lnX fs s rc B ll ad NA ∧ COr τ ll ∧ (ll.length ≤ 1536 ∧ ∀ x, x ∈ ll → x < 24 * s.2.2.1.length ∧ kpB (tB fs s.2.2.1 (x / 24)) (x % 24) = true) ∧ (∀ x, x ∈ ll → fJ τ (152 + x) 11 = lN (ad x)) ∧ (∀ j, j < (xsN s).length → fJ τ (pN τ 149 j) 14 = NA.1 j) ∧ CKZ τ (vFe NA.2.2.2.2) NA.2.1
theorem CKY_mk {fs : px_FS} {s : px_TK} {rc : Bool} {B : Nat → Nat} {τ : px_TT} {ll : List Nat} {ad : Nat → Nat} {NA : Nat → Int64} {th : Nat → Bool} {sl : List Nat} {sy : Nat → Nat → Bool} {V : px_VV} (h : lnX fs s rc B ll ad (NA, th, sl, sy, V)) (h1 : COr τ ll) (h2 : ll.length ≤ 1536 ∧ ∀ x, x ∈ ll → x < 24 * s.2.2.1.length ∧ kpB (tB fs s.2.2.1 (x / 24)) (x % 24) = true) (h3 : ∀ x, x ∈ ll → fJ τ (152 + x) 11 = lN (ad x)) (h4 : ∀ j, j < (xsN s).length → fJ τ (pN τ 149 j) 14 = NA j) (h5 : CKZ τ (vFe V) th) : CKY fs s rc B τ := ⟨ll, ad, (NA, th, sl, sy, V), h, h1, h2, h3, h4, h5⟩
theorem LYe_lo {B tO : Nat → Nat} {tb : Nat → Nat → Nat} {ll : List Nat} {xs : px_NL} {od : List Nat} {ns : Nat} {on : Bool} {rn th : Nat → Bool} {fe0 bg0 : Nat} {G0 : px_PG} {fe1 mem1 bg1 : Nat} {G1 : px_PG} {fe2 mem2 bg2 : Nat} {G4 G5 G2 : px_PG} {sp : Nat} {G3 CM : px_PG} {fe3 : Nat} (h : LYe B tO tb ll xs od ns on rn th fe0 bg0 G0 fe1 mem1 bg1 G1 fe2 mem2 bg2 G4 G5 G2 sp G3 CM fe3) : 64 + 56 * sgN th 3 + (if ll.any (thr1 tb) = true then 56 else 0) ≤ fe3 := by
  obtain ⟨l1, l2, l3, l4, l5, l6, l7, l8, l9, l10, l11, l12, l13, l14, l15, l16, l17⟩ := h
  have u0 := upN_le (v := fe0) (a := 16) (by decide)
  have u1 := upN_le (v := fe1) (a := 16) (by decide)
  have u2 := upN_le (v := fe2) (a := 16) (by decide)
  have mo01 : fe0 ≤ fe1 := by rw [l4]; split <;> omega
  have mo12 : fe1 ≤ fe2 := by rw [l8]; split <;> omega
  have mo23 : fe2 ≤ fe3 := by rw [l17]; split <;> omega
  rw [← l1]
  omega
section CRL
variable {F : Nat} {c : px_CT} {sk : Nat → Nat × Nat × Nat} {L : Nat} {τ : px_TT} {own : Nat → Nat × Nat} {fs : px_FS} {s : px_TK} {B : Nat → Nat} {gs : List (List Nat × Int64)} {ws : List (List Nat)} {k a : Nat} {rc : Bool}
/-- the order of parts is one of parts -/
def WOr (τ : px_TT) : Prop := ∃ ll : List Nat, ll.length ≤ 1536 ∧ (∀ x, x ∈ ll → x < 1536) ∧ COr τ ll
theorem WOr_fx {τ' : px_TT} (h : WOr τ) (e1 : fI τ' 1700 11 = fI τ 1700 11) (e2 : eN τ' 1701 = eN τ 1701) : WOr τ' := by
  obtain ⟨ll, l1, l2, l3⟩ := h
  exact ⟨ll, l1, l2, COr_fx l3 e1 e2⟩
theorem BL_Ly {τ' : px_TT} (hS : GS sk L) (h : BL sk L τ) (f : frLy τ τ') : BL sk L τ' := by
  obtain ⟨p, w, p1, p2, p3, p4⟩ := h
  have h1 : p ≠ 1697 := fun e => by have := p2.1; rw [e, (G1697 hS).1] at this; exact absurd this (by decide)
  have h2 : p ≠ 1700 := fun e => by have := p2.1; rw [e, (G1700 hS).1] at this; exact absurd this (by decide)
  refine ⟨p, w, (f.2.2.2.2.1 147 13).trans p1, p2, ?_, p4⟩
  by_cases e : p < 1815
  · exact ⟨(f.2.2.1 _ 0 e h1 h2 (by omega)).trans p3.1, (f.2.2.1 _ 1 e h1 h2 (by omega)).trans p3.2.1, (f.2.2.1 _ 2 e h1 h2 (by omega)).trans p3.2.2.1, (f.1 _ 3 e h1 h2).trans p3.2.2.2⟩
  · exact ⟨(f.2.2.2.1 _ 0 (by omega) (by omega)).trans p3.1, (f.2.2.2.1 _ 1 (by omega) (by omega)).trans p3.2.1, (f.2.2.2.1 _ 2 (by omega) (by omega)).trans p3.2.2.1, (f.2.1 _ 3 (by omega) (by omega) (by omega)).trans p3.2.2.2⟩
theorem k_runLink (hF : 65540 < F) (hc : KT c) (hS : GS sk L) (hR : GR τ) (hn : NP sk L τ own) (hg : CG sk L τ gs) (hw : CW sk L τ ws) (hf : CF sk L τ fs) (hm : RMk sk L (k + rmT fs [] + 32)) (hnd : (gs.map Prod.fst).Nodup) (hst : isNm τ 1696 wST) (hro : ROk sk L τ) (hwo : WOr τ) (hsum : (fs.map Prod.fst).sum ≤ 4096) (hB : BFs fs B) (hln : lnR fs gs ws rc B s a) : ∃ sk' L' τ' own' ST rn, f_H_runLink F c 0 (bI rc) (cH sk L τ) = some (nI a, cH sk' L' τ') ∧ EX sk L sk' L' ∧ RMk sk' L' k ∧ TKe sk' L' own' τ' fs s (xsN s) ST rn ∧ CG sk' L' τ' gs ∧ CW sk' L' τ' ws ∧ isNm τ' 1696 wST ∧ ROk sk' L' τ' ∧ fI τ' 147 18 = nI a ∧ WOr τ' ∧ (∀ q, q < 64 → CC2 τ' fs s q) ∧ frRL τ τ' ∧ (a = 0 → CKY fs s rc B τ') ∧ (rc = false → ∀ x, ST x = (kpB (tB fs s.2.2.1 (x / 24)) (x % 24) && !s.2.1.1 x)) := by
  obtain ⟨hs, hn0, hn1⟩ := hln
  have hgl : gs.length ≤ 16 := by have := hg.1.2.2.2.1; rw [List.length_map] at this; exact this
  have hwl : ws.length ≤ 16 := hw.2.2.2.1
  obtain ⟨sk1, L1, τ1, own1, ST, rn, a1, a2, a3, a4, a5, a6, a7, a8, a9, a10, a11, a12⟩ := k_resolve (F := F) (c := c) (rc := rc) (by omega) hS hR hn hg hw hf hm hnd hst hs
  have hS1 := a4.1
  have hR1 := a4.2.1
  have hro1 : ROk sk1 L1 τ1 := ROk_fx hro a2 (fun j => a9.2.2.1 0 j (by omega) (by omega)) (fun x j hx => a9.2.2.1 x j (by omega) (by omega)) (fun x j hx => a9.1 x j (by omega) (by omega) (by omega) (by omega) (by omega) (by omega)) (fun x _ => a9.2.2.2.1 x)
  have hwo1 : WOr τ1 := WOr_fx hwo (a9.1 1700 11 (by omega) (by omega) (by omega) (by omega) (by omega) (by omega)) (a9.2.2.2.2.2 1701 (by omega) (by omega) (by omega) (by omega) (by omega))
  by_cases ca : anN fs ws s (xsN s) = 0
  · obtain ⟨R', rn0', r1, r2, r3⟩ := a11 ca
    obtain ⟨R, rn0, e1, e2⟩ := hn1 ca
    have h0 := anN_0 ca
    have hFSo := CF_FSo hf
    obtain ⟨x1, x2, x3, x4, x5, x6, x7, x8⟩ := LN_f (fs := fs) (gs := gs) (ws := ws) (s := s) hFSo hgl hwl hs h0
    have hr : STr fs s rc R ST := fun x hx => by
      rw [r2 x hx]
      cases hrc : rc with
      | false => rfl
      | true =>
        have u1 := (r1 hrc).1 x
        have u2 := (e1 hrc).1 x
        have : R' x = R x := by
          cases q1 : R' x with
          | true => exact (u2.mpr (u1.mp q1)).symm
          | false =>
            cases q2 : R x with
            | false => rfl
            | true => rw [u1.mpr (u2.mp q2)] at q1; cases q1
        rw [this]
    have hrn : ∀ i, rn i = (!rc || rn0 i) := fun i => by
      rw [r3 i]
      cases hrc : rc with
      | false => rfl
      | true =>
        have u1 := (r1 hrc).2 i
        have u2 := (e1 hrc).2 i
        have : rn0' i = rn0 i := by
          cases q1 : rn0' i with
          | true => exact (u2.mpr (u1.mp q1)).symm
          | false =>
            cases q2 : rn0 i with
            | false => rfl
            | true => rw [u1.mpr (u2.mp q2)] at q1; cases q1
        rw [this]
    obtain ⟨ll, hll⟩ : ∃ ll, ll = layL s.2.2.1.length (tB fs s.2.2.1) (sta (tB fs s.2.2.1) s.2.1.1 rc R) := ⟨_, rfl⟩
    obtain ⟨sl, hsl⟩ : ∃ sl, sl = slL s.2.2.1.length (tB fs s.2.2.1) s.2.1.1 (xsN s) (sta (tB fs s.2.2.1) s.2.1.1 rc R) := ⟨_, rfl⟩
    obtain ⟨th, hth⟩ : ∃ th, th = thS (tB fs s.2.2.1) ll (xsN s) s.1.2.2.1 rc rn0 sl.length := ⟨_, rfl⟩
    rw [← hll, ← hsl, ← hth] at e2
    obtain ⟨fe0, bg0, G0', fe1, mem1, bg1, G1, fe2, mem2, bg2, G4, G5, G2, sp, G3, CM, fe3, hL, ea⟩ := e2
    obtain ⟨hl, hll2, hall, hsr⟩ := STr_ll a4 hr hll
    have hk := STr_k hr
    have hN := SLN_of (s := s) hFSo x2.1 hsum
    have hof : off fs fs.length ≤ 32768 := by rw [off_sum]; omega
    obtain ⟨C, hC⟩ : ∃ C : Nat → Nat, C = fun x => b8 (eI τ1 8 x) := ⟨_, rfl⟩
    have hcb : CB τ1 C := ⟨a4.2.2.1.2.2.1, fun x => by rw [hC]⟩
    have hrel := CBR_of a4 hl hk hcb hB
    obtain ⟨τ2, cpf, b1, b2, ⟨b3, b4, b5⟩, b6⟩ := k_lay (F := F) (c := c) (τ := τ1) (C := C) (B := B) (tO := tOf fs s.2.2.1) (ll := ll) (sl := sl) (th := th) (rc := rc) (R := R) (rn0 := rn0) (by omega) hc hof hr x3 hN x4 x5 x6 hrn x7 x8 hll hsl hth hrel hL a4 a10.1 hcb
    have hns := hN _ b2.2.2.1.2
    have hZ := TKe_Z a4 hk hl
    have hpz1 := psz_le cpf b2.1.2.2.2.1.2.2.1.2
    have hpz2 := stL_len b2.1.2.2.2.1.2.2.1
    have hpzE := psz_T b2.1.2.2.2.2.2.2.2.1
    have hol : s.1.2.2.1.length ≤ 4128 := by
      have h1 := x2.1.2.2.2.1
      have h2 := BK_T (s := s) x2.1
      omega
    obtain ⟨⟨y1, y2, y3, y4⟩, _, _⟩ := LYe_b hZ hl.1 hns (by rw [← hpzE]; omega) (cmOK_of x4) x7 hol hL
    have hz3 := LYe_z hth hL
    have kt := k_isTooLarge (F := F) (c := c) (τ := τ2) (th := th) (by omega) b2.1.1.1 b2.1.1.2.1 b3 b4 b5 b2.2.2.2.2.2.2.2.2.1 ⟨by omega, by omega, by omega, y4⟩ hz3
    have hS2 := b2.1.1.1
    have hR2 := b2.1.1.2.1
    have hro2 : ROk sk1 L1 τ2 := ROk_fx hro1 EX_refl (fun j => b6.2.2.2.2.1 0 j) (fun x j _ => b6.2.2.2.2.1 x j) (fun x j hx => b6.1 x j (by omega) (by omega) (by omega)) (fun x hx => b6.2.2.2.2.2.1 x (by omega))
    have hwo2 : WOr τ2 := ⟨ll, hl.1, fun x hx => by have h1 := (hl.2 x hx).1; have h2 := BK_T (s := s) x2.1; omega, b2.2.1⟩
    have hbl2 := BL_Ly hS1 a7 b6
    have hg2 := CG_Ly a5 a4.2.2.2.1.1 b6
    have hw2 := CW_Ly a6 a4.2.2.2.1.1 b6
    have hst2 : isNm τ2 1696 wST := ⟨(b6.2.2.1 _ 0 (by omega) (by omega) (by omega) (by omega)).trans a8.1, (b6.2.2.1 _ 1 (by omega) (by omega) (by omega) (by omega)).trans a8.2.1, (b6.2.2.1 _ 2 (by omega) (by omega) (by omega) (by omega)).trans a8.2.2.1, (b6.1 _ 3 (by omega) (by omega) (by omega)).trans a8.2.2.2⟩
    have f2 := frRL_trans (frRL_Rs a9) (frRL_Ly b6)
    have pre : ∀ z, f_H_runLink F c 0 (bI rc) (cH sk L τ) = z ↔ (if bI (lyA th (G0'.1 - bg0) (G1.1 + psz B (pf0 B (tOf fs s.2.2.1) (tB fs s.2.2.1) ll) - bg1) (CM.1 - bg2) fe3) = 0 then f_H_runLink_35 F c 0 (nI 0) (cH sk1 L1 τ2) else f_H_runLink_35 F c 0 (nI 3) (cH sk1 L1 τ2)) = z := fun z => by
      unfold f_H_runLink
      rw [C0r11 (G0 hS) (GR_r (v := 147) hR (by decide)), bs, c_o (G147 hS), bs, a1, xb_mk, ca, if_pos (show nI 0 = 0 from rfl), C0r13 (G0 hS1) (GR_r (v := 1700) hR1 (by decide)), bs, c_o (G1700 hS1), bs, b1, xb_mk, C0r13 (G0 hS2) (GR_r (v := 1700) hR2 (by decide)), bs, c_o (G1700 hS2), bs, kt, xb_mk]
    have fin : ∀ (τ3 : px_TT) (a' : Nat), a' ≤ 4 → TKe sk1 L1 own1 τ3 fs s (xsN s) ST rn → CG sk1 L1 τ3 gs → CW sk1 L1 τ3 ws → isNm τ3 1696 wST → ROk sk1 L1 τ3 → WOr τ3 → BL sk1 L1 τ3 → frRL τ τ3 → (∀ q, q < 64 → CC2 τ3 fs s q) → ∃ τ4, f_H_runLink_63 F c 0 (nI a') (cH sk1 L1 τ3) = some (nI a', cH sk1 L1 τ4) ∧ TKe sk1 L1 own1 τ4 fs s (xsN s) ST rn ∧ CG sk1 L1 τ4 gs ∧ CW sk1 L1 τ4 ws ∧ isNm τ4 1696 wST ∧ ROk sk1 L1 τ4 ∧ fI τ4 147 18 = nI a' ∧ WOr τ4 ∧ (∀ q, q < 64 → CC2 τ4 fs s q) ∧ frRL τ τ4 ∧ frZ τ3 τ4 ∧ ∀ k, fI τ4 1711 k = fI τ3 1711 k := fun τ3 a' ha' q1 q2 q3 q4 q5 q6 q7 q8 q9 => by
      obtain ⟨τ4, u1, u2, u3, u4⟩ := k_rl_63 (F := F) (c := c) (by omega) q1.1 q1.2.1 q5 q7 ha'
      exact ⟨τ4, u1, TKe_Zf q1 u4.1, CG_Z q2 q1.2.2.2.1.1 u4.1, CW_Z q3 q1.2.2.2.1.1 u4.1, isNm_Z q4 u4.1, u3, u2, WOr_fx q6 (u4.1.1 1700 11 (Zc_no (by omega)) (by omega) (by omega) (by omega) (by omega)) (u4.1.2.2.2.2.2 1701 (by decide)), fun q hq => CC2_fx (q9 q hq) (u4.1.1 _ 15 (Zc_no (by omega)) (by omega) (by omega) (by omega) (by omega)) (u4.1.1 _ 16 (Zc_no (by omega)) (by omega) (by omega) (by omega) (by omega)), frRL_trans q8 (frRL_E u4), u4.1, (u4.2.1 1711 (by omega)).1⟩
    cases eA : lyA th (G0'.1 - bg0) (G1.1 + psz B (pf0 B (tOf fs s.2.2.1) (tB fs s.2.2.1) ll) - bg1) (CM.1 - bg2) fe3 with
    | true =>
      rw [eA, if_pos rfl] at ea
      have hz2 : ∀ q, q < 64 → CC2 τ2 fs s q := fun q hq => CC2_fx (a10.2 q hq) (b6.1 _ 15 (by omega) (by omega) (by omega)) (b6.1 _ 16 (by omega) (by omega) (by omega))
      obtain ⟨τ4, u1, u2, u3, u4, u5, u6, u7, u8, u9⟩ := fin τ2 3 (by decide) b2.1.1 hg2 hw2 hst2 hro2 hwo2 hbl2 f2 hz2
      refine ⟨sk1, L1, τ4, own1, ST, rn, (pre _).mpr ?_, a2, a3, u2, u3, u4, u5, u6, by rw [ea]; exact u7, u8, u9.1, u9.2.1, fun q => by omega, a12⟩
      rw [eA, if_neg (show ¬ bI true = 0 by decide), ea]
      unfold f_H_runLink_35 f_H_runLink_36
      rw [if_neg (show ¬ nI 3 = 0 by decide)]
      exact u1
    | false =>
      rw [eA, if_neg (by decide)] at ea
      obtain ⟨τ3, d1, d2, d3, d4⟩ := k_write (F := F) (c := c) (by omega) hc hr hN (by omega) b2 hst2 hro2.2.2.2.1
      have hL3 := LAD_Z b2 (frZ_F d3)
      have hro3 : ROk sk1 L1 τ3 := ROk_Rw hro2 d3 d2 (by omega)
      obtain ⟨τ4, g1, g2, g3, g4⟩ := k_fillSites (F := F) (c := c) (rn0 := rn0) (by omega) hr hc x3 e1 hsl hns rfl hL3 d2
      have hL4 := LAD_Z hL3 (frZ_S g3)
      have hro4 : ROk sk1 L1 τ4 := by
        obtain ⟨⟨ro, rd, w1, w2, w3⟩, h3, h5, h11, h14, h19⟩ := hro3
        exact ⟨⟨ro, rd, w1, (g3.2.2.1 _ _).trans w2, (g3.2.2.1 _ _).trans w3⟩, rowOK_fx h3 EX_refl (g3.2.2.1 _ _) (g3.1 _ _ (by omega)) (g3.1 _ _ (by omega)) (g3.2.2.2.1 _ (by omega)), rowOK_fx h5 EX_refl (g3.2.2.1 _ _) (g3.1 _ _ (by omega)) (g3.1 _ _ (by omega)) (g3.2.2.2.1 _ (by omega)), g2, rowOK_fx h14 EX_refl (g3.2.2.1 _ _) (g3.1 _ _ (by omega)) (g3.1 _ _ (by omega)) (g3.2.2.2.1 _ (by omega)), rowOK_fx h19 EX_refl (g3.2.2.1 _ _) (g3.1 _ _ (by omega)) (g3.1 _ _ (by omega)) (g3.2.2.2.1 _ (by omega))⟩
      have fz24 := frZ_trans (frZ_F d3) (frZ_S g3)
      have hbl4 : BL sk1 L1 τ4 := by
        obtain ⟨p, w, p1, p2, p3, p4⟩ := hbl2
        refine ⟨p, w, (g3.2.2.1 _ _).trans ((d3.2.2.1 _ _).trans p1), p2, ?_, p4⟩
        exact ⟨(g3.2.1 _ 0 (by omega)).trans ((d3.2.1 _ _).trans p3.1), (g3.2.1 _ 1 (by omega)).trans ((d3.2.1 _ _).trans p3.2.1), (g3.2.1 _ 2 (by omega)).trans ((d3.2.1 _ _).trans p3.2.2.1), (g3.1 _ 3 (by omega)).trans ((d3.1 _ 3 (by omega)).trans p3.2.2.2)⟩
      have f4 := frRL_trans f2 (frRL_trans (frRL_S (frSi_F d3)) (frRL_S g3))
      have hgo := fin τ4 a (by rw [ea]; split <;> omega) hL4.1.1 (CG_Z hg2 b2.1.1.2.2.2.1.1 fz24) (CW_Z hw2 b2.1.1.2.2.2.1.1 fz24) (isNm_Z hst2 fz24) hro4 (WOr_fx hwo2 (fz24.1 1700 11 (Zc_no (by omega)) (by omega) (by omega) (by omega) (by omega)) (fz24.2.2.2.2.2 1701 (by decide))) hbl4 f4 (fun q hq => CC2_fx (CC2_fx (a10.2 q hq) (b6.1 _ 15 (by omega) (by omega) (by omega)) (b6.1 _ 16 (by omega) (by omega) (by omega))) (fz24.1 _ 15 (Zc_no (by omega)) (by omega) (by omega) (by omega) (by omega)) (fz24.1 _ 16 (Zc_no (by omega)) (by omega) (by omega) (by omega) (by omega)))
      obtain ⟨τ5, u1, u2, u3, u4, u5, u6, u7, u8, u9⟩ := hgo
      have hL5 := LAD_Z hL4 u9.2.2.1
      have hfe : fe3 ≤ 65536 := by
        unfold lyA at eA
        rw [Bool.or_eq_false_iff, Bool.or_eq_false_iff, Bool.or_eq_false_iff] at eA
        have := of_decide_eq_false eA.2.2
        omega
      have hlo := LYe_lo hL
      have hsz : a = 0 → fI τ5 1711 1 = nI fe3 := fun h0 => by
        have w := ((g4 (if4 ea h0)).2 _ (d4 hfe (fun _ => 0))).2.1
        rw [siT_z, wrW_z b2.2.2.2.1.1 b2.2.2.2.1.2 hlo] at w
        exact (u9.2.2.2 1).trans w
      refine ⟨sk1, L1, τ5, own1, ST, rn, (pre _).mpr ?_, a2, a3, u2, u3, u4, u5, u6, u7, u8, u9.1, u9.2.1, fun h0 => CKY_mk (ad := G3.2.1) (NA := naF (ownV B (pf0 B (tOf fs s.2.2.1) (tB fs s.2.2.1) ll) (tOf fs s.2.2.1) (tB fs s.2.2.1) s.2.1.1 (sta (tB fs s.2.2.1) s.2.1.1 rc R) G1.1 G3.2.1) (ownK G0'.1 bg2 (sp + 8 * sl.length - bg2) (CM.2.2.getD CM.1) (CM.1 - bg2)) CM.2.1 (xsN s)) (th := th) (sl := sl) (sy := sta (tB fs s.2.2.1) s.2.1.1 rc R) (V := (fe0, bg0, G0', fe1, mem1, bg1, G1, fe2, mem2, bg2, G4, G5, G2, sp, G3, CM, fe3)) (lnX_mk e1 hll ⟨fe0, bg0, G0', fe1, mem1, bg1, G1, fe2, mem2, bg2, G4, G5, G2, sp, G3, CM, fe3, by rw [← hsl, ← hth]; exact hL, rfl, by rw [← hsl], rfl⟩ (by rw [← hsl]; exact hth) hsl rfl) hL5.2.1 ⟨hl.1, fun x hx => ⟨(hl.2 x hx).1, (hk x (hl.2 x hx).1 (hl.2 x hx).2).1⟩⟩ hL5.2.2.2.2.2.1 hL5.2.2.2.2.1 ⟨hfe, hsz h0, hL5.2.2.2.1.1⟩, a12⟩
      rw [eA, if_pos (show bI false = 0 from rfl)]
      unfold f_H_runLink_35 f_H_runLink_36 f_H_runLink_62
      rw [if_pos (show nI 0 = 0 from rfl), C0r14 (G0 hS2) (GR_r (v := 1710) hR2 (by decide)), bs, c_o (G1710 hS2), bs, d1, xb_mk, C0r14 (G0 hS2) (GR_r (v := 1710) hL3.1.1.2.1 (by decide)), bs, c_o (G1710 hS2), bs, g1, xb_mk]
      cases eO : ex1 (ovT (svF B (tOf fs s.2.2.1) (tB fs s.2.2.1) s.2.1.1 (xsN s) (sta (tB fs s.2.2.1) s.2.1.1 rc R) ll sl (naF (ownV B (pf0 B (tOf fs s.2.2.1) (tB fs s.2.2.1) ll) (tOf fs s.2.2.1) (tB fs s.2.2.1) s.2.1.1 (sta (tB fs s.2.2.1) s.2.1.1 rc R) G1.1 G3.2.1) (ownK G0'.1 bg2 (sp + 8 * sl.length - bg2) (CM.2.2.getD CM.1) (CM.1 - bg2)) CM.2.1 (xsN s)) G3.2.1 sp (tpN bg2 (ll.foldl (ft1 (tB fs s.2.2.1) G3.2.1) (false, 0, 1, 0))) G1.1) (tB fs s.2.2.1) (sta (tB fs s.2.2.1) s.2.1.1 rc R)) 0 s.2.2.1.length with
      | false =>
        rw [eO, if_neg (by decide)] at ea
        rw [if_neg (show ¬ bI (!false) = 0 by decide)]
        rw [ea] at u1 ⊢
        exact u1
      | true =>
        rw [eO, if_pos rfl] at ea
        rw [if_pos (show bI (!true) = 0 from rfl)]
        rw [ea] at u1 ⊢
        exact u1
  · have ea := hn0 ca
    have h2 : anN fs ws s (xsN s) ≤ 2 := anN_2 a4.2.2.2.2.1.1.1
    obtain ⟨τ2, u1, u2, u3, u4⟩ := k_rl_63 (F := F) (c := c) (a := a) (by omega) hS1 hR1 hro1 a7 (by omega)
    refine ⟨sk1, L1, τ2, own1, ST, rn, ?_, a2, a3, TKe_Zf a4 u4.1, CG_Z a5 a4.2.2.2.1.1 u4.1, CW_Z a6 a4.2.2.2.1.1 u4.1, isNm_Z a8 u4.1, u3, u2, WOr_fx hwo1 (u4.1.1 1700 11 (Zc_no (by omega)) (by omega) (by omega) (by omega) (by omega)) (u4.1.2.2.2.2.2 1701 (by decide)), fun q hq => CC2_fx (a10.2 q hq) (u4.1.1 _ 15 (Zc_no (by omega)) (by omega) (by omega) (by omega) (by omega)) (u4.1.1 _ 16 (Zc_no (by omega)) (by omega) (by omega) (by omega) (by omega)), frRL_trans (frRL_Rs a9) (frRL_E u4), fun q => by omega, a12⟩
    unfold f_H_runLink
    rw [C0r11 (G0 hS) (GR_r (v := 147) hR (by decide)), bs, c_o (G147 hS), bs, a1, xb_mk, ← ea, if_neg (show ¬ nI a = 0 from fun e => ca (by rw [← ea]; exact (nI_eq (b := 0) (by omega) (by decide)).mp e))]
    unfold f_H_runLink_36
    rw [if_neg (show ¬ nI a = 0 from fun e => ca (by rw [← ea]; exact (nI_eq (b := 0) (by omega) (by decide)).mp e))]
    exact u1
end CRL
end
section
/-! the class's readers: safe on whatever stands there -/
def rowS (sk : Nat → Nat × Nat × Nat) (L : Nat) (τ : px_TT) (r A n : Nat) : Prop := ob sk L 10 r ∧ ar sk L 0 n A ∧ n ≤ 65536 ∧ fN τ r 0 = some A ∧ ∃ z, z ≤ n ∧ fI τ r 1 = nI z
theorem rowOK_S {sk : Nat → Nat × Nat × Nat} {L : Nat} {τ : px_TT} {r A n : Nat} (h : rowOK sk L τ r A n) : rowS sk L τ r A n := ⟨h.1, h.2.1, h.2.2.1, h.2.2.2.1, h.2.2.2.2.1⟩
/-- a cell for an object of a file, whatever it holds -/
def obF (sk : Nat → Nat × Nat × Nat) (L : Nat) (τ : px_TT) (q : Nat) : Prop := ob sk L 7 q ∧ fN τ q 0 = some 7 ∧ ∃ g, fN τ q 3 = some g ∧ ar sk L 0 24 g
section CSF
variable {F : Nat} {c : px_CT} {sk : Nat → Nat × Nat × Nat} {L : Nat} {τ : px_TT} {r A n q : Nat}
theorem k_atS {x : Int32} (h : rowS sk L τ r A n) : ∃ v, f_Row_at F c r x (cH sk L τ) = some (v, cH sk L τ) := by
  obtain ⟨h1, h2, h3, h4, z, hz, ez⟩ := h
  unfold f_Row_at f_Row_at_25 f_Row_at_26
  by_cases c1 : x < 0
  · exact ⟨_, by rw [if_pos c1]⟩
  · obtain ⟨i, hi, ei⟩ := nI_of c1
    rw [if_neg c1, C10g1 h1, bs, ez, ei]
    by_cases c2 : z ≤ i
    · exact ⟨_, by rw [if_pos (nI_le c2 hi)]⟩
    · exact ⟨_, by rw [if_neg (nI_ge (by omega) (by omega)), C10r0 h1 h4, bs, c_aI h2 (Or.inl rfl) (by omega) (by omega), bs]⟩
theorem k_num7S {x : Int32} (h : rowS sk L τ r A n) : ∀ (d f : Nat) (v : Int64), d < f → d < 2 ^ 30 → ∃ w, f_Row_num_7 F c f r x v (nI d - nI 1) (cH sk L τ) = some (w, cH sk L τ) := by
  intro d
  induction d with
  | zero =>
    intro f v hf _
    obtain ⟨f, rfl⟩ : ∃ x, f = x + 1 := ⟨f - 1, by omega⟩
    unfold f_Row_num_7 f_Row_num_33
    exact ⟨_, by rw [if_pos (by decide)]⟩
  | succ d ih =>
    intro f v hf hd
    obtain ⟨f, rfl⟩ : ∃ x, f = x + 1 := ⟨f - 1, by omega⟩
    rw [pk_sub (by omega), Nat.add_sub_cancel]
    obtain ⟨w, kw⟩ := k_atS (F := F) (c := c) (x := x + nI d) h
    unfold f_Row_num_7
    rw [if_neg (nI_pos (by omega)), c_o h.1, bs, kw, xb_mk, nI_back]
    exact ih f _ (by omega) (by omega)
theorem k_numS {x : Int32} {k : Nat} (hF : 8 < F) (hk : k ≤ 8) (h : rowS sk L τ r A n) : ∃ w, f_Row_num F c r x (nI k) (cH sk L τ) = some (w, cH sk L τ) := k_num7S h k F _ (by omega) (by omega)
theorem k_aboveS {a b : Int64} {ph : px_H} : ∃ z, f_H_above F c a b ph = some (bI z, ph) := by
  obtain ⟨x, hx, ex⟩ := wb_of a
  obtain ⟨y, hy, ey⟩ := wb_of b
  rw [ex, ey]
  exact ⟨_, k_above hx hy⟩
theorem k_holdsS {a b : Int64} (h : rowS sk L τ r A n) : ∃ z, f_Row_holds F c r a b (cH sk L τ) = some (bI z, cH sk L τ) := by
  obtain ⟨h1, h2, h3, h4, z, hz, ez⟩ := h
  obtain ⟨y, ky⟩ := k_aboveS (F := F) (c := c) (a := a) (b := (nI z).toInt64) (ph := cH sk L τ)
  obtain ⟨u, ku⟩ := k_aboveS (F := F) (c := c) (a := b) (b := (nI z).toInt64 - a) (ph := cH sk L τ)
  unfold f_Row_holds f_Row_holds_30 f_Row_holds_31
  rw [C10g1 h1, bs, ez, ky, xb_mk, C10g1 h1, bs, ez, ku, xb_mk]
  cases y with
  | true => exact ⟨false, by rw [if_neg (show ¬ bI true = 0 by decide), xz_0]⟩
  | false =>
    rw [if_pos (show bI false = 0 from rfl)]
    cases u with
    | true => exact ⟨false, by rw [if_neg (show ¬ bI true = 0 by decide), xz_0]⟩
    | false => exact ⟨true, by rw [if_pos (show bI false = 0 from rfl), xz_1]⟩
theorem k_nameLen_2S {x y : Int32} (h : rowS sk L τ r A n) : ∀ (d k f : Nat), k + d = 21 → d < f → ∃ w, w ≤ 20 ∧ f_Row_nameLength_2 F c f r x y (nI k) (cH sk L τ) = some (nI w, cH sk L τ) := by
  intro d
  induction d with
  | zero =>
    intro k f hk hf
    obtain ⟨f, rfl⟩ : ∃ x, f = x + 1 := ⟨f - 1, by omega⟩
    unfold f_Row_nameLength_2 f_Row_nameLength_33
    exact ⟨0, by decide, by rw [if_pos (nI_lt (by omega) (by omega))]⟩
  | succ d ih =>
    intro k f hk hf
    obtain ⟨f, rfl⟩ : ∃ x, f = x + 1 := ⟨f - 1, by omega⟩
    obtain ⟨w, kw⟩ := k_atS (F := F) (c := c) (x := x + nI k) h
    unfold f_Row_nameLength_2 f_Row_nameLength_33 f_Row_nameLength_25
    rw [if_neg (nI_nlt (by omega) (by omega)), c_o h.1, bs, kw, xb_mk, nI_add]
    split
    · exact ⟨0, by decide, rfl⟩
    · split
      · exact ⟨k, by omega, rfl⟩
      · exact ih (k + 1) f (by omega) (by omega)
theorem k_nameLenS {x y : Int32} (hF : 32 < F) (h : rowS sk L τ r A n) : ∃ w, w ≤ 20 ∧ f_Row_nameLength F c r x y (cH sk L τ) = some (nI w, cH sk L τ) := k_nameLen_2S h 21 0 F rfl (by omega)
theorem k_begins_2S {j m : Nat} {l : List Nat} (hj : j < pg_nc) (hkB : ki_B (c j).1 = true) (hkv : kv c j l) (hl : l.length = m) (hm : m < 2 ^ 30) (h : rowS sk L τ r A n) : ∀ (d i f : Nat), i + d = m → d < f → ∃ z, f_Row_begins_2 F c f r j (nI i) (cH sk L τ) = some (bI z, cH sk L τ) := by
  intro d
  induction d with
  | zero =>
    intro i f hi hf
    obtain ⟨f, rfl⟩ : ∃ x, f = x + 1 := ⟨f - 1, by omega⟩
    unfold f_Row_begins_2 f_Row_begins_27
    exact ⟨true, by rw [xkl_at hkv hj, bs, hl, if_pos (nI_le (by omega) (by omega))]; rfl⟩
  | succ d ih =>
    intro i f hi hf
    obtain ⟨f, rfl⟩ : ∃ x, f = x + 1 := ⟨f - 1, by omega⟩
    obtain ⟨w, kw⟩ := k_atS (F := F) (c := c) (x := nI i) h
    unfold f_Row_begins_2 f_Row_begins_19
    rw [xkl_at hkv hj, bs, hl, if_neg (nI_ge (by omega) (by omega)), c_o h.1, bs, kw, xb_mk, xkB_at hkv hj hkB (by omega) (by omega), bs, nI_add]
    split
    · exact ih (i + 1) f (by omega) (by omega)
    · exact ⟨false, rfl⟩
theorem k_onum_49S {P : Nat} (hS : GS sk L) (hR : GR τ) (ho : obF sk L τ q) : ∀ (d f : Nat) (v : Int64), P + d ≤ 65536 → d < f → ∃ w, f_ObjectFile_num_49 F c f q (nI P) v (nI d - nI 1) (cH sk L τ) = some (w, cH sk L τ) := by
  intro d
  induction d with
  | zero =>
    intro f v hP hf
    obtain ⟨f, rfl⟩ : ∃ x, f = x + 1 := ⟨f - 1, by omega⟩
    unfold f_ObjectFile_num_49 f_ObjectFile_num_85
    exact ⟨_, by rw [if_pos (by decide)]⟩
  | succ d ih =>
    intro f v hP hf
    obtain ⟨f, rfl⟩ : ∃ x, f = x + 1 := ⟨f - 1, by omega⟩
    rw [pk_sub (by omega), Nat.add_sub_cancel]
    unfold f_ObjectFile_num_49
    rw [if_neg (nI_pos (by omega)), C7r0 ho.1 ho.2.1, bs, C10r0 (G7 hS) (GR_r (v := 8) hR (by decide)), bs, nI_add, c_aI (G8 hS) (Or.inl rfl) (by decide) (by omega), bs, nI_back]
    exact ih f _ (by omega) (by omega)
theorem k_onumS {x : Int32} {k : Nat} (hF : 8 < F) (hS : GS sk L) (hR : GR τ) (ho : obF sk L τ q) (hk : k ≤ 8) : ∃ v, f_ObjectFile_num F c q x (nI k) (cH sk L τ) = some (v, cH sk L τ) := by
  unfold f_ObjectFile_num f_ObjectFile_num_39
  rw [C7g5 ho.1, bs, C7g6 ho.1, bs]
  split
  · exact ⟨_, rfl⟩
  · split
    · exact ⟨_, rfl⟩
    · by_cases c3 : fI τ q 5 + x < 0
      · exact ⟨_, by rw [if_pos c3]⟩
      · obtain ⟨P, hP, eP⟩ := nI_of c3
        rw [if_neg c3, C7r0 ho.1 ho.2.1, bs, C10r0 (G7 hS) (GR_r (v := 8) hR (by decide)), bs, c_l (G8 hS) (by decide), bs, eP]
        by_cases c4 : k + P ≤ 65536
        · obtain ⟨w, kw⟩ := k_onum_49S (F := F) (c := c) (P := P) hS hR ho k F (lN 0) (by omega) (by omega)
          exact ⟨w, by rw [if_pos ((sub_le31 (by decide) (by omega) hP).mpr c4), kw]⟩
        · exact ⟨_, by rw [if_neg (fun w => c4 ((sub_le31 (by decide) (by omega) hP).mp w))]⟩
theorem k_nameStartS {x : Int32} (hF : 8 < F) (hS : GS sk L) (hR : GR τ) (ho : obF sk L τ q) : ∃ v, f_ObjectFile_nameStart F c q x (cH sk L τ) = some (v, cH sk L τ) := by
  obtain ⟨w, kw⟩ := k_onumS (F := F) (c := c) (x := fI τ q 10 + nI 24 * x) (k := 4) hF hS hR ho (by decide)
  unfold f_ObjectFile_nameStart
  exact ⟨_, by rw [C7g5 ho.1, bs, C7g12 ho.1, bs, C7g10 ho.1, bs, c_o ho.1, bs, kw, xb_mk]⟩
theorem k_bindS {x : Int32} (hF : 8 < F) (hS : GS sk L) (hR : GR τ) (ho : obF sk L τ q) : ∃ v, f_ObjectFile_bindOf F c q x (cH sk L τ) = some (v, cH sk L τ) := by
  obtain ⟨w, kw⟩ := k_onumS (F := F) (c := c) (x := (fI τ q 10 + nI 24 * x) + nI 4) (k := 1) hF hS hR ho (by decide)
  unfold f_ObjectFile_bindOf f_ObjectFile_bindOf_12 f_ObjectFile_bindOf_35
  rw [C7g11 ho.1, bs, C7g10 ho.1, bs, c_o ho.1, bs, kw, xb_mk]
  split
  · exact ⟨_, rfl⟩
  · split
    · exact ⟨_, rfl⟩
    · exact ⟨_, rfl⟩
theorem k_whereS {x : Int32} (hF : 8 < F) (hS : GS sk L) (hR : GR τ) (ho : obF sk L τ q) : ∃ v, f_ObjectFile_whereOf F c q x (cH sk L τ) = some (v, cH sk L τ) := by
  obtain ⟨w, kw⟩ := k_onumS (F := F) (c := c) (x := (fI τ q 10 + nI 24 * x) + nI 6) (k := 2) hF hS hR ho (by decide)
  unfold f_ObjectFile_whereOf
  exact ⟨_, by rw [C7g10 ho.1, bs, c_o ho.1, bs, kw, xb_mk]⟩
theorem k_valueS {x : Int32} (hF : 8 < F) (hS : GS sk L) (hR : GR τ) (ho : obF sk L τ q) : ∃ v, f_ObjectFile_valueOf F c q x (cH sk L τ) = some (v, cH sk L τ) := by
  obtain ⟨w, kw⟩ := k_onumS (F := F) (c := c) (x := (fI τ q 10 + nI 24 * x) + nI 8) (k := 8) hF hS hR ho (by decide)
  unfold f_ObjectFile_valueOf
  exact ⟨_, by rw [C7g10 ho.1, bs, c_o ho.1, bs, kw, xb_mk]⟩
theorem k_lengthS {x : Int32} (hF : 8 < F) (hS : GS sk L) (hR : GR τ) (ho : obF sk L τ q) : ∃ v, f_ObjectFile_lengthOf F c q x (cH sk L τ) = some (v, cH sk L τ) := by
  obtain ⟨w, kw⟩ := k_onumS (F := F) (c := c) (x := (fI τ q 7 + nI 64 * x) + nI 32) (k := 8) hF hS hR ho (by decide)
  unfold f_ObjectFile_lengthOf
  exact ⟨_, by rw [C7g7 ho.1, bs, c_o ho.1, bs, kw, xb_mk]⟩
theorem k_isDefS {x : Int32} (hF : 8 < F) (hS : GS sk L) (hR : GR τ) (ho : obF sk L τ q) : ∃ z, f_ObjectFile_isDefining F c q x (cH sk L τ) = some (bI z, cH sk L τ) := by
  obtain ⟨w, kw⟩ := k_bindS (F := F) (c := c) (x := x) hF hS hR ho
  obtain ⟨u, ku⟩ := k_whereS (F := F) (c := c) (x := x) hF hS hR ho
  unfold f_ObjectFile_isDefining f_ObjectFile_isDefining_20 f_ObjectFile_isDefining_21
  rw [c_o ho.1, bs, kw, xb_mk, c_o ho.1, bs, ku, xb_mk, xz_0, xz_1]
  split
  · exact ⟨_, rfl⟩
  · split
    · exact ⟨_, rfl⟩
    · exact ⟨_, rfl⟩
theorem k_groupS {x : Int64} (ho : obF sk L τ q) : ∃ v, f_ObjectFile_groupOf F c q x (cH sk L τ) = some (v, cH sk L τ) := by
  obtain ⟨h1, h2, g, h3, h4⟩ := ho
  unfold f_ObjectFile_groupOf f_ObjectFile_groupOf_37 f_ObjectFile_groupOf_38
  by_cases c1 : x < lN 0
  · exact ⟨_, by rw [if_pos c1]⟩
  · obtain ⟨k, hk, ek⟩ := pk_lOf c1
    rw [if_neg c1, C7g8 h1, bs, C7r3 h1 h3, bs, c_l h4 (by decide), bs, ek, nI_l (show 24 < 2 ^ 31 by decide), lN_i]
    split
    · exact ⟨_, rfl⟩
    · by_cases c2 : 24 ≤ k
      · exact ⟨_, by rw [if_pos ((pk_lLE (by decide) hk).mpr c2)]⟩
      · exact ⟨_, by rw [if_neg (fun w => c2 ((pk_lLE (by decide) hk).mp w)), bs, c_aI h4 (Or.inl rfl) (by decide) (by omega), bs]⟩
/-- a name's cell is written -/
theorem k_appendS {a : Nat} {x : Int32} (ha : ob sk L 5 a) : ∃ τ', f_Name_append F c a x (cH sk L τ) = some ((), cH sk L τ') ∧ frN a τ τ' := by
  have e72 : ∀ (k : Nat) (v : Int64), k ≤ 2 → ∃ τ', f_Name_append_72 F c a (cH sk L (tJ τ a k v)) = some ((), cH sk L τ') ∧ frN a τ τ' := fun k v hk => by
    refine ⟨tI (tJ τ a k v) a 3 (fI τ a 3 + nI 1), ?_, fun x y h => tI_ne (by omega), fun x y h => tJ_ne (by omega), fun _ _ => rfl, fun _ => rfl, fun _ => rfl, fun _ => rfl⟩
    unfold f_Name_append_72
    rw [C5g3 ha, bs]
    show ((xpI _ 5 3 a (fI τ a 3 + nI 1)).bind _) = _
    rw [C5p3 ha, bs]
  unfold f_Name_append
  rw [C5g3 ha, bs, bs, C5g2 ha, C5g1 ha, C5g0 ha, bs, bs, bs, bs, C5p2 ha, C5p1 ha, C5p0 ha, bs, bs, bs]
  split
  · split
    · exact e72 2 _ (by decide)
    · exact e72 1 _ (by decide)
  · exact e72 0 _ (by decide)
theorem rowS_N {a : Nat} {τ' : px_TT} (h : rowS sk L τ r A n) (f : frN a τ τ') (hne : r ≠ a) : rowS sk L τ' r A n := by
  obtain ⟨h1, h2, h3, h4, z, hz, ez⟩ := h
  exact ⟨h1, h2, h3, (f.2.2.1 _ _).trans h4, z, hz, (f.1 _ _ (Or.inl hne)).trans ez⟩
theorem k_nread_6S {a : Nat} {x : Int32} (ha : ob sk L 5 a) (hne : r ≠ a) : ∀ (d k f : Nat) (τ : px_TT), k + d = 20 → d < f → rowS sk L τ r A n → ∃ τ', f_Name_read_6 F c f a r x (nI k) (cH sk L τ) = some ((), cH sk L τ') ∧ frN a τ τ' := by
  intro d
  induction d with
  | zero =>
    intro k f τ hk hf h
    obtain ⟨f, rfl⟩ : ∃ x, f = x + 1 := ⟨f - 1, by omega⟩
    unfold f_Name_read_6 f_Name_read_39
    exact ⟨τ, by rw [if_pos (nI_le (by omega) (by omega))], fun _ _ _ => rfl, fun _ _ _ => rfl, fun _ _ => rfl, fun _ => rfl, fun _ => rfl, fun _ => rfl⟩
  | succ d ih =>
    intro k f τ hk hf h
    obtain ⟨f, rfl⟩ : ∃ x, f = x + 1 := ⟨f - 1, by omega⟩
    obtain ⟨w, kw⟩ := k_atS (F := F) (c := c) (x := x + nI k) h
    obtain ⟨τ1, b1, b2⟩ := k_appendS (F := F) (c := c) (τ := τ) (x := w) ha
    obtain ⟨τ2, d1, d2⟩ := ih (k + 1) f τ1 (by omega) (by omega) (rowS_N h b2 hne)
    unfold f_Name_read_6 f_Name_read_39
    rw [if_neg (nI_ge (by omega) (by omega)), c_o h.1, bs, kw, xb_mk]
    split
    · exact ⟨τ, rfl, fun _ _ _ => rfl, fun _ _ _ => rfl, fun _ _ => rfl, fun _ => rfl, fun _ => rfl, fun _ => rfl⟩
    · exact ⟨τ2, by rw [c_o h.1, bs, kw, xb_mk, c_o ha, bs, b1, xb_mk, nI_add]; exact d1, frN_trans b2 d2⟩
theorem k_nreadS {a : Nat} {x : Int32} (hF : 32 < F) (ha : ob sk L 5 a) (hne : r ≠ a) (h : rowS sk L τ r A n) : ∃ τ', f_Name_read F c a r x (cH sk L τ) = some ((), cH sk L τ') ∧ frN a τ τ' := by
  obtain ⟨τ1, hτ1⟩ : ∃ y, y = tI (tJ (tJ (tJ τ a 0 (lN 0)) a 1 (lN 0)) a 2 (lN 0)) a 3 (nI 0) := ⟨_, rfl⟩
  have f1 : frN a τ τ1 := by
    rw [hτ1]
    exact ⟨fun x k h => tI_ne (by omega), fun x k h => by
      show fJ (tJ (tJ (tJ τ a 0 (lN 0)) a 1 (lN 0)) a 2 (lN 0)) x k = _
      rw [tJ_ne (by omega), tJ_ne (by omega), tJ_ne (by omega)], fun _ _ => rfl, fun _ => rfl, fun _ => rfl, fun _ => rfl⟩
  obtain ⟨τ2, b1, b2⟩ := k_nread_6S (F := F) (c := c) (x := x) ha hne 20 0 F τ1 rfl (by omega) (rowS_N h f1 hne)
  refine ⟨τ2, ?_, frN_trans f1 b2⟩
  unfold f_Name_read f_Name_wipe
  rw [c_o ha, bs, C5p0 ha, bs, C5p1 ha, bs, C5p2 ha, bs, C5p3 ha, bs, ← hτ1, xb_mk]
  exact b1
end CSF
end
section
/-! safety, step by step: a run ends, its answer is of a kind, and the state it leaves keeps a property -/
def Sf (sk : Nat → Nat × Nat × Nat) (L : Nat) (I : px_TT → Prop) {α : Type} (V : α → Prop) (m : Option (α × px_H)) : Prop := ∃ v τ, m = some (v, cH sk L τ) ∧ V v ∧ I τ
/-- nothing is said of the answer -/
def Any {α : Type} (_ : α) : Prop := True
theorem any {α : Type} {x : α} : Any x := trivial
section SFR
variable {sk : Nat → Nat × Nat × Nat} {L : Nat} {I : px_TT → Prop} {α β : Type} {V : α → Prop} {W : β → Prop} {τ : px_TT} {ci k a t n : Nat}
theorem sf_r {v : α} (hv : V v) (hI : I τ) : Sf sk L I V (some (v, cH sk L τ)) := ⟨v, τ, rfl, hv, hI⟩
theorem sf_z {V : Int32 → Prop} {v : Int32} (hz : isZ v) (hv : V v) (hI : I τ) : Sf sk L I V (xz v (cH sk L τ)) := by
  obtain ⟨b, rfl⟩ := hz
  exact ⟨bI b, τ, xz_b b _, hv, hI⟩
theorem sf_i {p : Prop} [Decidable p] {x y : Option (α × px_H)} (h1 : p → Sf sk L I V x) (h2 : ¬ p → Sf sk L I V y) : Sf sk L I V (if p then x else y) := by
  by_cases c : p
  · rw [if_pos c]; exact h1 c
  · rw [if_neg c]; exact h2 c
theorem sf_x {m : Option (β × px_H)} {f : β → px_H → Option (α × px_H)} (h : Sf sk L I W m) (g : ∀ v τ, W v → I τ → Sf sk L I V (f v (cH sk L τ))) : Sf sk L I V (xb m f) := by
  obtain ⟨v, τ, e, hw, hI⟩ := h
  rw [e, xb_mk]
  exact g v τ hw hI
theorem sf_w {V' : α → Prop} {m : Option (α × px_H)} (h : Sf sk L I V m) (g : ∀ v, V v → V' v) : Sf sk L I V' m := by
  obtain ⟨v, τ, e, hw, hI⟩ := h
  exact ⟨v, τ, e, g v hw, hI⟩
theorem sf_s {p : Nat} {f : Nat → Option (α × px_H)} (g : Sf sk L I V (f p)) : Sf sk L I V ((some p).bind f) := g
theorem sf_m {o : Option Nat} {x : Option (α × px_H)} {f : Nat → Option (α × px_H)} (h1 : o = none → Sf sk L I V x) (h2 : ∀ p, o = some p → Sf sk L I V (f p)) : Sf sk L I V (match o with | none => x | some p => f p) := by
  cases o with
  | none => exact h1 rfl
  | some p => exact h2 p rfl
theorem sf_o {f : List Value → Option (α × px_H)} (h : ob sk L ci a) (g : ∀ l, Sf sk L I V (f l)) : Sf sk L I V ((xo (cH sk L τ) ci a).bind f) := by
  rw [c_o h, bs]; exact g _
theorem sf_gI {f : Int32 → Option (α × px_H)} (h : ob sk L ci a) (hk : cF ci k = 0) (hn : k < cN ci) (g : Sf sk L I V (f (fI τ a k))) : Sf sk L I V ((xgI (cH sk L τ) ci k a).bind f) := by
  rw [c_gI h hk hn, bs]; exact g
theorem sf_gJ {f : Int64 → Option (α × px_H)} (h : ob sk L ci a) (hk : cF ci k = 1) (hn : k < cN ci) (g : Sf sk L I V (f (fJ τ a k))) : Sf sk L I V ((xgJ (cH sk L τ) ci k a).bind f) := by
  rw [c_gJ h hk hn, bs]; exact g
theorem sf_gN {f : Option Nat → Option (α × px_H)} (h : ob sk L ci a) (hk : cF ci k = 2) (hn : k < cN ci) (g : Sf sk L I V (f (fN τ a k))) : Sf sk L I V ((xgN (cH sk L τ) ci k a).bind f) := by
  rw [c_gN h hk hn, bs]; exact g
theorem sf_gR {f : Nat → Option (α × px_H)} {q : Nat} (h : ob sk L ci a) (hk : cF ci k = 2) (hn : k < cN ci) (hq : fN τ a k = some q) (g : Sf sk L I V (f q)) : Sf sk L I V ((xgR (cH sk L τ) ci k a).bind f) := by
  rw [c_gR h hk hn hq, bs]; exact g
theorem sf_pI {f : px_H → Option (α × px_H)} {v : Int32} (h : ob sk L ci a) (hk : cF ci k = 0) (hn : k < cN ci) (hI : I (tI τ a k v)) (g : ∀ τ, I τ → Sf sk L I V (f (cH sk L τ))) : Sf sk L I V ((xpI (cH sk L τ) ci k a v).bind f) := by
  rw [c_pI h hk hn, bs]; exact g _ hI
theorem sf_pJ {f : px_H → Option (α × px_H)} {v : Int64} (h : ob sk L ci a) (hk : cF ci k = 1) (hn : k < cN ci) (hI : I (tJ τ a k v)) (g : ∀ τ, I τ → Sf sk L I V (f (cH sk L τ))) : Sf sk L I V ((xpJ (cH sk L τ) ci k a v).bind f) := by
  rw [c_pJ h hk hn, bs]; exact g _ hI
theorem sf_al {f : Int32 → Option (α × px_H)} (h : ar sk L t n a) (ht : t ≤ 6) (g : Sf sk L I V (f (nI n))) : Sf sk L I V ((xal (cH sk L τ) t a).bind f) := by
  rw [c_l h ht, bs]; exact g
theorem sf_aI {f : Int32 → Option (α × px_H)} {i : Int32} (h : ar sk L t n a) (ht : t = 0 ∨ t = 1 ∨ t = 3) (hn : n < 2 ^ 31) (hi : ∃ j, j < n ∧ i = nI j) (g : ∀ j, j < n → i = nI j → Sf sk L I V (f (eI τ a j))) : Sf sk L I V ((xaI (cH sk L τ) t a i).bind f) := by
  obtain ⟨j, hj, rfl⟩ := hi
  rw [c_aI h ht hn hj, bs]; exact g j hj rfl
theorem sf_aJ {f : Int64 → Option (α × px_H)} {i : Int32} (h : ar sk L 2 n a) (hn : n < 2 ^ 31) (hi : ∃ j, j < n ∧ i = nI j) (g : ∀ j, j < n → i = nI j → Sf sk L I V (f (eJ τ a j))) : Sf sk L I V ((xaJ (cH sk L τ) 2 a i).bind f) := by
  obtain ⟨j, hj, rfl⟩ := hi
  rw [c_aJ h hn hj, bs]; exact g j hj rfl
theorem sf_aN {f : Option Nat → Option (α × px_H)} {i : Int32} (h : ar sk L t n a) (ht : t = 4 ∨ t = 5 ∨ t = 6) (hn : n < 2 ^ 31) (hi : ∃ j, j < n ∧ i = nI j) (g : ∀ j, j < n → i = nI j → Sf sk L I V (f (eN τ a j))) : Sf sk L I V ((xaN (cH sk L τ) t a i).bind f) := by
  obtain ⟨j, hj, rfl⟩ := hi
  rw [c_aN h ht hn hj, bs]; exact g j hj rfl
theorem sf_sI {f : px_H → Option (α × px_H)} {i v : Int32} (h : ar sk L t n a) (ht : t = 0 ∨ t = 1 ∨ t = 3) (hn : n < 2 ^ 31) (hi : ∃ j, j < n ∧ i = nI j) (hI : ∀ g, I (vI τ a g)) (g : ∀ τ, I τ → Sf sk L I V (f (cH sk L τ))) : Sf sk L I V ((xsI (cH sk L τ) t a i v).bind f) := by
  obtain ⟨j, hj, rfl⟩ := hi
  rw [c_sI h ht hn hj, bs]; exact g _ (hI _)
theorem sf_sJ {f : px_H → Option (α × px_H)} {i : Int32} {v : Int64} (h : ar sk L 2 n a) (hn : n < 2 ^ 31) (hi : ∃ j, j < n ∧ i = nI j) (hI : ∀ g, I (vJ τ a g)) (g : ∀ τ, I τ → Sf sk L I V (f (cH sk L τ))) : Sf sk L I V ((xsJ (cH sk L τ) 2 a i v).bind f) := by
  obtain ⟨j, hj, rfl⟩ := hi
  rw [c_sJ h hn hj, bs]; exact g _ (hI _)
/-- a run that only reads -/
theorem sf_of {m : Option (α × px_H)} (h : ∃ v, m = some (v, cH sk L τ)) (hI : I τ) : Sf sk L I Any m := by
  obtain ⟨v, e⟩ := h
  exact ⟨v, τ, e, any, hI⟩
end SFR
/-! the state between two links, as far as a call may need it -/
/-- a row that calls write: its cell, its bytes' cell, its length -/
def TRw (r A n : Nat) : Prop := (r = 3 ∧ A = 4 ∧ n = 65536) ∨ (r = 5 ∧ A = 6 ∧ n = 65536) ∨ (r = 1714 ∧ A = 1715 ∧ n = 1536) ∨ (r = 1719 ∧ A = 1720 ∧ n = 65536)
/-- the memory's counts -/
def MEm (τ : px_TT) : Prop := (∃ m, m ≤ 8 ∧ fI τ 1718 6 = nI m) ∧ ∃ m, m ≤ 4096 ∧ fI τ 1718 9 = nI m
/-- a name of the link's table -/
def Nmo (sk : Nat → Nat × Nat × Nat) (L : Nat) (τ : px_TT) (p : Nat) : Prop := 1815 ≤ p ∧ ob sk L 5 p ∧ (fI τ p 5 = nI 1 → ∃ x, x < 1536 ∧ fN τ p 6 = some (152 + x))
/-- the names that a merge listed so far -/
def MLs (N : Nat) (sk : Nat → Nat × Nat × Nat) (L : Nat) (τ0 τ : px_TT) : Prop := ∃ m, m ≤ N ∧ fI τ 1713 6 = nI m ∧ ∀ i p, i < m → i < 64 → eN τ 1717 i = some p → Nmo sk L τ0 p
def SI (zb : Option Nat) (sk : Nat → Nat × Nat × Nat) (L : Nat) (τ0 τ : px_TT) : Prop := frZ τ0 τ ∧ ((∀ k, fI τ 1 k = fI τ0 1 k) ∧ eI τ 2 = eI τ0 2 ∧ fI τ 147 18 = fI τ0 147 18 ∧ (∀ k, fI τ 1711 k = fI τ0 1711 k) ∧ eI τ 1712 = eI τ0 1712) ∧ ROk sk L τ ∧ MEm τ ∧ ∀ N, zb = some N → MLs N sk L τ0 τ
section SIS
variable {sk : Nat → Nat × Nat × Nat} {L : Nat} {zb : Option Nat} {τ0 τ τ' : px_TT} {r A n : Nat}
theorem SI_row (h : SI zb sk L τ0 τ) (hr : TRw r A n) : rowOK sk L τ r A n := by
  obtain ⟨_, _, ⟨_, h3, h5, h1711, h1714, h1719⟩, _, _⟩ := h
  rcases hr with ⟨rfl, rfl, rfl⟩ | ⟨rfl, rfl, rfl⟩ | ⟨rfl, rfl, rfl⟩ | ⟨rfl, rfl, rfl⟩
  · exact h3
  · exact h5
  · exact h1714
  · exact h1719
theorem SI_fl (h : SI zb sk L τ0 τ) : rowOK sk L τ 1711 1712 65536 := h.2.2.1.2.2.2.1
theorem rowOK_fr {r' A' n' : Nat} (h : rowOK sk L τ r' A' n') (f : frRw r A τ τ') (hr : r' ≠ r) (hA : A' ≠ A) : rowOK sk L τ' r' A' n' := by
  obtain ⟨h1, h2, h3, h4, h5, h6, h7⟩ := h
  refine ⟨h1, h2, h3, (f.2.2.1 _ _).trans h4, ?_, ?_, ?_⟩
  · rw [f.1 r' 1 (Or.inl hr)]; exact h5
  · rw [f.1 r' 2 (Or.inl hr)]; exact h6
  · rw [f.2.2.2.1 A' hA]; exact h7
theorem SI_Rw (h : SI zb sk L τ0 τ) (hr : TRw r A n) (f : frRw r A τ τ') (hk : rowOK sk L τ' r A n) : SI zb sk L τ0 τ' := by
  have hr' := hr
  unfold TRw at hr'
  obtain ⟨hZ, hT, ⟨⟨ro, rd, hc, e1, e2⟩, h3, h5, h1711, h1714, h1719⟩, ⟨hm1, hm2⟩, hm3⟩ := h
  have zr : Zc r := by unfold Zc; omega
  have zA : Zc A := by unfold Zc; omega
  have n1 : 1 ≠ r := by omega
  have n2 : 2 ≠ A := by omega
  have n3 : 1718 ≠ r := by omega
  refine ⟨frZ_trans hZ (frZ_Rw f zr zA), ⟨fun k => (f.1 1 k (Or.inl n1)).trans (hT.1 k), (f.2.2.2.1 2 n2).trans hT.2.1, (f.1 147 18 (Or.inl (by omega))).trans hT.2.2.1, fun k => (f.1 1711 k (Or.inl (by omega))).trans (hT.2.2.2.1 k), (f.2.2.2.1 1712 (by omega)).trans hT.2.2.2.2⟩, ⟨⟨ro, rd, hc, (f.2.2.1 0 1).trans e1, (f.2.2.1 0 2).trans e2⟩, ?_, ?_, rowOK_fr h1711 f (by omega) (by omega), ?_, ?_⟩, ⟨?_, ?_⟩, ?_⟩
  · rcases hr with ⟨rfl, rfl, rfl⟩ | ⟨rfl, rfl, rfl⟩ | ⟨rfl, rfl, rfl⟩ | ⟨rfl, rfl, rfl⟩
    · exact hk
    all_goals exact rowOK_fr h3 f (by decide) (by decide)
  · rcases hr with ⟨rfl, rfl, rfl⟩ | ⟨rfl, rfl, rfl⟩ | ⟨rfl, rfl, rfl⟩ | ⟨rfl, rfl, rfl⟩
    · exact rowOK_fr h5 f (by decide) (by decide)
    · exact hk
    all_goals exact rowOK_fr h5 f (by decide) (by decide)
  · rcases hr with ⟨rfl, rfl, rfl⟩ | ⟨rfl, rfl, rfl⟩ | ⟨rfl, rfl, rfl⟩ | ⟨rfl, rfl, rfl⟩
    · exact rowOK_fr h1714 f (by decide) (by decide)
    · exact rowOK_fr h1714 f (by decide) (by decide)
    · exact hk
    · exact rowOK_fr h1714 f (by decide) (by decide)
  · rcases hr with ⟨rfl, rfl, rfl⟩ | ⟨rfl, rfl, rfl⟩ | ⟨rfl, rfl, rfl⟩ | ⟨rfl, rfl, rfl⟩
    · exact rowOK_fr h1719 f (by decide) (by decide)
    · exact rowOK_fr h1719 f (by decide) (by decide)
    · exact rowOK_fr h1719 f (by decide) (by decide)
    · exact hk
  · rw [f.1 1718 6 (Or.inl n3)]; exact hm1
  · rw [f.1 1718 9 (Or.inl n3)]; exact hm2
  · intro N hN
    obtain ⟨m, h1, h2, h3⟩ := hm3 N hN
    exact ⟨m, h1, (f.1 1713 6 (Or.inl (by omega))).trans h2, by rw [f.2.2.2.2.2 1717]; exact h3⟩
/-- fields that no call needs to know -/
theorem SI_tI {a k : Nat} {v : Int32} (h : SI zb sk L τ0 τ) (hz : (a = 0 ∧ 15 ≤ k) ∨ a = 146 ∨ a = 1695 ∨ (a = 1713 ∧ k ≠ 6) ∨ (1815 ≤ a ∧ k = 17) ∨ (152 ≤ a ∧ a < 1688 ∧ k = 12) ∨ (a = 1718 ∧ k ≠ 6 ∧ k ≠ 9)) : SI zb sk L τ0 (tI τ a k v) := by
  obtain ⟨hZ, hT, ⟨hc, h3, h5, h1711, h1714, h1719⟩, ⟨hm1, hm2⟩, hm3⟩ := h
  have zz : Zc a ∨ (a = 0 ∧ 15 ≤ k) ∨ (1815 ≤ a ∧ k = 17) ∨ (152 ≤ a ∧ a < 1688 ∧ k = 12) ∨ (a = 147 ∧ k = 18) := by
    unfold Zc; omega
  have hrow : ∀ r' A' n', a ≠ r' → rowOK sk L τ r' A' n' → rowOK sk L (tI τ a k v) r' A' n' := fun r' A' n' hn w => by
    obtain ⟨h1, h2, h3, h4, h5, h6, h7⟩ := w
    refine ⟨h1, h2, h3, h4, ?_, ?_, h7⟩
    · rw [tI_ne (by omega)]; exact h5
    · rw [tI_ne (by omega)]; exact h6
  refine ⟨frZ_trans hZ (frZ_I zz), ⟨fun k' => (tI_ne (by omega)).trans (hT.1 k'), hT.2.1, (tI_ne (by omega)).trans hT.2.2.1, fun k' => (tI_ne (by omega)).trans (hT.2.2.2.1 k'), hT.2.2.2.2⟩, ⟨hc, hrow _ _ _ (by omega) h3, hrow _ _ _ (by omega) h5, hrow _ _ _ (by omega) h1711, hrow _ _ _ (by omega) h1714, hrow _ _ _ (by omega) h1719⟩, ⟨?_, ?_⟩, ?_⟩
  · rw [tI_ne (by omega)]; exact hm1
  · rw [tI_ne (by omega)]; exact hm2
  · intro N hN
    obtain ⟨m, h1, h2, h3⟩ := hm3 N hN
    exact ⟨m, h1, (tI_ne (by omega)).trans h2, h3⟩
theorem SI_m6 {m : Nat} (h : SI zb sk L τ0 τ) (hm : m ≤ 8) : SI zb sk L τ0 (tI τ 1718 6 (nI m)) := by
  obtain ⟨hZ, hT, ⟨hc, h3, h5, h1711, h1714, h1719⟩, ⟨hm1, hm2⟩, hm3⟩ := h
  have hrow : ∀ r' A' n', 1718 ≠ r' → rowOK sk L τ r' A' n' → rowOK sk L (tI τ 1718 6 (nI m)) r' A' n' := fun r' A' n' hn w => by
    obtain ⟨h1, h2, h3, h4, h5, h6, h7⟩ := w
    refine ⟨h1, h2, h3, h4, ?_, ?_, h7⟩
    · rw [tI_ne (by omega)]; exact h5
    · rw [tI_ne (by omega)]; exact h6
  refine ⟨frZ_trans hZ (frZ_I (Or.inl (by unfold Zc; omega))), ⟨fun k' => (tI_ne (by omega)).trans (hT.1 k'), hT.2.1, (tI_ne (by omega)).trans hT.2.2.1, fun k' => (tI_ne (by omega)).trans (hT.2.2.2.1 k'), hT.2.2.2.2⟩, ⟨hc, hrow _ _ _ (by omega) h3, hrow _ _ _ (by omega) h5, hrow _ _ _ (by omega) h1711, hrow _ _ _ (by omega) h1714, hrow _ _ _ (by omega) h1719⟩, ⟨⟨m, hm, tI_at⟩, ?_⟩, fun N hN => ?_⟩
  · rw [tI_ne (by omega)]; exact hm2
  · obtain ⟨m', h1, h2, h3⟩ := hm3 N hN
    exact ⟨m', h1, (tI_ne (by omega)).trans h2, h3⟩
theorem SI_m9 {m : Nat} (h : SI zb sk L τ0 τ) (hm : m ≤ 4096) : SI zb sk L τ0 (tI τ 1718 9 (nI m)) := by
  obtain ⟨hZ, hT, ⟨hc, h3, h5, h1711, h1714, h1719⟩, ⟨hm1, hm2⟩, hm3⟩ := h
  have hrow : ∀ r' A' n', 1718 ≠ r' → rowOK sk L τ r' A' n' → rowOK sk L (tI τ 1718 9 (nI m)) r' A' n' := fun r' A' n' hn w => by
    obtain ⟨h1, h2, h3, h4, h5, h6, h7⟩ := w
    refine ⟨h1, h2, h3, h4, ?_, ?_, h7⟩
    · rw [tI_ne (by omega)]; exact h5
    · rw [tI_ne (by omega)]; exact h6
  refine ⟨frZ_trans hZ (frZ_I (Or.inl (by unfold Zc; omega))), ⟨fun k' => (tI_ne (by omega)).trans (hT.1 k'), hT.2.1, (tI_ne (by omega)).trans hT.2.2.1, fun k' => (tI_ne (by omega)).trans (hT.2.2.2.1 k'), hT.2.2.2.2⟩, ⟨hc, hrow _ _ _ (by omega) h3, hrow _ _ _ (by omega) h5, hrow _ _ _ (by omega) h1711, hrow _ _ _ (by omega) h1714, hrow _ _ _ (by omega) h1719⟩, ⟨?_, ⟨m, hm, tI_at⟩⟩, fun N hN => ?_⟩
  · rw [tI_ne (by omega)]; exact hm1
  · obtain ⟨m', h1, h2, h3⟩ := hm3 N hN
    exact ⟨m', h1, (tI_ne (by omega)).trans h2, h3⟩
theorem SI_tJ {a k : Nat} {v : Int64} (h : SI zb sk L τ0 τ) (hz : a = 146 ∨ a = 1695 ∨ a = 1718) : SI zb sk L τ0 (tJ τ a k v) :=
  ⟨frZ_trans h.1 (frZ_J (Or.inl (by unfold Zc; omega))), h.2.1, h.2.2.1, h.2.2.2⟩
theorem SI_vI {a : Nat} {g : Nat → Int32} (h : SI zb sk L τ0 τ) (hz : a = 1716 ∨ a = 1724) : SI zb sk L τ0 (vI τ a g) := by
  obtain ⟨hZ, hT, ⟨hc, h3, h5, h1711, h1714, h1719⟩, hm⟩ := h
  have hrow : ∀ r' A' n', A' ≠ a → rowOK sk L τ r' A' n' → rowOK sk L (vI τ a g) r' A' n' := fun r' A' n' hn w => by
    obtain ⟨h1, h2, h3, h4, h5, h6, h7⟩ := w
    exact ⟨h1, h2, h3, h4, h5, h6, by rw [eI_v_ne hn]; exact h7⟩
  exact ⟨frZ_trans hZ (frZ_v (by unfold Zc; omega)), ⟨hT.1, (eI_v_ne (by omega)).trans hT.2.1, hT.2.2.1, hT.2.2.2.1, (eI_v_ne (by omega)).trans hT.2.2.2.2⟩, ⟨hc, hrow _ _ _ (by omega) h3, hrow _ _ _ (by omega) h5, hrow _ _ _ (by omega) h1711, hrow _ _ _ (by omega) h1714, hrow _ _ _ (by omega) h1719⟩, hm⟩
theorem SI_vJ {a : Nat} {g : Nat → Int64} (h : SI zb sk L τ0 τ) (hz : 1721 ≤ a ∧ a ≤ 1725) : SI zb sk L τ0 (vJ τ a g) :=
  ⟨frZ_trans h.1 (frZ_vJ (by unfold Zc; omega)), h.2.1, h.2.2.1, h.2.2.2⟩
theorem SI_N {a : Nat} (h : SI zb sk L τ0 τ) (f : frN a τ τ') (hz : a = 146 ∨ a = 1695) : SI zb sk L τ0 τ' := by
  obtain ⟨hZ, hT, ⟨⟨ro, rd, hc, e1, e2⟩, h3, h5, h1711, h1714, h1719⟩, ⟨hm1, hm2⟩, hm3⟩ := h
  have hrow : ∀ r' A' n', r' ≠ a → rowOK sk L τ r' A' n' → rowOK sk L τ' r' A' n' := fun r' A' n' hn w => by
    obtain ⟨h1, h2, h3, h4, h5, h6, h7⟩ := w
    refine ⟨h1, h2, h3, (f.2.2.1 _ _).trans h4, ?_, ?_, ?_⟩
    · rw [f.1 r' 1 (Or.inl hn)]; exact h5
    · rw [f.1 r' 2 (Or.inl hn)]; exact h6
    · rw [f.2.2.2.1 A']; exact h7
  refine ⟨frZ_trans hZ (frZ_N f (by unfold Zc; omega)), ⟨fun k => (f.1 1 k (Or.inl (by omega))).trans (hT.1 k), (f.2.2.2.1 2).trans hT.2.1, (f.1 147 18 (Or.inl (by omega))).trans hT.2.2.1, fun k => (f.1 1711 k (Or.inl (by omega))).trans (hT.2.2.2.1 k), (f.2.2.2.1 1712).trans hT.2.2.2.2⟩, ⟨⟨ro, rd, hc, (f.2.2.1 0 1).trans e1, (f.2.2.1 0 2).trans e2⟩, hrow _ _ _ (by omega) h3, hrow _ _ _ (by omega) h5, hrow _ _ _ (by omega) h1711, hrow _ _ _ (by omega) h1714, hrow _ _ _ (by omega) h1719⟩, ⟨?_, ?_⟩, ?_⟩
  · rw [f.1 1718 6 (Or.inl (by omega))]; exact hm1
  · rw [f.1 1718 9 (Or.inl (by omega))]; exact hm2
  · intro N hN
    obtain ⟨m, h1, h2, h3⟩ := hm3 N hN
    exact ⟨m, h1, (f.1 1713 6 (Or.inl (by omega))).trans h2, by rw [f.2.2.2.2.2 1717]; exact h3⟩
/-- the rows by their cells alone -/
def RWr (r : Nat) : Prop := r = 3 ∨ r = 5 ∨ r = 1714 ∨ r = 1719
theorem RWr_T (h : RWr r) : ∃ A n, TRw r A n := by
  rcases h with rfl | rfl | rfl | rfl
  · exact ⟨4, 65536, Or.inl ⟨rfl, rfl, rfl⟩⟩
  · exact ⟨6, 65536, Or.inr (Or.inl ⟨rfl, rfl, rfl⟩)⟩
  · exact ⟨1715, 1536, Or.inr (Or.inr (Or.inl ⟨rfl, rfl, rfl⟩))⟩
  · exact ⟨1720, 65536, Or.inr (Or.inr (Or.inr ⟨rfl, rfl, rfl⟩))⟩
/-- .. and the tape, which is only read -/
def RRd (r : Nat) : Prop := r = 1 ∨ RWr r
def grG (a k : Nat) : List (Nat × Nat × Nat) → Option Nat
  | [] => none
  | (x, y, z) :: l => bif Nat.beq x a && Nat.beq y k then some z else grG a k l
def grF (a k : Nat) : Option Nat := grG a k grl
theorem grG_m {a k q : Nat} : ∀ {l : List (Nat × Nat × Nat)}, grG a k l = some q → (a, k, q) ∈ l
  | [], h => by cases h
  | (x, y, z) :: l, h => by
    unfold grG at h
    cases e : (Nat.beq x a && Nat.beq y k) with
    | true =>
      rw [e] at h
      simp only [Bool.and_eq_true, Nat.beq_eq] at e
      injection h with h3
      rw [← e.1, ← e.2, ← h3]; exact List.mem_cons_self
    | false => rw [e] at h; exact List.mem_cons_of_mem _ (grG_m h)
theorem grF_m {a k q : Nat} (h : grF a k = some q) : (a, k, q) ∈ grl := grG_m h
/-- what holds at the state that the calls start from -/
def S0 (sk : Nat → Nat × Nat × Nat) (L : Nat) (τ0 : px_TT) : Prop := GS sk L ∧ GR τ0 ∧ ∃ z, z ≤ 8192 ∧ fI τ0 1 1 = nI z
theorem SI_S (h0 : S0 sk L τ0) (h : SI zb sk L τ0 τ) (hr : RRd r) : ∃ A n, rowS sk L τ r A n := by
  rcases hr with rfl | hr
  · obtain ⟨z, hz, ez⟩ := h0.2.2
    exact ⟨2, 8192, G1 h0.1, G2 h0.1, by decide, GR_r (GR_Z h0.2.1 h.1) (by decide), z, hz, (h.2.1.1 1).trans ez⟩
  · obtain ⟨A, n, hT⟩ := RWr_T hr
    exact ⟨A, n, rowOK_S (SI_row h hT)⟩
theorem RRd_o (h0 : S0 sk L τ0) (hr : RRd r) : ob sk L 10 r := by
  rcases hr with rfl | rfl | rfl | rfl | rfl
  · exact G1 h0.1
  · exact G3 h0.1
  · exact G5 h0.1
  · exact GS_o h0.1 (by decide) (by decide)
  · exact GS_o h0.1 (by decide) (by decide)
theorem sf_gG {I : px_TT → Prop} {α : Type} {V : α → Prop} {f : Nat → Option (α × px_H)} {a ci k q : Nat} (h0 : S0 sk L τ0) (hI : SI zb sk L τ0 τ) (ha : a < 1726) (hks : ks a = (0, ci, 0)) (hk : cF ci k = 2) (hn : k < cN ci) (hq : grF a k = some q) (g : Sf sk L I V (f q)) : Sf sk L I V ((xgR (cH sk L τ) ci k a).bind f) := sf_gR (GS_o h0.1 ha hks) hk hn (GR_r (GR_Z h0.2.1 hI.1) (grF_m hq)) g
theorem sf_gF {I : px_TT → Prop} {α : Type} {V : α → Prop} {f : Int32 → Option (α × px_H)} {a ci k : Nat} (h0 : S0 sk L τ0) (ha : a < 1726) (hks : ks a = (0, ci, 0)) (hk : cF ci k = 0) (hn : k < cN ci) (g : Sf sk L I V (f (fI τ a k))) : Sf sk L I V ((xgI (cH sk L τ) ci k a).bind f) := sf_gI (GS_o h0.1 ha hks) hk hn g
theorem sf_oF {I : px_TT → Prop} {α : Type} {V : α → Prop} {f : List Value → Option (α × px_H)} {a ci : Nat} (h0 : S0 sk L τ0) (ha : a < 1726) (hks : ks a = (0, ci, 0)) (g : ∀ l, Sf sk L I V (f l)) : Sf sk L I V ((xo (cH sk L τ) ci a).bind f) := sf_o (GS_o h0.1 ha hks) g
theorem sf_lF {I : px_TT → Prop} {α : Type} {V : α → Prop} {f : Int32 → Option (α × px_H)} {a t m : Nat} (h0 : S0 sk L τ0) (ha : a < 1726) (hks : ks a = (1, t, m)) (ht : t ≤ 6) (g : Sf sk L I V (f (nI m))) : Sf sk L I V ((xal (cH sk L τ) t a).bind f) := sf_al (GS_a h0.1 ha hks) ht g
theorem sf_sb {I : px_TT → Prop} {α : Type} {V : α → Prop} {f : Nat → Option (α × px_H)} {o : Option Nat} {p : Nat} (h : o = some p) (g : Sf sk L I V (f p)) : Sf sk L I V (o.bind f) := by
  rw [h, bs]; exact g
theorem sf_aIF {I : px_TT → Prop} {α : Type} {V : α → Prop} {f : Int32 → Option (α × px_H)} {a t m : Nat} {i : Int32} (h0 : S0 sk L τ0) (ha : a < 1726) (hks : ks a = (1, t, m)) (ht : t = 0 ∨ t = 1 ∨ t = 3) (hn : m < 2 ^ 31) (hi : ∃ j, j < m ∧ i = nI j) (g : ∀ j, j < m → i = nI j → Sf sk L I V (f (eI τ a j))) : Sf sk L I V ((xaI (cH sk L τ) t a i).bind f) := sf_aI (GS_a h0.1 ha hks) ht hn hi g
theorem sf_aJF {I : px_TT → Prop} {α : Type} {V : α → Prop} {f : Int64 → Option (α × px_H)} {a m : Nat} {i : Int32} (h0 : S0 sk L τ0) (ha : a < 1726) (hks : ks a = (1, 2, m)) (hn : m < 2 ^ 31) (hi : ∃ j, j < m ∧ i = nI j) (g : ∀ j, j < m → i = nI j → Sf sk L I V (f (eJ τ a j))) : Sf sk L I V ((xaJ (cH sk L τ) 2 a i).bind f) := sf_aJ (GS_a h0.1 ha hks) hn hi g
theorem sf_aNF {I : px_TT → Prop} {α : Type} {V : α → Prop} {f : Option Nat → Option (α × px_H)} {a t m : Nat} {i : Int32} (h0 : S0 sk L τ0) (ha : a < 1726) (hks : ks a = (1, t, m)) (ht : t = 4 ∨ t = 5 ∨ t = 6) (hn : m < 2 ^ 31) (hi : ∃ j, j < m ∧ i = nI j) (g : ∀ j, j < m → i = nI j → Sf sk L I V (f (eN τ a j))) : Sf sk L I V ((xaN (cH sk L τ) t a i).bind f) := sf_aN (GS_a h0.1 ha hks) ht hn hi g
theorem sf_sIF {I : px_TT → Prop} {α : Type} {V : α → Prop} {f : px_H → Option (α × px_H)} {a t m : Nat} {i v : Int32} (h0 : S0 sk L τ0) (ha : a < 1726) (hks : ks a = (1, t, m)) (ht : t = 0 ∨ t = 1 ∨ t = 3) (hn : m < 2 ^ 31) (hi : ∃ j, j < m ∧ i = nI j) (hI : ∀ g, I (vI τ a g)) (g : ∀ τ, I τ → Sf sk L I V (f (cH sk L τ))) : Sf sk L I V ((xsI (cH sk L τ) t a i v).bind f) := sf_sI (GS_a h0.1 ha hks) ht hn hi hI g
theorem sf_sJF {I : px_TT → Prop} {α : Type} {V : α → Prop} {f : px_H → Option (α × px_H)} {a m : Nat} {i : Int32} {v : Int64} (h0 : S0 sk L τ0) (ha : a < 1726) (hks : ks a = (1, 2, m)) (hn : m < 2 ^ 31) (hi : ∃ j, j < m ∧ i = nI j) (hI : ∀ g, I (vJ τ a g)) (g : ∀ τ, I τ → Sf sk L I V (f (cH sk L τ))) : Sf sk L I V ((xsJ (cH sk L τ) 2 a i v).bind f) := sf_sJ (GS_a h0.1 ha hks) hn hi hI g
section SFC
variable {F : Nat} {c : px_CT}
theorem sf_num {k : Nat} {x : Int32} (h0 : S0 sk L τ0) (hF : 65540 < F) (hI : SI zb sk L τ0 τ) (hr : RRd r) (hk : k ≤ 8) : Sf sk L (SI zb sk L τ0) Any (f_Row_num F c r x (nI k) (cH sk L τ)) := by
  obtain ⟨A, n, h⟩ := SI_S h0 hI hr
  exact sf_of (k_numS (by omega) hk h) hI
theorem sf_at {x : Int32} (h0 : S0 sk L τ0) (hI : SI zb sk L τ0 τ) (hr : RRd r) : Sf sk L (SI zb sk L τ0) Any (f_Row_at F c r x (cH sk L τ)) := by
  obtain ⟨A, n, h⟩ := SI_S h0 hI hr
  exact sf_of (k_atS h) hI
theorem sf_above {a b : Int64} (hI : SI zb sk L τ0 τ) : Sf sk L (SI zb sk L τ0) isZ (f_H_above F c a b (cH sk L τ)) := by
  obtain ⟨z, e⟩ := k_aboveS (F := F) (c := c) (a := a) (b := b) (ph := cH sk L τ)
  exact ⟨_, τ, e, ⟨z, rfl⟩, hI⟩
theorem sf_holds {a b : Int64} (h0 : S0 sk L τ0) (hI : SI zb sk L τ0 τ) (hr : RRd r) : Sf sk L (SI zb sk L τ0) isZ (f_Row_holds F c r a b (cH sk L τ)) := by
  obtain ⟨A, n, h⟩ := SI_S h0 hI hr
  obtain ⟨z, e⟩ := k_holdsS (F := F) (c := c) (a := a) (b := b) h
  exact ⟨_, τ, e, ⟨z, rfl⟩, hI⟩
theorem sf_nameLen {x y : Int32} (h0 : S0 sk L τ0) (hF : 65540 < F) (hI : SI zb sk L τ0 τ) (hr : RRd r) : Sf sk L (SI zb sk L τ0) Any (f_Row_nameLength F c r x y (cH sk L τ)) := by
  obtain ⟨A, n, h⟩ := SI_S h0 hI hr
  obtain ⟨w, _, e⟩ := k_nameLenS (F := F) (c := c) (x := x) (y := y) (by omega) h
  exact ⟨_, τ, e, any, hI⟩
theorem sf_Rw {β : Type} {m : Option (β × px_H)} {v : β} (hI : SI zb sk L τ0 τ) (hr : TRw r A n) (h : ∃ τ', m = some (v, cH sk L τ') ∧ rowOK sk L τ' r A n ∧ frRw r A τ τ') : Sf sk L (SI zb sk L τ0) Any m := by
  obtain ⟨τ', e, h1, h2⟩ := h
  exact ⟨v, τ', e, any, SI_Rw hI hr h2 h1⟩
theorem sf_clear (hI : SI zb sk L τ0 τ) (hr : RWr r) : Sf sk L (SI zb sk L τ0) Any (f_Row_clear F c r (cH sk L τ)) := by
  obtain ⟨A, n, hT⟩ := RWr_T hr
  exact sf_Rw hI hT (k_clearS (SI_row hI hT))
theorem sf_put {k : Nat} {v : Int64} (hF : 65540 < F) (hI : SI zb sk L τ0 τ) (hr : RWr r) (hk : k ≤ 8) : Sf sk L (SI zb sk L τ0) Any (f_Row_put F c r (nI k) v (cH sk L τ)) := by
  obtain ⟨A, n, hT⟩ := RWr_T hr
  exact sf_Rw hI hT (k_putS (by omega) (by omega) (SI_row hI hT))
theorem sf_set {k : Nat} {p : Int32} {v : Int64} (hF : 65540 < F) (hI : SI zb sk L τ0 τ) (hr : RWr r) (hk : k ≤ 8) : Sf sk L (SI zb sk L τ0) Any (f_Row_set F c r p (nI k) v (cH sk L τ)) := by
  obtain ⟨A, n, hT⟩ := RWr_T hr
  exact sf_Rw hI hT (k_setS (by omega) (by omega) (SI_row hI hT))
theorem sf_fill {x : Int64} {w : Int32} (hF : 65540 < F) (hI : SI zb sk L τ0 τ) (hr : RWr r) (hx : ∃ e, e < 2 ^ 62 ∧ x = lN e) : Sf sk L (SI zb sk L τ0) Any (f_Row_fillTo F c r x w (cH sk L τ)) := by
  obtain ⟨A, n, hT⟩ := RWr_T hr
  obtain ⟨e, he, rfl⟩ := hx
  exact sf_Rw hI hT (k_fillToS (by omega) he (SI_row hI hT))
theorem sf_hex {v : Int64} (hF : 65540 < F) (hI : SI zb sk L τ0 τ) (hr : RWr r) : Sf sk L (SI zb sk L τ0) Any (f_Row_putHex F c r v (cH sk L τ)) := by
  obtain ⟨A, n, hT⟩ := RWr_T hr
  exact sf_Rw hI hT (k_putHexS (by omega) (SI_row hI hT))
theorem sf_dec {v : Int32} (hF : 65540 < F) (hI : SI zb sk L τ0 τ) (hr : RWr r) : Sf sk L (SI zb sk L τ0) Any (f_Row_putDecimal F c r v (cH sk L τ)) := by
  obtain ⟨A, n, hT⟩ := RWr_T hr
  exact sf_Rw hI hT (k_putDecS (by omega) (SI_row hI hT))
theorem sf_high {v : Int32} (hF : 65540 < F) (hI : SI zb sk L τ0 τ) (hr : RWr r) : Sf sk L (SI zb sk L τ0) Any (f_Row_putHighestFirst F c r v (cH sk L τ)) := by
  obtain ⟨A, n, hT⟩ := RWr_T hr
  exact sf_Rw hI hT (k_putHighS (by omega) (SI_row hI hT))
theorem sf_writeTo {p : Nat} (hF : 65540 < F) (hI : SI zb sk L τ0 τ) (hp : ob sk L 5 p) (hr : RWr r) : Sf sk L (SI zb sk L τ0) Any (f_Name_writeTo F c p r (cH sk L τ)) := by
  obtain ⟨A, n, hT⟩ := RWr_T hr
  exact sf_Rw hI hT (k_writeToS (by omega) hp (SI_row hI hT))
/-- where bytes are copied from -/
def CS (sk : Nat → Nat × Nat × Nat) (L : Nat) (τ : px_TT) (S : Nat) : Prop := ∃ N, ar sk L 0 N S ∧ N ≤ 65536 ∧ ∀ k, isB (eI τ S k)
theorem CS_S (hI : SI zb sk L τ0 τ) (hr : TRw r A n) : CS sk L τ A := ⟨n, (SI_row hI hr).2.1, (SI_row hI hr).2.2.1, (SI_row hI hr).2.2.2.2.2.2⟩
theorem CS_F (hI : SI zb sk L τ0 τ) : CS sk L τ 1712 := ⟨65536, (SI_fl hI).2.1, (SI_fl hI).2.2.1, (SI_fl hI).2.2.2.2.2.2⟩
theorem sf_copy {S : Nat} {q m : Int32} (hI : SI zb sk L τ0 τ) (hS : CS sk L τ S) (hr : RWr r) : Sf sk L (SI zb sk L τ0) Any (f_Row_copy F c r S q m (cH sk L τ)) := by
  obtain ⟨A, n, hT⟩ := RWr_T hr
  obtain ⟨N, h1, h2, h3⟩ := hS
  exact sf_Rw hI hT (k_copyS h1 h2 h3 (SI_row hI hT))
end SFC
end SIS
end
section
/-! readers that leave the state as it was, and what their answers are -/
section CMB
variable {F : Nat} {c : px_CT} {sk : Nat → Nat × Nat × Nat} {L : Nat} {zb : Option Nat} {τ0 τ : px_TT} {r A n : Nat} {I : px_TT → Prop} {α : Type} {V : α → Prop}
theorem nI_div24 {m : Nat} (h : m < 2 ^ 30) : nI m / nI 24 = nI (m / 24) := by
  apply Int32.toInt_inj.mp
  rw [Int32.toInt_div]
  have e1 : (nI m).toInt = (m : Int) := nI_toInt (by omega)
  have e2 : (nI 24).toInt = (24 : Int) := rfl
  have e3 : (nI (m / 24)).toInt = ((m / 24 : Nat) : Int) := nI_toInt (by omega)
  rw [e1, e2, e3]
  rw [Int.tdiv_eq_ediv_of_nonneg (by omega)]
  rw [Int.bmod_eq_of_le (by omega) (by omega)]
  rfl
theorem k_atB {x : Int32} (h : rowS sk L τ r A n) : ∃ y, f_Row_at F c r x (cH sk L τ) = some (y &&& nI 255, cH sk L τ) := by
  obtain ⟨h1, h2, h3, h4, z, hz, ez⟩ := h
  unfold f_Row_at f_Row_at_25 f_Row_at_26
  by_cases c1 : x < 0
  · exact ⟨nI 0, by rw [if_pos c1]; rfl⟩
  · obtain ⟨i, hi, ei⟩ := nI_of c1
    rw [if_neg c1, C10g1 h1, bs, ez, ei]
    by_cases c2 : z ≤ i
    · exact ⟨nI 0, by rw [if_pos (nI_le c2 hi)]; rfl⟩
    · exact ⟨eI τ A i, by rw [if_neg (nI_ge (by omega) (by omega)), C10r0 h1 h4, bs, c_aI h2 (Or.inl rfl) (by omega) (by omega), bs]⟩
theorem k_num7B {x : Int32} (h : rowS sk L τ r A n) : ∀ (d f m : Nat), d < f → d < 2 ^ 30 → (m + 1) * 256 ^ d ≤ 2 ^ 64 → ∃ w, w < (m + 1) * 256 ^ d ∧ f_Row_num_7 F c f r x (lN m) (nI d - nI 1) (cH sk L τ) = some (lN w, cH sk L τ) := by
  intro d
  induction d with
  | zero =>
    intro f m hf _ _
    obtain ⟨f, rfl⟩ : ∃ x, f = x + 1 := ⟨f - 1, by omega⟩
    unfold f_Row_num_7 f_Row_num_33
    exact ⟨m, by omega, by rw [if_pos (by decide)]⟩
  | succ d ih =>
    intro f m hf hd hm
    obtain ⟨f, rfl⟩ : ∃ x, f = x + 1 := ⟨f - 1, by omega⟩
    rw [Nat.pow_succ, Nat.mul_comm (256 ^ d) 256, ← Nat.mul_assoc] at hm
    have h1 : 1 ≤ 256 ^ d := Nat.pos_of_ne_zero (by simp)
    have h2 : (m + 1) * 256 ≤ (m + 1) * 256 * 256 ^ d := Nat.le_mul_of_pos_right _ h1
    rw [pk_sub (by omega), Nat.add_sub_cancel]
    obtain ⟨y, ky⟩ := k_atB (F := F) (c := c) (x := x + nI d) h
    have hb := b8_lt y
    have h3 : (m * 256 + b8 y + 1) * 256 ^ d ≤ (m + 1) * 256 * 256 ^ d := Nat.mul_le_mul_right _ (by omega)
    unfold f_Row_num_7
    rw [if_neg (nI_pos (by omega)), c_o h.1, bs, ky, xb_mk, nI_back, sh_byte m y (by omega)]
    obtain ⟨w, hw, e⟩ := ih f (m * 256 + b8 y) (by omega) (by omega) (by omega)
    refine ⟨w, ?_, e⟩
    rw [Nat.pow_succ, Nat.mul_comm (256 ^ d) 256, ← Nat.mul_assoc]
    omega
theorem k_numB {x : Int32} {k : Nat} (hF : 8 < F) (hk : k ≤ 8) (h : rowS sk L τ r A n) : ∃ w, w < 256 ^ k ∧ f_Row_num F c r x (nI k) (cH sk L τ) = some (lN w, cH sk L τ) := by
  have hp : 256 ^ k ≤ 256 ^ 8 := Nat.pow_le_pow_right (by decide) hk
  obtain ⟨w, hw, e⟩ := k_num7B (F := F) (c := c) (x := x) h k F 0 (by omega) (by omega) (by omega)
  exact ⟨w, by omega, e⟩
theorem k_holdsB {a b : Int64} (h : rowS sk L τ r A n) : ∃ z, f_Row_holds F c r a b (cH sk L τ) = some (bI z, cH sk L τ) ∧ (z = true → ∃ m, m ≤ 65536 ∧ b = lN m) := by
  obtain ⟨h1, h2, h3, h4, z, hz, ez⟩ := h
  obtain ⟨x, hx, ex⟩ := wb_of a
  obtain ⟨y, hy, ey⟩ := wb_of b
  unfold f_Row_holds f_Row_holds_30 f_Row_holds_31
  rw [C10g1 h1, bs, ez, ex, nI_l (by omega), k_above hx (by omega), xb_mk]
  by_cases c1 : z < x
  · exact ⟨false, by rw [decide_eq_true c1, if_neg (show ¬ bI true = 0 by decide), xz_0], fun e => by cases e⟩
  · rw [decide_eq_false c1, if_pos (show bI false = 0 from rfl), C10g1 h1, bs, ez, nI_l (by omega), lN_sub (by omega), ey, k_above hy (by omega), xb_mk]
    by_cases c2 : z - x < y
    · exact ⟨false, by rw [decide_eq_true c2, if_neg (show ¬ bI true = 0 by decide), xz_0], fun e => by cases e⟩
    · exact ⟨true, by rw [decide_eq_false c2, if_pos (show bI false = 0 from rfl), xz_1], fun _ => ⟨y, by omega, rfl⟩⟩
theorem sx_num {k : Nat} {x : Int32} {f : Int64 → px_H → Option (α × px_H)} (h0 : S0 sk L τ0) (hF : 65540 < F) (hI : SI zb sk L τ0 τ) (hr : RRd r) (hk : k ≤ 8) (g : ∀ w, w < 256 ^ k → Sf sk L I V (f (lN w) (cH sk L τ))) : Sf sk L I V (xb (f_Row_num F c r x (nI k) (cH sk L τ)) f) := by
  obtain ⟨A, n, h⟩ := SI_S h0 hI hr
  obtain ⟨w, hw, e⟩ := k_numB (F := F) (c := c) (x := x) (by omega) hk h
  rw [e, xb_mk]; exact g w hw
theorem sx_at {x : Int32} {f : Int32 → px_H → Option (α × px_H)} (h0 : S0 sk L τ0) (hI : SI zb sk L τ0 τ) (hr : RRd r) (g : ∀ v, Sf sk L I V (f v (cH sk L τ))) : Sf sk L I V (xb (f_Row_at F c r x (cH sk L τ)) f) := by
  obtain ⟨A, n, h⟩ := SI_S h0 hI hr
  obtain ⟨w, e⟩ := k_atS (F := F) (c := c) (x := x) h
  rw [e, xb_mk]; exact g w
theorem sx_above {a b : Int64} {f : Int32 → px_H → Option (α × px_H)} (g : ∀ v, isZ v → Sf sk L I V (f v (cH sk L τ))) : Sf sk L I V (xb (f_H_above F c a b (cH sk L τ)) f) := by
  obtain ⟨z, e⟩ := k_aboveS (F := F) (c := c) (a := a) (b := b) (ph := cH sk L τ)
  rw [e, xb_mk]; exact g _ ⟨z, rfl⟩
theorem sx_holds {a b : Int64} {f : Int32 → px_H → Option (α × px_H)} (h0 : S0 sk L τ0) (hI : SI zb sk L τ0 τ) (hr : RRd r) (g : ∀ v, isZ v → (¬ v = 0 → ∃ m, m ≤ 65536 ∧ b = lN m) → Sf sk L I V (f v (cH sk L τ))) : Sf sk L I V (xb (f_Row_holds F c r a b (cH sk L τ)) f) := by
  obtain ⟨A, n, h⟩ := SI_S h0 hI hr
  obtain ⟨z, e, hz⟩ := k_holdsB (F := F) (c := c) (a := a) (b := b) h
  rw [e, xb_mk]
  refine g _ ⟨z, rfl⟩ (fun hn => hz ?_)
  cases z with
  | true => rfl
  | false => exact absurd rfl hn
theorem sx_nlen {x y : Int32} {f : Int32 → px_H → Option (α × px_H)} (h0 : S0 sk L τ0) (hF : 65540 < F) (hI : SI zb sk L τ0 τ) (hr : RRd r) (g : ∀ w, w ≤ 20 → Sf sk L I V (f (nI w) (cH sk L τ))) : Sf sk L I V (xb (f_Row_nameLength F c r x y (cH sk L τ)) f) := by
  obtain ⟨A, n, h⟩ := SI_S h0 hI hr
  obtain ⟨w, hw, e⟩ := k_nameLenS (F := F) (c := c) (x := x) (y := y) (by omega) h
  rw [e, xb_mk]; exact g w hw
theorem sx_begins {f : Int32 → px_H → Option (α × px_H)} (h0 : S0 sk L τ0) (hc : KT c) (hF : 65540 < F) (hI : SI zb sk L τ0 τ) (hr : RRd r) (g : ∀ v, isZ v → Sf sk L I V (f v (cH sk L τ))) : Sf sk L I V (xb (f_Row_begins F c r 3 (cH sk L τ)) f) := by
  obtain ⟨A, n, h⟩ := SI_S h0 hI hr
  obtain ⟨z, e⟩ := k_begins_2S (F := F) (c := c) (j := 3) (by decide) hc.2.2.1.1 hc.2.2.1.2 rfl (by decide) h 7 0 F rfl (by omega)
  unfold f_Row_begins
  rw [e, xb_mk]; exact g _ ⟨z, rfl⟩
end CMB
end
section
/-! the class's memory: its calls are safe (steps spelled out by sf/pp.py) -/
section CMS
variable {F : Nat} {c : px_CT} {sk : Nat → Nat × Nat × Nat} {L : Nat} {zb : Option Nat} {τ0 τ : px_TT}
theorem sf_mvalue {j : Int32} (h0 : S0 sk L τ0) (hF : 65540 < F) (hI : SI zb sk L τ0 τ) : Sf sk L (SI zb sk L τ0) Any (f_Memory_valueOf F c 1718 j (cH sk L τ)) := by
  unfold f_Memory_valueOf
  repeat' (first | exact absurd (show nI 0 = 0 from rfl) (by assumption) | exact absurd (show nI 1 = 0 by assumption) (by decide) | ((with_reducible refine sf_i (fun hc => ?_) (fun hc => ?_))) | ((with_reducible refine sf_gF h0 ?_ ?_ ?_ ?_ ?_); decide; decide; decide; decide) | ((with_reducible refine sf_gI ?_ ?_ ?_ ?_); (first | assumption | exact GS_o h0.1 (by decide) (by decide) | exact RRd_o h0 (by assumption) | exact RRd_o h0 (Or.inr (by assumption)) | exact OBq_o h0 (by assumption) | exact OBq_o h0 (Obt_q (by assumption)) | exact G_part h0.1 (by assumption) | exact Nmo_o (by assumption)); decide; decide) | ((with_reducible refine sf_gJ ?_ ?_ ?_ ?_); (first | assumption | exact GS_o h0.1 (by decide) (by decide) | exact RRd_o h0 (by assumption) | exact RRd_o h0 (Or.inr (by assumption)) | exact OBq_o h0 (by assumption) | exact OBq_o h0 (Obt_q (by assumption)) | exact G_part h0.1 (by assumption) | exact Nmo_o (by assumption)); decide; decide) | ((with_reducible refine sf_gN ?_ ?_ ?_ ?_); (first | assumption | exact GS_o h0.1 (by decide) (by decide) | exact RRd_o h0 (by assumption) | exact RRd_o h0 (Or.inr (by assumption)) | exact OBq_o h0 (by assumption) | exact OBq_o h0 (Obt_q (by assumption)) | exact G_part h0.1 (by assumption) | exact Nmo_o (by assumption)); decide; decide) | ((with_reducible refine sf_gG h0 (by assumption) ?_ ?_ ?_ ?_ (by with_unfolding_all exact rfl) ?_); decide; decide; decide; decide) | ((with_reducible refine sf_o ?_ (fun l => ?_)); (first | assumption | exact GS_o h0.1 (by decide) (by decide) | exact RRd_o h0 (by assumption) | exact RRd_o h0 (Or.inr (by assumption)) | exact OBq_o h0 (by assumption) | exact OBq_o h0 (Obt_q (by assumption)) | exact G_part h0.1 (by assumption) | exact Nmo_o (by assumption))) | ((with_reducible refine sf_s ?_)) | ((with_reducible refine sf_sb (by assumption) ?_)) | ((with_reducible refine sf_r ?_ ?_); (first | exact any | assumption | exact ⟨false, rfl⟩ | exact ⟨true, rfl⟩); assumption) | ((with_reducible refine sf_z ?_ ?_ ?_); (first | exact ⟨false, rfl⟩ | exact ⟨true, rfl⟩ | assumption); (first | exact any | exact ⟨false, rfl⟩ | exact ⟨true, rfl⟩ | assumption); assumption) | ((with_reducible refine sx_num h0 hF (by assumption) ?_ ?_ (fun w hw => ?_)); (first | assumption | exact Or.inr (by assumption) | (unfold RRd RWr; decide)); decide))
theorem sf_mname {j : Int32} (h0 : S0 sk L τ0) (hF : 65540 < F) (hI : SI zb sk L τ0 τ) : Sf sk L (SI zb sk L τ0) Any (f_Memory_nameStart F c 1718 j (cH sk L τ)) := by
  unfold f_Memory_nameStart
  repeat' (first | exact absurd (show nI 0 = 0 from rfl) (by assumption) | exact absurd (show nI 1 = 0 by assumption) (by decide) | ((with_reducible refine sf_i (fun hc => ?_) (fun hc => ?_))) | ((with_reducible refine sf_gF h0 ?_ ?_ ?_ ?_ ?_); decide; decide; decide; decide) | ((with_reducible refine sf_gI ?_ ?_ ?_ ?_); (first | assumption | exact GS_o h0.1 (by decide) (by decide) | exact RRd_o h0 (by assumption) | exact RRd_o h0 (Or.inr (by assumption)) | exact OBq_o h0 (by assumption) | exact OBq_o h0 (Obt_q (by assumption)) | exact G_part h0.1 (by assumption) | exact Nmo_o (by assumption)); decide; decide) | ((with_reducible refine sf_gJ ?_ ?_ ?_ ?_); (first | assumption | exact GS_o h0.1 (by decide) (by decide) | exact RRd_o h0 (by assumption) | exact RRd_o h0 (Or.inr (by assumption)) | exact OBq_o h0 (by assumption) | exact OBq_o h0 (Obt_q (by assumption)) | exact G_part h0.1 (by assumption) | exact Nmo_o (by assumption)); decide; decide) | ((with_reducible refine sf_gN ?_ ?_ ?_ ?_); (first | assumption | exact GS_o h0.1 (by decide) (by decide) | exact RRd_o h0 (by assumption) | exact RRd_o h0 (Or.inr (by assumption)) | exact OBq_o h0 (by assumption) | exact OBq_o h0 (Obt_q (by assumption)) | exact G_part h0.1 (by assumption) | exact Nmo_o (by assumption)); decide; decide) | ((with_reducible refine sf_gG h0 (by assumption) ?_ ?_ ?_ ?_ (by with_unfolding_all exact rfl) ?_); decide; decide; decide; decide) | ((with_reducible refine sf_o ?_ (fun l => ?_)); (first | assumption | exact GS_o h0.1 (by decide) (by decide) | exact RRd_o h0 (by assumption) | exact RRd_o h0 (Or.inr (by assumption)) | exact OBq_o h0 (by assumption) | exact OBq_o h0 (Obt_q (by assumption)) | exact G_part h0.1 (by assumption) | exact Nmo_o (by assumption))) | ((with_reducible refine sf_s ?_)) | ((with_reducible refine sf_sb (by assumption) ?_)) | ((with_reducible refine sf_r ?_ ?_); (first | exact any | assumption | exact ⟨false, rfl⟩ | exact ⟨true, rfl⟩); assumption) | ((with_reducible refine sf_z ?_ ?_ ?_); (first | exact ⟨false, rfl⟩ | exact ⟨true, rfl⟩ | assumption); (first | exact any | exact ⟨false, rfl⟩ | exact ⟨true, rfl⟩ | assumption); assumption) | ((with_reducible refine sx_num h0 hF (by assumption) ?_ ?_ (fun w hw => ?_)); (first | assumption | exact Or.inr (by assumption) | (unfold RRd RWr; decide)); decide))
theorem sf_misName {j : Int32} (h0 : S0 sk L τ0) (hF : 65540 < F) (hI : SI zb sk L τ0 τ) : Sf sk L (SI zb sk L τ0) isZ (f_Memory_isName F c 1718 j (cH sk L τ)) := by
  unfold f_Memory_isName f_Memory_isName_33 f_Memory_isName_105 f_Memory_isName_106 f_Memory_isName_50
  repeat' (first | exact absurd (show nI 0 = 0 from rfl) (by assumption) | exact absurd (show nI 1 = 0 by assumption) (by decide) | ((with_reducible refine sf_i (fun hc => ?_) (fun hc => ?_))) | ((with_reducible refine sf_gF h0 ?_ ?_ ?_ ?_ ?_); decide; decide; decide; decide) | ((with_reducible refine sf_gI ?_ ?_ ?_ ?_); (first | assumption | exact GS_o h0.1 (by decide) (by decide) | exact RRd_o h0 (by assumption) | exact RRd_o h0 (Or.inr (by assumption)) | exact OBq_o h0 (by assumption) | exact OBq_o h0 (Obt_q (by assumption)) | exact G_part h0.1 (by assumption) | exact Nmo_o (by assumption)); decide; decide) | ((with_reducible refine sf_gJ ?_ ?_ ?_ ?_); (first | assumption | exact GS_o h0.1 (by decide) (by decide) | exact RRd_o h0 (by assumption) | exact RRd_o h0 (Or.inr (by assumption)) | exact OBq_o h0 (by assumption) | exact OBq_o h0 (Obt_q (by assumption)) | exact G_part h0.1 (by assumption) | exact Nmo_o (by assumption)); decide; decide) | ((with_reducible refine sf_gN ?_ ?_ ?_ ?_); (first | assumption | exact GS_o h0.1 (by decide) (by decide) | exact RRd_o h0 (by assumption) | exact RRd_o h0 (Or.inr (by assumption)) | exact OBq_o h0 (by assumption) | exact OBq_o h0 (Obt_q (by assumption)) | exact G_part h0.1 (by assumption) | exact Nmo_o (by assumption)); decide; decide) | ((with_reducible refine sf_gG h0 (by assumption) ?_ ?_ ?_ ?_ (by with_unfolding_all exact rfl) ?_); decide; decide; decide; decide) | ((with_reducible refine sf_o ?_ (fun l => ?_)); (first | assumption | exact GS_o h0.1 (by decide) (by decide) | exact RRd_o h0 (by assumption) | exact RRd_o h0 (Or.inr (by assumption)) | exact OBq_o h0 (by assumption) | exact OBq_o h0 (Obt_q (by assumption)) | exact G_part h0.1 (by assumption) | exact Nmo_o (by assumption))) | ((with_reducible refine sf_s ?_)) | ((with_reducible refine sf_sb (by assumption) ?_)) | ((with_reducible refine sf_r ?_ ?_); (first | exact any | assumption | exact ⟨false, rfl⟩ | exact ⟨true, rfl⟩); assumption) | ((with_reducible refine sf_z ?_ ?_ ?_); (first | exact ⟨false, rfl⟩ | exact ⟨true, rfl⟩ | assumption); (first | exact any | exact ⟨false, rfl⟩ | exact ⟨true, rfl⟩ | assumption); assumption) | ((with_reducible refine sx_num h0 hF (by assumption) ?_ ?_ (fun w hw => ?_)); (first | assumption | exact Or.inr (by assumption) | (unfold RRd RWr; decide)); decide) | ((with_reducible refine sx_at h0 (by assumption) ?_ (fun v => ?_)); (first | assumption | exact Or.inr (by assumption) | (unfold RRd RWr; decide))) | ((with_reducible refine sx_nlen h0 hF (by assumption) ?_ (fun w hw => ?_)); (first | assumption | exact Or.inr (by assumption) | (unfold RRd RWr; decide))))
theorem sf_mrow_2 {x : Int64} (h0 : S0 sk L τ0) (hF : 65540 < F) : ∀ (d j f : Nat) (τ : px_TT), j + d = 8 → d < f → SI zb sk L τ0 τ → Sf sk L (SI zb sk L τ0) (fun v => v = Int32.ofInt (-1) ∨ ∃ m, m < 8 ∧ v = nI m) (f_Memory_rowAt_2 F c f 1718 x (nI j) (cH sk L τ)) := by
  intro d
  induction d with
  | zero =>
    intro j f τ hj hf hI
    obtain ⟨f, rfl⟩ : ∃ y, f = y + 1 := ⟨f - 1, by omega⟩
    obtain rfl : j = 8 := by omega
    unfold f_Memory_rowAt_2 f_Memory_rowAt_47
    repeat' (first | (exact absurd (show nI 8 ≤ nI 8 by decide) hc) | (refine sf_r (Or.inl rfl) hI) | exact absurd (show nI 0 = 0 from rfl) (by assumption) | exact absurd (show nI 1 = 0 by assumption) (by decide) | ((with_reducible refine sf_i (fun hc => ?_) (fun hc => ?_))) | ((with_reducible refine sf_gF h0 ?_ ?_ ?_ ?_ ?_); decide; decide; decide; decide) | ((with_reducible refine sf_gI ?_ ?_ ?_ ?_); (first | assumption | exact GS_o h0.1 (by decide) (by decide) | exact RRd_o h0 (by assumption) | exact RRd_o h0 (Or.inr (by assumption)) | exact OBq_o h0 (by assumption) | exact OBq_o h0 (Obt_q (by assumption)) | exact G_part h0.1 (by assumption) | exact Nmo_o (by assumption)); decide; decide) | ((with_reducible refine sf_gJ ?_ ?_ ?_ ?_); (first | assumption | exact GS_o h0.1 (by decide) (by decide) | exact RRd_o h0 (by assumption) | exact RRd_o h0 (Or.inr (by assumption)) | exact OBq_o h0 (by assumption) | exact OBq_o h0 (Obt_q (by assumption)) | exact G_part h0.1 (by assumption) | exact Nmo_o (by assumption)); decide; decide) | ((with_reducible refine sf_gN ?_ ?_ ?_ ?_); (first | assumption | exact GS_o h0.1 (by decide) (by decide) | exact RRd_o h0 (by assumption) | exact RRd_o h0 (Or.inr (by assumption)) | exact OBq_o h0 (by assumption) | exact OBq_o h0 (Obt_q (by assumption)) | exact G_part h0.1 (by assumption) | exact Nmo_o (by assumption)); decide; decide) | ((with_reducible refine sf_gG h0 (by assumption) ?_ ?_ ?_ ?_ (by with_unfolding_all exact rfl) ?_); decide; decide; decide; decide) | ((with_reducible refine sf_o ?_ (fun l => ?_)); (first | assumption | exact GS_o h0.1 (by decide) (by decide) | exact RRd_o h0 (by assumption) | exact RRd_o h0 (Or.inr (by assumption)) | exact OBq_o h0 (by assumption) | exact OBq_o h0 (Obt_q (by assumption)) | exact G_part h0.1 (by assumption) | exact Nmo_o (by assumption))) | ((with_reducible refine sf_s ?_)) | ((with_reducible refine sf_sb (by assumption) ?_)) | ((with_reducible refine sf_r ?_ ?_); (first | exact any | assumption | exact ⟨false, rfl⟩ | exact ⟨true, rfl⟩); assumption) | ((with_reducible refine sf_z ?_ ?_ ?_); (first | exact ⟨false, rfl⟩ | exact ⟨true, rfl⟩ | assumption); (first | exact any | exact ⟨false, rfl⟩ | exact ⟨true, rfl⟩ | assumption); assumption) | ((with_reducible refine sf_lF h0 ?_ (by with_unfolding_all exact rfl) ?_ ?_); decide; decide))
  | succ d ih =>
    intro j f τ hj hf hI
    obtain ⟨f, rfl⟩ : ∃ y, f = y + 1 := ⟨f - 1, by omega⟩
    unfold f_Memory_rowAt_2 f_Memory_rowAt_47 f_Memory_rowAt_39
    rw [nI_add]
    repeat' (first | (refine sf_r (Or.inl rfl) hI) | ((with_reducible refine sf_aJF h0 ?_ (by with_unfolding_all exact rfl) ?_ ?_ (fun m hm em => ?_)); decide; decide; exact ⟨j, by omega, rfl⟩) | ((with_reducible refine sf_r ?_ ?_); exact Or.inr ⟨j, by omega, rfl⟩; assumption) | (exact ih _ _ _ (by omega) (by omega) (by assumption)) | exact absurd (show nI 0 = 0 from rfl) (by assumption) | exact absurd (show nI 1 = 0 by assumption) (by decide) | ((with_reducible refine sf_i (fun hc => ?_) (fun hc => ?_))) | ((with_reducible refine sf_gF h0 ?_ ?_ ?_ ?_ ?_); decide; decide; decide; decide) | ((with_reducible refine sf_gI ?_ ?_ ?_ ?_); (first | assumption | exact GS_o h0.1 (by decide) (by decide) | exact RRd_o h0 (by assumption) | exact RRd_o h0 (Or.inr (by assumption)) | exact OBq_o h0 (by assumption) | exact OBq_o h0 (Obt_q (by assumption)) | exact G_part h0.1 (by assumption) | exact Nmo_o (by assumption)); decide; decide) | ((with_reducible refine sf_gJ ?_ ?_ ?_ ?_); (first | assumption | exact GS_o h0.1 (by decide) (by decide) | exact RRd_o h0 (by assumption) | exact RRd_o h0 (Or.inr (by assumption)) | exact OBq_o h0 (by assumption) | exact OBq_o h0 (Obt_q (by assumption)) | exact G_part h0.1 (by assumption) | exact Nmo_o (by assumption)); decide; decide) | ((with_reducible refine sf_gN ?_ ?_ ?_ ?_); (first | assumption | exact GS_o h0.1 (by decide) (by decide) | exact RRd_o h0 (by assumption) | exact RRd_o h0 (Or.inr (by assumption)) | exact OBq_o h0 (by assumption) | exact OBq_o h0 (Obt_q (by assumption)) | exact G_part h0.1 (by assumption) | exact Nmo_o (by assumption)); decide; decide) | ((with_reducible refine sf_gG h0 (by assumption) ?_ ?_ ?_ ?_ (by with_unfolding_all exact rfl) ?_); decide; decide; decide; decide) | ((with_reducible refine sf_o ?_ (fun l => ?_)); (first | assumption | exact GS_o h0.1 (by decide) (by decide) | exact RRd_o h0 (by assumption) | exact RRd_o h0 (Or.inr (by assumption)) | exact OBq_o h0 (by assumption) | exact OBq_o h0 (Obt_q (by assumption)) | exact G_part h0.1 (by assumption) | exact Nmo_o (by assumption))) | ((with_reducible refine sf_s ?_)) | ((with_reducible refine sf_sb (by assumption) ?_)) | ((with_reducible refine sf_r ?_ ?_); (first | exact any | assumption | exact ⟨false, rfl⟩ | exact ⟨true, rfl⟩); assumption) | ((with_reducible refine sf_z ?_ ?_ ?_); (first | exact ⟨false, rfl⟩ | exact ⟨true, rfl⟩ | assumption); (first | exact any | exact ⟨false, rfl⟩ | exact ⟨true, rfl⟩ | assumption); assumption) | ((with_reducible refine sf_lF h0 ?_ (by with_unfolding_all exact rfl) ?_ ?_); decide; decide) | ((with_reducible refine sx_above (fun v hv => ?_))))
theorem sf_mrow {x : Int64} (h0 : S0 sk L τ0) (hF : 65540 < F) (hI : SI zb sk L τ0 τ) : Sf sk L (SI zb sk L τ0) (fun v => v = Int32.ofInt (-1) ∨ ∃ m, m < 8 ∧ v = nI m) (f_Memory_rowAt F c 1718 x (cH sk L τ)) := sf_mrow_2 h0 hF 8 0 F τ rfl (by omega) hI
theorem row_m {v : Int32} (h : v = Int32.ofInt (-1) ∨ ∃ m, m < 8 ∧ v = nI m) (hc : 0 ≤ v) : ∃ m, m < 8 ∧ v = nI m := by
  rcases h with rfl | h
  · exact absurd hc (by decide)
  · exact h
theorem sf_mbyte {x : Int64} (h0 : S0 sk L τ0) (hF : 65540 < F) (hI : SI zb sk L τ0 τ) : Sf sk L (SI zb sk L τ0) Any (f_Memory_byteAt F c 1718 x (cH sk L τ)) := by
  unfold f_Memory_byteAt f_Memory_byteAt_55
  repeat' (first | ((with_reducible refine sf_aJF h0 ?_ (by with_unfolding_all exact rfl) ?_ ?_ (fun m hm em => ?_)); decide; decide; exact row_m (by assumption) (by assumption)) | ((with_reducible refine sf_aIF h0 ?_ (by with_unfolding_all exact rfl) ?_ ?_ ?_ (fun m hm em => ?_)); decide; decide; decide; exact row_m (by assumption) (by assumption)) | exact absurd (show nI 0 = 0 from rfl) (by assumption) | exact absurd (show nI 1 = 0 by assumption) (by decide) | ((with_reducible refine sf_i (fun hc => ?_) (fun hc => ?_))) | ((with_reducible refine sf_gF h0 ?_ ?_ ?_ ?_ ?_); decide; decide; decide; decide) | ((with_reducible refine sf_gI ?_ ?_ ?_ ?_); (first | assumption | exact GS_o h0.1 (by decide) (by decide) | exact RRd_o h0 (by assumption) | exact RRd_o h0 (Or.inr (by assumption)) | exact OBq_o h0 (by assumption) | exact OBq_o h0 (Obt_q (by assumption)) | exact G_part h0.1 (by assumption) | exact Nmo_o (by assumption)); decide; decide) | ((with_reducible refine sf_gJ ?_ ?_ ?_ ?_); (first | assumption | exact GS_o h0.1 (by decide) (by decide) | exact RRd_o h0 (by assumption) | exact RRd_o h0 (Or.inr (by assumption)) | exact OBq_o h0 (by assumption) | exact OBq_o h0 (Obt_q (by assumption)) | exact G_part h0.1 (by assumption) | exact Nmo_o (by assumption)); decide; decide) | ((with_reducible refine sf_gN ?_ ?_ ?_ ?_); (first | assumption | exact GS_o h0.1 (by decide) (by decide) | exact RRd_o h0 (by assumption) | exact RRd_o h0 (Or.inr (by assumption)) | exact OBq_o h0 (by assumption) | exact OBq_o h0 (Obt_q (by assumption)) | exact G_part h0.1 (by assumption) | exact Nmo_o (by assumption)); decide; decide) | ((with_reducible refine sf_gG h0 (by assumption) ?_ ?_ ?_ ?_ (by with_unfolding_all exact rfl) ?_); decide; decide; decide; decide) | ((with_reducible refine sf_o ?_ (fun l => ?_)); (first | assumption | exact GS_o h0.1 (by decide) (by decide) | exact RRd_o h0 (by assumption) | exact RRd_o h0 (Or.inr (by assumption)) | exact OBq_o h0 (by assumption) | exact OBq_o h0 (Obt_q (by assumption)) | exact G_part h0.1 (by assumption) | exact Nmo_o (by assumption))) | ((with_reducible refine sf_s ?_)) | ((with_reducible refine sf_sb (by assumption) ?_)) | ((with_reducible refine sf_r ?_ ?_); (first | exact any | assumption | exact ⟨false, rfl⟩ | exact ⟨true, rfl⟩); assumption) | ((with_reducible refine sf_z ?_ ?_ ?_); (first | exact ⟨false, rfl⟩ | exact ⟨true, rfl⟩ | assumption); (first | exact any | exact ⟨false, rfl⟩ | exact ⟨true, rfl⟩ | assumption); assumption) | ((with_reducible refine sx_at h0 (by assumption) ?_ (fun v => ?_)); (first | assumption | exact Or.inr (by assumption) | (unfold RRd RWr; decide))) | ((with_reducible refine sf_x (sf_mrow h0 hF (by assumption)) ?_); intro v τ hv hi))
theorem sf_mflag {x : Int64} (h0 : S0 sk L τ0) (hF : 65540 < F) (hI : SI zb sk L τ0 τ) : Sf sk L (SI zb sk L τ0) Any (f_Memory_flagsAt F c 1718 x (cH sk L τ)) := by
  unfold f_Memory_flagsAt f_Memory_flagsAt_22
  repeat' (first | ((with_reducible refine sf_aJF h0 ?_ (by with_unfolding_all exact rfl) ?_ ?_ (fun m hm em => ?_)); decide; decide; exact row_m (by assumption) (by assumption)) | exact absurd (show nI 0 = 0 from rfl) (by assumption) | exact absurd (show nI 1 = 0 by assumption) (by decide) | ((with_reducible refine sf_i (fun hc => ?_) (fun hc => ?_))) | ((with_reducible refine sf_gF h0 ?_ ?_ ?_ ?_ ?_); decide; decide; decide; decide) | ((with_reducible refine sf_gI ?_ ?_ ?_ ?_); (first | assumption | exact GS_o h0.1 (by decide) (by decide) | exact RRd_o h0 (by assumption) | exact RRd_o h0 (Or.inr (by assumption)) | exact OBq_o h0 (by assumption) | exact OBq_o h0 (Obt_q (by assumption)) | exact G_part h0.1 (by assumption) | exact Nmo_o (by assumption)); decide; decide) | ((with_reducible refine sf_gJ ?_ ?_ ?_ ?_); (first | assumption | exact GS_o h0.1 (by decide) (by decide) | exact RRd_o h0 (by assumption) | exact RRd_o h0 (Or.inr (by assumption)) | exact OBq_o h0 (by assumption) | exact OBq_o h0 (Obt_q (by assumption)) | exact G_part h0.1 (by assumption) | exact Nmo_o (by assumption)); decide; decide) | ((with_reducible refine sf_gN ?_ ?_ ?_ ?_); (first | assumption | exact GS_o h0.1 (by decide) (by decide) | exact RRd_o h0 (by assumption) | exact RRd_o h0 (Or.inr (by assumption)) | exact OBq_o h0 (by assumption) | exact OBq_o h0 (Obt_q (by assumption)) | exact G_part h0.1 (by assumption) | exact Nmo_o (by assumption)); decide; decide) | ((with_reducible refine sf_gG h0 (by assumption) ?_ ?_ ?_ ?_ (by with_unfolding_all exact rfl) ?_); decide; decide; decide; decide) | ((with_reducible refine sf_o ?_ (fun l => ?_)); (first | assumption | exact GS_o h0.1 (by decide) (by decide) | exact RRd_o h0 (by assumption) | exact RRd_o h0 (Or.inr (by assumption)) | exact OBq_o h0 (by assumption) | exact OBq_o h0 (Obt_q (by assumption)) | exact G_part h0.1 (by assumption) | exact Nmo_o (by assumption))) | ((with_reducible refine sf_s ?_)) | ((with_reducible refine sf_sb (by assumption) ?_)) | ((with_reducible refine sf_r ?_ ?_); (first | exact any | assumption | exact ⟨false, rfl⟩ | exact ⟨true, rfl⟩); assumption) | ((with_reducible refine sf_z ?_ ?_ ?_); (first | exact ⟨false, rfl⟩ | exact ⟨true, rfl⟩ | assumption); (first | exact any | exact ⟨false, rfl⟩ | exact ⟨true, rfl⟩ | assumption); assumption) | ((with_reducible refine sf_x (sf_mrow h0 hF (by assumption)) ?_); intro v τ hv hi))
theorem sf_mnear_5 {x : Int64} (h0 : S0 sk L τ0) (hF : 65540 < F) : ∀ (d j f : Nat) (b : Int32) (τ : px_TT), j + d = 4097 → d < f → SI zb sk L τ0 τ → Sf sk L (SI zb sk L τ0) Any (f_Memory_nearest_5 F c f 1718 x b (nI j) (cH sk L τ)) := by
  intro d
  induction d with
  | zero =>
    intro j f b τ hj hf hI
    obtain ⟨f, rfl⟩ : ∃ y, f = y + 1 := ⟨f - 1, by omega⟩
    obtain ⟨m, hm, em⟩ := hI.2.2.2.1.2
    unfold f_Memory_nearest_5 f_Memory_nearest_78
    repeat' (first | (exact absurd (show fI τ 1718 9 ≤ nI j by rw [em]; exact nI_le (by omega) (by omega)) hc) | exact absurd (show nI 0 = 0 from rfl) (by assumption) | exact absurd (show nI 1 = 0 by assumption) (by decide) | ((with_reducible refine sf_i (fun hc => ?_) (fun hc => ?_))) | ((with_reducible refine sf_gF h0 ?_ ?_ ?_ ?_ ?_); decide; decide; decide; decide) | ((with_reducible refine sf_gI ?_ ?_ ?_ ?_); (first | assumption | exact GS_o h0.1 (by decide) (by decide) | exact RRd_o h0 (by assumption) | exact RRd_o h0 (Or.inr (by assumption)) | exact OBq_o h0 (by assumption) | exact OBq_o h0 (Obt_q (by assumption)) | exact G_part h0.1 (by assumption) | exact Nmo_o (by assumption)); decide; decide) | ((with_reducible refine sf_gJ ?_ ?_ ?_ ?_); (first | assumption | exact GS_o h0.1 (by decide) (by decide) | exact RRd_o h0 (by assumption) | exact RRd_o h0 (Or.inr (by assumption)) | exact OBq_o h0 (by assumption) | exact OBq_o h0 (Obt_q (by assumption)) | exact G_part h0.1 (by assumption) | exact Nmo_o (by assumption)); decide; decide) | ((with_reducible refine sf_gN ?_ ?_ ?_ ?_); (first | assumption | exact GS_o h0.1 (by decide) (by decide) | exact RRd_o h0 (by assumption) | exact RRd_o h0 (Or.inr (by assumption)) | exact OBq_o h0 (by assumption) | exact OBq_o h0 (Obt_q (by assumption)) | exact G_part h0.1 (by assumption) | exact Nmo_o (by assumption)); decide; decide) | ((with_reducible refine sf_gG h0 (by assumption) ?_ ?_ ?_ ?_ (by with_unfolding_all exact rfl) ?_); decide; decide; decide; decide) | ((with_reducible refine sf_o ?_ (fun l => ?_)); (first | assumption | exact GS_o h0.1 (by decide) (by decide) | exact RRd_o h0 (by assumption) | exact RRd_o h0 (Or.inr (by assumption)) | exact OBq_o h0 (by assumption) | exact OBq_o h0 (Obt_q (by assumption)) | exact G_part h0.1 (by assumption) | exact Nmo_o (by assumption))) | ((with_reducible refine sf_s ?_)) | ((with_reducible refine sf_sb (by assumption) ?_)) | ((with_reducible refine sf_r ?_ ?_); (first | exact any | assumption | exact ⟨false, rfl⟩ | exact ⟨true, rfl⟩); assumption) | ((with_reducible refine sf_z ?_ ?_ ?_); (first | exact ⟨false, rfl⟩ | exact ⟨true, rfl⟩ | assumption); (first | exact any | exact ⟨false, rfl⟩ | exact ⟨true, rfl⟩ | assumption); assumption))
  | succ d ih =>
    intro j f b τ hj hf hI
    obtain ⟨f, rfl⟩ : ∃ y, f = y + 1 := ⟨f - 1, by omega⟩
    unfold f_Memory_nearest_5 f_Memory_nearest_32 f_Memory_nearest_60 f_Memory_nearest_72 f_Memory_nearest_78
    rw [nI_add]
    repeat' (first | (exact ih _ _ _ _ (by omega) (by omega) (by assumption)) | exact absurd (show nI 0 = 0 from rfl) (by assumption) | exact absurd (show nI 1 = 0 by assumption) (by decide) | ((with_reducible refine sf_i (fun hc => ?_) (fun hc => ?_))) | ((with_reducible refine sf_gF h0 ?_ ?_ ?_ ?_ ?_); decide; decide; decide; decide) | ((with_reducible refine sf_gI ?_ ?_ ?_ ?_); (first | assumption | exact GS_o h0.1 (by decide) (by decide) | exact RRd_o h0 (by assumption) | exact RRd_o h0 (Or.inr (by assumption)) | exact OBq_o h0 (by assumption) | exact OBq_o h0 (Obt_q (by assumption)) | exact G_part h0.1 (by assumption) | exact Nmo_o (by assumption)); decide; decide) | ((with_reducible refine sf_gJ ?_ ?_ ?_ ?_); (first | assumption | exact GS_o h0.1 (by decide) (by decide) | exact RRd_o h0 (by assumption) | exact RRd_o h0 (Or.inr (by assumption)) | exact OBq_o h0 (by assumption) | exact OBq_o h0 (Obt_q (by assumption)) | exact G_part h0.1 (by assumption) | exact Nmo_o (by assumption)); decide; decide) | ((with_reducible refine sf_gN ?_ ?_ ?_ ?_); (first | assumption | exact GS_o h0.1 (by decide) (by decide) | exact RRd_o h0 (by assumption) | exact RRd_o h0 (Or.inr (by assumption)) | exact OBq_o h0 (by assumption) | exact OBq_o h0 (Obt_q (by assumption)) | exact G_part h0.1 (by assumption) | exact Nmo_o (by assumption)); decide; decide) | ((with_reducible refine sf_gG h0 (by assumption) ?_ ?_ ?_ ?_ (by with_unfolding_all exact rfl) ?_); decide; decide; decide; decide) | ((with_reducible refine sf_o ?_ (fun l => ?_)); (first | assumption | exact GS_o h0.1 (by decide) (by decide) | exact RRd_o h0 (by assumption) | exact RRd_o h0 (Or.inr (by assumption)) | exact OBq_o h0 (by assumption) | exact OBq_o h0 (Obt_q (by assumption)) | exact G_part h0.1 (by assumption) | exact Nmo_o (by assumption))) | ((with_reducible refine sf_s ?_)) | ((with_reducible refine sf_sb (by assumption) ?_)) | ((with_reducible refine sf_r ?_ ?_); (first | exact any | assumption | exact ⟨false, rfl⟩ | exact ⟨true, rfl⟩); assumption) | ((with_reducible refine sf_z ?_ ?_ ?_); (first | exact ⟨false, rfl⟩ | exact ⟨true, rfl⟩ | assumption); (first | exact any | exact ⟨false, rfl⟩ | exact ⟨true, rfl⟩ | assumption); assumption) | ((with_reducible refine sx_above (fun v hv => ?_))) | ((with_reducible refine sf_x (sf_mvalue h0 hF (by assumption)) ?_); intro v τ hv hi) | ((with_reducible refine sf_x (sf_misName h0 hF (by assumption)) ?_); intro v τ hv hi))
theorem sf_mnear {x : Int64} (h0 : S0 sk L τ0) (hF : 65540 < F) (hI : SI zb sk L τ0 τ) : Sf sk L (SI zb sk L τ0) Any (f_Memory_nearest F c 1718 x (cH sk L τ)) := sf_mnear_5 h0 hF 4096 1 F _ τ rfl (by omega) hI
end CMS
end
section
/-! the class boots: safe (steps spelled out by sf/pp.py) -/
section CBO
variable {F : Nat} {c : px_CT} {sk : Nat → Nat × Nat × Nat} {L : Nat} {zb : Option Nat} {τ0 τ : px_TT} {r : Nat}
theorem sf_rowErr {x : Int32} {e : Int64} (h0 : S0 sk L τ0) (hF : 65540 < F) (hr : RRd r) (hI : SI zb sk L τ0 τ) : Sf sk L (fun τ' => τ' = τ) Any (f_Memory_rowError F c r x e (cH sk L τ)) := by
  unfold f_Memory_rowError f_Memory_rowError_139 f_Memory_rowError_141 f_Memory_rowError_153
  repeat' (first | (exact sf_r any rfl) | exact absurd (show nI 0 = 0 from rfl) (by assumption) | exact absurd (show nI 1 = 0 by assumption) (by decide) | ((with_reducible refine sf_i (fun hc => ?_) (fun hc => ?_))) | ((with_reducible refine sf_gF h0 ?_ ?_ ?_ ?_ ?_); decide; decide; decide; decide) | ((with_reducible refine sf_gI ?_ ?_ ?_ ?_); (first | assumption | exact GS_o h0.1 (by decide) (by decide) | exact RRd_o h0 (by assumption) | exact RRd_o h0 (Or.inr (by assumption)) | exact OBq_o h0 (by assumption) | exact OBq_o h0 (Obt_q (by assumption)) | exact G_part h0.1 (by assumption) | exact Nmo_o (by assumption)); decide; decide) | ((with_reducible refine sf_gJ ?_ ?_ ?_ ?_); (first | assumption | exact GS_o h0.1 (by decide) (by decide) | exact RRd_o h0 (by assumption) | exact RRd_o h0 (Or.inr (by assumption)) | exact OBq_o h0 (by assumption) | exact OBq_o h0 (Obt_q (by assumption)) | exact G_part h0.1 (by assumption) | exact Nmo_o (by assumption)); decide; decide) | ((with_reducible refine sf_gN ?_ ?_ ?_ ?_); (first | assumption | exact GS_o h0.1 (by decide) (by decide) | exact RRd_o h0 (by assumption) | exact RRd_o h0 (Or.inr (by assumption)) | exact OBq_o h0 (by assumption) | exact OBq_o h0 (Obt_q (by assumption)) | exact G_part h0.1 (by assumption) | exact Nmo_o (by assumption)); decide; decide) | ((with_reducible refine sf_gG h0 (by assumption) ?_ ?_ ?_ ?_ (by with_unfolding_all exact rfl) ?_); decide; decide; decide; decide) | ((with_reducible refine sf_o ?_ (fun l => ?_)); (first | assumption | exact GS_o h0.1 (by decide) (by decide) | exact RRd_o h0 (by assumption) | exact RRd_o h0 (Or.inr (by assumption)) | exact OBq_o h0 (by assumption) | exact OBq_o h0 (Obt_q (by assumption)) | exact G_part h0.1 (by assumption) | exact Nmo_o (by assumption))) | ((with_reducible refine sf_s ?_)) | ((with_reducible refine sf_sb (by assumption) ?_)) | ((with_reducible refine sf_r ?_ ?_); (first | exact any | assumption | exact ⟨false, rfl⟩ | exact ⟨true, rfl⟩); assumption) | ((with_reducible refine sf_z ?_ ?_ ?_); (first | exact ⟨false, rfl⟩ | exact ⟨true, rfl⟩ | assumption); (first | exact any | exact ⟨false, rfl⟩ | exact ⟨true, rfl⟩ | assumption); assumption) | ((with_reducible refine sx_num h0 hF (by assumption) ?_ ?_ (fun w hw => ?_)); (first | assumption | exact Or.inr (by assumption) | (unfold RRd RWr; decide)); decide) | ((with_reducible refine sx_holds h0 (by assumption) ?_ (fun v hv hh => ?_)); (first | assumption | exact Or.inr (by assumption) | (unfold RRd RWr; decide))) | ((with_reducible refine sx_above (fun v hv => ?_))))
theorem sf_err_127 {at0 : Int64} {a4 : Int32} (h0 : S0 sk L τ0) (hF : 65540 < F) (hr : RRd r) (h4 : ¬ nI 8 < a4) (hI : SI zb sk L τ0 τ) : ∀ (d j f : Nat) (e : Int64) (b : Int32), j + d = 8 → d < f → Sf sk L (fun τ' => τ' = τ) Any (f_Memory_errorOf_127 F c f r at0 a4 e b (nI j) (cH sk L τ)) := by
  intro d
  induction d with
  | zero =>
    intro j f e b hj hf
    obtain ⟨f, rfl⟩ : ∃ y, f = y + 1 := ⟨f - 1, by omega⟩
    obtain rfl : j = 8 := by omega
    unfold f_Memory_errorOf_127 f_Memory_errorOf_264 f_Memory_errorOf_275
    rw [if_pos (Int32.not_lt.mp h4)]
    repeat' (first | (exact sf_r any rfl) | exact absurd (show nI 0 = 0 from rfl) (by assumption) | exact absurd (show nI 1 = 0 by assumption) (by decide) | ((with_reducible refine sf_i (fun hc => ?_) (fun hc => ?_))) | ((with_reducible refine sf_gF h0 ?_ ?_ ?_ ?_ ?_); decide; decide; decide; decide) | ((with_reducible refine sf_gI ?_ ?_ ?_ ?_); (first | assumption | exact GS_o h0.1 (by decide) (by decide) | exact RRd_o h0 (by assumption) | exact RRd_o h0 (Or.inr (by assumption)) | exact OBq_o h0 (by assumption) | exact OBq_o h0 (Obt_q (by assumption)) | exact G_part h0.1 (by assumption) | exact Nmo_o (by assumption)); decide; decide) | ((with_reducible refine sf_gJ ?_ ?_ ?_ ?_); (first | assumption | exact GS_o h0.1 (by decide) (by decide) | exact RRd_o h0 (by assumption) | exact RRd_o h0 (Or.inr (by assumption)) | exact OBq_o h0 (by assumption) | exact OBq_o h0 (Obt_q (by assumption)) | exact G_part h0.1 (by assumption) | exact Nmo_o (by assumption)); decide; decide) | ((with_reducible refine sf_gN ?_ ?_ ?_ ?_); (first | assumption | exact GS_o h0.1 (by decide) (by decide) | exact RRd_o h0 (by assumption) | exact RRd_o h0 (Or.inr (by assumption)) | exact OBq_o h0 (by assumption) | exact OBq_o h0 (Obt_q (by assumption)) | exact G_part h0.1 (by assumption) | exact Nmo_o (by assumption)); decide; decide) | ((with_reducible refine sf_gG h0 (by assumption) ?_ ?_ ?_ ?_ (by with_unfolding_all exact rfl) ?_); decide; decide; decide; decide) | ((with_reducible refine sf_o ?_ (fun l => ?_)); (first | assumption | exact GS_o h0.1 (by decide) (by decide) | exact RRd_o h0 (by assumption) | exact RRd_o h0 (Or.inr (by assumption)) | exact OBq_o h0 (by assumption) | exact OBq_o h0 (Obt_q (by assumption)) | exact G_part h0.1 (by assumption) | exact Nmo_o (by assumption))) | ((with_reducible refine sf_s ?_)) | ((with_reducible refine sf_sb (by assumption) ?_)) | ((with_reducible refine sf_r ?_ ?_); (first | exact any | assumption | exact ⟨false, rfl⟩ | exact ⟨true, rfl⟩); assumption) | ((with_reducible refine sf_z ?_ ?_ ?_); (first | exact ⟨false, rfl⟩ | exact ⟨true, rfl⟩ | assumption); (first | exact any | exact ⟨false, rfl⟩ | exact ⟨true, rfl⟩ | assumption); assumption))
  | succ d ih =>
    intro j f e b hj hf
    obtain ⟨f, rfl⟩ : ∃ y, f = y + 1 := ⟨f - 1, by omega⟩
    unfold f_Memory_errorOf_127 f_Memory_errorOf_264 f_Memory_errorOf_275 f_Memory_errorOf_171 f_Memory_errorOf_258 f_Memory_errorOf_255 f_Memory_errorOf_251 f_Memory_errorOf_256 f_Memory_errorOf_258
    rw [nI_add]
    repeat' (first | (exact sf_r any rfl) | (exact ih _ _ _ _ (by omega) (by omega)) | ((with_reducible refine sf_x (sf_rowErr h0 hF hr hI) ?_); rintro v _ hv rfl) | exact absurd (show nI 0 = 0 from rfl) (by assumption) | exact absurd (show nI 1 = 0 by assumption) (by decide) | ((with_reducible refine sf_i (fun hc => ?_) (fun hc => ?_))) | ((with_reducible refine sf_gF h0 ?_ ?_ ?_ ?_ ?_); decide; decide; decide; decide) | ((with_reducible refine sf_gI ?_ ?_ ?_ ?_); (first | assumption | exact GS_o h0.1 (by decide) (by decide) | exact RRd_o h0 (by assumption) | exact RRd_o h0 (Or.inr (by assumption)) | exact OBq_o h0 (by assumption) | exact OBq_o h0 (Obt_q (by assumption)) | exact G_part h0.1 (by assumption) | exact Nmo_o (by assumption)); decide; decide) | ((with_reducible refine sf_gJ ?_ ?_ ?_ ?_); (first | assumption | exact GS_o h0.1 (by decide) (by decide) | exact RRd_o h0 (by assumption) | exact RRd_o h0 (Or.inr (by assumption)) | exact OBq_o h0 (by assumption) | exact OBq_o h0 (Obt_q (by assumption)) | exact G_part h0.1 (by assumption) | exact Nmo_o (by assumption)); decide; decide) | ((with_reducible refine sf_gN ?_ ?_ ?_ ?_); (first | assumption | exact GS_o h0.1 (by decide) (by decide) | exact RRd_o h0 (by assumption) | exact RRd_o h0 (Or.inr (by assumption)) | exact OBq_o h0 (by assumption) | exact OBq_o h0 (Obt_q (by assumption)) | exact G_part h0.1 (by assumption) | exact Nmo_o (by assumption)); decide; decide) | ((with_reducible refine sf_gG h0 (by assumption) ?_ ?_ ?_ ?_ (by with_unfolding_all exact rfl) ?_); decide; decide; decide; decide) | ((with_reducible refine sf_o ?_ (fun l => ?_)); (first | assumption | exact GS_o h0.1 (by decide) (by decide) | exact RRd_o h0 (by assumption) | exact RRd_o h0 (Or.inr (by assumption)) | exact OBq_o h0 (by assumption) | exact OBq_o h0 (Obt_q (by assumption)) | exact G_part h0.1 (by assumption) | exact Nmo_o (by assumption))) | ((with_reducible refine sf_s ?_)) | ((with_reducible refine sf_sb (by assumption) ?_)) | ((with_reducible refine sf_r ?_ ?_); (first | exact any | assumption | exact ⟨false, rfl⟩ | exact ⟨true, rfl⟩); assumption) | ((with_reducible refine sf_z ?_ ?_ ?_); (first | exact ⟨false, rfl⟩ | exact ⟨true, rfl⟩ | assumption); (first | exact any | exact ⟨false, rfl⟩ | exact ⟨true, rfl⟩ | assumption); assumption) | ((with_reducible refine sx_num h0 hF (by assumption) ?_ ?_ (fun w hw => ?_)); (first | assumption | exact Or.inr (by assumption) | (unfold RRd RWr; decide)); decide) | ((with_reducible refine sx_above (fun v hv => ?_))))
theorem sf_err (h0 : S0 sk L τ0) (hK : KT c) (hF : 65540 < F) (hr : RRd r) (hI : SI zb sk L τ0 τ) : Sf sk L (fun τ' => τ' = τ) Any (f_Memory_errorOf F c 1718 r (cH sk L τ)) := by
  unfold f_Memory_errorOf f_Memory_errorOf_73 f_Memory_errorOf_116
  repeat' (first | (exact sf_r any rfl) | (exact sf_err_127 h0 hF hr (by assumption) hI 8 0 F _ _ rfl (by omega)) | exact absurd (show nI 0 = 0 from rfl) (by assumption) | exact absurd (show nI 1 = 0 by assumption) (by decide) | ((with_reducible refine sf_i (fun hc => ?_) (fun hc => ?_))) | ((with_reducible refine sf_gF h0 ?_ ?_ ?_ ?_ ?_); decide; decide; decide; decide) | ((with_reducible refine sf_gI ?_ ?_ ?_ ?_); (first | assumption | exact GS_o h0.1 (by decide) (by decide) | exact RRd_o h0 (by assumption) | exact RRd_o h0 (Or.inr (by assumption)) | exact OBq_o h0 (by assumption) | exact OBq_o h0 (Obt_q (by assumption)) | exact G_part h0.1 (by assumption) | exact Nmo_o (by assumption)); decide; decide) | ((with_reducible refine sf_gJ ?_ ?_ ?_ ?_); (first | assumption | exact GS_o h0.1 (by decide) (by decide) | exact RRd_o h0 (by assumption) | exact RRd_o h0 (Or.inr (by assumption)) | exact OBq_o h0 (by assumption) | exact OBq_o h0 (Obt_q (by assumption)) | exact G_part h0.1 (by assumption) | exact Nmo_o (by assumption)); decide; decide) | ((with_reducible refine sf_gN ?_ ?_ ?_ ?_); (first | assumption | exact GS_o h0.1 (by decide) (by decide) | exact RRd_o h0 (by assumption) | exact RRd_o h0 (Or.inr (by assumption)) | exact OBq_o h0 (by assumption) | exact OBq_o h0 (Obt_q (by assumption)) | exact G_part h0.1 (by assumption) | exact Nmo_o (by assumption)); decide; decide) | ((with_reducible refine sf_gG h0 (by assumption) ?_ ?_ ?_ ?_ (by with_unfolding_all exact rfl) ?_); decide; decide; decide; decide) | ((with_reducible refine sf_o ?_ (fun l => ?_)); (first | assumption | exact GS_o h0.1 (by decide) (by decide) | exact RRd_o h0 (by assumption) | exact RRd_o h0 (Or.inr (by assumption)) | exact OBq_o h0 (by assumption) | exact OBq_o h0 (Obt_q (by assumption)) | exact G_part h0.1 (by assumption) | exact Nmo_o (by assumption))) | ((with_reducible refine sf_s ?_)) | ((with_reducible refine sf_sb (by assumption) ?_)) | ((with_reducible refine sf_r ?_ ?_); (first | exact any | assumption | exact ⟨false, rfl⟩ | exact ⟨true, rfl⟩); assumption) | ((with_reducible refine sf_z ?_ ?_ ?_); (first | exact ⟨false, rfl⟩ | exact ⟨true, rfl⟩ | assumption); (first | exact any | exact ⟨false, rfl⟩ | exact ⟨true, rfl⟩ | assumption); assumption) | ((with_reducible refine sx_num h0 hF (by assumption) ?_ ?_ (fun w hw => ?_)); (first | assumption | exact Or.inr (by assumption) | (unfold RRd RWr; decide)); decide) | ((with_reducible refine sx_holds h0 (by assumption) ?_ (fun v hv hh => ?_)); (first | assumption | exact Or.inr (by assumption) | (unfold RRd RWr; decide))) | ((with_reducible refine sx_begins h0 hK hF (by assumption) ?_ (fun v hv => ?_)); (first | assumption | exact Or.inr (by assumption) | (unfold RRd RWr; decide))))
theorem sf_find_299 {a4 a7 s0 : Int32} {a8 : Int64} (h0 : S0 sk L τ0) (hF : 65540 < F) (h8 : ¬ s0 = 0 → ∃ m, m ≤ 65536 ∧ a8 = lN m) (hI : SI zb sk L τ0 τ) : Sf sk L (SI zb sk L τ0) Any (f_Memory_findNames_299 F c 1718 a4 a7 a8 s0 (cH sk L τ)) := by
  unfold f_Memory_findNames_299 f_Memory_findNames_384
  refine sf_i (fun hc => sf_r any hI) (fun hc => ?_)
  obtain ⟨m, hm, rfl⟩ := h8 hc
  rw [lN_i, nI_div24 (by omega)]
  repeat' (first | ((with_reducible refine sf_pI ?_ ?_ ?_ ?_ (fun τ hi => ?_)); exact GS_o h0.1 (by decide) (by decide); decide; decide; exact SI_m9 (by assumption) (by omega)) | exact absurd (show nI 0 = 0 from rfl) (by assumption) | exact absurd (show nI 1 = 0 by assumption) (by decide) | ((with_reducible refine sf_i (fun hc => ?_) (fun hc => ?_))) | ((with_reducible refine sf_gF h0 ?_ ?_ ?_ ?_ ?_); decide; decide; decide; decide) | ((with_reducible refine sf_gI ?_ ?_ ?_ ?_); (first | assumption | exact GS_o h0.1 (by decide) (by decide) | exact RRd_o h0 (by assumption) | exact RRd_o h0 (Or.inr (by assumption)) | exact OBq_o h0 (by assumption) | exact OBq_o h0 (Obt_q (by assumption)) | exact G_part h0.1 (by assumption) | exact Nmo_o (by assumption)); decide; decide) | ((with_reducible refine sf_gJ ?_ ?_ ?_ ?_); (first | assumption | exact GS_o h0.1 (by decide) (by decide) | exact RRd_o h0 (by assumption) | exact RRd_o h0 (Or.inr (by assumption)) | exact OBq_o h0 (by assumption) | exact OBq_o h0 (Obt_q (by assumption)) | exact G_part h0.1 (by assumption) | exact Nmo_o (by assumption)); decide; decide) | ((with_reducible refine sf_gN ?_ ?_ ?_ ?_); (first | assumption | exact GS_o h0.1 (by decide) (by decide) | exact RRd_o h0 (by assumption) | exact RRd_o h0 (Or.inr (by assumption)) | exact OBq_o h0 (by assumption) | exact OBq_o h0 (Obt_q (by assumption)) | exact G_part h0.1 (by assumption) | exact Nmo_o (by assumption)); decide; decide) | ((with_reducible refine sf_gG h0 (by assumption) ?_ ?_ ?_ ?_ (by with_unfolding_all exact rfl) ?_); decide; decide; decide; decide) | ((with_reducible refine sf_o ?_ (fun l => ?_)); (first | assumption | exact GS_o h0.1 (by decide) (by decide) | exact RRd_o h0 (by assumption) | exact RRd_o h0 (Or.inr (by assumption)) | exact OBq_o h0 (by assumption) | exact OBq_o h0 (Obt_q (by assumption)) | exact G_part h0.1 (by assumption) | exact Nmo_o (by assumption))) | ((with_reducible refine sf_s ?_)) | ((with_reducible refine sf_sb (by assumption) ?_)) | ((with_reducible refine sf_r ?_ ?_); (first | exact any | assumption | exact ⟨false, rfl⟩ | exact ⟨true, rfl⟩); assumption) | ((with_reducible refine sf_z ?_ ?_ ?_); (first | exact ⟨false, rfl⟩ | exact ⟨true, rfl⟩ | assumption); (first | exact any | exact ⟨false, rfl⟩ | exact ⟨true, rfl⟩ | assumption); assumption) | ((with_reducible refine sx_num h0 hF (by assumption) ?_ ?_ (fun w hw => ?_)); (first | assumption | exact Or.inr (by assumption) | (unfold RRd RWr; decide)); decide) | ((with_reducible refine sf_pI ?_ ?_ ?_ ?_ (fun τ hi => ?_)); (first | assumption | exact GS_o h0.1 (by decide) (by decide) | exact RRd_o h0 (by assumption) | exact RRd_o h0 (Or.inr (by assumption)) | exact OBq_o h0 (by assumption) | exact OBq_o h0 (Obt_q (by assumption)) | exact G_part h0.1 (by assumption) | exact Nmo_o (by assumption)); decide; decide; (first | exact SI_tI (by assumption) (by omega) | exact SI_m9 (by assumption) (by decide) | exact SI_m6 (by assumption) (by decide))))
theorem sf_find_135 {a1 : Int64} {a3 a4 : Int32} (h0 : S0 sk L τ0) (hF : 65540 < F) (hI : SI zb sk L τ0 τ) : Sf sk L (SI zb sk L τ0) Any (f_Memory_findNames_135 F c 1718 a1 a3 a4 (cH sk L τ)) := by
  unfold f_Memory_findNames_135 f_Memory_findNames_213 f_Memory_findNames_298
  repeat' (first | (exact sf_find_299 h0 hF (fun hn => absurd rfl hn) (by assumption)) | (exact sf_find_299 h0 hF (fun _ => by solve_by_elim) (by assumption)) | exact absurd (show nI 0 = 0 from rfl) (by assumption) | exact absurd (show nI 1 = 0 by assumption) (by decide) | ((with_reducible refine sf_i (fun hc => ?_) (fun hc => ?_))) | ((with_reducible refine sf_gF h0 ?_ ?_ ?_ ?_ ?_); decide; decide; decide; decide) | ((with_reducible refine sf_gI ?_ ?_ ?_ ?_); (first | assumption | exact GS_o h0.1 (by decide) (by decide) | exact RRd_o h0 (by assumption) | exact RRd_o h0 (Or.inr (by assumption)) | exact OBq_o h0 (by assumption) | exact OBq_o h0 (Obt_q (by assumption)) | exact G_part h0.1 (by assumption) | exact Nmo_o (by assumption)); decide; decide) | ((with_reducible refine sf_gJ ?_ ?_ ?_ ?_); (first | assumption | exact GS_o h0.1 (by decide) (by decide) | exact RRd_o h0 (by assumption) | exact RRd_o h0 (Or.inr (by assumption)) | exact OBq_o h0 (by assumption) | exact OBq_o h0 (Obt_q (by assumption)) | exact G_part h0.1 (by assumption) | exact Nmo_o (by assumption)); decide; decide) | ((with_reducible refine sf_gN ?_ ?_ ?_ ?_); (first | assumption | exact GS_o h0.1 (by decide) (by decide) | exact RRd_o h0 (by assumption) | exact RRd_o h0 (Or.inr (by assumption)) | exact OBq_o h0 (by assumption) | exact OBq_o h0 (Obt_q (by assumption)) | exact G_part h0.1 (by assumption) | exact Nmo_o (by assumption)); decide; decide) | ((with_reducible refine sf_gG h0 (by assumption) ?_ ?_ ?_ ?_ (by with_unfolding_all exact rfl) ?_); decide; decide; decide; decide) | ((with_reducible refine sf_o ?_ (fun l => ?_)); (first | assumption | exact GS_o h0.1 (by decide) (by decide) | exact RRd_o h0 (by assumption) | exact RRd_o h0 (Or.inr (by assumption)) | exact OBq_o h0 (by assumption) | exact OBq_o h0 (Obt_q (by assumption)) | exact G_part h0.1 (by assumption) | exact Nmo_o (by assumption))) | ((with_reducible refine sf_s ?_)) | ((with_reducible refine sf_sb (by assumption) ?_)) | ((with_reducible refine sf_r ?_ ?_); (first | exact any | assumption | exact ⟨false, rfl⟩ | exact ⟨true, rfl⟩); assumption) | ((with_reducible refine sf_z ?_ ?_ ?_); (first | exact ⟨false, rfl⟩ | exact ⟨true, rfl⟩ | assumption); (first | exact any | exact ⟨false, rfl⟩ | exact ⟨true, rfl⟩ | assumption); assumption) | ((with_reducible refine sx_num h0 hF (by assumption) ?_ ?_ (fun w hw => ?_)); (first | assumption | exact Or.inr (by assumption) | (unfold RRd RWr; decide)); decide) | ((with_reducible refine sx_holds h0 (by assumption) ?_ (fun v hv hh => ?_)); (first | assumption | exact Or.inr (by assumption) | (unfold RRd RWr; decide))))
theorem sf_find_84 {a1 : Int64} {a3 : Int32} (h0 : S0 sk L τ0) (hF : 65540 < F) (hI : SI zb sk L τ0 τ) : ∀ (d f : Nat) (a4 : Int32), d ≤ 65536 → d < f → Sf sk L (SI zb sk L τ0) Any (f_Memory_findNames_84 F c f 1718 a1 a3 a4 (nI d - nI 1) (cH sk L τ)) := by
  intro d
  induction d with
  | zero =>
    intro f a4 hd hf
    obtain ⟨f, rfl⟩ : ∃ y, f = y + 1 := ⟨f - 1, by omega⟩
    unfold f_Memory_findNames_84
    rw [if_pos (by decide)]
    exact sf_find_135 h0 hF hI
  | succ d ih =>
    intro f a4 hd hf
    obtain ⟨f, rfl⟩ : ∃ y, f = y + 1 := ⟨f - 1, by omega⟩
    rw [pk_sub (by omega), Nat.add_sub_cancel]
    unfold f_Memory_findNames_84 f_Memory_findNames_127
    rw [if_neg (nI_pos (by omega)), nI_back]
    repeat' (first | (exact ih _ _ (by omega) (by omega)) | exact absurd (show nI 0 = 0 from rfl) (by assumption) | exact absurd (show nI 1 = 0 by assumption) (by decide) | ((with_reducible refine sf_i (fun hc => ?_) (fun hc => ?_))) | ((with_reducible refine sf_gF h0 ?_ ?_ ?_ ?_ ?_); decide; decide; decide; decide) | ((with_reducible refine sf_gI ?_ ?_ ?_ ?_); (first | assumption | exact GS_o h0.1 (by decide) (by decide) | exact RRd_o h0 (by assumption) | exact RRd_o h0 (Or.inr (by assumption)) | exact OBq_o h0 (by assumption) | exact OBq_o h0 (Obt_q (by assumption)) | exact G_part h0.1 (by assumption) | exact Nmo_o (by assumption)); decide; decide) | ((with_reducible refine sf_gJ ?_ ?_ ?_ ?_); (first | assumption | exact GS_o h0.1 (by decide) (by decide) | exact RRd_o h0 (by assumption) | exact RRd_o h0 (Or.inr (by assumption)) | exact OBq_o h0 (by assumption) | exact OBq_o h0 (Obt_q (by assumption)) | exact G_part h0.1 (by assumption) | exact Nmo_o (by assumption)); decide; decide) | ((with_reducible refine sf_gN ?_ ?_ ?_ ?_); (first | assumption | exact GS_o h0.1 (by decide) (by decide) | exact RRd_o h0 (by assumption) | exact RRd_o h0 (Or.inr (by assumption)) | exact OBq_o h0 (by assumption) | exact OBq_o h0 (Obt_q (by assumption)) | exact G_part h0.1 (by assumption) | exact Nmo_o (by assumption)); decide; decide) | ((with_reducible refine sf_gG h0 (by assumption) ?_ ?_ ?_ ?_ (by with_unfolding_all exact rfl) ?_); decide; decide; decide; decide) | ((with_reducible refine sf_o ?_ (fun l => ?_)); (first | assumption | exact GS_o h0.1 (by decide) (by decide) | exact RRd_o h0 (by assumption) | exact RRd_o h0 (Or.inr (by assumption)) | exact OBq_o h0 (by assumption) | exact OBq_o h0 (Obt_q (by assumption)) | exact G_part h0.1 (by assumption) | exact Nmo_o (by assumption))) | ((with_reducible refine sf_s ?_)) | ((with_reducible refine sf_sb (by assumption) ?_)) | ((with_reducible refine sf_r ?_ ?_); (first | exact any | assumption | exact ⟨false, rfl⟩ | exact ⟨true, rfl⟩); assumption) | ((with_reducible refine sf_z ?_ ?_ ?_); (first | exact ⟨false, rfl⟩ | exact ⟨true, rfl⟩ | assumption); (first | exact any | exact ⟨false, rfl⟩ | exact ⟨true, rfl⟩ | assumption); assumption) | ((with_reducible refine sx_num h0 hF (by assumption) ?_ ?_ (fun w hw => ?_)); (first | assumption | exact Or.inr (by assumption) | (unfold RRd RWr; decide)); decide))
theorem sf_find (h0 : S0 sk L τ0) (hF : 65540 < F) (hI : SI zb sk L τ0 τ) : Sf sk L (SI zb sk L τ0) Any (f_Memory_findNames F c 1718 (cH sk L τ)) := by
  unfold f_Memory_findNames f_Memory_findNames_74
  repeat' (first | ((rw [lN_i]; exact sf_find_84 h0 hF (by assumption) _ _ _ (by omega) (by omega))) | exact absurd (show nI 0 = 0 from rfl) (by assumption) | exact absurd (show nI 1 = 0 by assumption) (by decide) | ((with_reducible refine sf_i (fun hc => ?_) (fun hc => ?_))) | ((with_reducible refine sf_gF h0 ?_ ?_ ?_ ?_ ?_); decide; decide; decide; decide) | ((with_reducible refine sf_gI ?_ ?_ ?_ ?_); (first | assumption | exact GS_o h0.1 (by decide) (by decide) | exact RRd_o h0 (by assumption) | exact RRd_o h0 (Or.inr (by assumption)) | exact OBq_o h0 (by assumption) | exact OBq_o h0 (Obt_q (by assumption)) | exact G_part h0.1 (by assumption) | exact Nmo_o (by assumption)); decide; decide) | ((with_reducible refine sf_gJ ?_ ?_ ?_ ?_); (first | assumption | exact GS_o h0.1 (by decide) (by decide) | exact RRd_o h0 (by assumption) | exact RRd_o h0 (Or.inr (by assumption)) | exact OBq_o h0 (by assumption) | exact OBq_o h0 (Obt_q (by assumption)) | exact G_part h0.1 (by assumption) | exact Nmo_o (by assumption)); decide; decide) | ((with_reducible refine sf_gN ?_ ?_ ?_ ?_); (first | assumption | exact GS_o h0.1 (by decide) (by decide) | exact RRd_o h0 (by assumption) | exact RRd_o h0 (Or.inr (by assumption)) | exact OBq_o h0 (by assumption) | exact OBq_o h0 (Obt_q (by assumption)) | exact G_part h0.1 (by assumption) | exact Nmo_o (by assumption)); decide; decide) | ((with_reducible refine sf_gG h0 (by assumption) ?_ ?_ ?_ ?_ (by with_unfolding_all exact rfl) ?_); decide; decide; decide; decide) | ((with_reducible refine sf_o ?_ (fun l => ?_)); (first | assumption | exact GS_o h0.1 (by decide) (by decide) | exact RRd_o h0 (by assumption) | exact RRd_o h0 (Or.inr (by assumption)) | exact OBq_o h0 (by assumption) | exact OBq_o h0 (Obt_q (by assumption)) | exact G_part h0.1 (by assumption) | exact Nmo_o (by assumption))) | ((with_reducible refine sf_s ?_)) | ((with_reducible refine sf_sb (by assumption) ?_)) | ((with_reducible refine sf_r ?_ ?_); (first | exact any | assumption | exact ⟨false, rfl⟩ | exact ⟨true, rfl⟩); assumption) | ((with_reducible refine sf_z ?_ ?_ ?_); (first | exact ⟨false, rfl⟩ | exact ⟨true, rfl⟩ | assumption); (first | exact any | exact ⟨false, rfl⟩ | exact ⟨true, rfl⟩ | assumption); assumption) | ((with_reducible refine sx_num h0 hF (by assumption) ?_ ?_ (fun w hw => ?_)); (first | assumption | exact Or.inr (by assumption) | (unfold RRd RWr; decide)); decide) | ((with_reducible refine sx_holds h0 (by assumption) ?_ (fun v hv hh => ?_)); (first | assumption | exact Or.inr (by assumption) | (unfold RRd RWr; decide))) | ((with_reducible refine sf_pI ?_ ?_ ?_ ?_ (fun τ hi => ?_)); (first | assumption | exact GS_o h0.1 (by decide) (by decide) | exact RRd_o h0 (by assumption) | exact RRd_o h0 (Or.inr (by assumption)) | exact OBq_o h0 (by assumption) | exact OBq_o h0 (Obt_q (by assumption)) | exact G_part h0.1 (by assumption) | exact Nmo_o (by assumption)); decide; decide; (first | exact SI_tI (by assumption) (by omega) | exact SI_m9 (by assumption) (by decide) | exact SI_m6 (by assumption) (by decide))))
theorem sf_load_228 (h0 : S0 sk L τ0) (hF : 65540 < F) : ∀ (d j f : Nat) (τ : px_TT), j + d = 4097 → d < f → SI zb sk L τ0 τ → Sf sk L (SI zb sk L τ0) Any (f_Memory_load_228 F c f 1718 (nI j) (cH sk L τ)) := by
  intro d
  induction d with
  | zero =>
    intro j f τ hj hf hI
    obtain ⟨f, rfl⟩ : ∃ y, f = y + 1 := ⟨f - 1, by omega⟩
    obtain ⟨m, hm, em⟩ := hI.2.2.2.1.2
    unfold f_Memory_load_228 f_Memory_load_266
    repeat' (first | (exact absurd (show fI τ 1718 9 ≤ nI j by rw [em]; exact nI_le (by omega) (by omega)) hc) | exact absurd (show nI 0 = 0 from rfl) (by assumption) | exact absurd (show nI 1 = 0 by assumption) (by decide) | ((with_reducible refine sf_i (fun hc => ?_) (fun hc => ?_))) | ((with_reducible refine sf_gF h0 ?_ ?_ ?_ ?_ ?_); decide; decide; decide; decide) | ((with_reducible refine sf_gI ?_ ?_ ?_ ?_); (first | assumption | exact GS_o h0.1 (by decide) (by decide) | exact RRd_o h0 (by assumption) | exact RRd_o h0 (Or.inr (by assumption)) | exact OBq_o h0 (by assumption) | exact OBq_o h0 (Obt_q (by assumption)) | exact G_part h0.1 (by assumption) | exact Nmo_o (by assumption)); decide; decide) | ((with_reducible refine sf_gJ ?_ ?_ ?_ ?_); (first | assumption | exact GS_o h0.1 (by decide) (by decide) | exact RRd_o h0 (by assumption) | exact RRd_o h0 (Or.inr (by assumption)) | exact OBq_o h0 (by assumption) | exact OBq_o h0 (Obt_q (by assumption)) | exact G_part h0.1 (by assumption) | exact Nmo_o (by assumption)); decide; decide) | ((with_reducible refine sf_gN ?_ ?_ ?_ ?_); (first | assumption | exact GS_o h0.1 (by decide) (by decide) | exact RRd_o h0 (by assumption) | exact RRd_o h0 (Or.inr (by assumption)) | exact OBq_o h0 (by assumption) | exact OBq_o h0 (Obt_q (by assumption)) | exact G_part h0.1 (by assumption) | exact Nmo_o (by assumption)); decide; decide) | ((with_reducible refine sf_gG h0 (by assumption) ?_ ?_ ?_ ?_ (by with_unfolding_all exact rfl) ?_); decide; decide; decide; decide) | ((with_reducible refine sf_o ?_ (fun l => ?_)); (first | assumption | exact GS_o h0.1 (by decide) (by decide) | exact RRd_o h0 (by assumption) | exact RRd_o h0 (Or.inr (by assumption)) | exact OBq_o h0 (by assumption) | exact OBq_o h0 (Obt_q (by assumption)) | exact G_part h0.1 (by assumption) | exact Nmo_o (by assumption))) | ((with_reducible refine sf_s ?_)) | ((with_reducible refine sf_sb (by assumption) ?_)) | ((with_reducible refine sf_r ?_ ?_); (first | exact any | assumption | exact ⟨false, rfl⟩ | exact ⟨true, rfl⟩); assumption) | ((with_reducible refine sf_z ?_ ?_ ?_); (first | exact ⟨false, rfl⟩ | exact ⟨true, rfl⟩ | assumption); (first | exact any | exact ⟨false, rfl⟩ | exact ⟨true, rfl⟩ | assumption); assumption))
  | succ d ih =>
    intro j f τ hj hf hI
    obtain ⟨f, rfl⟩ : ∃ y, f = y + 1 := ⟨f - 1, by omega⟩
    unfold f_Memory_load_228 f_Memory_load_266 f_Memory_load_256
    rw [nI_add]
    repeat' (first | (exact ih _ _ _ (by omega) (by omega) (by assumption)) | exact absurd (show nI 0 = 0 from rfl) (by assumption) | exact absurd (show nI 1 = 0 by assumption) (by decide) | ((with_reducible refine sf_i (fun hc => ?_) (fun hc => ?_))) | ((with_reducible refine sf_gF h0 ?_ ?_ ?_ ?_ ?_); decide; decide; decide; decide) | ((with_reducible refine sf_gI ?_ ?_ ?_ ?_); (first | assumption | exact GS_o h0.1 (by decide) (by decide) | exact RRd_o h0 (by assumption) | exact RRd_o h0 (Or.inr (by assumption)) | exact OBq_o h0 (by assumption) | exact OBq_o h0 (Obt_q (by assumption)) | exact G_part h0.1 (by assumption) | exact Nmo_o (by assumption)); decide; decide) | ((with_reducible refine sf_gJ ?_ ?_ ?_ ?_); (first | assumption | exact GS_o h0.1 (by decide) (by decide) | exact RRd_o h0 (by assumption) | exact RRd_o h0 (Or.inr (by assumption)) | exact OBq_o h0 (by assumption) | exact OBq_o h0 (Obt_q (by assumption)) | exact G_part h0.1 (by assumption) | exact Nmo_o (by assumption)); decide; decide) | ((with_reducible refine sf_gN ?_ ?_ ?_ ?_); (first | assumption | exact GS_o h0.1 (by decide) (by decide) | exact RRd_o h0 (by assumption) | exact RRd_o h0 (Or.inr (by assumption)) | exact OBq_o h0 (by assumption) | exact OBq_o h0 (Obt_q (by assumption)) | exact G_part h0.1 (by assumption) | exact Nmo_o (by assumption)); decide; decide) | ((with_reducible refine sf_gG h0 (by assumption) ?_ ?_ ?_ ?_ (by with_unfolding_all exact rfl) ?_); decide; decide; decide; decide) | ((with_reducible refine sf_o ?_ (fun l => ?_)); (first | assumption | exact GS_o h0.1 (by decide) (by decide) | exact RRd_o h0 (by assumption) | exact RRd_o h0 (Or.inr (by assumption)) | exact OBq_o h0 (by assumption) | exact OBq_o h0 (Obt_q (by assumption)) | exact G_part h0.1 (by assumption) | exact Nmo_o (by assumption))) | ((with_reducible refine sf_s ?_)) | ((with_reducible refine sf_sb (by assumption) ?_)) | ((with_reducible refine sf_r ?_ ?_); (first | exact any | assumption | exact ⟨false, rfl⟩ | exact ⟨true, rfl⟩); assumption) | ((with_reducible refine sf_z ?_ ?_ ?_); (first | exact ⟨false, rfl⟩ | exact ⟨true, rfl⟩ | assumption); (first | exact any | exact ⟨false, rfl⟩ | exact ⟨true, rfl⟩ | assumption); assumption) | ((with_reducible refine sf_pI ?_ ?_ ?_ ?_ (fun τ hi => ?_)); (first | assumption | exact GS_o h0.1 (by decide) (by decide) | exact RRd_o h0 (by assumption) | exact RRd_o h0 (Or.inr (by assumption)) | exact OBq_o h0 (by assumption) | exact OBq_o h0 (Obt_q (by assumption)) | exact G_part h0.1 (by assumption) | exact Nmo_o (by assumption)); decide; decide; (first | exact SI_tI (by assumption) (by omega) | exact SI_m9 (by assumption) (by decide) | exact SI_m6 (by assumption) (by decide))) | ((with_reducible refine sf_x (sf_misName h0 hF (by assumption)) ?_); intro v τ hv hi))
theorem sf_load_216 (h0 : S0 sk L τ0) (hF : 65540 < F) (hI : SI zb sk L τ0 τ) : Sf sk L (SI zb sk L τ0) Any (f_Memory_load_216 F c 1718 (cH sk L τ)) := by
  unfold f_Memory_load_216
  repeat' (first | (exact sf_load_228 h0 hF 4096 1 F _ rfl (by omega) (by assumption)) | exact absurd (show nI 0 = 0 from rfl) (by assumption) | exact absurd (show nI 1 = 0 by assumption) (by decide) | ((with_reducible refine sf_i (fun hc => ?_) (fun hc => ?_))) | ((with_reducible refine sf_gF h0 ?_ ?_ ?_ ?_ ?_); decide; decide; decide; decide) | ((with_reducible refine sf_gI ?_ ?_ ?_ ?_); (first | assumption | exact GS_o h0.1 (by decide) (by decide) | exact RRd_o h0 (by assumption) | exact RRd_o h0 (Or.inr (by assumption)) | exact OBq_o h0 (by assumption) | exact OBq_o h0 (Obt_q (by assumption)) | exact G_part h0.1 (by assumption) | exact Nmo_o (by assumption)); decide; decide) | ((with_reducible refine sf_gJ ?_ ?_ ?_ ?_); (first | assumption | exact GS_o h0.1 (by decide) (by decide) | exact RRd_o h0 (by assumption) | exact RRd_o h0 (Or.inr (by assumption)) | exact OBq_o h0 (by assumption) | exact OBq_o h0 (Obt_q (by assumption)) | exact G_part h0.1 (by assumption) | exact Nmo_o (by assumption)); decide; decide) | ((with_reducible refine sf_gN ?_ ?_ ?_ ?_); (first | assumption | exact GS_o h0.1 (by decide) (by decide) | exact RRd_o h0 (by assumption) | exact RRd_o h0 (Or.inr (by assumption)) | exact OBq_o h0 (by assumption) | exact OBq_o h0 (Obt_q (by assumption)) | exact G_part h0.1 (by assumption) | exact Nmo_o (by assumption)); decide; decide) | ((with_reducible refine sf_gG h0 (by assumption) ?_ ?_ ?_ ?_ (by with_unfolding_all exact rfl) ?_); decide; decide; decide; decide) | ((with_reducible refine sf_o ?_ (fun l => ?_)); (first | assumption | exact GS_o h0.1 (by decide) (by decide) | exact RRd_o h0 (by assumption) | exact RRd_o h0 (Or.inr (by assumption)) | exact OBq_o h0 (by assumption) | exact OBq_o h0 (Obt_q (by assumption)) | exact G_part h0.1 (by assumption) | exact Nmo_o (by assumption))) | ((with_reducible refine sf_s ?_)) | ((with_reducible refine sf_sb (by assumption) ?_)) | ((with_reducible refine sf_r ?_ ?_); (first | exact any | assumption | exact ⟨false, rfl⟩ | exact ⟨true, rfl⟩); assumption) | ((with_reducible refine sf_z ?_ ?_ ?_); (first | exact ⟨false, rfl⟩ | exact ⟨true, rfl⟩ | assumption); (first | exact any | exact ⟨false, rfl⟩ | exact ⟨true, rfl⟩ | assumption); assumption) | ((with_reducible refine sf_pI ?_ ?_ ?_ ?_ (fun τ hi => ?_)); (first | assumption | exact GS_o h0.1 (by decide) (by decide) | exact RRd_o h0 (by assumption) | exact RRd_o h0 (Or.inr (by assumption)) | exact OBq_o h0 (by assumption) | exact OBq_o h0 (Obt_q (by assumption)) | exact G_part h0.1 (by assumption) | exact Nmo_o (by assumption)); decide; decide; (first | exact SI_tI (by assumption) (by omega) | exact SI_m9 (by assumption) (by decide) | exact SI_m6 (by assumption) (by decide))) | ((with_reducible refine sf_x (sf_find h0 hF (by assumption)) ?_); intro v τ hv hi))
theorem sx_sJ {α : Type} {V : α → Prop} {f : px_H → Option (α × px_H)} {a m : Nat} {v : Int64} (h0 : S0 sk L τ0) (em : fI τ 1718 6 = nI m) (hm : m < 8) (hI : SI zb sk L τ0 τ) (hks : ks a = (1, 2, 8)) (ha : 1721 ≤ a ∧ a ≤ 1725) (g : ∀ τ', SI zb sk L τ0 τ' → fI τ' 1718 6 = nI m → Sf sk L (SI zb sk L τ0) V (f (cH sk L τ'))) : Sf sk L (SI zb sk L τ0) V ((xsJ (cH sk L τ) 2 a (fI τ 1718 6) v).bind f) := by
  rw [em, c_sJ (GS_a h0.1 (by omega) hks) (by decide) hm, bs]
  exact g _ (SI_vJ hI ha) em
theorem sx_sI {α : Type} {V : α → Prop} {f : px_H → Option (α × px_H)} {m : Nat} {v : Int32} (h0 : S0 sk L τ0) (em : fI τ 1718 6 = nI m) (hm : m < 8) (hI : SI zb sk L τ0 τ) (g : ∀ τ', SI zb sk L τ0 τ' → fI τ' 1718 6 = nI m → Sf sk L (SI zb sk L τ0) V (f (cH sk L τ'))) : Sf sk L (SI zb sk L τ0) V ((xsI (cH sk L τ) 1 1724 (fI τ 1718 6) v).bind f) := by
  rw [em, c_sI (GS_a h0.1 (a := 1724) (n := 8) (by decide) (by decide)) (Or.inr (Or.inl rfl)) (by decide) hm, bs]
  exact g _ (SI_vI hI (Or.inr rfl)) em
theorem sf_load_62 {a2 : Int32} {N : Nat} (h0 : S0 sk L τ0) (hF : 65540 < F) (hr : RRd r) (hN : N ≤ 65536) : ∀ (d j f : Nat) (τ : px_TT), j + d = N → d < f → SI zb sk L τ0 τ → Sf sk L (SI zb sk L τ0) Any (f_Memory_load_62 F c f 1718 r a2 (nI N) (nI j) (cH sk L τ)) := by
  intro d
  induction d with
  | zero =>
    intro j f τ hj hf hI
    obtain ⟨f, rfl⟩ : ∃ y, f = y + 1 := ⟨f - 1, by omega⟩
    unfold f_Memory_load_62
    rw [if_pos (nI_le (by omega) (by omega))]
    exact sf_load_216 h0 hF hI
  | succ d ih =>
    intro j f τ hj hf hI
    obtain ⟨f, rfl⟩ : ∃ y, f = y + 1 := ⟨f - 1, by omega⟩
    obtain ⟨m, hm, em⟩ := hI.2.2.2.1.1
    by_cases h8 : m = 8
    · subst h8
      unfold f_Memory_load_62
      repeat' (first | (exact sf_load_216 h0 hF hI) | (exact absurd (show nI 8 ≤ fI τ 1718 6 by rw [em]; decide) hc) | exact absurd (show nI 0 = 0 from rfl) (by assumption) | exact absurd (show nI 1 = 0 by assumption) (by decide) | ((with_reducible refine sf_i (fun hc => ?_) (fun hc => ?_))) | ((with_reducible refine sf_gF h0 ?_ ?_ ?_ ?_ ?_); decide; decide; decide; decide) | ((with_reducible refine sf_gI ?_ ?_ ?_ ?_); (first | assumption | exact GS_o h0.1 (by decide) (by decide) | exact RRd_o h0 (by assumption) | exact RRd_o h0 (Or.inr (by assumption)) | exact OBq_o h0 (by assumption) | exact OBq_o h0 (Obt_q (by assumption)) | exact G_part h0.1 (by assumption) | exact Nmo_o (by assumption)); decide; decide) | ((with_reducible refine sf_gJ ?_ ?_ ?_ ?_); (first | assumption | exact GS_o h0.1 (by decide) (by decide) | exact RRd_o h0 (by assumption) | exact RRd_o h0 (Or.inr (by assumption)) | exact OBq_o h0 (by assumption) | exact OBq_o h0 (Obt_q (by assumption)) | exact G_part h0.1 (by assumption) | exact Nmo_o (by assumption)); decide; decide) | ((with_reducible refine sf_gN ?_ ?_ ?_ ?_); (first | assumption | exact GS_o h0.1 (by decide) (by decide) | exact RRd_o h0 (by assumption) | exact RRd_o h0 (Or.inr (by assumption)) | exact OBq_o h0 (by assumption) | exact OBq_o h0 (Obt_q (by assumption)) | exact G_part h0.1 (by assumption) | exact Nmo_o (by assumption)); decide; decide) | ((with_reducible refine sf_gG h0 (by assumption) ?_ ?_ ?_ ?_ (by with_unfolding_all exact rfl) ?_); decide; decide; decide; decide) | ((with_reducible refine sf_o ?_ (fun l => ?_)); (first | assumption | exact GS_o h0.1 (by decide) (by decide) | exact RRd_o h0 (by assumption) | exact RRd_o h0 (Or.inr (by assumption)) | exact OBq_o h0 (by assumption) | exact OBq_o h0 (Obt_q (by assumption)) | exact G_part h0.1 (by assumption) | exact Nmo_o (by assumption))) | ((with_reducible refine sf_s ?_)) | ((with_reducible refine sf_sb (by assumption) ?_)) | ((with_reducible refine sf_r ?_ ?_); (first | exact any | assumption | exact ⟨false, rfl⟩ | exact ⟨true, rfl⟩); assumption) | ((with_reducible refine sf_z ?_ ?_ ?_); (first | exact ⟨false, rfl⟩ | exact ⟨true, rfl⟩ | assumption); (first | exact any | exact ⟨false, rfl⟩ | exact ⟨true, rfl⟩ | assumption); assumption) | ((with_reducible refine sf_lF h0 ?_ (by with_unfolding_all exact rfl) ?_ ?_); decide; decide))
    have hm8 : m < 8 := by omega
    unfold f_Memory_load_62 f_Memory_load_210
    rw [nI_add]
    repeat' (first | (exact sf_load_216 h0 hF (by assumption)) | (exact ih _ _ _ (by omega) (by omega) (by assumption)) | ((with_reducible refine sx_sJ h0 (by assumption) hm8 ?_ ?_ ?_ (fun τ hi em => ?_)); assumption; decide; decide) | ((with_reducible refine sx_sI h0 (by assumption) hm8 ?_ (fun τ hi em => ?_)); assumption) | ((with_reducible refine sf_pI ?_ ?_ ?_ ?_ (fun τ hi => ?_)); exact GS_o h0.1 (by decide) (by decide); decide; decide; (rw [show fI _ 1718 6 = nI m by assumption, nI_add]; exact SI_m6 (by assumption) (by omega))) | exact absurd (show nI 0 = 0 from rfl) (by assumption) | exact absurd (show nI 1 = 0 by assumption) (by decide) | ((with_reducible refine sf_i (fun hc => ?_) (fun hc => ?_))) | ((with_reducible refine sf_gF h0 ?_ ?_ ?_ ?_ ?_); decide; decide; decide; decide) | ((with_reducible refine sf_gI ?_ ?_ ?_ ?_); (first | assumption | exact GS_o h0.1 (by decide) (by decide) | exact RRd_o h0 (by assumption) | exact RRd_o h0 (Or.inr (by assumption)) | exact OBq_o h0 (by assumption) | exact OBq_o h0 (Obt_q (by assumption)) | exact G_part h0.1 (by assumption) | exact Nmo_o (by assumption)); decide; decide) | ((with_reducible refine sf_gJ ?_ ?_ ?_ ?_); (first | assumption | exact GS_o h0.1 (by decide) (by decide) | exact RRd_o h0 (by assumption) | exact RRd_o h0 (Or.inr (by assumption)) | exact OBq_o h0 (by assumption) | exact OBq_o h0 (Obt_q (by assumption)) | exact G_part h0.1 (by assumption) | exact Nmo_o (by assumption)); decide; decide) | ((with_reducible refine sf_gN ?_ ?_ ?_ ?_); (first | assumption | exact GS_o h0.1 (by decide) (by decide) | exact RRd_o h0 (by assumption) | exact RRd_o h0 (Or.inr (by assumption)) | exact OBq_o h0 (by assumption) | exact OBq_o h0 (Obt_q (by assumption)) | exact G_part h0.1 (by assumption) | exact Nmo_o (by assumption)); decide; decide) | ((with_reducible refine sf_gG h0 (by assumption) ?_ ?_ ?_ ?_ (by with_unfolding_all exact rfl) ?_); decide; decide; decide; decide) | ((with_reducible refine sf_o ?_ (fun l => ?_)); (first | assumption | exact GS_o h0.1 (by decide) (by decide) | exact RRd_o h0 (by assumption) | exact RRd_o h0 (Or.inr (by assumption)) | exact OBq_o h0 (by assumption) | exact OBq_o h0 (Obt_q (by assumption)) | exact G_part h0.1 (by assumption) | exact Nmo_o (by assumption))) | ((with_reducible refine sf_s ?_)) | ((with_reducible refine sf_sb (by assumption) ?_)) | ((with_reducible refine sf_r ?_ ?_); (first | exact any | assumption | exact ⟨false, rfl⟩ | exact ⟨true, rfl⟩); assumption) | ((with_reducible refine sf_z ?_ ?_ ?_); (first | exact ⟨false, rfl⟩ | exact ⟨true, rfl⟩ | assumption); (first | exact any | exact ⟨false, rfl⟩ | exact ⟨true, rfl⟩ | assumption); assumption) | ((with_reducible refine sx_num h0 hF (by assumption) ?_ ?_ (fun w hw => ?_)); (first | assumption | exact Or.inr (by assumption) | (unfold RRd RWr; decide)); decide) | ((with_reducible refine sf_lF h0 ?_ (by with_unfolding_all exact rfl) ?_ ?_); decide; decide))
theorem sf_load (h0 : S0 sk L τ0) (hF : 65540 < F) (hr : RRd r) (hcs : ∀ τ', SI zb sk L τ0 τ' → ∃ A, fN τ' r 0 = some A ∧ CS sk L τ' A) (hI : SI zb sk L τ0 τ) : Sf sk L (SI zb sk L τ0) Any (f_Memory_load F c 1718 r (cH sk L τ)) := by
  have ho := RRd_o h0 hr
  unfold f_Memory_load
  refine sf_gG h0 hI (by decide) (by decide) (by decide) (by decide) (q := 1719) rfl ?_
  repeat' (first | ((rw [lN_i, lN_i]; exact sf_load_62 h0 hF hr (by omega) _ 0 F _ (Nat.zero_add _) (by omega) (by assumption))) | (obtain ⟨A, eA, cA⟩ := hcs _ hi; (with_reducible refine sf_gR ho ?_ ?_ eA ?_); decide; decide) | ((with_reducible refine sf_x (sf_copy ?_ ?_ ?_) ?_); assumption; assumption; (unfold RWr; decide); intro v τ hv hi) | exact absurd (show nI 0 = 0 from rfl) (by assumption) | exact absurd (show nI 1 = 0 by assumption) (by decide) | ((with_reducible refine sf_i (fun hc => ?_) (fun hc => ?_))) | ((with_reducible refine sf_gF h0 ?_ ?_ ?_ ?_ ?_); decide; decide; decide; decide) | ((with_reducible refine sf_gI ?_ ?_ ?_ ?_); (first | assumption | exact GS_o h0.1 (by decide) (by decide) | exact RRd_o h0 (by assumption) | exact RRd_o h0 (Or.inr (by assumption)) | exact OBq_o h0 (by assumption) | exact OBq_o h0 (Obt_q (by assumption)) | exact G_part h0.1 (by assumption) | exact Nmo_o (by assumption)); decide; decide) | ((with_reducible refine sf_gJ ?_ ?_ ?_ ?_); (first | assumption | exact GS_o h0.1 (by decide) (by decide) | exact RRd_o h0 (by assumption) | exact RRd_o h0 (Or.inr (by assumption)) | exact OBq_o h0 (by assumption) | exact OBq_o h0 (Obt_q (by assumption)) | exact G_part h0.1 (by assumption) | exact Nmo_o (by assumption)); decide; decide) | ((with_reducible refine sf_gN ?_ ?_ ?_ ?_); (first | assumption | exact GS_o h0.1 (by decide) (by decide) | exact RRd_o h0 (by assumption) | exact RRd_o h0 (Or.inr (by assumption)) | exact OBq_o h0 (by assumption) | exact OBq_o h0 (Obt_q (by assumption)) | exact G_part h0.1 (by assumption) | exact Nmo_o (by assumption)); decide; decide) | ((with_reducible refine sf_gG h0 (by assumption) ?_ ?_ ?_ ?_ (by with_unfolding_all exact rfl) ?_); decide; decide; decide; decide) | ((with_reducible refine sf_o ?_ (fun l => ?_)); (first | assumption | exact GS_o h0.1 (by decide) (by decide) | exact RRd_o h0 (by assumption) | exact RRd_o h0 (Or.inr (by assumption)) | exact OBq_o h0 (by assumption) | exact OBq_o h0 (Obt_q (by assumption)) | exact G_part h0.1 (by assumption) | exact Nmo_o (by assumption))) | ((with_reducible refine sf_s ?_)) | ((with_reducible refine sf_sb (by assumption) ?_)) | ((with_reducible refine sf_r ?_ ?_); (first | exact any | assumption | exact ⟨false, rfl⟩ | exact ⟨true, rfl⟩); assumption) | ((with_reducible refine sf_z ?_ ?_ ?_); (first | exact ⟨false, rfl⟩ | exact ⟨true, rfl⟩ | assumption); (first | exact any | exact ⟨false, rfl⟩ | exact ⟨true, rfl⟩ | assumption); assumption) | ((with_reducible refine sx_num h0 hF (by assumption) ?_ ?_ (fun w hw => ?_)); (first | assumption | exact Or.inr (by assumption) | (unfold RRd RWr; decide)); decide) | ((with_reducible refine sf_pI ?_ ?_ ?_ ?_ (fun τ hi => ?_)); (first | assumption | exact GS_o h0.1 (by decide) (by decide) | exact RRd_o h0 (by assumption) | exact RRd_o h0 (Or.inr (by assumption)) | exact OBq_o h0 (by assumption) | exact OBq_o h0 (Obt_q (by assumption)) | exact G_part h0.1 (by assumption) | exact Nmo_o (by assumption)); decide; decide; (first | exact SI_tI (by assumption) (by omega) | exact SI_m9 (by assumption) (by decide) | exact SI_m6 (by assumption) (by decide))) | ((with_reducible refine sf_pJ ?_ ?_ ?_ ?_ (fun τ hi => ?_)); (first | assumption | exact GS_o h0.1 (by decide) (by decide) | exact RRd_o h0 (by assumption) | exact RRd_o h0 (Or.inr (by assumption)) | exact OBq_o h0 (by assumption) | exact OBq_o h0 (Obt_q (by assumption)) | exact G_part h0.1 (by assumption) | exact Nmo_o (by assumption)); decide; decide; exact SI_tJ (by assumption) (by omega)) | ((with_reducible refine sf_x (sf_clear ?_ ?_) ?_); assumption; (first | assumption | (unfold RWr; decide)); intro v τ hv hi))
end CBO
end
