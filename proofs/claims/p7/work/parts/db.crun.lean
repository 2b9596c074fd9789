/-! runLink of the class -/
/-- what a link leaves as it was -/
def frRL (τ τ' : px_TT) : Prop := (∀ a, (a = 1 ∨ a = 2 ∨ (1713 ≤ a ∧ a < 1815)) → (∀ k, fI τ' a k = fI τ a k) ∧ (∀ k, fJ τ' a k = fJ τ a k) ∧ (∀ k, fN τ' a k = fN τ a k) ∧ eI τ' a = eI τ a ∧ eJ τ' a = eJ τ a ∧ eN τ' a = eN τ a) ∧ (∀ k, fI τ' 0 k = fI τ 0 k) ∧ (∀ a k, a < 1726 → (a ≠ 147 ∨ k ≠ 13) → fN τ' a k = fN τ a k)
theorem frRL_trans {τ τ1 τ2 : px_TT} (h : frRL τ τ1) (g : frRL τ1 τ2) : frRL τ τ2 := ⟨fun a ha => ⟨fun k => ((g.1 a ha).1 k).trans ((h.1 a ha).1 k), fun k => ((g.1 a ha).2.1 k).trans ((h.1 a ha).2.1 k), fun k => ((g.1 a ha).2.2.1 k).trans ((h.1 a ha).2.2.1 k), (g.1 a ha).2.2.2.1.trans (h.1 a ha).2.2.2.1, (g.1 a ha).2.2.2.2.1.trans (h.1 a ha).2.2.2.2.1, (g.1 a ha).2.2.2.2.2.trans (h.1 a ha).2.2.2.2.2⟩, fun k => (g.2.1 k).trans (h.2.1 k), fun a k x y => (g.2.2 a k x y).trans (h.2.2 a k x y)⟩
theorem frRL_Rs {τ τ' : px_TT} (f : frRs τ τ') : frRL τ τ' := ⟨fun a ha => ⟨fun k => f.1 a k (by omega) (by omega) (by omega) (by omega) (by omega) (by omega), fun k => f.2.1 a k (by omega) (by omega) (by omega) (by omega), fun k => f.2.2.1 a k (by omega) (by omega), f.2.2.2.1 a, f.2.2.2.2.1 a, f.2.2.2.2.2 a (by omega) (by omega) (by omega) (by omega) (by omega)⟩, fun k => f.1 0 k (by omega) (by omega) (by omega) (by omega) (by omega) (by omega), fun a k h1 h2 => f.2.2.1 a k (by omega) h2⟩
theorem frRL_Ly {τ τ' : px_TT} (f : frLy τ τ') : frRL τ τ' := ⟨fun a ha => ⟨fun k => f.1 a k (by omega) (by omega) (by omega), fun k => f.2.2.1 a k (by omega) (by omega) (by omega) (by omega), fun k => f.2.2.2.2.1 a k, f.2.2.2.2.2.1 a (by omega), f.2.2.2.2.2.2.1 a (by omega), f.2.2.2.2.2.2.2 a (by omega)⟩, fun k => f.1 0 k (by omega) (by omega) (by omega), fun a k _ _ => f.2.2.2.2.1 a k⟩
theorem frRL_S {τ τ' : px_TT} (f : frSi τ τ') : frRL τ τ' := ⟨fun a ha => ⟨fun k => f.1 a k (Or.inl (by omega)), fun k => f.2.1 a k (by omega), fun k => f.2.2.1 a k, f.2.2.2.1 a (by omega), f.2.2.2.2.1 a, f.2.2.2.2.2 a⟩, fun k => f.1 0 k (Or.inl (by omega)), fun a k _ _ => f.2.2.1 a k⟩
theorem frRL_E {τ τ' : px_TT} (f : frE3 τ τ') : frRL τ τ' := ⟨fun a ha => ⟨(f.2.1 a (by omega)).1, (f.2.1 a (by omega)).2.1, fun k => f.1.2.2.1 a k (by omega), (f.2.1 a (by omega)).2.2.1, (f.2.1 a (by omega)).2.2.2.1, (f.2.1 a (by omega)).2.2.2.2⟩, f.2.2.2, fun a k _ _ => by
    by_cases e : a = 0
    · subst e; exact f.2.2.1 k
    · exact f.1.2.2.1 a k (fun h => absurd h e)⟩
/-- the file's size, the segments that are there -/
def CKZ (τ : px_TT) (fe : Nat) (th : Nat → Bool) : Prop := fe ≤ 65536 ∧ fI τ 1711 1 = nI fe ∧ ∀ j, j < 3 → eI τ 1703 j = bI (th j)
def CKY (fs : px_FS) (s : px_TK) (rc : Bool) (B : Nat → Nat) (τ : px_TT) : Prop := ∃ ll ad NA, lnX fs s rc B ll ad NA ∧ COr τ ll ∧ (ll.length ≤ 1536 ∧ ∀ x, x ∈ ll → x < 24 * s.2.2.1.length ∧ kpB (tB fs s.2.2.1 (x / 24)) (x % 24) = true) ∧ (∀ x, x ∈ ll → fJ τ (152 + x) 11 = lN (ad x)) ∧ (∀ j, j < (xsN s).length → fJ τ (pN τ 149 j) 14 = NA.1 j) ∧ CKZ τ (vFe NA.2.2.2.2) NA.2.1
theorem CKY_mk {fs : px_FS} {s : px_TK} {rc : Bool} {B : Nat → Nat} {τ : px_TT} {ll : List Nat} {ad : Nat → Nat} {NA : Nat → Int64} {th : Nat → Bool} {sl : List Nat} {sy : Nat → Nat → Bool} {V : px_VV} (h : lnX fs s rc B ll ad (NA, th, sl, sy, V)) (h1 : COr τ ll) (h2 : ll.length ≤ 1536 ∧ ∀ x, x ∈ ll → x < 24 * s.2.2.1.length ∧ kpB (tB fs s.2.2.1 (x / 24)) (x % 24) = true) (h3 : ∀ x, x ∈ ll → fJ τ (152 + x) 11 = lN (ad x)) (h4 : ∀ j, j < (xsN s).length → fJ τ (pN τ 149 j) 14 = NA j) (h5 : CKZ τ (vFe V) th) : CKY fs s rc B τ := ⟨ll, ad, (NA, th, sl, sy, V), h, h1, h2, h3, h4, h5⟩
theorem LYe_lo {B tO : Nat → Nat} {tb : Nat → Nat → Nat} {ll : List Nat} {xs : px_NL} {od : List Nat} {ns : Nat} {on : Bool} {rn th : Nat → Bool} {fe0 bg0 : Nat} {G0 : px_PG} {fe1 mem1 bg1 : Nat} {G1 : px_PG} {fe2 mem2 bg2 : Nat} {G4 G5 G2 : px_PG} {sp : Nat} {G3 CM : px_PG} {fe3 : Nat} (h : LYe B tO tb ll xs od ns on rn th fe0 bg0 G0 fe1 mem1 bg1 G1 fe2 mem2 bg2 G4 G5 G2 sp G3 CM fe3) : 64 + 56 * sgN th 3 + (if ll.any (thr1 tb) = true then 56 else 0) ≤ fe3 := by
  obtain ⟨l1, l2, l3, l4, l5, l6, l7, l8, l9, l10, l11, l12, l13, l14, l15, l16, l17⟩ := h
  have u0 := upN_le (v := fe0) (a := 16) (by decide)
  have u1 := upN_le (v := fe1) (a := 16) (by decide)
  have u2 := upN_le (v := fe2) (a := 16) (by decide)
  have mo01 : fe0 ≤ fe1 := by rw [l4]; split <;> omega
  have mo12 : fe1 ≤ fe2 := by rw [l8]; split <;> omega
  have mo23 : fe2 ≤ fe3 := by rw [l17]; split <;> omega
  rw [← l1]
  omega
section CRL
variable {F : Nat} {c : px_CT} {sk : Nat → Nat × Nat × Nat} {L : Nat} {τ : px_TT} {own : Nat → Nat × Nat} {fs : px_FS} {s : px_TK} {B : Nat → Nat} {gs : List (List Nat × Int64)} {ws : List (List Nat)} {k a : Nat} {rc : Bool}
/-- the order of parts is one of parts -/
def WOr (τ : px_TT) : Prop := ∃ ll : List Nat, ll.length ≤ 1536 ∧ (∀ x, x ∈ ll → x < 1536) ∧ COr τ ll
theorem WOr_fx {τ' : px_TT} (h : WOr τ) (e1 : fI τ' 1700 11 = fI τ 1700 11) (e2 : eN τ' 1701 = eN τ 1701) : WOr τ' := by
  obtain ⟨ll, l1, l2, l3⟩ := h
  exact ⟨ll, l1, l2, COr_fx l3 e1 e2⟩
theorem BL_Ly {τ' : px_TT} (hS : GS sk L) (h : BL sk L τ) (f : frLy τ τ') : BL sk L τ' := by
  obtain ⟨p, w, p1, p2, p3, p4⟩ := h
  have h1 : p ≠ 1697 := fun e => by have := p2.1; rw [e, (G1697 hS).1] at this; exact absurd this (by decide)
  have h2 : p ≠ 1700 := fun e => by have := p2.1; rw [e, (G1700 hS).1] at this; exact absurd this (by decide)
  refine ⟨p, w, (f.2.2.2.2.1 147 13).trans p1, p2, ?_, p4⟩
  by_cases e : p < 1815
  · exact ⟨(f.2.2.1 _ 0 e h1 h2 (by omega)).trans p3.1, (f.2.2.1 _ 1 e h1 h2 (by omega)).trans p3.2.1, (f.2.2.1 _ 2 e h1 h2 (by omega)).trans p3.2.2.1, (f.1 _ 3 e h1 h2).trans p3.2.2.2⟩
  · exact ⟨(f.2.2.2.1 _ 0 (by omega) (by omega)).trans p3.1, (f.2.2.2.1 _ 1 (by omega) (by omega)).trans p3.2.1, (f.2.2.2.1 _ 2 (by omega) (by omega)).trans p3.2.2.1, (f.2.1 _ 3 (by omega) (by omega) (by omega)).trans p3.2.2.2⟩
theorem k_runLink (hF : 65540 < F) (hc : KT c) (hS : GS sk L) (hR : GR τ) (hn : NP sk L τ own) (hg : CG sk L τ gs) (hw : CW sk L τ ws) (hf : CF sk L τ fs) (hm : RMk sk L (k + rmT fs [] + 32)) (hnd : (gs.map Prod.fst).Nodup) (hst : isNm τ 1696 wST) (hro : ROk sk L τ) (hwo : WOr τ) (hsum : (fs.map Prod.fst).sum ≤ 4096) (hB : BFs fs B) (hln : lnR fs gs ws rc B s a) : ∃ sk' L' τ' own' ST rn, f_H_runLink F c 0 (bI rc) (cH sk L τ) = some (nI a, cH sk' L' τ') ∧ EX sk L sk' L' ∧ RMk sk' L' k ∧ TKe sk' L' own' τ' fs s (xsN s) ST rn ∧ CG sk' L' τ' gs ∧ CW sk' L' τ' ws ∧ isNm τ' 1696 wST ∧ ROk sk' L' τ' ∧ fI τ' 147 18 = nI a ∧ WOr τ' ∧ (∀ q, q < 64 → CC2 τ' fs s q) ∧ frRL τ τ' ∧ (a = 0 → CKY fs s rc B τ') ∧ (rc = false → ∀ x, ST x = (kpB (tB fs s.2.2.1 (x / 24)) (x % 24) && !s.2.1.1 x)) := by
  obtain ⟨hs, hn0, hn1⟩ := hln
  have hgl : gs.length ≤ 16 := by have := hg.1.2.2.2.1; rw [List.length_map] at this; exact this
  have hwl : ws.length ≤ 16 := hw.2.2.2.1
  obtain ⟨sk1, L1, τ1, own1, ST, rn, a1, a2, a3, a4, a5, a6, a7, a8, a9, a10, a11, a12⟩ := k_resolve (F := F) (c := c) (rc := rc) (by omega) hS hR hn hg hw hf hm hnd hst hs
  have hS1 := a4.1
  have hR1 := a4.2.1
  have hro1 : ROk sk1 L1 τ1 := ROk_fx hro a2 (fun j => a9.2.2.1 0 j (by omega) (by omega)) (fun x j hx => a9.2.2.1 x j (by omega) (by omega)) (fun x j hx => a9.1 x j (by omega) (by omega) (by omega) (by omega) (by omega) (by omega)) (fun x _ => a9.2.2.2.1 x)
  have hwo1 : WOr τ1 := WOr_fx hwo (a9.1 1700 11 (by omega) (by omega) (by omega) (by omega) (by omega) (by omega)) (a9.2.2.2.2.2 1701 (by omega) (by omega) (by omega) (by omega) (by omega))
  by_cases ca : anN fs ws s (xsN s) = 0
  · obtain ⟨R', rn0', r1, r2, r3⟩ := a11 ca
    obtain ⟨R, rn0, e1, e2⟩ := hn1 ca
    have h0 := anN_0 ca
    have hFSo := CF_FSo hf
    obtain ⟨x1, x2, x3, x4, x5, x6, x7, x8⟩ := LN_f (fs := fs) (gs := gs) (ws := ws) (s := s) hFSo hgl hwl hs h0
    have hr : STr fs s rc R ST := fun x hx => by
      rw [r2 x hx]
      cases hrc : rc with
      | false => rfl
      | true =>
        have u1 := (r1 hrc).1 x
        have u2 := (e1 hrc).1 x
        have : R' x = R x := by
          cases q1 : R' x with
          | true => exact (u2.mpr (u1.mp q1)).symm
          | false =>
            cases q2 : R x with
            | false => rfl
            | true => rw [u1.mpr (u2.mp q2)] at q1; cases q1
        rw [this]
    have hrn : ∀ i, rn i = (!rc || rn0 i) := fun i => by
      rw [r3 i]
      cases hrc : rc with
      | false => rfl
      | true =>
        have u1 := (r1 hrc).2 i
        have u2 := (e1 hrc).2 i
        have : rn0' i = rn0 i := by
          cases q1 : rn0' i with
          | true => exact (u2.mpr (u1.mp q1)).symm
          | false =>
            cases q2 : rn0 i with
            | false => rfl
            | true => rw [u1.mpr (u2.mp q2)] at q1; cases q1
        rw [this]
    obtain ⟨ll, hll⟩ : ∃ ll, ll = layL s.2.2.1.length (tB fs s.2.2.1) (sta (tB fs s.2.2.1) s.2.1.1 rc R) := ⟨_, rfl⟩
    obtain ⟨sl, hsl⟩ : ∃ sl, sl = slL s.2.2.1.length (tB fs s.2.2.1) s.2.1.1 (xsN s) (sta (tB fs s.2.2.1) s.2.1.1 rc R) := ⟨_, rfl⟩
    obtain ⟨th, hth⟩ : ∃ th, th = thS (tB fs s.2.2.1) ll (xsN s) s.1.2.2.1 rc rn0 sl.length := ⟨_, rfl⟩
    rw [← hll, ← hsl, ← hth] at e2
    obtain ⟨fe0, bg0, G0', fe1, mem1, bg1, G1, fe2, mem2, bg2, G4, G5, G2, sp, G3, CM, fe3, hL, ea⟩ := e2
    obtain ⟨hl, hll2, hall, hsr⟩ := STr_ll a4 hr hll
    have hk := STr_k hr
    have hN := SLN_of (s := s) hFSo x2.1 hsum
    have hof : off fs fs.length ≤ 32768 := by rw [off_sum]; omega
    obtain ⟨C, hC⟩ : ∃ C : Nat → Nat, C = fun x => b8 (eI τ1 8 x) := ⟨_, rfl⟩
    have hcb : CB τ1 C := ⟨a4.2.2.1.2.2.1, fun x => by rw [hC]⟩
    have hrel := CBR_of a4 hl hk hcb hB
    obtain ⟨τ2, cpf, b1, b2, ⟨b3, b4, b5⟩, b6⟩ := k_lay (F := F) (c := c) (τ := τ1) (C := C) (B := B) (tO := tOf fs s.2.2.1) (ll := ll) (sl := sl) (th := th) (rc := rc) (R := R) (rn0 := rn0) (by omega) hc hof hr x3 hN x4 x5 x6 hrn x7 x8 hll hsl hth hrel hL a4 a10.1 hcb
    have hns := hN _ b2.2.2.1.2
    have hZ := TKe_Z a4 hk hl
    have hpz1 := psz_le cpf b2.1.2.2.2.1.2.2.1.2
    have hpz2 := stL_len b2.1.2.2.2.1.2.2.1
    have hpzE := psz_T b2.1.2.2.2.2.2.2.2.1
    have hol : s.1.2.2.1.length ≤ 4128 := by
      have h1 := x2.1.2.2.2.1
      have h2 := BK_T (s := s) x2.1
      omega
    obtain ⟨⟨y1, y2, y3, y4⟩, _, _⟩ := LYe_b hZ hl.1 hns (by rw [← hpzE]; omega) (cmOK_of x4) x7 hol hL
    have hz3 := LYe_z hth hL
    have kt := k_isTooLarge (F := F) (c := c) (τ := τ2) (th := th) (by omega) b2.1.1.1 b2.1.1.2.1 b3 b4 b5 b2.2.2.2.2.2.2.2.2.1 ⟨by omega, by omega, by omega, y4⟩ hz3
    have hS2 := b2.1.1.1
    have hR2 := b2.1.1.2.1
    have hro2 : ROk sk1 L1 τ2 := ROk_fx hro1 EX_refl (fun j => b6.2.2.2.2.1 0 j) (fun x j _ => b6.2.2.2.2.1 x j) (fun x j hx => b6.1 x j (by omega) (by omega) (by omega)) (fun x hx => b6.2.2.2.2.2.1 x (by omega))
    have hwo2 : WOr τ2 := ⟨ll, hl.1, fun x hx => by have h1 := (hl.2 x hx).1; have h2 := BK_T (s := s) x2.1; omega, b2.2.1⟩
    have hbl2 := BL_Ly hS1 a7 b6
    have hg2 := CG_Ly a5 a4.2.2.2.1.1 b6
    have hw2 := CW_Ly a6 a4.2.2.2.1.1 b6
    have hst2 : isNm τ2 1696 wST := ⟨(b6.2.2.1 _ 0 (by omega) (by omega) (by omega) (by omega)).trans a8.1, (b6.2.2.1 _ 1 (by omega) (by omega) (by omega) (by omega)).trans a8.2.1, (b6.2.2.1 _ 2 (by omega) (by omega) (by omega) (by omega)).trans a8.2.2.1, (b6.1 _ 3 (by omega) (by omega) (by omega)).trans a8.2.2.2⟩
    have f2 := frRL_trans (frRL_Rs a9) (frRL_Ly b6)
    have pre : ∀ z, f_H_runLink F c 0 (bI rc) (cH sk L τ) = z ↔ (if bI (lyA th (G0'.1 - bg0) (G1.1 + psz B (pf0 B (tOf fs s.2.2.1) (tB fs s.2.2.1) ll) - bg1) (CM.1 - bg2) fe3) = 0 then f_H_runLink_35 F c 0 (nI 0) (cH sk1 L1 τ2) else f_H_runLink_35 F c 0 (nI 3) (cH sk1 L1 τ2)) = z := fun z => by
      unfold f_H_runLink
      rw [C0r11 (G0 hS) (GR_r (v := 147) hR (by decide)), bs, c_o (G147 hS), bs, a1, xb_mk, ca, if_pos (show nI 0 = 0 from rfl), C0r13 (G0 hS1) (GR_r (v := 1700) hR1 (by decide)), bs, c_o (G1700 hS1), bs, b1, xb_mk, C0r13 (G0 hS2) (GR_r (v := 1700) hR2 (by decide)), bs, c_o (G1700 hS2), bs, kt, xb_mk]
    have fin : ∀ (τ3 : px_TT) (a' : Nat), a' ≤ 4 → TKe sk1 L1 own1 τ3 fs s (xsN s) ST rn → CG sk1 L1 τ3 gs → CW sk1 L1 τ3 ws → isNm τ3 1696 wST → ROk sk1 L1 τ3 → WOr τ3 → BL sk1 L1 τ3 → frRL τ τ3 → (∀ q, q < 64 → CC2 τ3 fs s q) → ∃ τ4, f_H_runLink_63 F c 0 (nI a') (cH sk1 L1 τ3) = some (nI a', cH sk1 L1 τ4) ∧ TKe sk1 L1 own1 τ4 fs s (xsN s) ST rn ∧ CG sk1 L1 τ4 gs ∧ CW sk1 L1 τ4 ws ∧ isNm τ4 1696 wST ∧ ROk sk1 L1 τ4 ∧ fI τ4 147 18 = nI a' ∧ WOr τ4 ∧ (∀ q, q < 64 → CC2 τ4 fs s q) ∧ frRL τ τ4 ∧ frZ τ3 τ4 ∧ ∀ k, fI τ4 1711 k = fI τ3 1711 k := fun τ3 a' ha' q1 q2 q3 q4 q5 q6 q7 q8 q9 => by
      obtain ⟨τ4, u1, u2, u3, u4⟩ := k_rl_63 (F := F) (c := c) (by omega) q1.1 q1.2.1 q5 q7 ha'
      exact ⟨τ4, u1, TKe_Zf q1 u4.1, CG_Z q2 q1.2.2.2.1.1 u4.1, CW_Z q3 q1.2.2.2.1.1 u4.1, isNm_Z q4 u4.1, u3, u2, WOr_fx q6 (u4.1.1 1700 11 (Zc_no (by omega)) (by omega) (by omega) (by omega) (by omega)) (u4.1.2.2.2.2.2 1701 (by decide)), fun q hq => CC2_fx (q9 q hq) (u4.1.1 _ 15 (Zc_no (by omega)) (by omega) (by omega) (by omega) (by omega)) (u4.1.1 _ 16 (Zc_no (by omega)) (by omega) (by omega) (by omega) (by omega)), frRL_trans q8 (frRL_E u4), u4.1, (u4.2.1 1711 (by omega)).1⟩
    cases eA : lyA th (G0'.1 - bg0) (G1.1 + psz B (pf0 B (tOf fs s.2.2.1) (tB fs s.2.2.1) ll) - bg1) (CM.1 - bg2) fe3 with
    | true =>
      rw [eA, if_pos rfl] at ea
      have hz2 : ∀ q, q < 64 → CC2 τ2 fs s q := fun q hq => CC2_fx (a10.2 q hq) (b6.1 _ 15 (by omega) (by omega) (by omega)) (b6.1 _ 16 (by omega) (by omega) (by omega))
      obtain ⟨τ4, u1, u2, u3, u4, u5, u6, u7, u8, u9⟩ := fin τ2 3 (by decide) b2.1.1 hg2 hw2 hst2 hro2 hwo2 hbl2 f2 hz2
      refine ⟨sk1, L1, τ4, own1, ST, rn, (pre _).mpr ?_, a2, a3, u2, u3, u4, u5, u6, by rw [ea]; exact u7, u8, u9.1, u9.2.1, fun q => by omega, a12⟩
      rw [eA, if_neg (show ¬ bI true = 0 by decide), ea]
      unfold f_H_runLink_35 f_H_runLink_36
      rw [if_neg (show ¬ nI 3 = 0 by decide)]
      exact u1
    | false =>
      rw [eA, if_neg (by decide)] at ea
      obtain ⟨τ3, d1, d2, d3, d4⟩ := k_write (F := F) (c := c) (by omega) hc hr hN (by omega) b2 hst2 hro2.2.2.2.1
      have hL3 := LAD_Z b2 (frZ_F d3)
      have hro3 : ROk sk1 L1 τ3 := ROk_Rw hro2 d3 d2 (by omega)
      obtain ⟨τ4, g1, g2, g3, g4⟩ := k_fillSites (F := F) (c := c) (rn0 := rn0) (by omega) hr hc x3 e1 hsl hns rfl hL3 d2
      have hL4 := LAD_Z hL3 (frZ_S g3)
      have hro4 : ROk sk1 L1 τ4 := by
        obtain ⟨⟨ro, rd, w1, w2, w3⟩, h3, h5, h11, h14, h19⟩ := hro3
        exact ⟨⟨ro, rd, w1, (g3.2.2.1 _ _).trans w2, (g3.2.2.1 _ _).trans w3⟩, rowOK_fx h3 EX_refl (g3.2.2.1 _ _) (g3.1 _ _ (by omega)) (g3.1 _ _ (by omega)) (g3.2.2.2.1 _ (by omega)), rowOK_fx h5 EX_refl (g3.2.2.1 _ _) (g3.1 _ _ (by omega)) (g3.1 _ _ (by omega)) (g3.2.2.2.1 _ (by omega)), g2, rowOK_fx h14 EX_refl (g3.2.2.1 _ _) (g3.1 _ _ (by omega)) (g3.1 _ _ (by omega)) (g3.2.2.2.1 _ (by omega)), rowOK_fx h19 EX_refl (g3.2.2.1 _ _) (g3.1 _ _ (by omega)) (g3.1 _ _ (by omega)) (g3.2.2.2.1 _ (by omega))⟩
      have fz24 := frZ_trans (frZ_F d3) (frZ_S g3)
      have hbl4 : BL sk1 L1 τ4 := by
        obtain ⟨p, w, p1, p2, p3, p4⟩ := hbl2
        refine ⟨p, w, (g3.2.2.1 _ _).trans ((d3.2.2.1 _ _).trans p1), p2, ?_, p4⟩
        exact ⟨(g3.2.1 _ 0 (by omega)).trans ((d3.2.1 _ _).trans p3.1), (g3.2.1 _ 1 (by omega)).trans ((d3.2.1 _ _).trans p3.2.1), (g3.2.1 _ 2 (by omega)).trans ((d3.2.1 _ _).trans p3.2.2.1), (g3.1 _ 3 (by omega)).trans ((d3.1 _ 3 (by omega)).trans p3.2.2.2)⟩
      have f4 := frRL_trans f2 (frRL_trans (frRL_S (frSi_F d3)) (frRL_S g3))
      have hgo := fin τ4 a (by rw [ea]; split <;> omega) hL4.1.1 (CG_Z hg2 b2.1.1.2.2.2.1.1 fz24) (CW_Z hw2 b2.1.1.2.2.2.1.1 fz24) (isNm_Z hst2 fz24) hro4 (WOr_fx hwo2 (fz24.1 1700 11 (Zc_no (by omega)) (by omega) (by omega) (by omega) (by omega)) (fz24.2.2.2.2.2 1701 (by decide))) hbl4 f4 (fun q hq => CC2_fx (CC2_fx (a10.2 q hq) (b6.1 _ 15 (by omega) (by omega) (by omega)) (b6.1 _ 16 (by omega) (by omega) (by omega))) (fz24.1 _ 15 (Zc_no (by omega)) (by omega) (by omega) (by omega) (by omega)) (fz24.1 _ 16 (Zc_no (by omega)) (by omega) (by omega) (by omega) (by omega)))
      obtain ⟨τ5, u1, u2, u3, u4, u5, u6, u7, u8, u9⟩ := hgo
      have hL5 := LAD_Z hL4 u9.2.2.1
      have hfe : fe3 ≤ 65536 := by
        unfold lyA at eA
        rw [Bool.or_eq_false_iff, Bool.or_eq_false_iff, Bool.or_eq_false_iff] at eA
        have := of_decide_eq_false eA.2.2
        omega
      have hlo := LYe_lo hL
      have hsz : a = 0 → fI τ5 1711 1 = nI fe3 := fun h0 => by
        have w := ((g4 (if4 ea h0)).2 _ (d4 hfe (fun _ => 0))).2.1
        rw [siT_z, wrW_z b2.2.2.2.1.1 b2.2.2.2.1.2 hlo] at w
        exact (u9.2.2.2 1).trans w
      refine ⟨sk1, L1, τ5, own1, ST, rn, (pre _).mpr ?_, a2, a3, u2, u3, u4, u5, u6, u7, u8, u9.1, u9.2.1, fun h0 => CKY_mk (ad := G3.2.1) (NA := naF (ownV B (pf0 B (tOf fs s.2.2.1) (tB fs s.2.2.1) ll) (tOf fs s.2.2.1) (tB fs s.2.2.1) s.2.1.1 (sta (tB fs s.2.2.1) s.2.1.1 rc R) G1.1 G3.2.1) (ownK G0'.1 bg2 (sp + 8 * sl.length - bg2) (CM.2.2.getD CM.1) (CM.1 - bg2)) CM.2.1 (xsN s)) (th := th) (sl := sl) (sy := sta (tB fs s.2.2.1) s.2.1.1 rc R) (V := (fe0, bg0, G0', fe1, mem1, bg1, G1, fe2, mem2, bg2, G4, G5, G2, sp, G3, CM, fe3)) (lnX_mk e1 hll ⟨fe0, bg0, G0', fe1, mem1, bg1, G1, fe2, mem2, bg2, G4, G5, G2, sp, G3, CM, fe3, by rw [← hsl, ← hth]; exact hL, rfl, by rw [← hsl], rfl⟩ (by rw [← hsl]; exact hth) hsl rfl) hL5.2.1 ⟨hl.1, fun x hx => ⟨(hl.2 x hx).1, (hk x (hl.2 x hx).1 (hl.2 x hx).2).1⟩⟩ hL5.2.2.2.2.2.1 hL5.2.2.2.2.1 ⟨hfe, hsz h0, hL5.2.2.2.1.1⟩, a12⟩
      rw [eA, if_pos (show bI false = 0 from rfl)]
      unfold f_H_runLink_35 f_H_runLink_36 f_H_runLink_62
      rw [if_pos (show nI 0 = 0 from rfl), C0r14 (G0 hS2) (GR_r (v := 1710) hR2 (by decide)), bs, c_o (G1710 hS2), bs, d1, xb_mk, C0r14 (G0 hS2) (GR_r (v := 1710) hL3.1.1.2.1 (by decide)), bs, c_o (G1710 hS2), bs, g1, xb_mk]
      cases eO : ex1 (ovT (svF B (tOf fs s.2.2.1) (tB fs s.2.2.1) s.2.1.1 (xsN s) (sta (tB fs s.2.2.1) s.2.1.1 rc R) ll sl (naF (ownV B (pf0 B (tOf fs s.2.2.1) (tB fs s.2.2.1) ll) (tOf fs s.2.2.1) (tB fs s.2.2.1) s.2.1.1 (sta (tB fs s.2.2.1) s.2.1.1 rc R) G1.1 G3.2.1) (ownK G0'.1 bg2 (sp + 8 * sl.length - bg2) (CM.2.2.getD CM.1) (CM.1 - bg2)) CM.2.1 (xsN s)) G3.2.1 sp (tpN bg2 (ll.foldl (ft1 (tB fs s.2.2.1) G3.2.1) (false, 0, 1, 0))) G1.1) (tB fs s.2.2.1) (sta (tB fs s.2.2.1) s.2.1.1 rc R)) 0 s.2.2.1.length with
      | false =>
        rw [eO, if_neg (by decide)] at ea
        rw [if_neg (show ¬ bI (!false) = 0 by decide)]
        rw [ea] at u1 ⊢
        exact u1
      | true =>
        rw [eO, if_pos rfl] at ea
        rw [if_pos (show bI (!true) = 0 from rfl)]
        rw [ea] at u1 ⊢
        exact u1
  · have ea := hn0 ca
    have h2 : anN fs ws s (xsN s) ≤ 2 := anN_2 a4.2.2.2.2.1.1.1
    obtain ⟨τ2, u1, u2, u3, u4⟩ := k_rl_63 (F := F) (c := c) (a := a) (by omega) hS1 hR1 hro1 a7 (by omega)
    refine ⟨sk1, L1, τ2, own1, ST, rn, ?_, a2, a3, TKe_Zf a4 u4.1, CG_Z a5 a4.2.2.2.1.1 u4.1, CW_Z a6 a4.2.2.2.1.1 u4.1, isNm_Z a8 u4.1, u3, u2, WOr_fx hwo1 (u4.1.1 1700 11 (Zc_no (by omega)) (by omega) (by omega) (by omega) (by omega)) (u4.1.2.2.2.2.2 1701 (by decide)), fun q hq => CC2_fx (a10.2 q hq) (u4.1.1 _ 15 (Zc_no (by omega)) (by omega) (by omega) (by omega) (by omega)) (u4.1.1 _ 16 (Zc_no (by omega)) (by omega) (by omega) (by omega) (by omega)), frRL_trans (frRL_Rs a9) (frRL_E u4), fun q => by omega, a12⟩
    unfold f_H_runLink
    rw [C0r11 (G0 hS) (GR_r (v := 147) hR (by decide)), bs, c_o (G147 hS), bs, a1, xb_mk, ← ea, if_neg (show ¬ nI a = 0 from fun e => ca (by rw [← ea]; exact (nI_eq (b := 0) (by omega) (by decide)).mp e))]
    unfold f_H_runLink_36
    rw [if_neg (show ¬ nI a = 0 from fun e => ca (by rw [← ea]; exact (nI_eq (b := 0) (by omega) (by decide)).mp e))]
    exact u1
end CRL
