/-! resolve of the class, whole -/
section CRW
variable {F : Nat} {c : px_CT} {sk sk' : Nat → Nat × Nat × Nat} {L L' : Nat} {τ τ' : px_TT} {own : Nat → Nat × Nat} {fs : px_FS} {s : px_TK} {xs : px_NL} {ST ST' rn rn' : Nat → Bool} {gs : List (List Nat × Int64)} {ws : List (List Nat)} {k : Nat}
theorem WK_init {od : List Nat} (h : ST0 xs od) : WK fs ((0, xs, od, none), (fun _ => false, 0, []), [], fun _ => none) := by
  refine ⟨⟨Nat.zero_le _, fun i x hx => (h.1 i x hx).1, by show xs.length ≤ 32 + 63 * 0; have := h.2.2.2.1; omega, by show od.length ≤ 32 + 63 * 0; have := h.2.2.2.2; omega, Nat.zero_le _, List.nodup_nil, fun q hq => absurd hq List.not_mem_nil⟩, ?_, ?_, h.2.1, fun d hd => stN_lt (xs := xs) (by rw [h.2.2.1 d hd]; decide)⟩
  · intro i x hx
    have := (h.1 i x hx).2.1
    unfold byP
    rw [this.1]
    rcases this.2 with e | e
    · exact Or.inl e
    · exact Or.inr (Or.inl e)
  · intro t k ht
    exact absurd ht (Nat.not_lt_zero t)
theorem TKe_b {v : Option Nat} (h : TKe sk L own τ fs s xs ST rn) : TKe sk L own (tN τ 147 13 v) fs s xs ST rn := by
  obtain ⟨a1, a2, a3, ⟨k1, k2, k3, k4⟩, a5, a6, a7⟩ := h
  have hge : ∀ i, i < xs.length → 1815 ≤ pN τ 149 i := fun i hi => (k1 149 i _ (Or.inr (Or.inr rfl)) (CLm_at k2 (List.getElem?_eq_getElem hi)).2.1).1
  refine ⟨a1, GR_mw a2 (fun a j _ h => by rw [fN_tN, if_neg (by omega)]) (fun _ _ _ _ => rfl) rfl rfl, CF_mv a3 EX_refl ⟨fun _ _ _ _ => rfl, fun a j h => by rw [fN_tN, if_neg (by omega)], fun _ _ => rfl⟩, ⟨NP_fx k1 (fun _ _ => rfl), CLm_fx k2 EX_refl (fun _ _ _ _ => rfl) (fun i x hx e => (k2.2.1 i x hx).2 e) (fun _ _ _ _ => rfl) (fun i hi => by have := hge i hi; rw [fN_tN, if_neg (by omega)]) ⟨by rw [fN_tN, if_neg (by omega)], rfl⟩ rfl rfl rfl, k3, fun t q hq => ?_⟩, a5, a6, a7⟩
  obtain ⟨r1, r2, r3⟩ := k4 t q hq
  exact ⟨r1, r2, r3⟩
theorem CG_b {v : Option Nat} (h : CG sk L τ gs) (hn : NP sk L τ own) : CG sk L (tN τ 147 13 v) gs := CG_Ln (N := 0) h EX_refl (frLn_Tk (t := 0) (frTk_b hn) (by decide))
theorem CW_b {v : Option Nat} (h : CW sk L τ ws) (hn : NP sk L τ own) : CW sk L (tN τ 147 13 v) ws := CW_Ln (N := 0) h EX_refl (frLn_Tk (t := 0) (frTk_b hn) (by decide))
theorem isNm_Rs (h : isNm τ 1696 wST) (f : frRs τ τ') : isNm τ' 1696 wST := ⟨(f.2.1 1696 0 (by decide) (by decide) (by decide) (by decide)).trans h.1, (f.2.1 1696 1 (by decide) (by decide) (by decide) (by decide)).trans h.2.1, (f.2.1 1696 2 (by decide) (by decide) (by decide) (by decide)).trans h.2.2.1, (f.1 1696 3 (by decide) (by decide) (by decide) (by decide) (by decide) (by decide)).trans h.2.2.2⟩
theorem k_resolve {rc : Bool} (hF : 65536 < F) (hS : GS sk L) (hR : GR τ) (hn : NP sk L τ own) (hg : CG sk L τ gs) (hw : CW sk L τ ws) (hf : CF sk L τ fs) (hm : RMk sk L (k + rmT fs [] + 32)) (hnd : (gs.map Prod.fst).Nodup) (hst : isNm τ 1696 wST) (hs : s = taL fs (xs0 gs ws) (od0 gs)) : ∃ sk' L' τ' own' ST rn, f_Link_resolve F c 147 (bI rc) (cH sk L τ) = some (nI (anN fs ws s (xsN s)), cH sk' L' τ') ∧ EX sk L sk' L' ∧ RMk sk' L' k ∧ TKe sk' L' own' τ' fs s (xsN s) ST rn ∧ CG sk' L' τ' gs ∧ CW sk' L' τ' ws ∧ BL sk' L' τ' ∧ isNm τ' 1696 wST ∧ frRs τ τ' ∧ (Z15 τ' (xsN s) ∧ ∀ q, q < 64 → CC2 τ' fs s q) ∧ (anN fs ws s (xsN s) = 0 → ∃ R rn0, RRo s.2.2.1.length (tB fs s.2.2.1) s.2.1.1 (xsN s) rc R rn0 ∧ (∀ x, x < 24 * s.2.2.1.length → ST x = (kpB (tB fs s.2.2.1 (x / 24)) (x % 24) && (!s.2.1.1 x && (!rc || R x)))) ∧ ∀ i, rn i = (!rc || rn0 i)) ∧ (rc = false → ∀ x, ST x = (kpB (tB fs s.2.2.1 (x / 24)) (x % 24) && !s.2.1.1 x)) := by
  have hgl : gs.length ≤ 16 := by have := hg.1.2.2.2.1; rw [List.length_map] at this; exact this
  have hwl : ws.length ≤ 16 := hw.2.2.2.1
  obtain ⟨hst0, hwx⟩ := ST0_xs (gs := gs) (ws := ws) hgl hwl
  have hFSo := CF_FSo hf
  obtain ⟨sk1, L1, τ1, own1, b1, b2, b3, b4, b5, b6, b7, b8, b9, b10, b11, b12, b13, b14, b15, b16⟩ := k_begin (F := F) (c := c) (tb := tB fs []) (k := k + rmT fs []) (by omega) hS hR hn hg hw hm hnd
  have f1 : frRs τ τ1 := ⟨fun a j a1 _ a3 a4 _ a6 => b11 a j a1 a6 a3 (by omega), fun a j a1 _ a3 _ => b14 a j a1 a3, b15, b12, b16, fun a a1 _ a3 _ _ => b13 a a1 a3⟩
  have hf1 : CF sk1 L1 τ1 fs := CF_mv hf b2 ⟨fun a j h hj => b11 a j (by omega) (Or.inr (by omega)) (Or.inl (by omega)) (Or.inl (by omega)), fun a j h => b15 a j (by omega) (Or.inl (by omega)), fun a _ => b12 a⟩
  have t1 : TKs sk1 L1 own1 τ1 fs k ((0, xs0 gs ws, od0 gs, none), (fun _ => false, 0, []), [], fun _ => none) := by
    refine ⟨GS_ex hS b2, b5, hf1, ⟨b4, b8, ⟨b10.1, b10.2.1⟩, fun t q hq => ?_, fun q hq => ?_, fun _ _ => rfl, Nat.zero_le _⟩, WK_init hst0, fun i x hx => ?_, b3, Or.inl ⟨rfl, b10.2.2.2⟩⟩
    · have hq : ([] : List Nat)[t]? = some q := hq
      rw [List.getElem?_nil] at hq; cases hq
    · exact ⟨by rw [(b9 q hq).1]; rfl, fun _ => (b9 q hq).2, fun i w => by cases w⟩
    · have hx : (xs0 gs ws)[i]? = some x := hx
      have := (hst0.1 i x hx).2.1.2
      show x.2.1 ≤ 3
      omega
  obtain ⟨sk2, L2, τ2, own2, c1, c2, c3, c4⟩ := k_rs_6 (F := F) (c := c) (a1 := bI rc) hF 8 0 F sk1 L1 τ1 own1 _ rfl (by omega) rfl (fun q hq => absurd hq List.not_mem_nil) t1
  have hsx : itr (ta1 fs) 0 8 ((0, xs0 gs ws, od0 gs, none), (fun _ => false, 0, []), [], fun _ => none) = s := by rw [hs]; rfl
  rw [hsx] at c1 c3
  have f2 := frRs_trans f1 (frRs_Ln c4)
  have hg2 := CG_Ln b6 c2 c4
  have hw2 := CW_Ln b7 c2 c4
  have hR0 : f_Link_resolve F c 147 (bI rc) (cH sk L τ) = (if s.1.1 = 1 then some (nI 1, cH sk2 L2 τ2) else f_Link_resolve_58 F c 147 (bI rc) (cH sk2 L2 τ2)) := by
    unfold f_Link_resolve
    rw [c_o (G147 hS), bs, b1, xb_mk]
    exact c1
  rw [hR0]
  obtain ⟨e1, e2, e3, e4, e5, e6, e7, e8⟩ := id c3
  have hm2 : RMk sk2 L2 k := ⟨by have := e7.1; omega, by have := e7.2; omega⟩
  have h4 : AL (fun x => x.2.1 ≤ 4) s.1.2.1 := fun i x hx => Nat.le_succ_of_le (e6 i x hx)
  by_cases cs : s.1.1 = 1
  · rw [if_pos cs]
    have hxs : xsN s = s.1.2.1 := by unfold xsN; rw [if_neg (by omega)]
    have han : anN fs ws s (xsN s) = 1 := by unfold anN; rw [if_neg (by omega), cs]
    rw [han, hxs]
    have hbl : BL sk2 L2 τ2 := by
      rcases e8 with q | q
      · rw [cs] at q; exact absurd q.1 (by decide)
      · exact q.2
    obtain ⟨k1, k2, ⟨k3, k4⟩, k5, k6, k7, k8⟩ := e4
    have hTKe : TKe sk2 L2 own2 τ2 fs s s.1.2.1 (fun x => kpB (tB fs s.2.2.1 (x / 24)) (x % 24) && !s.2.1.1 x) (fun _ => true) := by
      refine ⟨e1, e2, e3, ⟨k1, ⟨k2.1, fun i x hx => ?_, k2.2.2.1⟩, k3, fun t q hq => ?_⟩, e5, h4, rfl⟩
      · obtain ⟨⟨r1, r2, r3, r4⟩, r5⟩ := k2.2.1 i x hx
        exact ⟨⟨r1, r2, r3⟩, fun e => r4.1 (Or.inr (Or.inl e))⟩
      · obtain ⟨r1, r2, r3⟩ := k5 t q hq
        refine ⟨fun i hi => ?_, r2, r3⟩
        have := r1 i hi
        show isPe τ2 _ t i _ _ _ _ (kpB (tB fs s.2.2.1 ((24 * t + i) / 24)) ((24 * t + i) % 24) && !s.2.1.1 (24 * t + i))
        rw [show (24 * t + i) / 24 = t by omega, show (24 * t + i) % 24 = i by omega]
        exact this
    exact ⟨sk2, L2, τ2, own2, _, _, rfl, EX_trans b2 c2, hm2, hTKe, hg2, hw2, hbl, isNm_Rs hst f2, f2, ⟨Z15_of k2, k6⟩, fun q => absurd q (by decide), fun _ _ => rfl⟩
  · rw [if_neg cs]
    have cs0 : s.1.1 = 0 := by
      rcases e8 with q | q
      · exact q.1
      · exact absurd q.1 cs
    have hxs : xsN s = ownL s.1.2.1 := by unfold xsN; rw [if_pos cs0]
    have han : anN fs ws s (xsN s) = if lkA fs ws s (ownL s.1.2.1) = true then 2 else 0 := by unfold anN; rw [if_pos cs0, hxs]
    rw [han, hxs]
    have t2 : TKo sk2 L2 own2 τ2 fs s s.1.2.1 := ⟨e1, e2, e3, e4, e5, h4, rfl, by
      rcases e8 with q | q
      · exact q.2
      · exact absurd q.1 cs⟩
    obtain ⟨τ3, τ4, τ5, τ6, d1, d2, d3, d4, d5, d6⟩ := k_own4 (F := F) (c := c) hF t2
    have f6 := frRs_trans f2 (frRs_Ln d6)
    have cc6 : ∀ q, q < 64 → CC2 τ6 fs s q := fun q hq => ⟨(d5.2.2.2.1.2.2.2.2.1 q hq).1, CC1_sX (xs' := s.1.2.1) (ownL_fst.symm) (d5.2.2.2.1.2.2.2.2.1 q hq).2⟩
    have hg6 := CG_Ln hg2 EX_refl d6
    have hw6 := CW_Ln hw2 EX_refl d6
    have hst6 := isNm_Rs hst f6
    have hwn : ∀ w, w ∈ ws → w ∈ (ownL s.1.2.1).map Prod.fst := fun w h => by
      rw [ownL_fst, hs]
      exact txs_0 hFSo (hwx w h)
    obtain ⟨τ7, g1, g2⟩ := k_isNameLeft (F := F) (c := c) hF d5 hw6 hwn hst6
    have hE6 := TKe_of d5
    have hM : ∀ t, t < s.2.2.1.length → oM (tB fs s.2.2.1 t) ≤ 64 := fun t ht => (TKe_ys hE6 t ht).2.2
    rw [clA_lk e5 (by rw [hs]; exact FgI_taL hFSo) (by omega) hM] at g1 g2
    have o147 := G147 e1
    have eq58 : f_Link_resolve_58 F c 147 (bI rc) (cH sk2 L2 τ2) = if bI (lkA fs ws s (ownL s.1.2.1)) = 0 then (if bI rc = 0 then f_Link_resolve_103 F c (cH sk2 L2 τ7) else (xo (cH sk2 L2 τ7) 3 147).bind fun _ => xb (f_Link_keepReached F c 147 (cH sk2 L2 τ7)) fun _ ph7 => f_Link_resolve_103 F c ph7) else some (nI 2, cH sk2 L2 τ7) := by
      unfold f_Link_resolve_58
      rw [c_o o147, bs, d1, xb_mk, c_o o147, bs, d2, xb_mk, c_o o147, bs, d3, xb_mk, c_o o147, bs, d4, xb_mk, c_o o147, bs, g1, xb_mk]
    rw [eq58]
    cases hlk : lkA fs ws s (ownL s.1.2.1) with
    | true =>
      rw [if_neg (show ¬ bI true = 0 by decide), if_pos rfl]
      rcases g2 with g2 | ⟨_, P, hP, g2⟩
      · rw [g2]
        exact ⟨sk2, L2, τ6, own2, _, _, rfl, EX_trans b2 c2, hm2, hE6, hg6, hw6, ⟨1696, wST, d5.2.2.2.2.2.2.2, G1696 e1, hst6, ⟨by decide, by decide⟩⟩, hst6, f6, ⟨Z15_of d5.2.2.2.1.2.1, cc6⟩, fun q => absurd q (by decide), fun _ _ => rfl⟩
      · rw [g2]
        obtain ⟨z1, z2, z3, z4⟩ := CLm_at hE6.2.2.2.1.2.1 (List.getElem?_eq_getElem hP)
        exact ⟨sk2, L2, _, own2, _, _, rfl, EX_trans b2 c2, hm2, TKe_b hE6, CG_b hg6 hE6.2.2.2.1.1, CW_b hw6 hE6.2.2.2.1.1, ⟨_, _, by rw [fN_tN, if_pos ⟨rfl, rfl⟩], z3, z4, z1⟩, hst6, frRs_trans f6 frRs_b, ⟨(Z15_of d5.2.2.2.1.2.1 : Z15 τ6 (ownL s.1.2.1)), cc6⟩, fun q => absurd q (by decide), fun _ _ => rfl⟩
    | false =>
      have g2 : τ7 = τ6 := by
        rcases g2 with g2 | ⟨g2, _⟩
        · exact g2
        · rw [hlk] at g2; cases g2
      have hWP : WP s.2.2.1.length (tB fs s.2.2.1) s.2.1.1 (ownL s.1.2.1) := WP_own (WP_of e5)
      have hbl6 : BL sk2 L2 τ6 := ⟨1696, wST, d5.2.2.2.2.2.2.2, G1696 e1, hst6, ⟨by decide, by decide⟩⟩
      rw [if_pos (show bI false = 0 from rfl), if_neg (show ¬ false = true by decide), g2]
      cases rc with
      | false =>
        rw [if_pos (show bI false = 0 from rfl)]
        refine ⟨sk2, L2, τ6, own2, _, _, rfl, EX_trans b2 c2, hm2, hE6, hg6, hw6, hbl6, hst6, f6, ⟨Z15_of d5.2.2.2.1.2.1, cc6⟩, fun _ => ⟨fun _ => false, fun _ => false, fun q => (nomatch q), fun x hx => ?_, fun i => rfl⟩, fun _ _ => rfl⟩
        show (kpB (tB fs s.2.2.1 (x / 24)) (x % 24) && !s.2.1.1 x) = _
        rw [Bool.not_false, Bool.true_or, Bool.and_true]
      | true =>
        rw [if_neg (show ¬ bI true = 0 by decide), c_o o147, bs]
        have hdf : (dfI wST (ownL s.1.2.1)).isSome = true := by
          unfold lkA at hlk
          have h1 := (Bool.or_eq_false_iff.mp hlk).2
          have h2 := (Bool.or_eq_false_iff.mp h1).2
          cases e : dfI wST (ownL s.1.2.1) with
          | none => rw [e] at h2; cases h2
          | some i => rfl
        obtain ⟨τ8, R, rn8, j1, j2, j3, j4⟩ := k_keepReached (F := F) (c := c) hF hWP hE6 hst6 (fun d hd => odT_own (by rw [hs]; exact odT_0 hFSo) d (Or.inr (Or.inl hd))) hdf
        have f8 := frRs_trans f6 (frRs_Kr j4)
        have hst8 := isNm_Rs hst f8
        have z8 : Z15 τ8 (ownL s.1.2.1) := fun i hi => by
          have hz := Z15_of d5.2.2.2.1.2.1 i hi
          have hge := (hE6.2.2.2.1.1 149 i _ (Or.inr (Or.inr rfl)) (CLm_at hE6.2.2.2.1.2.1 (List.getElem?_eq_getElem hi)).2.1).1
          have ep : pN τ8 149 i = pN τ6 149 i := by unfold pN; rw [j4.2.2.2.2.2.2 149 (by decide)]
          rw [ep, j4.2.1 _ 15 hge (by decide), j4.2.1 _ 16 hge (by decide)]
          exact hz
        refine ⟨sk2, L2, τ8, own2, R, rn8, ?_, EX_trans b2 c2, hm2, j2, CG_Kr hg6 hE6.2.2.2.1.1 j4, CW_Kr hw6 hE6.2.2.2.1.1 j4, ⟨1696, wST, by rw [j4.2.2.2.1]; exact d5.2.2.2.2.2.2.2, G1696 e1, hst8, ⟨by decide, by decide⟩⟩, hst8, f8, ⟨z8, fun q hq => CC2_fx (cc6 q hq) (j4.1 _ 15 (by omega) (by omega) (by omega)) (j4.1 _ 16 (by omega) (by omega) (by omega))⟩, fun _ => ⟨R, rn8, j3, fun x hx => ?_, fun i => by rw [Bool.not_true, Bool.false_or]⟩, fun q => (by cases q)⟩
        · rw [j1, xb_mk]; rfl
        · rw [Bool.not_true, Bool.false_or]
          cases eR : R x with
          | false => rw [Bool.and_false, Bool.and_false]
          | true =>
            obtain ⟨q1, q2⟩ := Rch_sec (fun t ht => (TKe_ys hE6 t ht).2.1) hWP.2.2.1 (((j3 rfl).1 x).mp eR)
            rw [q1, q2]
            rfl
end CRW
