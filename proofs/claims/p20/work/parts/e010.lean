section
/-! begin of the class: the names wished -/
section CBH
variable {F : Nat} {c : px_CT} {ws : List (List Nat)} {tb : Nat → Nat → Nat}
theorem crec_ws {τ : px_TT} {p : Nat} {r : px_NR} (h : crec tb τ p r) : crec tb (tI τ p 11 (bI true)) p (wsR r) := by
  obtain ⟨c1, ⟨a, b, g1, g2, g3⟩, c3⟩ := h
  have hI : ∀ k, k ≠ 11 → fI (tI τ p 11 (bI true)) p k = fI τ p k := fun k hk => tI_ne (Or.inr hk)
  refine ⟨(hI 4 (by decide)).trans c1, ⟨a, true, (hI 10 (by decide)).trans g1, tI_at, Bool.or_true a⟩, ?_⟩
  unfold cdf
  rw [hI 5 (by decide), hI 13 (by decide), hI 15 (by decide), hI 16 (by decide)]
  exact c3
theorem k_bg_125 (hF : 4128 < F) : ∀ (l : List (List Nat)) (i f k : Nat) (sk : Nat → Nat × Nat × Nat) (L : Nat) (τ : px_TT) (own : Nat → Nat × Nat) (xs : px_NL) (od : List Nat), ws.drop i = l → i + l.length = ws.length → l.length < f → GS sk L → GR τ → NP sk L τ own → CW sk L τ ws → CLn sk L τ tb xs od [] → xs.length + l.length ≤ 4096 → RMk sk L (k + l.length) → ∃ sk' L' τ' own', f_Link_begin_125 F c f 147 (nI i) (cH sk L τ) = some ((), cH sk' L' τ') ∧ EX sk L sk' L' ∧ RMk sk' L' k ∧ NP sk' L' τ' own' ∧ CLn sk' L' τ' tb (tlW l xs) od [] ∧ frLk τ τ' := by
  intro l
  induction l with
  | nil =>
    intro i f k sk L τ own xs od hd hil0 hf hS hR hn hg hC hx hr
    obtain ⟨f, rfl⟩ : ∃ x, f = x + 1 := ⟨f - 1, by omega⟩
    have o147 := G147 hS
    obtain ⟨s1, s2, s3, s4, s5, s6, s7⟩ := id hg
    rw [List.length_nil] at hil0
    refine ⟨sk, L, τ, own, ?_, EX_refl, hr, hn, hC, frLk_refl⟩
    unfold f_Link_begin_125 f_Link_begin_161
    rw [C3r2 o147 (GR_r (v := 143) hR (by decide)), bs, C6g2 s1, bs, s6, if_pos (nI_le (by omega) (by omega))]
  | cons g l ih =>
    intro i f k sk L τ own xs od hd hil0 hf hS hR hn hg hC hx hr
    obtain ⟨f, rfl⟩ : ∃ x, f = x + 1 := ⟨f - 1, by omega⟩
    have o147 := G147 hS
    obtain ⟨s1, s2, s3, s4, s5, s6, s7⟩ := id hg
    rw [List.length_cons] at hf hx hr hil0
    have hgi : ws[i]? = some g := by
      have := congrArg (fun z => z[0]?) hd
      simp only [List.getElem?_drop, Nat.add_zero, List.getElem?_cons_zero] at this
      exact this
    have hil := (List.getElem?_eq_some_iff.mp hgi).1
    have hd' : ws.drop (i + 1) = l := by
      have := congrArg List.tail hd
      rw [List.tail_drop] at this
      exact this
    obtain ⟨n1, n2, n3, n4, n5⟩ := k_natG (F := F) (c := c) hg hgi
    generalize hP : (eN τ 144 i).getD 0 = p at *
    have hto : oth2 149 (xs.map Prod.fst).length τ p := Or.inr ⟨144, i, Or.inr (Or.inl rfl), n5, fun e => by omega⟩
    have hxl : (xs.map Prod.fst).length = xs.length := List.length_map ..
    obtain ⟨sk1, L1, τ1, own1, e1, e2, e3, e4, e5, e6, e7, e8⟩ := k_enterG (F := F) (c := c) (k := k + l.length) hS hC.1 hn (Or.inr (Or.inr rfl)) (by decide) n2 hto n3 n4 (by rw [hxl]; omega) (by rw [hxl]; omega) hr
    rw [hxl] at e6 e8
    have hC1 := CLn_ent hC e5 e6 e7 e8
    have f1 := frLk_En hn e8
    have hS1 := GS_ex hS e2
    have hR1 := GR_Lk hR f1
    obtain ⟨r, p1, p2⟩ := plc_at (w := g) (xs := xs)
    obtain ⟨z1, z2, z3, z4⟩ := CLn_at hC1 p1
    have zq := (e4 149 _ _ (Or.inr (Or.inr rfl)) z2).1
    have fx : frX (pN τ1 149 (plc g (xs.map Prod.fst))) τ1 (tI τ1 (pN τ1 149 (plc g (xs.map Prod.fst))) 11 (bI true)) := frX_I (by decide) (by decide)
    have f2 := frLk_X e4 z2 fx
    have hC2 := CLn_upd (f := wsR) (od' := od) hC1 e4 p1 fx (crec_ws (hC1.2.1 _ _ p1).1) ⟨(tI_ne (Or.inl (by omega))).trans hC1.2.2.1.1, fun j d hd => hC1.2.2.1.2 j d hd⟩
    have hel := entL_len (w := g) (xs := xs)
    obtain ⟨sk3, L3, τ3, own3, j1, j2, j3, j4, j5, j6⟩ := ih (i + 1) f k sk1 L1 _ own1 (setR (entL g xs) (plc g (xs.map Prod.fst)) wsR) od hd' (by omega) (by omega) hS1 (GR_Lk hR1 f2) (NP_X e4 fx) (CW_Lk hg e2 (frLk_trans f1 f2)) hC2 (by rw [setR_len]; omega) e3
    refine ⟨sk3, L3, τ3, own3, ?_, EX_trans e2 j2, j3, j4, j5, frLk_trans f1 (frLk_trans f2 j6)⟩
    unfold f_Link_begin_125
    rw [C3r2 o147 (GR_r (v := 143) hR (by decide)), bs, C6g2 s1, bs, s6, if_neg (nI_ge hil (by omega)), C3r3 o147 (GR_r (v := 148) hR (by decide)), bs, bs, c_o s1, bs, n1, xb_mk, c_o hC.1.1, bs, e1, xb_mk, bs, show xpZ _ 5 11 _ (nI 1) = _ from C5z11 z3 true, bs, nI_add]
    exact j1
/-- the members are taken by no link yet -/
def frMb (τ τ' : px_TT) : Prop := (∀ a k, (¬ (10 ≤ a ∧ a < 138) ∨ (k ≠ 15 ∧ k ≠ 16)) → fI τ' a k = fI τ a k) ∧ τ'.2 = τ.2
theorem k_bg_2 : ∀ (d i f : Nat) (sk : Nat → Nat × Nat × Nat) (L : Nat) (τ : px_TT), i + d = 64 → d < f → GS sk L → GR τ → (∀ q, q < i → fI τ (10 + 2 * q) 15 = bI false ∧ fI τ (10 + 2 * q) 16 = nI 0) → ∃ τ', f_Link_begin_2 F c f 147 (nI i) (cH sk L τ) = f_Link_begin_37 F c 147 (cH sk L τ') ∧ GR τ' ∧ (∀ q, q < 64 → fI τ' (10 + 2 * q) 15 = bI false ∧ fI τ' (10 + 2 * q) 16 = nI 0) ∧ frMb τ τ' := by
  intro d
  induction d with
  | zero =>
    intro i f sk L τ hi hf hS hR hq
    obtain ⟨f, rfl⟩ : ∃ x, f = x + 1 := ⟨f - 1, by omega⟩
    refine ⟨τ, ?_, hR, fun q h => hq q (by omega), fun _ _ _ => rfl, rfl⟩
    unfold f_Link_begin_2
    rw [C3r0 (G147 hS) (GR_r (v := 9) hR (by decide)), bs, c_l (G9 hS) (by decide), bs, if_pos (nI_le (by omega) (by omega))]
  | succ d ih =>
    intro i f sk L τ hi hf hS hR hq
    obtain ⟨f, rfl⟩ : ∃ x, f = x + 1 := ⟨f - 1, by omega⟩
    have hi64 : i < 64 := by omega
    have o := G_of hS hi64
    have e9 := (hR.2.1 i hi64).2.2.1
    have hR1 : GR (tI τ (10 + 2 * i) 15 (bI false)) := GR_I hR (Or.inr (Or.inr (by decide)))
    have e9' : eN (tI τ (10 + 2 * i) 15 (bI false)) 9 i = some (10 + 2 * i) := e9
    have hR2 : GR (tI (tI τ (10 + 2 * i) 15 (bI false)) (10 + 2 * i) 16 (nI 0)) := GR_I hR1 (Or.inr (Or.inr (by decide)))
    obtain ⟨τ', j1, j2, j3, j4⟩ := ih (i + 1) f sk L (tI (tI τ (10 + 2 * i) 15 (bI false)) (10 + 2 * i) 16 (nI 0)) (by omega) (by omega) hS hR2 (fun q h => by
      by_cases cq : q = i
      · rw [cq]
        exact ⟨by rw [fI_tI, if_neg (by omega), fI_tI, if_pos ⟨rfl, rfl⟩], by rw [fI_tI, if_pos ⟨rfl, rfl⟩]⟩
      · rw [fI_tI, if_neg (by omega), fI_tI, if_neg (by omega), fI_tI, if_neg (by omega), fI_tI, if_neg (by omega)]
        exact hq q (by omega))
    refine ⟨τ', ?_, j2, j3, fun a k h => ?_, j4.2.trans rfl⟩
    · unfold f_Link_begin_2
      rw [C3r0 (G147 hS) (GR_r (v := 9) hR (by decide)), bs, c_l (G9 hS) (by decide), bs, if_neg (nI_ge (by omega) (by omega)), bs, c_aN (G9 hS) (by decide) (by decide) hi64, bs, e9, bs, show xpZ _ 7 15 _ (nI 0) = _ from C7z15 o false, bs, C3r0 (G147 hS) (GR_r (v := 9) hR1 (by decide)), bs, c_aN (G9 hS) (by decide) (by decide) hi64, bs, e9', bs, C7p16 o, bs, nI_add]
      exact j1
    · rw [j4.1 a k h, fI_tI, if_neg (by omega), fI_tI, if_neg (by omega)]
theorem k_begin {gs : List (List Nat × Int64)} {sk : Nat → Nat × Nat × Nat} {L k : Nat} {τ : px_TT} {own : Nat → Nat × Nat} (hF : 4128 < F) (hS : GS sk L) (hR : GR τ) (hn : NP sk L τ own) (hg : CG sk L τ gs) (hw : CW sk L τ ws) (hr : RMk sk L (k + 32)) (hnd : (gs.map Prod.fst).Nodup) : ∃ sk' L' τ' own', f_Link_begin F c 147 (cH sk L τ) = some ((), cH sk' L' τ') ∧ EX sk L sk' L' ∧ RMk sk' L' k ∧ NP sk' L' τ' own' ∧ GR τ' ∧ CG sk' L' τ' gs ∧ CW sk' L' τ' ws ∧ CLn sk' L' τ' tb (xs0 gs ws) (od0 gs) [] ∧ (∀ q, q < 64 → fI τ' (10 + 2 * q) 15 = bI false ∧ fI τ' (10 + 2 * q) 16 = nI 0) ∧ (fI τ' 147 14 = nI 0 ∧ fI τ' 147 17 = nI 0 ∧ fJ τ' 147 19 = lN 0 ∧ fN τ' 147 13 = some 1696) ∧ (∀ a k, a < 1815 → (¬ (10 ≤ a ∧ a < 138) ∨ (k ≠ 15 ∧ k ≠ 16)) → (a ≠ 148 ∨ k ≠ 2) → (a ≠ 147 ∨ (k ≠ 14 ∧ k ≠ 15 ∧ k ≠ 17)) → fI τ' a k = fI τ a k) ∧ (∀ a, eI τ' a = eI τ a) ∧ (∀ a, a ≠ 149 → a ≠ 1693 → eN τ' a = eN τ a) ∧ (∀ a k, a < 1815 → (a ≠ 147 ∨ k ≠ 19) → fJ τ' a k = fJ τ a k) ∧ (∀ a k, a < 1815 → (a ≠ 147 ∨ k ≠ 13) → fN τ' a k = fN τ a k) ∧ ∀ a, eJ τ' a = eJ τ a := by
  have o147 := G147 hS
  have o148 := G148 hS
  obtain ⟨τ1, a1, a2, a3, a4⟩ := k_bg_2 (F := F) (c := c) 64 0 F sk L τ rfl (by omega) hS hR (fun q h => by omega)
  have hgl : gs.length ≤ 16 := by have := hg.1.2.2.2.1; rw [List.length_map] at this; exact this
  have hwl : ws.length ≤ 16 := hw.2.2.2.1
  have eJ1 : ∀ a k, fJ τ1 a k = fJ τ a k := fun a k => by show τ1.2.1 a k = τ.2.1 a k; rw [a4.2]
  have eN1 : ∀ a k, fN τ1 a k = fN τ a k := fun a k => by show τ1.2.2.1 a k = τ.2.2.1 a k; rw [a4.2]
  have eE1 : ∀ a, eI τ1 a = eI τ a := fun a => by show τ1.2.2.2.1 a = τ.2.2.2.1 a; rw [a4.2]
  have eF1 : ∀ a, eN τ1 a = eN τ a := fun a => by show τ1.2.2.2.2.2 a = τ.2.2.2.2.2 a; rw [a4.2]
  obtain ⟨τ2, hτ2⟩ : ∃ x, x = tI (tN (tJ (tI (tI (tI τ1 147 14 (nI 0)) 147 15 (nI 0)) 147 17 (nI 0)) 147 19 (lN 0)) 147 13 (some 1696)) 148 2 (nI 0) := ⟨_, rfl⟩
  have gI2 : ∀ a k, a ≠ 147 → a ≠ 148 → fI τ2 a k = fI τ1 a k := fun a k h1 h2 => by rw [hτ2]; simp only [fI_tI, fI_tJ, fI_tN, h1, h2, false_and, if_false]
  have gJ2 : ∀ a k, a ≠ 147 → fJ τ2 a k = fJ τ1 a k := fun a k h1 => by rw [hτ2]; simp only [fJ_tI, fJ_tJ, fJ_tN, h1, false_and, if_false]
  have gN2 : ∀ a k, (a ≠ 147 ∨ k ≠ 13) → fN τ2 a k = fN τ1 a k := fun a k h1 => by
    rw [hτ2]
    simp only [fN_tI, fN_tJ, fN_tN]
    rw [if_neg (fun q => h1.elim (fun e => e q.1) (fun e => e q.2))]
  have gE2 : ∀ a, eI τ2 a = eI τ1 a := fun a => by rw [hτ2]; rfl
  have gF2 : ∀ a, eN τ2 a = eN τ1 a := fun a => by rw [hτ2]; rfl
  have v14 : fI τ2 147 14 = nI 0 := by rw [hτ2]; simp [fI_tI, fI_tJ, fI_tN]
  have v15 : fI τ2 147 15 = nI 0 := by rw [hτ2]; simp [fI_tI, fI_tJ, fI_tN]
  have v17 : fI τ2 147 17 = nI 0 := by rw [hτ2]; simp [fI_tI, fI_tJ, fI_tN]
  have v19 : fJ τ2 147 19 = lN 0 := by rw [hτ2]; simp [fJ_tI, fJ_tJ, fJ_tN]
  have v13 : fN τ2 147 13 = some 1696 := by rw [hτ2]; simp [fN_tI, fN_tJ, fN_tN]
  have v2 : fI τ2 148 2 = nI 0 := by rw [hτ2]; simp [fI_tI, fI_tJ, fI_tN]
  have vo : ∀ k, k ≠ 14 → k ≠ 15 → k ≠ 17 → fI τ2 147 k = fI τ1 147 k := fun k h1 h2 h3 => by rw [hτ2]; simp [fI_tI, fI_tJ, fI_tN, h1, h2, h3]
  have vp : ∀ k, k ≠ 2 → fI τ2 148 k = fI τ1 148 k := fun k h1 => by rw [hτ2]; simp [fI_tI, fI_tJ, fI_tN, h1]
  have g12 : fN τ1 147 12 = some 1696 := GR_r a2 (by decide)
  have g148 : fN τ1 147 3 = some 148 := GR_r a2 (by decide)
  have e37 : f_Link_begin_37 F c 147 (cH sk L τ1) = f_Link_begin_75 F c F 147 (nI 0) (cH sk L τ2) := by
    unfold f_Link_begin_37
    rw [C3p14 o147, bs, C3p15 o147, bs, C3p17 o147, bs, C3p19 o147, bs, C3r12 o147 (show fN (tJ (tI (tI (tI τ1 147 14 (nI 0)) 147 15 (nI 0)) 147 17 (nI 0)) 147 19 (lN 0)) 147 12 = some 1696 from g12), bs, C3w13 o147, bs, C3r3 o147 (show fN (tN (tJ (tI (tI (tI τ1 147 14 (nI 0)) 147 15 (nI 0)) 147 17 (nI 0)) 147 19 (lN 0)) 147 13 (some 1696)) 147 3 = some 148 from by
      rw [fN_tN, if_neg (by decide)]
      exact g148), bs, C6p2 o148, bs, ← hτ2]
  have hgr : ∀ x, x ∈ grl → x.1 ≠ 147 ∨ x.2.1 ≠ 13 := by decide
  have hR2 : GR τ2 := ⟨fun x hx => (gN2 _ _ (hgr x hx)).trans (a2.1 x hx), fun i hi => by
    obtain ⟨b1, b2, b3, b4, b5⟩ := a2.2.1 i hi
    exact ⟨(gN2 _ _ (Or.inl (by omega))).trans b1, (gN2 _ _ (Or.inl (by omega))).trans b2, by rw [gF2]; exact b3, (gI2 _ _ (by omega) (by omega)).trans b4, (gI2 _ _ (by omega) (by omega)).trans b5⟩, fun i hi => by rw [gF2]; exact a2.2.2 i hi⟩
  have hSH : SH τ τ2 := ⟨fun a k h => (gI2 a k (by omega) (by omega)).trans (a4.1 a k (Or.inl (by omega))), fun a k h => (gJ2 a k (by omega)).trans (eJ1 a k), fun a k h => (gN2 a k (Or.inl (by omega))).trans (eN1 a k), fun a _ => (gF2 a).trans (eF1 a)⟩
  have hg2 := CG_sh hg hSH hn
  have hw2 := CW_sh hw hSH hn
  have hn2 : NP sk L τ2 own := fun A i q hA hq => hn A i q hA (by rw [gF2, eF1] at hq; exact hq)
  have hC2 : CLn sk L τ2 tb [] [] [] := ⟨⟨o148, GR_r (v := 149) hR2 (by decide), G149 hS, Nat.zero_le _, by decide, v2, fun i w h => by rw [List.map_nil, List.getElem?_nil] at h; cases h⟩, (fun i x h => by rw [List.getElem?_nil] at h; cases h), ⟨v15, fun i d h => by rw [List.getElem?_nil] at h; cases h⟩, fun w h => nomatch h⟩
  obtain ⟨sk3, L3, τ3, own3, b1, b2, b3, b4, b5, b6⟩ := k_bg_75 (F := F) (c := c) (tb := tb) hF gs 0 F (k + ws.length) sk L τ2 own [] [] List.drop_zero (by omega) (by omega) hS hR2 hn2 hg2 hC2 (by rw [List.length_nil]; omega) (by rw [List.length_nil]; omega) ⟨by have := hr.1; omega, by have := hr.2; omega⟩ (fun g _ q => nomatch q) hnd
  have hgl2 := (tlG_inv gs ([], []) (fun i x hx => by rw [List.getElem?_nil] at hx; cases hx) List.Pairwise.nil (fun d hd => nomatch hd)).2.2.2.1
  have hgl2 : (tlG gs ([], [])).1.length ≤ 0 + gs.length := hgl2
  obtain ⟨sk4, L4, τ4, own4, c1, c2, c3, c4, c5, c6⟩ := k_bg_125 (F := F) (c := c) (tb := tb) hF ws 0 F k sk3 L3 τ3 own3 (tlG gs ([], [])).1 (tlG gs ([], [])).2 List.drop_zero (by omega) (by omega) (GS_ex hS b2) (GR_Lk hR2 b6) b4 (CW_Lk hw2 b2 b6) b5 (by omega) b3
  have f4 := frLk_trans b6 c6
  have e4 := EX_trans b2 c2
  refine ⟨sk4, L4, τ4, own4, ?_, e4, c3, c4, GR_Lk hR2 f4, CG_Lk hg2 e4 f4, CW_Lk hw2 e4 f4, c5, fun q hq => ?_, ⟨?_, ?_, ?_, ?_⟩, fun a k h1 h2 h3 h4 => ?_, fun a => by rw [f4.2.2.2.1, gE2, eE1], fun a h1 h2 => by rw [f4.2.2.2.2.2.1 a h1 h2, gF2, eF1], fun a k h1 h2 => ?_, fun a k h1 h2 => by rw [f4.2.2.1 a k h1, gN2 a k h2, eN1], fun a => by rw [f4.2.2.2.2.1 a]; show eJ τ2 a = _; rw [hτ2]; show τ1.2.2.2.2.1 a = τ.2.2.2.2.1 a; rw [a4.2]⟩
  · unfold f_Link_begin
    rw [a1, e37, b1]
    unfold f_Link_begin_123
    exact c1
  · rw [f4.1 _ 15 (by omega) (Or.inl (by omega)) (Or.inl (by omega)), f4.1 _ 16 (by omega) (Or.inl (by omega)) (Or.inl (by omega)), gI2 _ _ (by omega) (by omega), gI2 _ _ (by omega) (by omega)]
    exact a3 q hq
  · exact (f4.1 147 14 (by decide) (Or.inl (by decide)) (Or.inr (by decide))).trans v14
  · exact (f4.1 147 17 (by decide) (Or.inl (by decide)) (Or.inr (by decide))).trans v17
  · exact (f4.2.1 147 19 (by decide)).trans v19
  · exact (f4.2.2.1 147 13 (by decide)).trans v13
  · rw [f4.1 a k h1 h3 (h4.elim Or.inl (fun q => Or.inr q.2.1))]
    by_cases d1 : a = 147
    · have h4 := h4.resolve_left (fun q => q d1)
      rw [d1, vo k h4.1 h4.2.1 h4.2.2]
      exact a4.1 147 k (Or.inl (by omega))
    · by_cases d2 : a = 148
      · have h3 := h3.resolve_left (fun q => q d2)
        rw [d2, vp k h3]
        exact a4.1 148 k (Or.inl (by omega))
      · rw [gI2 a k d1 d2]
        exact a4.1 a k h2
  · rw [f4.2.1 a k h1]
    by_cases d1 : a = 147
    · have h2 := h2.resolve_left (fun q => q d1)
      rw [d1, hτ2]
      simp only [fJ_tI, fJ_tJ, fJ_tN]
      rw [if_neg (fun q => h2 q.2)]
      exact eJ1 147 k
    · rw [gJ2 a k d1, eJ1]
end CBH
end
section
/-! is a name wanted; the name of a symbol, read by the class -/
theorem run_c {b b' : Nat → Nat} : ∀ (c p p' r : Nat), run b p' c = r → r < c → (∀ i, i ≤ r → b' (p + i) = b (p' + i)) → ∀ c', r ≤ c' → run b' p c' = r := by
  intro c
  induction c with
  | zero => intro p p' r _ h; omega
  | succ c ih =>
    intro p p' r h1 h2 h3 c' hc
    have h0 := h3 0 (Nat.zero_le _)
    rw [Nat.add_zero, Nat.add_zero] at h0
    unfold run at h1
    by_cases c1 : b p' = 0
    · rw [if_pos c1] at h1
      cases c' with
      | zero => unfold run; exact h1
      | succ c' => unfold run; rw [if_pos (by rw [h0]; exact c1)]; exact h1
    · rw [if_neg c1] at h1
      cases c' with
      | zero => omega
      | succ c' =>
        unfold run
        rw [if_neg (by rw [h0]; exact c1), ih (p + 1) (p' + 1) (r - 1) (by omega) (by omega) (fun i hi => by
          have := h3 (i + 1) (by omega)
          rw [show p + (i + 1) = p + 1 + i by omega, show p' + (i + 1) = p' + 1 + i by omega] at this
          exact this) c' (by omega)]
        omega
theorem tk_x {b b' : Nat → Nat} {p p' k : Nat} (h : ∀ i, i < k → b' (p + i) = b (p' + i)) : tk b' p k = tk b p' k := by
  apply List.ext_getElem?
  intro j
  by_cases c : j < k
  · rw [tk_get b' p k j c, tk_get b p' k j c, h j c]
  · rw [List.getElem?_eq_none (by rw [tk_len]; omega), List.getElem?_eq_none (by rw [tk_len]; omega)]
theorem sym_T {S : Nat → Int32} {base n ss j : Nat} (hw : w2 (cb S base n) n) (hj : j < oM (cb S base n)) (hg : yG (cb S base n) j = true) (hs : base + n ≤ ss) : tk (fun i => if i < ss then b8 (S i) else 0) (base + oP (cb S base n) (oX (cb S base n)) + yN (cb S base n) j) (run (fun i => if i < ss then b8 (S i) else 0) (base + oP (cb S base n) (oX (cb S base n)) + yN (cb S base n) j) 20) = yT (cb S base n) j := by
  have hY := w2_M0 hj
  obtain ⟨x1, x2, x3, x4⟩ := hw.2 hY
  have hP := hw.1.2.2.2.1 _ x3 (by rw [x4]; decide) (by rw [x4]; decide)
  obtain ⟨g1, g2, g3⟩ := yG_n hg
  unfold yT
  have eL : yL (cb S base n) j = run (cb S base n) (oP (cb S base n) (oX (cb S base n)) + yN (cb S base n) j) 21 := rfl
  have hb : ∀ k, k < n → (fun i => if i < ss then b8 (S i) else 0) (base + k) = cb S base n k := fun k hk => by
    show (if base + k < ss then b8 (S (base + k)) else 0) = _
    rw [if_pos (by omega), cb_at hk]
  generalize (fun i => if i < ss then b8 (S i) else 0) = S' at *
  generalize oP (cb S base n) (oX (cb S base n)) = P at *
  generalize oZ (cb S base n) (oX (cb S base n)) = Z at *
  generalize yN (cb S base n) j = N at *
  generalize yL (cb S base n) j = l at *
  generalize cb S base n = b at *
  have hbb : ∀ i, i ≤ l → S' (base + P + N + i) = b (P + N + i) := fun i hi => by
    rw [show base + P + N + i = base + (P + N + i) by omega]
    exact hb _ (by omega)
  rw [run_c 21 (base + P + N) (P + N) l eL.symm (by omega) hbb 20 (by omega)]
  exact tk_x (fun i hi => hbb i (by omega))
section CWT
variable {F : Nat} {c : px_CT} {sk : Nat → Nat × Nat × Nat} {L : Nat} {τ : px_TT} {tb : Nat → Nat → Nat} {p q g base n j : Nat} {S : Nat → Int32} {r : px_NR}
theorem k_mw {a b : Bool} (hp : ob sk L 5 p) (h1 : fI τ p 10 = bI a) (h2 : fI τ p 11 = bI b) : f_Name_isMissedOrWished F c p (cH sk L τ) = some (bI (a || b), cH sk L τ) := by
  unfold f_Name_isMissedOrWished f_Name_isMissedOrWished_14 f_Name_isMissedOrWished_19
  rw [C5g10 hp, bs, h1]
  cases a with
  | true => rw [if_neg (show ¬ bI true = 0 by decide), xz_1]; rfl
  | false =>
    rw [if_pos (show bI false = 0 from rfl), C5g11 hp, bs, h2]
    cases b with
    | true => rw [if_neg (show ¬ bI true = 0 by decide), xz_1]; rfl
    | false => rw [if_pos (show bI false = 0 from rfl), xz_0]; rfl
theorem k_isWanted (hp : ob sk L 5 p) (hc : crec tb τ p r) (hr : r.1 ≤ 4) : f_Link_isWanted F c (some p) (cH sk L τ) = some (bI (decide (r.1 = 0) && r.2.1), cH sk L τ) := by
  obtain ⟨c1, ⟨a, b, g1, g2, g3⟩, _⟩ := hc
  unfold f_Link_isWanted f_Link_isWanted_18 f_Link_isWanted_19
  rw [bs, C5g4 hp, bs, c1]
  by_cases d : r.1 = 0
  · rw [if_neg (show ¬ r.1 = 4 by omega), if_pos (show nI r.1 = 0 by rw [d]; rfl), c_o hp, bs, k_mw hp g1 g2, xb_mk, g3, decide_eq_true d]
    cases r.2.1 with
    | true => rw [if_neg (show ¬ bI true = 0 by decide), xz_1]; rfl
    | false => rw [if_pos (show bI false = 0 from rfl), xz_0]; rfl
  · rw [if_neg (show ¬ nI (if r.1 = 4 then 3 else r.1) = 0 from fun q => by
      have := (nI_eq (b := 0) (by split <;> omega) (by decide)).mp q
      split at this <;> omega), xz_0, decide_eq_false d]
    rfl
theorem k_isDefining (hs : cS sk L τ q g base n S) (hF : 8 < F) (h1 : 1 ≤ j) (hj : j < oM (cb S base n)) (hy : yB (cb S base n) j < 16) (hw : yW (cb S base n) j < 65536) : f_ObjectFile_isDefining F c q (nI j) (cH sk L τ) = some (bI (decide (¬ (yB (cb S base n) j = 0 ∨ yW (cb S base n) j = 0))), cH sk L τ) := by
  have o := hs.1.1.1.1
  unfold f_ObjectFile_isDefining f_ObjectFile_isDefining_20 f_ObjectFile_isDefining_21
  rw [c_o o, bs, k_bindOf hs hF h1 hj, xb_mk]
  by_cases d : yB (cb S base n) j = 0
  · rw [if_pos (by rw [d]; rfl), xz_0, decide_eq_false (fun e => e (Or.inl d))]
  · rw [if_neg (show ¬ nI (yB (cb S base n) j) = 0 from fun e => d ((nI_eq (b := 0) (by omega) (by decide)).mp e)), c_o o, bs, k_whereOf hs hF hj, xb_mk]
    by_cases d2 : yW (cb S base n) j = 0
    · rw [if_pos (by rw [d2]; rfl), xz_0, decide_eq_false (fun e => e (Or.inr d2))]
    · rw [if_neg (show ¬ nI (yW (cb S base n) j) = 0 from fun e => d2 ((nI_eq (b := 0) (by omega) (by decide)).mp e)), xz_1, decide_eq_true (show ¬ (yB (cb S base n) j = 0 ∨ yW (cb S base n) j = 0) from fun e => e.elim d d2)]
end CWT
end
section
/-! firstWanted of the class -/
def fwJ (g : Nat → Option Nat) : Nat → Nat → Nat
  | _, 0 => 0
  | k, c + 1 => if (g k).isSome = true then k else fwJ g (k + 1) c
theorem fwJ_s (g : Nat → Option Nat) (k c : Nat) : fwJ g k (c + 1) = if (g k).isSome = true then k else fwJ g (k + 1) c := rfl
theorem fwJ_pos (g : Nat → Option Nat) : ∀ (c k : Nat), 1 ≤ k → (0 < fwJ g k c ↔ (hpf g k c).isSome = true) := by
  intro c
  induction c with
  | zero => intro k _; unfold fwJ hpf; exact ⟨fun h => by omega, fun h => by cases h⟩
  | succ c ih =>
    intro k hk
    rw [fwJ_s]
    unfold hpf
    cases e : g k with
    | some i => rw [if_pos (show (some i).isSome = true from rfl)]; exact ⟨fun _ => rfl, fun _ => by omega⟩
    | none => rw [if_neg (by decide)]; exact ih (k + 1) (by omega)
section CFW
variable {F : Nat} {c : px_CT} {sk : Nat → Nat × Nat × Nat} {L : Nat} {τ τ' : px_TT} {tb : Nat → Nat → Nat} {q g base n ss : Nat} {S : Nat → Int32} {xs : px_NL} {od : List Nat} {sg : List (List Nat)} {own : Nat → Nat × Nat}
theorem cS_N (h : cS sk L τ q g base n S) (f : frN 1695 τ τ') (hq : q ≠ 1695) : cS sk L τ' q g base n S := by
  have hI : ∀ k, fI τ' q k = fI τ q k := fun k => f.1 q k (Or.inl hq)
  unfold cS cG cR cO cY at h ⊢
  rw [hI, hI, hI, hI, hI, hI, hI, hI, hI, f.2.2.1, f.2.2.1, f.2.2.1, f.2.2.2.1, f.2.2.2.1]
  exact h
theorem CLn_N (h : CLn sk L τ tb xs od sg) (hn : NP sk L τ own) (f : frN 1695 τ τ') : CLn sk L τ' tb xs od sg := by
  obtain ⟨s1, s2, s3, s4, s5, s6, s7⟩ := id h.1
  have eP : ∀ j, pN τ' 149 j = pN τ 149 j := fun j => by unfold pN; rw [f.2.2.2.2.2]
  refine ⟨⟨s1, (f.2.2.1 148 0).trans s2, s3, s4, s5, (f.1 148 2 (Or.inl (by decide))).trans s6, fun j v hv => ?_⟩, fun i x hx => ?_, ⟨(f.1 147 15 (Or.inl (by decide))).trans h.2.2.1.1, fun i d hd => ?_⟩, h.2.2.2⟩
  · obtain ⟨y1, y2, y3, y4⟩ := s7 j v hv
    have := (hn 149 j _ (Or.inr (Or.inr rfl)) y2).1
    rw [eP, f.2.2.2.2.2]
    exact ⟨y1, y2, y3, (f.2.1 _ 0 (Or.inl (by omega))).trans y4.1, (f.2.1 _ 1 (Or.inl (by omega))).trans y4.2.1, (f.2.1 _ 2 (Or.inl (by omega))).trans y4.2.2.1, (f.1 _ 3 (Or.inl (by omega))).trans y4.2.2.2⟩
  · obtain ⟨y1, y2, y3, y4⟩ := CLn_at h hx
    have := (hn 149 i _ (Or.inr (Or.inr rfl)) y2).1
    obtain ⟨r1, r2⟩ := h.2.1 i x hx
    rw [eP]
    exact ⟨crec_fr r1 (fun k => f.1 _ k (Or.inl (by omega))) (fun k => f.2.1 _ k (Or.inl (by omega))) (fun k => f.2.2.1 _ k), (f.1 _ 12 (Or.inl (by omega))).trans r2⟩
  · rw [eP, f.2.2.2.2.2]; exact h.2.2.1.2 i d hd
theorem NP_N (hn : NP sk L τ own) (f : frN 1695 τ τ') : NP sk L τ' own := fun A i p hA hp => hn A i p hA (by rw [f.2.2.2.2.2] at hp; exact hp)
theorem GR_N (hR : GR τ) (f : frN 1695 τ τ') : GR τ' := GR_mv hR (fun a k _ => f.2.2.1 a k) (fun a k ha _ => f.1 a k (Or.inl (by omega))) (f.2.2.2.2.2 9) (f.2.2.2.2.2 151)
/-- the class reads the name of symbol j into its probe -/
theorem k_probe {j : Nat} (hS : GS sk L) (hs : cS sk L τ q g base n S) (hF : 20 < F) (h71 : fI τ 7 1 = nI ss) (hss : base + n ≤ ss) (hs2 : ss ≤ 65536) (hj : j < oM (cb S base n)) (hg : yG (cb S base n) j = true) : ∃ τ', f_Name_read F c 1695 7 (nI (base + oP (cb S base n) (oX (cb S base n)) + yN (cb S base n) j)) (cH sk L τ) = some ((), cH sk L τ') ∧ frN 1695 τ τ' ∧ isNm τ' 1695 (yT (cb S base n) j) := by
  obtain ⟨o1, o2, o3, o4, o5, o6, o7, o8, o9, o10⟩ := hs.1.1.1
  obtain ⟨x1, x2, x3, x4⟩ := hs.2.2.2 (w2_M0 hj)
  have hP := hs.2.2.1.2.2.2.1 _ x3 (by rw [x4]; decide) (by rw [x4]; decide)
  obtain ⟨g1, g2, g3⟩ := yG_n hg
  obtain ⟨τ', a1, a2, a3⟩ := k_nread (F := F) (c := c) (p := base + oP (cb S base n) (oX (cb S base n)) + yN (cb S base n) j) (τ := τ) (G1695 hS) o3 o5 hs2 (by decide) (by omega) (by decide) hF o4 o6 h71
  rw [sym_T hs.2.2 hj hg hss] at a3
  exact ⟨τ', a1, a2, a3⟩
theorem k_fw_2 (hS : GS sk L) (hF : 4128 < F) (hq : q ≠ 1695) (hss : base + n ≤ ss) (hs2 : ss ≤ 65536) (hok : okL xs) (hy : ∀ k, 1 ≤ k → k < oM (cb S base n) → yOK (cb S base n) k = true) (hB : ∀ k, yB (cb S base n) k < 16 ∧ yW (cb S base n) k < 65536) : ∀ (d j f : Nat) (τ : px_TT), j + d = oM (cb S base n) → 1 ≤ j → d < f → GR τ → NP sk L τ own → CLn sk L τ tb xs od sg → cS sk L τ q g base n S → fI τ 7 1 = nI ss → ∃ τ', f_Link_firstWanted_2 F c f 147 (some q) (nI j) (cH sk L τ) = some (nI (fwJ (hp1 (cb S base n) xs) j d), cH sk L τ') ∧ frN 1695 τ τ' := by
  intro d
  induction d with
  | zero =>
    intro j f τ hj h1 hf hR hn hC hs h71
    obtain ⟨f, rfl⟩ : ∃ x, f = x + 1 := ⟨f - 1, by omega⟩
    have hM := w2_M hs.2.2
    refine ⟨τ, ?_, frN_refl _ _⟩
    unfold f_Link_firstWanted_2 f_Link_firstWanted_65
    rw [bs, C7g11 hs.1.1.1.1, bs, hs.2.1.2.1, if_pos (nI_le (by omega) (by omega))]
    rfl
  | succ d ih =>
    intro j f τ hj h1 hf hR hn hC hs h71
    obtain ⟨f, rfl⟩ : ∃ x, f = x + 1 := ⟨f - 1, by omega⟩
    have hM := w2_M hs.2.2
    have hjM : j < oM (cb S base n) := by omega
    have o := hs.1.1.1.1
    have hyk := hy j h1 hjM
    unfold f_Link_firstWanted_2 f_Link_firstWanted_59 f_Link_firstWanted_57
    rw [bs, C7g11 o, bs, hs.2.1.2.1, if_neg (nI_ge hjM (by omega)), c_o o, bs, k_isDefining hs (by omega) h1 hjM (hB j).1 (hB j).2, xb_mk, fwJ_s]
    by_cases cd : yB (cb S base n) j = 0 ∨ yW (cb S base n) j = 0
    · have eh : hp1 (cb S base n) xs j = none := by unfold hp1; rw [if_pos cd]
      rw [decide_eq_false (fun e => e cd), if_pos (show bI false = 0 from rfl), nI_add, eh, if_neg (by decide)]
      exact ih (j + 1) f τ (by omega) (by omega) (by omega) hR hn hC hs h71
    · rw [decide_eq_true (show ¬ (yB (cb S base n) j = 0 ∨ yW (cb S base n) j = 0) from cd), if_neg (show ¬ bI true = 0 by decide)]
      have hg := (yOK_n hyk (fun e => cd (Or.inl e))).2.1
      obtain ⟨τ1, a1, a2, a3⟩ := k_probe (F := F) (c := c) hS hs (by omega) h71 hss hs2 hjM hg
      have hR1 := GR_N hR a2
      have hn1 := NP_N hn a2
      have hC1 := CLn_N hC hn a2
      have hs1 := cS_N hs a2 hq
      have h711 : fI τ1 7 1 = nI ss := (a2.1 7 1 (Or.inl (by decide))).trans h71
      have hokT : okN (yT (cb S base n) j) := okN_tk (cb_lt S base n) _ (yG_n hg).2.1
      have hxl := hC1.1.2.2.2.1
      rw [C3r11 (G147 hS) (GR_r (v := 1695) hR (by decide)), bs, C7r0 o hs.1.1.1.2.1, bs, c_o o, bs, k_nameStart hs (by omega) hjM, xb_mk, c_o (G1695 hS), bs, a1, xb_mk, C3r3 (G147 hS) (GR_r (v := 148) hR1 (by decide)), bs, C3r11 (G147 hS) (GR_r (v := 1695) hR1 (by decide)), bs, c_o hC1.1.1, bs, k_find hC1.1 (G1695 hS) a3 hokT (by omega), xb_mk]
      have next : hp1 (cb S base n) xs j = none → ∃ τ', f_Link_firstWanted_2 F c f 147 (some q) (nI j + nI 1) (cH sk L τ1) = some (nI (if (hp1 (cb S base n) xs j).isSome = true then j else fwJ (hp1 (cb S base n) xs) (j + 1) d), cH sk L τ') ∧ frN 1695 τ τ' := fun eh => by
        obtain ⟨τ', j1, j2⟩ := ih (j + 1) f τ1 (by omega) (by omega) (by omega) hR1 hn1 hC1 hs1 h711
        rw [eh, if_neg (by decide), nI_add]
        exact ⟨τ', j1, frN_trans a2 j2⟩
      cases ei : idx (yT (cb S base n) j) 0 (xs.map Prod.fst) with
      | none =>
        have eh : hp1 (cb S base n) xs j = none := by unfold hp1; rw [if_neg cd, ei]
        exact next eh
      | some i =>
        have hi := idx_lt ei
        rw [List.length_map] at hi
        have hi : i < xs.length := by omega
        have hx := List.getElem?_eq_getElem hi
        obtain ⟨z1, z2, z3, z4⟩ := CLn_at hC1 hx
        have hr := (hC1.2.1 i _ hx).1
        show ∃ τ', xb (f_Link_isWanted F c (some (pN τ1 149 i)) (cH sk L τ1)) _ = _ ∧ _
        rw [k_isWanted z3 hr (hok i _ hx).1, xb_mk]
        by_cases cw : xs[i].2.2.1 = true ∧ xs[i].2.1 = 0
        · have eh : hp1 (cb S base n) xs j = some i := by
            unfold hp1
            rw [if_neg cd, ei]
            show (match xs[i]? with
              | none => none
              | some x => if x.2.2.1 = true ∧ x.2.1 = 0 then some i else none) = _
            rw [hx]
            exact if_pos cw
          rw [cw.1, decide_eq_true cw.2, if_neg (show ¬ bI (true && true) = 0 by decide), eh, if_pos (show (some i).isSome = true from rfl)]
          exact ⟨τ1, rfl, a2⟩
        · have eh : hp1 (cb S base n) xs j = none := by
            unfold hp1
            rw [if_neg cd, ei]
            show (match xs[i]? with
              | none => none
              | some x => if x.2.2.1 = true ∧ x.2.1 = 0 then some i else none) = _
            rw [hx]
            exact if_neg cw
          have eb : (decide (xs[i].2.1 = 0) && xs[i].2.2.1) = false := by
            rw [Bool.and_eq_false_iff]
            by_cases e : xs[i].2.1 = 0
            · exact Or.inr (Bool.eq_false_iff.mpr (fun e2 => cw ⟨e2, e⟩))
            · exact Or.inl (decide_eq_false e)
          rw [eb, if_pos (show bI false = 0 from rfl)]
          exact next eh
end CFW
end
section
/-! enterNames of the class -/
theorem idx_app {w : List Nat} {l' : List (List Nat)} : ∀ {l : List (List Nat)} {k i : Nat}, idx w k l = some i → idx w k (l ++ l') = some i
  | [], k, i, h => by cases h
  | v :: l, k, i, h => by
    show (if v = w then some k else idx w (k + 1) (l ++ l')) = some i
    have h : (if v = w then some k else idx w (k + 1) l) = some i := h
    by_cases c : v = w
    · rw [if_pos c] at h ⊢; exact h
    · rw [if_neg c] at h ⊢; exact idx_app h
theorem plc_ent {w v : List Nat} {l : List (List Nat)} (h : v ∈ l) : plc v (ent w l) = plc v l := by
  obtain ⟨i, hi⟩ := Option.isSome_iff_exists.mp (idx_iff.mpr h)
  unfold ent
  split
  · rfl
  · unfold plc; rw [hi, idx_app hi]; rfl
theorem plc_lt {v : List Nat} {l : List (List Nat)} (h : v ∈ l) : plc v l < l.length := by
  obtain ⟨i, hi⟩ := Option.isSome_iff_exists.mp (idx_iff.mpr h)
  have := idx_lt hi
  unfold plc; rw [hi]
  show i < _
  omega
/-- symbol k of an object has a name -/
def hsN (b : Nat → Nat) (k : Nat) : Bool := decide (1 ≤ k ∧ k < oM b ∧ yB b k ≠ 0)
def ec1 (b : Nat → Nat) (k : Nat) (xs : px_NL) : px_NL := if hsN b k = true then entL (yT b k) xs else xs
/-- the name's cell in the class's table of symbols -/
def syN (τ : px_TT) (b : Nat → Nat) (xs : px_NL) (k : Nat) : Option Nat := if hsN b k = true then some (pN τ 149 (plc (yT b k) (xs.map Prod.fst))) else none
/-- rows of the table, up to j -/
def RSy (τ : px_TT) (t : Nat) (b : Nat → Nat) (xs : px_NL) (j : Nat) : Prop := ∀ k, k < j → eN τ 1692 (64 * t + k) = syN τ b xs k ∧ (hsN b k = true → yT b k ∈ xs.map Prod.fst)
/-- what entering an object's names leaves -/
def frSy (t N : Nat) (τ τ' : px_TT) : Prop := (∀ a k, a < 1815 → a ≠ 1695 → (a ≠ 148 ∨ k ≠ 2) → fI τ' a k = fI τ a k) ∧ (∀ a k, a < 1815 → a ≠ 1695 → fJ τ' a k = fJ τ a k) ∧ (∀ a k, a < 1815 → fN τ' a k = fN τ a k) ∧ (∀ a, eI τ' a = eI τ a) ∧ (∀ a, eJ τ' a = eJ τ a) ∧ (∀ a, a ≠ 149 → a ≠ 1692 → eN τ' a = eN τ a) ∧ (∀ i, (i < 64 * t ∨ 64 * t + 64 ≤ i) → eN τ' 1692 i = eN τ 1692 i) ∧ ∀ B i p, (B = 141 ∨ B = 144 ∨ (B = 149 ∧ i < N)) → eN τ B i = some p → eN τ' B i = some p ∧ (∀ k, fI τ' p k = fI τ p k) ∧ (∀ k, fJ τ' p k = fJ τ p k) ∧ ∀ k, fN τ' p k = fN τ p k
theorem frSy_refl {t N : Nat} {τ : px_TT} : frSy t N τ τ := ⟨fun _ _ _ _ _ => rfl, fun _ _ _ _ => rfl, fun _ _ _ => rfl, fun _ => rfl, fun _ => rfl, fun _ _ _ => rfl, fun _ _ => rfl, fun _ _ _ _ h => ⟨h, fun _ => rfl, fun _ => rfl, fun _ => rfl⟩⟩
theorem frSy_trans {t N N' : Nat} {τ τ1 τ2 : px_TT} (h : frSy t N τ τ1) (g : frSy t N' τ1 τ2) (hN : N ≤ N') : frSy t N τ τ2 := by
  refine ⟨fun a k h1 h2 h3 => (g.1 a k h1 h2 h3).trans (h.1 a k h1 h2 h3), fun a k h1 h2 => (g.2.1 a k h1 h2).trans (h.2.1 a k h1 h2), fun a k h1 => (g.2.2.1 a k h1).trans (h.2.2.1 a k h1), fun a => (g.2.2.2.1 a).trans (h.2.2.2.1 a), fun a => (g.2.2.2.2.1 a).trans (h.2.2.2.2.1 a), fun a h1 h2 => (g.2.2.2.2.2.1 a h1 h2).trans (h.2.2.2.2.2.1 a h1 h2), fun i h1 => (g.2.2.2.2.2.2.1 i h1).trans (h.2.2.2.2.2.2.1 i h1), fun B i p hB hp => ?_⟩
  have a1 := h.2.2.2.2.2.2.2 B i p hB hp
  have a2 := g.2.2.2.2.2.2.2 B i p (by omega) a1.1
  exact ⟨a2.1, fun k => (a2.2.1 k).trans (a1.2.1 k), fun k => (a2.2.2.1 k).trans (a1.2.2.1 k), fun k => (a2.2.2.2 k).trans (a1.2.2.2 k)⟩
section CES
variable {F : Nat} {c : px_CT} {sk : Nat → Nat × Nat × Nat} {L : Nat} {τ τ' : px_TT} {own : Nat → Nat × Nat} {t N : Nat}
theorem frSy_N (hn : NP sk L τ own) (f : frN 1695 τ τ') : frSy t N τ τ' := by
  refine ⟨fun a k _ h _ => f.1 a k (Or.inl h), fun a k _ h => f.2.1 a k (Or.inl h), fun a k _ => f.2.2.1 a k, f.2.2.2.1, f.2.2.2.2.1, fun a _ _ => f.2.2.2.2.2 a, fun i _ => by rw [f.2.2.2.2.2], fun B i p hB hp => ?_⟩
  have := (hn B i p (by omega) hp).1
  exact ⟨by rw [f.2.2.2.2.2]; exact hp, fun k => f.1 p k (Or.inl (by omega)), fun k => f.2.1 p k (Or.inl (by omega)), fun k => f.2.2.1 p k⟩
theorem frSy_En (hn : NP sk L τ own) (f : frEn 148 149 N τ τ') : frSy t N τ τ' := by
  refine ⟨fun a k h1 _ h2 => f.1 a k (Or.inl h1) h2, fun a k h1 _ => f.2.1 a k (Or.inl h1), fun a k h1 => f.2.2.1 a k (Or.inl h1), f.2.2.2.1, f.2.2.2.2.1, fun a h1 _ => f.2.2.2.2.2.1 a h1, fun i _ => by rw [f.2.2.2.2.2.1 1692 (by decide)], fun B i p hB hp => ?_⟩
  have hB3 : B = 141 ∨ B = 144 ∨ B = 149 := by omega
  have h1 := (hn B i p hB3 hp).1
  have ho : oth2 149 N τ p := Or.inr ⟨B, i, hB3, hp, fun e => by omega⟩
  refine ⟨?_, fun k => f.1 p k ho (Or.inl (by omega)), fun k => f.2.1 p k ho, fun k => f.2.2.1 p k ho⟩
  by_cases cB : B = 149
  · rw [cB] at hp ⊢
    rw [f.2.2.2.2.2.2 i (by omega)]; exact hp
  · rw [f.2.2.2.2.2.1 B cB]; exact hp
theorem frSy_v {j : Nat} {v : Option Nat} (hj : j < 64) : frSy t N τ (vN τ 1692 (va_up (eN τ 1692) (64 * t + j) v)) := by
  have hE : ∀ a, a ≠ 1692 → eN (vN τ 1692 (va_up (eN τ 1692) (64 * t + j) v)) a = eN τ a := fun a h => u1_ne h
  have hA : eN (vN τ 1692 (va_up (eN τ 1692) (64 * t + j) v)) 1692 = va_up (eN τ 1692) (64 * t + j) v := (u1_eq : u1 τ.2.2.2.2.2 1692 (va_up (eN τ 1692) (64 * t + j) v) 1692 = _)
  exact ⟨fun _ _ _ _ _ => rfl, fun _ _ _ _ => rfl, fun _ _ _ => rfl, fun _ => rfl, fun _ => rfl, fun a _ h => hE a h, fun i h => by rw [hA, va_up_n (by omega)], fun B i p hB hp => ⟨by rw [hE B (by omega)]; exact hp, fun _ => rfl, fun _ => rfl, fun _ => rfl⟩⟩
end CES
end
section
/-! enterNames of the class: the loop -/
section CEN
variable {F : Nat} {c : px_CT} {sk sk' : Nat → Nat × Nat × Nat} {L L' : Nat} {τ τ' : px_TT} {tb : Nat → Nat → Nat} {q g base n ss t N : Nat} {S : Nat → Int32} {xs : px_NL} {od : List Nat} {sg : List (List Nat)} {own : Nat → Nat × Nat} {b : Nat → Nat}
theorem c_sOv {ty ci n i a : Nat} {v : Option Nat} (h : ar sk L ty n a) (hty : ty = 4 ∨ ty = 5 ∨ ty = 6) (hn : n < 2 ^ 31) (hi : i < n) (ho : ∀ p, v = some p → ob sk L ci p) : xsO (cH sk L τ) ty ci a (nI i) v = some (cH sk L (vN τ a (va_up (eN τ a) i v))) := by
  cases v with
  | some p => exact c_sO h hty hn hi (ho p rfl)
  | none =>
    have hx : xco (cH sk L τ) ci none = true := rfl
    unfold xsO
    rw [c_N h hty, bs, if_neg (fun q => q.elim (nI_in hi hn) (fun r => by rw [hx] at r; cases r)), nI_clamp (by omega)]
    congr 1
    refine cH_set _ ?_ ?_
    · unfold cell
      rw [h.1, show eN (vN τ a (va_up (eN τ a) i none)) a = va_up (eN τ a) i none from u1_eq]
      rcases hty with e | e | e <;> rw [e] <;> rfl
    · intro b hb
      exact cell_eq (fun j => rfl) (fun _ => rfl) (fun _ => rfl) rfl rfl (u1_ne hb)
theorem CLn_e (h : CLn sk L τ tb xs od sg) (hI : ∀ a k, fI τ' a k = fI τ a k) (hJ : ∀ a k, fJ τ' a k = fJ τ a k) (hN : ∀ a k, fN τ' a k = fN τ a k) (h1 : eN τ' 149 = eN τ 149) (h2 : eN τ' 1693 = eN τ 1693) : CLn sk L τ' tb xs od sg := by
  obtain ⟨s1, s2, s3, s4, s5, s6, s7⟩ := id h.1
  have eP : ∀ j, pN τ' 149 j = pN τ 149 j := fun j => by unfold pN; rw [h1]
  refine ⟨⟨s1, (hN 148 0).trans s2, s3, s4, s5, (hI 148 2).trans s6, fun j v hv => ?_⟩, fun i x hx => ?_, ⟨(hI 147 15).trans h.2.2.1.1, fun i d hd => ?_⟩, h.2.2.2⟩
  · obtain ⟨y1, y2, y3, y4⟩ := s7 j v hv
    rw [eP, h1]
    exact ⟨y1, y2, y3, (hJ _ 0).trans y4.1, (hJ _ 1).trans y4.2.1, (hJ _ 2).trans y4.2.2.1, (hI _ 3).trans y4.2.2.2⟩
  · obtain ⟨r1, r2⟩ := h.2.1 i x hx
    rw [eP]
    exact ⟨crec_fr r1 (fun k => hI _ k) (fun k => hJ _ k) (fun k => hN _ k), (hI _ 12).trans r2⟩
  · rw [eP, h2]; exact h.2.2.1.2 i d hd
theorem cS_S (h : cS sk L τ q g base n S) (e : EX sk L sk' L') (f : frSy t N τ τ') (hq : q < 138) : cS sk' L' τ' q g base n S := by
  obtain ⟨⟨⟨⟨o1, o2, o3, o4, o5, o6, o7, o8, o9, o10⟩, r2, r3, r4, r5⟩, g2, g3, g4, g5⟩, ⟨y1, y2, y3⟩, w⟩ := h
  have hI : ∀ k, fI τ' q k = fI τ q k := fun k => f.1 q k (by omega) (by omega) (Or.inl (by omega))
  have hN : ∀ k, fN τ' q k = fN τ q k := fun k => f.2.2.1 q k (by omega)
  refine ⟨⟨⟨⟨ob_ex o1 e, (hN 0).trans o2, ob_ex o3 e, (f.2.2.1 7 0 (by omega)).trans o4, ar_ex o5 e, (f.2.2.2.1 8).trans o6, (hI 5).trans o7, (hI 6).trans o8, o9, o10⟩, r2, r3, (hI 7).trans r4, (hI 8).trans r5⟩, (hN 3).trans g2, ar_ex g3 e, g4, fun j hj => by rw [f.2.2.2.1]; exact g5 j hj⟩, ⟨(hI 9).trans y1, (hI 11).trans y2, fun hy => ?_⟩, w⟩
  rw [hI, hI, hI]
  exact y3 hy
theorem GR_S (h : GR τ) (f : frSy t N τ τ') : GR τ' := GR_mv h (fun a k ha => f.2.2.1 a k (by omega)) (fun a k ha _ => f.1 a k (by omega) (by omega) (Or.inl (by omega))) (f.2.2.2.2.2.1 9 (by decide) (by decide)) (f.2.2.2.2.2.1 151 (by decide) (by decide))
theorem RSy_1 {xs' : px_NL} {j : Nat} (h : RSy τ t b xs j) (hC : CLn sk L τ tb xs od sg) (f : frSy t xs.length τ τ') (he : eN τ' 1692 = eN τ 1692) (hx : ∀ v, v ∈ xs.map Prod.fst → v ∈ xs'.map Prod.fst ∧ plc v (xs'.map Prod.fst) = plc v (xs.map Prod.fst)) : RSy τ' t b xs' j := by
  intro k hk
  obtain ⟨a1, a2⟩ := h k hk
  rw [he, a1]
  unfold syN
  by_cases c : hsN b k = true
  · rw [if_pos c, if_pos c]
    have hm := a2 c
    obtain ⟨m1, m2⟩ := hx _ hm
    refine ⟨?_, fun _ => m1⟩
    rw [m2]
    have hl := plc_lt hm
    obtain ⟨y1, y2, y3, y4⟩ := hC.1.2.2.2.2.2.2 _ _ (List.getElem?_eq_getElem hl)
    rw [List.length_map] at hl
    have := (f.2.2.2.2.2.2.2 149 _ _ (Or.inr (Or.inr ⟨rfl, hl⟩)) y2).1
    congr 1
    show pN τ 149 _ = (eN τ' 149 _).getD 0
    rw [this]
    rfl
  · rw [if_neg c, if_neg c]
    exact ⟨rfl, fun q => absurd q c⟩
theorem RSy_v {j : Nat} {v : Option Nat} (h : RSy τ t b xs j) (hv : v = syN τ b xs j) (hm : hsN b j = true → yT b j ∈ xs.map Prod.fst) : RSy (vN τ 1692 (va_up (eN τ 1692) (64 * t + j) v)) t b xs (j + 1) := by
  have hA : eN (vN τ 1692 (va_up (eN τ 1692) (64 * t + j) v)) 1692 = va_up (eN τ 1692) (64 * t + j) v := (u1_eq : u1 τ.2.2.2.2.2 1692 (va_up (eN τ 1692) (64 * t + j) v) 1692 = _)
  have hP : ∀ i, pN (vN τ 1692 (va_up (eN τ 1692) (64 * t + j) v)) 149 i = pN τ 149 i := fun i => by
    have hE : ∀ a, a ≠ 1692 → eN (vN τ 1692 (va_up (eN τ 1692) (64 * t + j) v)) a = eN τ a := fun a h => u1_ne h
    unfold pN
    rw [hE 149 (by decide)]
  have hsy : ∀ k, syN (vN τ 1692 (va_up (eN τ 1692) (64 * t + j) v)) b xs k = syN τ b xs k := fun k => by unfold syN; rw [hP]
  intro k hk
  rw [hA, hsy]
  by_cases c : k = j
  · rw [c, va_up_a, hv]
    exact ⟨rfl, hm⟩
  · rw [va_up_n (by omega)]
    exact h k (by omega)
theorem k_en_48 {j : Nat} {v : Option Nat} {k2 : Nat → Int32 → Option Nat → Int32 → px_H → Option (Unit × px_H)} (hS : GS sk L) (hR : GR τ) (ht : t < 64) (hj : j < 64) (ho : ∀ p, v = some p → ob sk L 5 p) : f_Link_enterNames_48 F c k2 147 (nI t) (some q) (nI j) v (cH sk L τ) = k2 147 (nI t) (some q) (nI (j + 1)) (cH sk L (vN τ 1692 (va_up (eN τ 1692) (64 * t + j) v))) := by
  unfold f_Link_enterNames_48
  rw [C3r8 (G147 hS) (GR_r (v := 1692) hR (by decide)), bs, pk_mul, nI_add, show t * 64 + j = 64 * t + j by omega, c_sOv (G1692 hS) (by decide) (by decide) (by omega) ho, bs, nI_add]
/-- the step's end: the row of symbol j is written -/
theorem k_en_v {j : Nat} {v : Option Nat} (hR : GR τ) (hn : NP sk L τ own) (hC : CLn sk L τ tb xs od sg) (hs : cS sk L τ q g base n S) (hj : j < 64) (h : RSy τ t b xs j) (hv : v = syN τ b xs j) (hm : hsN b j = true → yT b j ∈ xs.map Prod.fst) (τ2 : px_TT) (e2 : τ2 = vN τ 1692 (va_up (eN τ 1692) (64 * t + j) v)) : GR τ2 ∧ NP sk L τ2 own ∧ CLn sk L τ2 tb xs od sg ∧ cS sk L τ2 q g base n S ∧ RSy τ2 t b xs (j + 1) ∧ frSy t N τ τ2 := by
  have hE : ∀ a, a ≠ 1692 → eN (vN τ 1692 (va_up (eN τ 1692) (64 * t + j) v)) a = eN τ a := fun a h => u1_ne h
  have f : frSy t N τ τ2 := by rw [e2]; exact frSy_v hj
  refine ⟨GR_S hR f, fun A i p hA hp => hn A i p hA (by rw [e2, hE A (by omega)] at hp; exact hp), ?_, ?_, by rw [e2]; exact RSy_v h hv hm, f⟩
  · rw [e2]
    exact CLn_e hC (fun _ _ => rfl) (fun _ _ => rfl) (fun _ _ => rfl) (hE 149 (by decide)) (hE 1693 (by decide))
  · rw [e2]; exact hs
end CEN
end
section
/-! enterNames of the class, whole -/
theorem idx_last {w : List Nat} : ∀ {l : List (List Nat)} {k : Nat}, idx w k l = none → idx w k (l ++ [w]) = some (k + l.length)
  | [], k, _ => by
    show (if w = w then some k else _) = some (k + 0)
    rw [if_pos rfl]; rfl
  | v :: l, k, h => by
    have h : (if v = w then some k else idx w (k + 1) l) = none := h
    show (if v = w then some k else idx w (k + 1) (l ++ [w])) = some (k + (l.length + 1))
    by_cases c : v = w
    · rw [if_pos c] at h; cases h
    · rw [if_neg c] at h ⊢
      rw [idx_last h]
      congr 1
      omega
section CEO
variable {F : Nat} {c : px_CT} {tb : Nat → Nat → Nat} {q g base n ss t : Nat} {S : Nat → Int32} {od : List Nat} {sg : List (List Nat)} {b : Nat → Nat}
theorem ec1_len {xs : px_NL} {k : Nat} : xs.length ≤ (ec1 b k xs).length ∧ (ec1 b k xs).length ≤ xs.length + 1 := by
  unfold ec1
  split
  · refine ⟨?_, entL_len⟩
    unfold entL
    split
    · exact Nat.le_refl _
    · rw [List.length_append]; omega
  · exact ⟨Nat.le_refl _, Nat.le_succ _⟩
theorem k_en_2 (hF : 4128 < F) (hq : q < 138) (ht : t < 64) (hb : b = cb S base n) (hss : base + n ≤ ss) (hs2 : ss ≤ 65536) (hy : ∀ k, 1 ≤ k → k < oM b → yOK b k = true) (hB : ∀ k, yB b k < 16) : ∀ (d j f k : Nat) (sk : Nat → Nat × Nat × Nat) (L : Nat) (τ : px_TT) (own : Nat → Nat × Nat) (xs : px_NL), j + d = 64 → d < f → GS sk L → GR τ → NP sk L τ own → CLn sk L τ tb xs od sg → cS sk L τ q g base n S → fI τ 7 1 = nI ss → RSy τ t b xs j → xs.length + d ≤ 4128 → RMk sk L (k + (oM b - j)) → ∃ sk' L' τ' own', f_Link_enterNames_2 F c f 147 (nI t) (some q) (nI j) (cH sk L τ) = some ((), cH sk' L' τ') ∧ EX sk L sk' L' ∧ RMk sk' L' k ∧ NP sk' L' τ' own' ∧ CLn sk' L' τ' tb (itr (ec1 b) j d xs) od sg ∧ RSy τ' t b (itr (ec1 b) j d xs) 64 ∧ frSy t xs.length τ τ' := by
  intro d
  induction d with
  | zero =>
    intro j f k sk L τ own xs hj hf hS hR hn hC hs h71 hr hx hm
    obtain ⟨f, rfl⟩ : ∃ x, f = x + 1 := ⟨f - 1, by omega⟩
    have ej : j = 64 := by omega
    refine ⟨sk, L, τ, own, ?_, EX_refl, ⟨by have := hm.1; omega, by have := hm.2; omega⟩, hn, hC, by rw [ej] at hr; exact hr, frSy_refl⟩
    unfold f_Link_enterNames_2 f_Link_enterNames_67
    rw [if_pos (nI_le (by omega) (by omega))]
  | succ d ih =>
    intro j f k sk L τ own xs hj hf hS hR hn hC hs h71 hr hx hm
    obtain ⟨f, rfl⟩ : ∃ x, f = x + 1 := ⟨f - 1, by omega⟩
    have o := hs.1.1.1.1
    have hj64 : j < 64 := by omega
    rw [itr_s]
    unfold f_Link_enterNames_2
    rw [if_neg (nI_ge hj64 (by omega)), bs, c_o o, bs]
    by_cases ch : hsN b j = true
    · obtain ⟨h1, hjM, hyB⟩ := of_decide_eq_true ch
      have ex : ec1 b j xs = entL (yT b j) xs := by unfold ec1; rw [if_pos ch]
      have hyk := hy j h1 hjM
      have hg := (yOK_n hyk hyB).2.1
      have hBj := hB j
      have hokT : okN (yT b j) := by rw [hb]; rw [hb] at hg; exact okN_tk (cb_lt S base n) _ (yG_n hg).2.1
      have hm2 : RMk sk L (k + (oM b - (j + 1)) + 1) := ⟨by have := hm.1; omega, by have := hm.2; omega⟩
      rw [hb] at hjM hyB hBj hg
      obtain ⟨τ1, a1, a2, a3⟩ := k_probe (F := F) (c := c) hS hs (by omega) h71 hss hs2 hjM hg
      rw [← hb] at a3
      have hR1 := GR_N hR a2
      have hn1 := NP_N hn a2
      have hC1 := CLn_N hC hn a2
      have f1 : frSy t xs.length τ τ1 := frSy_N hn a2
      have hxl : (xs.map Prod.fst).length = xs.length := List.length_map ..
      obtain ⟨sk2, L2, τ2, own2, e1, e2, e3, e4, e5, e6, e7, e8⟩ := k_enterG (F := F) (c := c) (k := k + (oM b - (j + 1))) hS hC1.1 hn1 (Or.inr (Or.inr rfl)) (by decide) (G1695 hS) (Or.inl (by decide)) a3 hokT (by rw [hxl]; omega) (by rw [hxl]; omega) hm2
      rw [hxl] at e6 e8
      have hC2 := CLn_ent hC1 e5 e6 e7 e8
      have f2 : frSy t xs.length τ1 τ2 := frSy_En hn1 e8
      have f12 := frSy_trans f1 f2 (Nat.le_refl _)
      have hS2 := GS_ex hS e2
      have hR2 := GR_S hR1 f2
      have hs3 := cS_S hs e2 f12 hq
      have h1692 : eN τ2 1692 = eN τ 1692 := by rw [e8.2.2.2.2.2.1 1692 (by decide), a2.2.2.2.2.2]
      have hmem : yT b j ∈ (entL (yT b j) xs).map Prod.fst := by rw [entL_fst]; exact ent_mem.mpr (Or.inl rfl)
      have hr2 : RSy τ2 t b (entL (yT b j) xs) j := RSy_1 hr hC f12 h1692 (fun v hv => by rw [entL_fst]; exact ⟨ent_mem.mpr (Or.inr hv), plc_ent hv⟩)
      have hplc : plc (yT b j) ((entL (yT b j) xs).map Prod.fst) = plc (yT b j) (xs.map Prod.fst) := by
        rw [entL_fst]
        by_cases cm : yT b j ∈ xs.map Prod.fst
        · exact plc_ent cm
        · have hi : idx (yT b j) 0 (xs.map Prod.fst) = none := by
            cases e : idx (yT b j) 0 (xs.map Prod.fst) with
            | none => rfl
            | some i => exact absurd (idx_iff.mp (by rw [e]; rfl)) cm
          unfold ent plc
          rw [if_neg (by rw [hi]; decide), hi, idx_last hi, Nat.zero_add]
          rfl
      have hv : some (pN τ2 149 (plc (yT b j) (xs.map Prod.fst))) = syN τ2 b (entL (yT b j) xs) j := by unfold syN; rw [if_pos ch, hplc]
      obtain ⟨r, p1, p2⟩ := plc_at (w := yT b j) (xs := xs)
      obtain ⟨z1, z2, z3, z4⟩ := CLn_at hC2 p1
      obtain ⟨v1, v2, v3, v4, v5, v6⟩ := k_en_v (N := xs.length) (t := t) (b := b) hR2 e4 hC2 hs3 hj64 hr2 hv (fun _ => hmem) _ rfl
      have hl := ec1_len (b := b) (xs := xs) (k := j)
      rw [ex] at hl
      obtain ⟨sk4, L4, τ4, own4, j1, j2, j3, j4, j5, j6, j7⟩ := ih (j + 1) f k sk2 L2 _ own2 (entL (yT b j) xs) (by omega) (by omega) hS2 v1 v2 v3 v4 (by rw [v6.1 7 1 (by decide) (by decide) (Or.inl (by decide)), f12.1 7 1 (by decide) (by decide) (Or.inl (by decide))]; exact h71) v5 (by omega) e3
      rw [ex]
      refine ⟨sk4, L4, τ4, own4, ?_, EX_trans e2 j2, j3, j4, j5, j6, frSy_trans (frSy_trans f12 v6 (Nat.le_refl _)) j7 hl.1⟩
      rw [k_bindOf hs (by omega) h1 hjM, xb_mk, if_neg (show ¬ nI (yB (cb S base n) j) = 0 from fun e => hyB ((nI_eq (b := 0) (by omega) (by decide)).mp e)), C3r11 (G147 hS) (GR_r (v := 1695) hR (by decide)), bs, C7r0 o hs.1.1.1.2.1, bs, c_o o, bs, k_nameStart hs (by omega) hjM, xb_mk, c_o (G1695 hS), bs, a1, xb_mk, C3r3 (G147 hS) (GR_r (v := 148) hR1 (by decide)), bs, C3r11 (G147 hS) (GR_r (v := 1695) hR1 (by decide)), bs, c_o hC1.1.1, bs, e1, xb_mk, k_en_48 hS2 hR2 ht hj64 (fun p hp => by rw [← Option.some.inj hp]; exact z3)]
      exact j1
    · have ex : ec1 b j xs = xs := by unfold ec1; rw [if_neg ch]
      have eB : f_ObjectFile_bindOf F c q (nI j) (cH sk L τ) = some (nI 0, cH sk L τ) := by
        by_cases c0 : j = 0 ∨ oM (cb S base n) ≤ j
        · exact k_bindOf0 hs c0 (by omega)
        · have c1 : 1 ≤ j := by omega
          have c2 : j < oM (cb S base n) := by omega
          rw [k_bindOf hs (by omega) c1 c2]
          have : yB (cb S base n) j = 0 := by
            by_cases e : yB (cb S base n) j = 0
            · exact e
            · exact absurd (show hsN b j = true by rw [hb]; exact decide_eq_true ⟨c1, c2, e⟩) ch
          rw [this]
      have hv : none = syN τ b xs j := by unfold syN; rw [if_neg ch]
      obtain ⟨v1, v2, v3, v4, v5, v6⟩ := k_en_v (N := xs.length) (t := t) (b := b) hR hn hC hs hj64 hr hv (fun q => absurd q ch) _ rfl
      obtain ⟨sk4, L4, τ4, own4, j1, j2, j3, j4, j5, j6, j7⟩ := ih (j + 1) f k sk L _ own xs (by omega) (by omega) hS v1 v2 v3 v4 (by rw [v6.1 7 1 (by decide) (by decide) (Or.inl (by decide))]; exact h71) v5 (by omega) ⟨by have := hm.1; omega, by have := hm.2; omega⟩
      rw [ex]
      refine ⟨sk4, L4, τ4, own4, ?_, j2, j3, j4, j5, j6, frSy_trans v6 j7 (Nat.le_refl _)⟩
      rw [eB, xb_mk, if_pos (show nI 0 = 0 from rfl), k_en_48 hS hR ht hj64 (fun p hp => by cases hp)]
      exact j1
end CEO
end
section
/-! part of the class; firstWanted, enterNames whole -/
section CPT
variable {F : Nat} {c : px_CT} {sk : Nat → Nat × Nat × Nat} {L : Nat} {τ : px_TT} {tb : Nat → Nat → Nat} {q g base n ss t i : Nat} {S : Nat → Int32} {xs : px_NL} {od : List Nat} {sg : List (List Nat)} {own : Nat → Nat × Nat} {b : Nat → Nat}
theorem k_part (hS : GS sk L) (hR : GR τ) (ht : t < 64) (hi : i < 24) : f_Link_part F c 147 (nI t) (nI i) (cH sk L τ) = some (some (152 + (24 * t + i)), cH sk L τ) := by
  unfold f_Link_part f_Link_part_33
  rw [pk_mul, nI_add, show t * 24 + i = 24 * t + i by omega, if_neg (show ¬ nI (24 * t + i) < 0 from nI_nlt (b := 0) (Nat.zero_le _) (by omega)), C3r4 (G147 hS) (GR_r (v := 151) hR (by decide)), bs, c_l (G151 hS) (by decide), bs, if_neg (nI_ge (by omega) (by omega)), bs, c_aN (G151 hS) (by decide) (by decide) (by omega), bs, hR.2.2 _ (by omega)]
theorem k_firstWanted (hS : GS sk L) (hF : 4128 < F) (hq : q < 138) (hss : base + n ≤ ss) (hs2 : ss ≤ 65536) (hok : okL xs) (hy : ∀ k, 1 ≤ k → k < oM (cb S base n) → yOK (cb S base n) k = true) (hB : ∀ k, yB (cb S base n) k < 16 ∧ yW (cb S base n) k < 65536) (hR : GR τ) (hn : NP sk L τ own) (hC : CLn sk L τ tb xs od sg) (hs : cS sk L τ q g base n S) (h71 : fI τ 7 1 = nI ss) : ∃ τ', f_Link_firstWanted F c 147 (some q) (cH sk L τ) = some (nI (fwJ (hp1 (cb S base n) xs) 1 (oM (cb S base n) - 1)), cH sk L τ') ∧ frN 1695 τ τ' := by
  have hM := w2_M hs.2.2
  unfold f_Link_firstWanted
  by_cases c0 : oM (cb S base n) = 0
  · refine ⟨τ, ?_, frN_refl _ _⟩
    obtain ⟨f, rfl⟩ : ∃ x, F = x + 1 := ⟨F - 1, by omega⟩
    unfold f_Link_firstWanted_2 f_Link_firstWanted_65
    rw [bs, C7g11 hs.1.1.1.1, bs, hs.2.1.2.1, c0, if_pos (nI_le (by decide) (by decide))]
    rfl
  · exact k_fw_2 hS hF (by omega) hss hs2 hok hy hB (oM (cb S base n) - 1) 1 F τ (by omega) (Nat.le_refl _) (by omega) hR hn hC hs h71
theorem k_enterNames {k : Nat} (hS : GS sk L) (hF : 4128 < F) (hq : q < 138) (ht : t < 64) (hb : b = cb S base n) (hss : base + n ≤ ss) (hs2 : ss ≤ 65536) (hy : ∀ k, 1 ≤ k → k < oM b → yOK b k = true) (hB : ∀ k, yB b k < 16) (hR : GR τ) (hn : NP sk L τ own) (hC : CLn sk L τ tb xs od sg) (hs : cS sk L τ q g base n S) (h71 : fI τ 7 1 = nI ss) (hx : xs.length + 64 ≤ 4128) (hm : RMk sk L (k + oM b)) : ∃ sk' L' τ' own', f_Link_enterNames F c 147 (nI t) (some q) (cH sk L τ) = some ((), cH sk' L' τ') ∧ EX sk L sk' L' ∧ RMk sk' L' k ∧ NP sk' L' τ' own' ∧ CLn sk' L' τ' tb (itr (ec1 b) 0 64 xs) od sg ∧ RSy τ' t b (itr (ec1 b) 0 64 xs) 64 ∧ frSy t xs.length τ τ' := by
  unfold f_Link_enterNames
  exact k_en_2 hF hq ht hb hss hs2 hy hB 64 0 F k sk L τ own xs rfl (by omega) hS hR hn hC hs h71 (fun k hk => by omega) hx hm
end CPT
end
section
/-! openParts of the class: one section -/
def kpB (b : Nat → Nat) (s : Nat) : Bool := decide (s < oS b) && oK b s
def isPt (τ : px_TT) (p t s : Nat) (b : Nat → Nat) (base u : Nat) : Prop := (fI τ p 0 = nI t ∧ fI τ p 1 = nI (u / 8) ∧ fI τ p 2 = nI (u % 8)) ∧ fI τ p 3 = nI s ∧ fI τ p 4 = (if kpB b s = true then nI (oG b s) else Int32.ofInt (-1)) ∧ fI τ p 8 = nI (if kpB b s = true then 1 else 0) ∧ fI τ p 9 = bI (kpB b s) ∧ (kpB b s = true → fI τ p 5 = nI (oZ b s) ∧ fI τ p 6 = nI (if oA b s < 1 then 1 else oA b s) ∧ fI τ p 7 = nI (base + oP b s)) ∧ fI τ p 10 = bI (kpB b s && oStr b s)
def frPt (p : Nat) (τ τ' : px_TT) : Prop := (∀ a k, a ≠ p → fI τ' a k = fI τ a k) ∧ (∀ a k, a ≠ p → fJ τ' a k = fJ τ a k) ∧ (∀ a k, fN τ' a k = fN τ a k) ∧ (∀ a, eI τ' a = eI τ a) ∧ (∀ a, eJ τ' a = eJ τ a) ∧ ∀ a, eN τ' a = eN τ a
section COP
variable {F : Nat} {c : px_CT} {sk : Nat → Nat × Nat × Nat} {L : Nat} {τ τ' : px_TT} {q g base n t s p : Nat} {S : Nat → Int32}
theorem cD_P {k : Nat} {v : Int32} (h : cD sk L τ q g base n S) (hq : q < 138) (hp : 152 ≤ p) : cD sk L (tI τ p k v) q g base n S := by
  have hI : ∀ j, fI (tI τ p k v) q j = fI τ q j := fun j => tI_ne (Or.inl (by omega))
  unfold cD cS cG cR cO cY at h ⊢
  rw [hI, hI, hI, hI, hI, hI, hI, hI, hI, hI]
  exact h
theorem k_op0 {k2 : Nat → Int32 → Option Nat → Int32 → px_H → Option (Unit × px_H)} (hp : ob sk L 8 p) (hk : kpB (cb S base n) s = false) {u : Nat} (hp1 : fI τ p 0 = nI t ∧ fI τ p 1 = nI (u / 8) ∧ fI τ p 2 = nI (u % 8)) (hp3 : fI τ p 3 = nI s) (hp4 : fI τ p 4 = Int32.ofInt (-1)) : ∃ τ', f_Link_openParts_73 F c k2 147 (nI t) (some q) (nI s) (some p) (Int32.ofInt (-1)) (some p) (nI 0) (cH sk L τ) = k2 147 (nI t) (some q) (nI (s + 1)) (cH sk L τ') ∧ isPt τ' p t s (cb S base n) base u ∧ frPt p τ τ' := by
  unfold f_Link_openParts_73 f_Link_openParts_88 f_Link_openParts_108 f_Link_openParts_132 f_Link_openParts_157 f_Link_openParts_179 f_Link_openParts_180
  rw [bs, C8p8 hp, bs, if_pos (show Int32.ofInt (-1) < 0 by decide), bs, show xpZ _ 8 9 p (nI 0) = _ from C8z9 hp false, bs, if_neg (show ¬ 0 ≤ Int32.ofInt (-1) by decide), bs, C8p5 hp, bs, if_neg (show ¬ 0 ≤ Int32.ofInt (-1) by decide), bs, C8p6 hp, bs, if_neg (show ¬ 0 ≤ Int32.ofInt (-1) by decide), bs, C8p7 hp, bs, if_pos (show Int32.ofInt (-1) < 0 by decide), bs, show xpZ _ 8 10 p (nI 0) = _ from C8z10 hp false, bs, bs, C8p11 hp, bs, C8p12 hp, bs, nI_add]
  refine ⟨_, rfl, ?_, ⟨fun a k h => ?_, fun a k h => ?_, fun _ _ => rfl, fun _ => rfl, fun _ => rfl, fun _ => rfl⟩⟩
  · unfold isPt
    rw [hk]
    simp [fI_tI, fI_tJ, hp1.1, hp1.2.1, hp1.2.2, hp3, hp4]
  · simp only [fI_tI, fI_tJ, h, false_and, if_false]
  · simp only [fJ_tI, fJ_tJ, h, false_and, if_false]
end COP
end
section
/-! openParts of the class: one section that is kept -/
section COQ
variable {F : Nat} {c : px_CT} {sk : Nat → Nat × Nat × Nat} {L : Nat} {τ τ' : px_TT} {q g base n t s p : Nat} {S : Nat → Int32}
theorem cD_sec (h : cD sk L τ q g base n S) (hF : 8 < F) (hs : s < oS (cb S base n)) : f_ObjectFile_lengthOf F c q (nI s) (cH sk L τ) = some (lN (oZ (cb S base n) s), cH sk L τ) ∧ f_ObjectFile_alignOf F c q (nI s) (cH sk L τ) = some (lN (oA (cb S base n) s), cH sk L τ) ∧ f_ObjectFile_placeOf F c q (nI s) (cH sk L τ) = some (lN (oP (cb S base n) s), cH sk L τ) := by
  have hO := h.1.1.1.1
  have h7 := h.1.1.1.2.2.2.1
  have hw := h.1.2.2.1
  have hn : base + n ≤ 65536 := hO.2.2.2.2.2.2.2.2.1
  have hr := hw.2.2.1
  refine ⟨?_, ?_, ?_⟩
  · rw [k_lengthOf hO hF h7 (by omega), nm_in (by omega)]; rfl
  · rw [k_alignOf hO hF h7 (by omega), nm_in (by omega)]; rfl
  · rw [k_placeOf hO hF h7 (by omega), nm_in (by omega)]; rfl
theorem k_isStrings (h : cD sk L τ q g base n S) (hs : s < 24) : f_ObjectFile_isStrings F c q (nI s) (cH sk L τ) = some (bI (decide (s < oS (cb S base n)) && oStr (cb S base n) s), cH sk L τ) := by
  have hb := h.2.1 s (by omega)
  unfold f_ObjectFile_isStrings f_ObjectFile_isStrings_16
  rw [C7g14 h.1.1.1.1.1, bs, ← hb]
  cases e : bt (fI τ q 14) s with
  | false => rw [if_pos ((bt_0 (by omega)).mpr e), xz_0]
  | true =>
    rw [if_neg (fun q => by
      have := (bt_0 (by omega)).mp q
      rw [e] at this; cases this), xz_1]
theorem k_op1 {k2 : Nat → Int32 → Option Nat → Int32 → px_H → Option (Unit × px_H)} (hF : 8 < F) (hp : ob sk L 8 p) (hpl : 152 ≤ p) (hq : q < 138) (hD : cD sk L τ q g base n S) (hs : s < 24) (hk : kpB (cb S base n) s = true) {u : Nat} (hp1 : fI τ p 0 = nI t ∧ fI τ p 1 = nI (u / 8) ∧ fI τ p 2 = nI (u % 8)) (hp3 : fI τ p 3 = nI s) (hp4 : fI τ p 4 = nI (oG (cb S base n) s)) : ∃ τ', f_Link_openParts_73 F c k2 147 (nI t) (some q) (nI s) (some p) (nI (oG (cb S base n) s)) (some p) (nI 1) (cH sk L τ) = k2 147 (nI t) (some q) (nI (s + 1)) (cH sk L τ') ∧ isPt τ' p t s (cb S base n) base u ∧ frPt p τ τ' := by
  have hk2 := (Bool.and_eq_true _ _).mp hk
  have hsS : s < oS (cb S base n) := of_decide_eq_true hk2.1
  have hG : oG (cb S base n) s ≤ 5 := by unfold oG; repeat (first | omega | split)
  have hA := (eObj_a hD.2.2 hsS hk2.2).2
  have o := hD.1.1.1.1.1
  have h5 : ∀ (k : Nat) (v : Int32) (τ0 : px_TT), fI τ0 q 5 = nI base → fI (tI τ0 p k v) q 5 = nI base := fun k v τ0 h => (tI_ne (Or.inl (by omega))).trans h
  have D1 := cD_P (k := 8) (v := nI 1) hD hq hpl
  have D2 := cD_P (k := 9) (v := bI true) D1 hq hpl
  have D3 := cD_P (k := 5) (v := nI (oZ (cb S base n) s)) D2 hq hpl
  have D4 := cD_P (k := 6) (v := nI (if oA (cb S base n) s < 1 then 1 else oA (cb S base n) s)) D3 hq hpl
  have D5 := cD_P (k := 7) (v := nI (base + oP (cb S base n) s)) D4 hq hpl
  have n1 : ¬ nI (oG (cb S base n) s) < 0 := nI_nlt (b := 0) (Nat.zero_le _) (by omega)
  have n2 : 0 ≤ nI (oG (cb S base n) s) := nI_le (a := 0) (Nat.zero_le _) (by omega)
  have eA : (if lN (oA (cb S base n) s) < lN 1 then lN 1 else lN (oA (cb S base n) s)).toInt32 = nI (if oA (cb S base n) s < 1 then 1 else oA (cb S base n) s) := by
    by_cases e : oA (cb S base n) s < 1
    · rw [if_pos ((pk_lLT (by omega) (by decide)).mpr e), if_pos e, lN_i]
    · rw [if_neg (fun z => e ((pk_lLT (by omega) (by decide)).mp z)), if_neg e, lN_i]
  have fin : ∀ (str : Bool), oStr (cb S base n) s = str → ∃ τ', (xpZ (cH sk L (tI (tI (tI (tI (tI τ p 8 (nI 1)) p 9 (bI true)) p 5 (nI (oZ (cb S base n) s))) p 6 (nI (if oA (cb S base n) s < 1 then 1 else oA (cb S base n) s))) p 7 (nI (base + oP (cb S base n) s)))) 8 10 p (bI str)).bind (fun ph2 => (some p).bind fun p3 => (xpJ ph2 8 11 p3 (lN 0)).bind fun ph4 => (xpI ph4 8 12 p3 (nI 0)).bind fun ph5 => k2 147 (nI t) (some q) (nI s + nI 1) ph5) = k2 147 (nI t) (some q) (nI (s + 1)) (cH sk L τ') ∧ isPt τ' p t s (cb S base n) base u ∧ frPt p τ τ' := fun str hstr => by
    rw [C8z10 hp, bs, bs, C8p11 hp, bs, C8p12 hp, bs, nI_add]
    refine ⟨_, rfl, ?_, ⟨fun a k h => ?_, fun a k h => ?_, fun _ _ => rfl, fun _ => rfl, fun _ => rfl, fun _ => rfl⟩⟩
    · unfold isPt
      rw [hk, hstr]
      simp [fI_tI, fI_tJ, hp1.1, hp1.2.1, hp1.2.2, hp3, hp4]
    · simp only [fI_tI, fI_tJ, h, false_and, if_false]
    · simp only [fJ_tI, fJ_tJ, h, false_and, if_false]
  unfold f_Link_openParts_73 f_Link_openParts_88 f_Link_openParts_108 f_Link_openParts_132 f_Link_openParts_157 f_Link_openParts_179 f_Link_openParts_180
  rw [bs, C8p8 hp, bs, if_neg n1, bs, show xpZ _ 8 9 p (nI 1) = _ from C8z9 hp true, bs, if_pos n2, bs, c_o o, bs, (cD_sec D2 hF hsS).1, xb_mk, lN_i, bs, C8p5 hp, bs, if_pos n2, bs, c_o o, bs, (cD_sec D3 hF hsS).2.1, xb_mk, eA, bs, C8p6 hp, bs, if_pos n2, bs, C7g5 o, bs, D4.1.1.1.1.2.2.2.2.2.2.1, c_o o, bs, (cD_sec D4 hF hsS).2.2, xb_mk, lN_i, nI_add, bs, C8p7 hp, bs, if_neg n1, bs, c_o o, bs, k_isStrings D5 hs, xb_mk, decide_eq_true hsS, Bool.true_and]
  cases estr : oStr (cb S base n) s with
  | false =>
    rw [if_pos (show bI false = 0 from rfl), bs]
    exact fin false estr
  | true =>
    rw [if_neg (show ¬ bI true = 0 by decide), bs]
    exact fin true estr
end COQ
end
section
/-! openParts of the class -/
def frOp (t : Nat) (τ τ' : px_TT) : Prop := (∀ a k, (a < 152 + 24 * t ∨ 152 + 24 * t + 24 ≤ a) → fI τ' a k = fI τ a k) ∧ (∀ a k, (a < 152 + 24 * t ∨ 152 + 24 * t + 24 ≤ a) → fJ τ' a k = fJ τ a k) ∧ (∀ a k, fN τ' a k = fN τ a k) ∧ (∀ a, eI τ' a = eI τ a) ∧ (∀ a, eJ τ' a = eJ τ a) ∧ ∀ a, eN τ' a = eN τ a
theorem frOp_refl {t : Nat} {τ : px_TT} : frOp t τ τ := ⟨fun _ _ _ => rfl, fun _ _ _ => rfl, fun _ _ => rfl, fun _ => rfl, fun _ => rfl, fun _ => rfl⟩
theorem frOp_trans {t : Nat} {τ τ1 τ2 : px_TT} (h : frOp t τ τ1) (g : frOp t τ1 τ2) : frOp t τ τ2 := ⟨fun a k z => (g.1 a k z).trans (h.1 a k z), fun a k z => (g.2.1 a k z).trans (h.2.1 a k z), fun a k => (g.2.2.1 a k).trans (h.2.2.1 a k), fun a => (g.2.2.2.1 a).trans (h.2.2.2.1 a), fun a => (g.2.2.2.2.1 a).trans (h.2.2.2.2.1 a), fun a => (g.2.2.2.2.2 a).trans (h.2.2.2.2.2 a)⟩
theorem frPt_Op {t s : Nat} {τ τ' : px_TT} (h : frPt (152 + (24 * t + s)) τ τ') (hs : s < 24) : frOp t τ τ' := ⟨fun a k z => h.1 a k (by omega), fun a k z => h.2.1 a k (by omega), h.2.2.1, h.2.2.2.1, h.2.2.2.2.1, h.2.2.2.2.2⟩
theorem isPt_fr {p t s base u : Nat} {b : Nat → Nat} {τ τ' : px_TT} (h : isPt τ p t s b base u) (hI : ∀ k, fI τ' p k = fI τ p k) : isPt τ' p t s b base u := by
  unfold isPt
  rw [hI, hI, hI, hI, hI, hI, hI, hI, hI, hI, hI]
  exact h
section COR
variable {F : Nat} {c : px_CT} {sk : Nat → Nat × Nat × Nat} {L : Nat} {q g base n t : Nat} {S : Nat → Int32}
theorem cD_Op {τ τ' : px_TT} (h : cD sk L τ q g base n S) (f : frOp t τ τ') (hq : q < 138) : cD sk L τ' q g base n S := by
  have hI : ∀ j, fI τ' q j = fI τ q j := fun j => f.1 q j (by omega)
  unfold cD cS cG cR cO cY at h ⊢
  rw [hI, hI, hI, hI, hI, hI, hI, hI, hI, hI, f.2.2.1, f.2.2.1, f.2.2.1, f.2.2.2.1, f.2.2.2.1]
  exact h
theorem GR_Op {τ τ' : px_TT} (h : GR τ) (f : frOp t τ τ') : GR τ' := GR_mv h (fun a k _ => f.2.2.1 a k) (fun a k ha _ => f.1 a k (by omega)) (f.2.2.2.2.2 9) (f.2.2.2.2.2 151)
theorem k_op_2 {u : Nat} (hS : GS sk L) (hF : 24 < F) (hq : q < 138) (ht : t < 64) : ∀ (d s f : Nat) (τ : px_TT), s + d = 24 → d < f → GR τ → cD sk L τ q g base n S → (fI τ q 1 = nI (u / 8) ∧ fI τ q 2 = nI (u % 8)) → (∀ i, i < s → isPt τ (152 + (24 * t + i)) t i (cb S base n) base u) → ∃ τ', f_Link_openParts_2 F c f 147 (nI t) (some q) (nI s) (cH sk L τ) = some ((), cH sk L τ') ∧ (∀ i, i < 24 → isPt τ' (152 + (24 * t + i)) t i (cb S base n) base u) ∧ frOp t τ τ' := by
  intro d
  induction d with
  | zero =>
    intro s f τ hs hf hR hD hu hp
    obtain ⟨f, rfl⟩ : ∃ x, f = x + 1 := ⟨f - 1, by omega⟩
    refine ⟨τ, ?_, fun i hi => hp i (by omega), frOp_refl⟩
    unfold f_Link_openParts_2 f_Link_openParts_201
    rw [if_pos (nI_le (by omega) (by omega))]
  | succ d ih =>
    intro s f τ hs hf hR hD hu hp
    obtain ⟨f, rfl⟩ : ∃ x, f = x + 1 := ⟨f - 1, by omega⟩
    have hs24 : s < 24 := by omega
    have o := hD.1.1.1.1.1
    have oP := G_part hS (show 24 * t + s < 1536 by omega)
    obtain ⟨p, hpe⟩ : ∃ p, p = 152 + (24 * t + s) := ⟨_, rfl⟩
    rw [← hpe] at oP
    obtain ⟨G, hG⟩ : ∃ G : Int32, G = if kpB (cb S base n) s = true then nI (oG (cb S base n) s) else Int32.ofInt (-1) := ⟨_, rfl⟩
    have eG : (if s < oS (cb S base n) then gv (cb S base n) s else Int32.ofInt (-1)) = G := by
      rw [hG]
      unfold gv kpB
      by_cases e : s < oS (cb S base n)
      · rw [if_pos e, decide_eq_true e, Bool.true_and]
      · rw [if_neg e, decide_eq_false e, Bool.false_and, if_neg (by decide)]
    obtain ⟨τ1, hτ1⟩ : ∃ x, x = tI (tI (tI (tI (tI τ p 0 (nI t)) p 1 (fI τ q 1)) p 2 (fI τ q 2)) p 3 (nI s)) p 4 G := ⟨_, rfl⟩
    have D1 : cD sk L τ1 q g base n S := by rw [hτ1]; exact cD_P (cD_P (cD_P (cD_P (cD_P hD hq (by omega)) hq (by omega)) hq (by omega)) hq (by omega)) hq (by omega)
    have f1 : frPt p τ τ1 := by
      rw [hτ1]
      exact ⟨fun a k h => by simp only [fI_tI, h, false_and, if_false], fun _ _ _ => rfl, fun _ _ => rfl, fun _ => rfl, fun _ => rfl, fun _ => rfl⟩
    have a0 : fI τ1 p 0 = nI t ∧ fI τ1 p 1 = nI (u / 8) ∧ fI τ1 p 2 = nI (u % 8) := by rw [hτ1]; simp [fI_tI, hu.1, hu.2]
    have a3 : fI τ1 p 3 = nI s := by rw [hτ1]; simp [fI_tI]
    have a4 : fI τ1 p 4 = G := by rw [hτ1]; simp [fI_tI]
    have q1 : fI (tI τ p 0 (nI t)) q 1 = fI τ q 1 := tI_ne (Or.inl (by omega))
    have q2 : fI (tI (tI τ p 0 (nI t)) p 1 (fI τ q 1)) q 2 = fI τ q 2 := (tI_ne (Or.inl (by omega))).trans (tI_ne (Or.inl (by omega)))
    have eq : f_Link_openParts_2 F c (f + 1) 147 (nI t) (some q) (nI s) (cH sk L τ) = if 0 ≤ G then f_Link_openParts_73 F c (f_Link_openParts_2 F c f) 147 (nI t) (some q) (nI s) (some p) G (some p) (nI 1) (cH sk L τ1) else f_Link_openParts_73 F c (f_Link_openParts_2 F c f) 147 (nI t) (some q) (nI s) (some p) G (some p) (nI 0) (cH sk L τ1) := by
      conv => lhs; unfold f_Link_openParts_2
      rw [if_neg (nI_ge hs24 (by omega)), c_o (G147 hS), bs, k_part hS hR ht hs24, ← hpe, xb_mk, bs, c_o o, bs, nI_l (by omega), k_groupOf hD.1.1 (by omega), eG, xb_mk, bs, C8p0 oP, bs, C7g1 o, bs, q1, C8p1 oP, bs, C7g2 o, bs, q2, C8p2 oP, bs, C8p3 oP, bs, C8p4 oP, bs, ← hτ1]
    have fin : ∀ τ2, isPt τ2 p t s (cb S base n) base u → frPt p τ1 τ2 → ∃ τ', f_Link_openParts_2 F c f 147 (nI t) (some q) (nI (s + 1)) (cH sk L τ2) = some ((), cH sk L τ') ∧ (∀ i, i < 24 → isPt τ' (152 + (24 * t + i)) t i (cb S base n) base u) ∧ frOp t τ τ' := fun τ2 h1 h2 => by
      rw [hpe] at f1 h1 h2
      have g1 := frOp_trans (frPt_Op f1 hs24) (frPt_Op h2 hs24)
      obtain ⟨τ', j1, j2, j3⟩ := ih (s + 1) f τ2 (by omega) (by omega) (GR_Op hR g1) (cD_Op hD g1 hq) ⟨(g1.1 q 1 (by omega)).trans hu.1, (g1.1 q 2 (by omega)).trans hu.2⟩ (fun i hi => by
        by_cases ci : i = s
        · rw [ci]; exact h1
        · exact isPt_fr (hp i (by omega)) (fun k => (h2.1 _ k (by omega)).trans (f1.1 _ k (by omega))))
      exact ⟨τ', j1, j2, frOp_trans g1 j3⟩
    rw [eq]
    by_cases ck : kpB (cb S base n) s = true
    · rw [if_pos ck] at hG
      have hG5 : oG (cb S base n) s ≤ 5 := by unfold oG; repeat (first | omega | split)
      rw [hG] at a4 ⊢
      rw [if_pos (show 0 ≤ nI (oG (cb S base n) s) from nI_le (a := 0) (Nat.zero_le _) (by omega))]
      obtain ⟨τ2, b1, b2, b3⟩ := k_op1 (F := F) (c := c) (k2 := f_Link_openParts_2 F c f) (t := t) (by omega) oP (by omega) hq D1 hs24 ck a0 a3 a4
      rw [b1]
      exact fin τ2 b2 b3
    · rw [if_neg ck] at hG
      rw [hG] at a4 ⊢
      rw [if_neg (show ¬ 0 ≤ Int32.ofInt (-1) by decide)]
      obtain ⟨τ2, b1, b2, b3⟩ := k_op0 (F := F) (c := c) (q := q) (base := base) (n := n) (S := S) (k2 := f_Link_openParts_2 F c f) (t := t) oP (Bool.eq_false_iff.mpr ck) a0 a3 a4
      rw [b1]
      exact fin τ2 b2 b3
end COR
end
section
/-! nameOf, openParts of the class -/
section CNO
variable {F : Nat} {c : px_CT} {sk : Nat → Nat × Nat × Nat} {L : Nat} {τ : px_TT} {q g base n t j : Nat} {S : Nat → Int32}
theorem k_nameOf (hS : GS sk L) (hR : GR τ) (ht : t < 64) (hj : j < 64) : f_Link_nameOf F c 147 (nI t) (nI j) (cH sk L τ) = some (eN τ 1692 (64 * t + j), cH sk L τ) := by
  unfold f_Link_nameOf f_Link_nameOf_35 f_Link_nameOf_52
  rw [if_neg (show ¬ nI j < 0 from nI_nlt (b := 0) (Nat.zero_le _) (by omega)), if_neg (nI_ge hj (by omega)), pk_mul, nI_add, show t * 64 + j = 64 * t + j by omega, if_neg (show ¬ nI (64 * t + j) < 0 from nI_nlt (b := 0) (Nat.zero_le _) (by omega)), C3r8 (G147 hS) (GR_r (v := 1692) hR (by decide)), bs, c_l (G1692 hS) (by decide), bs, if_neg (nI_ge (by omega) (by omega)), if_neg (show ¬ nI 1 = 0 by decide), bs, c_aN (G1692 hS) (by decide) (by decide) (by omega), bs]
theorem k_openParts {u : Nat} (hS : GS sk L) (hF : 24 < F) (hq : q < 138) (ht : t < 64) (hR : GR τ) (hD : cD sk L τ q g base n S) (hu : fI τ q 1 = nI (u / 8) ∧ fI τ q 2 = nI (u % 8)) : ∃ τ', f_Link_openParts F c 147 (nI t) (some q) (cH sk L τ) = some ((), cH sk L τ') ∧ (∀ i, i < 24 → isPt τ' (152 + (24 * t + i)) t i (cb S base n) base u) ∧ frOp t τ τ' := by
  unfold f_Link_openParts
  exact k_op_2 hS hF hq ht 24 0 F τ rfl hF hR hD hu (fun i hi => by omega)
end CNO
end
section
/-! dropParts of the class -/
def isPd (τ : px_TT) (p t s : Nat) (b : Nat → Nat) (base u : Nat) (dr : Bool) : Prop := (fI τ p 0 = nI t ∧ fI τ p 1 = nI (u / 8) ∧ fI τ p 2 = nI (u % 8)) ∧ fI τ p 3 = nI s ∧ fI τ p 4 = (if kpB b s = true then nI (oG b s) else Int32.ofInt (-1)) ∧ fI τ p 8 = nI (if dr = true then 2 else if kpB b s = true then 1 else 0) ∧ fI τ p 9 = bI (kpB b s && !dr) ∧ (kpB b s = true → fI τ p 5 = nI (oZ b s) ∧ fI τ p 6 = nI (if oA b s < 1 then 1 else oA b s) ∧ fI τ p 7 = nI (base + oP b s)) ∧ fI τ p 10 = bI ((kpB b s && oStr b s) && !dr)
theorem isPd_0 {p t s base u : Nat} {b : Nat → Nat} {τ : px_TT} (h : isPt τ p t s b base u) : isPd τ p t s b base u false := by
  unfold isPd
  rw [if_neg (show ¬ (false = true) by decide), Bool.not_false, Bool.and_true, Bool.and_true]
  exact h
theorem isPd_fr {p t s base u : Nat} {b : Nat → Nat} {dr : Bool} {τ τ' : px_TT} (h : isPd τ p t s b base u dr) (hI : ∀ k, fI τ' p k = fI τ p k) : isPd τ' p t s b base u dr := by
  unfold isPd
  rw [hI, hI, hI, hI, hI, hI, hI, hI, hI, hI, hI]
  exact h
/-- the parts of object t -/
def RPd (τ : px_TT) (t : Nat) (b : Nat → Nat) (base u : Nat) (dr : Nat → Bool) : Prop := ∀ i, i < 24 → isPd τ (152 + (24 * t + i)) t i b base u (dr (24 * t + i))
section CDP
variable {F : Nat} {c : px_CT} {sk : Nat → Nat × Nat × Nat} {L : Nat} {q g base n t i : Nat} {S : Nat → Int32}
theorem k_dp_3 {u : Nat} (hS : GS sk L) (hF : 24 < F) (hq : q < 138) (ht : t < 64) (hZ : oZ (cb S base n) i % 4 = 0) (hP : oP (cb S base n) i + oZ (cb S base n) i ≤ n) (hG : ∀ j, 1 ≤ j → j < oZ (cb S base n) i / 4 → gN (cb S base n) i j < 24) : ∀ (d j f : Nat) (τ : px_TT) (dr : Nat → Bool), j + d = oZ (cb S base n) i / 4 → 1 ≤ j → d < f → GR τ → cD sk L τ q g base n S → RPd τ t (cb S base n) base u dr → ∃ τ', f_Link_dropParts_3 F c f 147 (nI t) (some q) (nI (oP (cb S base n) i)) (nI (oZ (cb S base n) i)) (nI (4 * j)) (cH sk L τ) = some ((), cH sk L τ') ∧ RPd τ' t (cb S base n) base u (mkD t (cb S base n) i j d dr) ∧ frOp t τ τ' := by
  intro d
  induction d with
  | zero =>
    intro j f τ dr hj h1 hf hR hD hp
    obtain ⟨f, rfl⟩ : ∃ x, f = x + 1 := ⟨f - 1, by omega⟩
    have hn : base + n ≤ 65536 := hD.1.1.1.1.2.2.2.2.2.2.2.2.1
    refine ⟨τ, ?_, hp, frOp_refl⟩
    unfold f_Link_dropParts_3 f_Link_dropParts_51
    rw [if_pos (nI_le (by omega) (by omega))]
  | succ d ih =>
    intro j f τ dr hj h1 hf hR hD hp
    obtain ⟨f, rfl⟩ : ∃ x, f = x + 1 := ⟨f - 1, by omega⟩
    have hO := hD.1.1.1.1
    have hn : base + n ≤ 65536 := hO.2.2.2.2.2.2.2.2.1
    have o := hO.1
    have hg := hG j h1 (by omega)
    have opt := G_part hS (show 24 * t + gN (cb S base n) i j < 1536 by omega)
    obtain ⟨G, eG⟩ : ∃ G, G = gN (cb S base n) i j := ⟨_, rfl⟩
    have hnum := k_num (F := F) (c := c) (x := oP (cb S base n) i + 4 * j) (k := 4) hO (by omega) (by decide) (by omega)
    rw [nm_in (by omega), show le (cb S base n) (oP (cb S base n) i + 4 * j) 4 = G from eG.symm] at hnum
    rw [← eG] at hg opt
    obtain ⟨p, hpe⟩ : ∃ p, p = 152 + (24 * t + G) := ⟨_, rfl⟩
    rw [← hpe] at opt
    obtain ⟨τ1, hτ1⟩ : ∃ x, x = tI (tI (tI τ p 8 (nI 2)) p 9 (bI false)) p 10 (bI false) := ⟨_, rfl⟩
    have f1 : frPt p τ τ1 := by
      rw [hτ1]
      exact ⟨fun a k h => by simp only [fI_tI, h, false_and, if_false], fun _ _ _ => rfl, fun _ _ => rfl, fun _ => rfl, fun _ => rfl, fun _ => rfl⟩
    have fo : frOp t τ τ1 := frPt_Op (s := G) (by rw [← hpe]; exact f1) hg
    have hp1 : RPd τ1 t (cb S base n) base u (fun x => if x = 24 * t + gN (cb S base n) i j then true else dr x) := by
      intro i' hi'
      rw [← eG]
      by_cases ci : i' = G
      · show isPd τ1 _ t i' _ base u (if 24 * t + i' = 24 * t + G then true else dr (24 * t + i'))
        rw [if_pos (by omega), ci, ← hpe]
        obtain ⟨a1, a2, a3, a4, a5, a6, a7⟩ := hp G hg
        rw [← hpe] at a1 a2 a3 a6
        have hI : ∀ k, k ≠ 8 → k ≠ 9 → k ≠ 10 → fI τ1 p k = fI τ p k := fun k h8 h9 h10 => by rw [hτ1]; simp [fI_tI, h8, h9, h10]
        refine ⟨⟨(hI 0 (by decide) (by decide) (by decide)).trans a1.1, (hI 1 (by decide) (by decide) (by decide)).trans a1.2.1, (hI 2 (by decide) (by decide) (by decide)).trans a1.2.2⟩, (hI 3 (by decide) (by decide) (by decide)).trans a2, (hI 4 (by decide) (by decide) (by decide)).trans a3, ?_, ?_, fun hk => ?_, ?_⟩
        · rw [if_pos rfl, hτ1]; simp [fI_tI]
        · rw [Bool.not_true, Bool.and_false, hτ1]; simp [fI_tI]
        · rw [hI 5 (by decide) (by decide) (by decide), hI 6 (by decide) (by decide) (by decide), hI 7 (by decide) (by decide) (by decide)]; exact a6 hk
        · rw [Bool.not_true, Bool.and_false, hτ1]; simp [fI_tI]
      · show isPd τ1 _ t i' _ base u (if 24 * t + i' = 24 * t + G then true else dr (24 * t + i'))
        rw [if_neg (by omega)]
        exact isPd_fr (hp i' hi') (fun k => f1.1 _ k (by omega))
    obtain ⟨τ', j1, j2, j3⟩ := ih (j + 1) f τ1 _ (by omega) (by omega) (by omega) (GR_Op hR fo) (cD_Op hD fo hq) hp1
    refine ⟨τ', ?_, j2, frOp_trans fo j3⟩
    unfold f_Link_dropParts_3
    rw [if_neg (nI_ge (by omega) (by omega)), bs, c_o o, bs, nI_add, hnum, xb_mk, c_o (G147 hS), bs, lN_i, k_part hS hR ht hg, ← hpe, xb_mk, bs, C8p8 opt, bs, show xpZ _ 8 9 p (nI 0) = _ from C8z9 opt false, bs, show xpZ _ 8 10 p (nI 0) = _ from C8z10 opt false, bs, nI_add, ← hτ1]
    exact j1
end CDP
end
section
/-! dropParts of the class, whole -/
section CDQ
variable {F : Nat} {c : px_CT} {sk : Nat → Nat × Nat × Nat} {L : Nat} {q g base n t i : Nat} {S : Nat → Int32} {τ : px_TT} {dr : Nat → Bool}
theorem k_dropParts {u : Nat} (hS : GS sk L) (hF : 65536 < F) (hq : q < 138) (ht : t < 64) (h1 : 1 ≤ i) (hi : i < oS (cb S base n)) (hT : oT (cb S base n) i = 17) (hR : GR τ) (hD : cD sk L τ q g base n S) (hp : RPd τ t (cb S base n) base u dr) : ∃ τ', f_Link_dropParts F c 147 (nI t) (some q) (nI (oP (cb S base n) i)) (nI (oZ (cb S base n) i)) (cH sk L τ) = some ((), cH sk L τ') ∧ RPd τ' t (cb S base n) base u (mkD t (cb S base n) i 1 (oZ (cb S base n) i / 4 - 1) dr) ∧ frOp t τ τ' := by
  obtain ⟨⟨z1, z2, z3, z4⟩, z5, z6⟩ := (eObj_0 hD.2.2).2.2 i h1 hi hT
  have hn : base + n ≤ 65536 := hD.1.1.1.1.2.2.2.2.2.2.2.2.1
  unfold f_Link_dropParts
  exact k_dp_3 hS (by omega) hq ht z2 z5 z6 (oZ (cb S base n) i / 4 - 1) 1 F τ dr (by omega) (Nat.le_refl _) (by omega) hR hD hp
end CDQ
end
section
/-! what stays while an object is taken -/
def frTk (t N : Nat) (τ τ' : px_TT) : Prop := (∀ a k, a < 1815 → a ≠ 1695 → (a ≠ 148 ∨ k ≠ 2) → (a ≠ 147 ∨ (k ≠ 14 ∧ k ≠ 15 ∧ k ≠ 17)) → (a < 152 + 24 * t ∨ 152 + 24 * t + 24 ≤ a) → (¬ (10 ≤ a ∧ a < 138) ∨ (k ≠ 15 ∧ k ≠ 16)) → fI τ' a k = fI τ a k) ∧ (∀ a k, a < 1815 → a ≠ 1695 → (a < 152 + 24 * t ∨ 152 + 24 * t + 24 ≤ a) → fJ τ' a k = fJ τ a k) ∧ (∀ a k, a < 1815 → (a ≠ 147 ∨ k ≠ 13) → fN τ' a k = fN τ a k) ∧ (∀ a, eI τ' a = eI τ a) ∧ (∀ a, eJ τ' a = eJ τ a) ∧ (∀ a, a ≠ 149 → a ≠ 1692 → a ≠ 1693 → a ≠ 1689 → eN τ' a = eN τ a) ∧ (∀ i, (i < 64 * t ∨ 64 * t + 64 ≤ i) → eN τ' 1692 i = eN τ 1692 i) ∧ (∀ i, i ≠ t → eN τ' 1689 i = eN τ 1689 i) ∧ (∀ i, i < N → eN τ' 149 i = eN τ 149 i) ∧ ∀ B i p, (B = 141 ∨ B = 144) → eN τ B i = some p → (∀ k, fI τ' p k = fI τ p k) ∧ (∀ k, fJ τ' p k = fJ τ p k) ∧ ∀ k, fN τ' p k = fN τ p k
theorem frTk_refl {t N : Nat} {τ : px_TT} : frTk t N τ τ := ⟨fun _ _ _ _ _ _ _ _ => rfl, fun _ _ _ _ _ => rfl, fun _ _ _ _ => rfl, fun _ => rfl, fun _ => rfl, fun _ _ _ _ _ => rfl, fun _ _ => rfl, fun _ _ => rfl, fun _ _ => rfl, fun _ _ _ _ _ => ⟨fun _ => rfl, fun _ => rfl, fun _ => rfl⟩⟩
theorem frTk_trans {t N N' : Nat} {τ τ1 τ2 : px_TT} (h : frTk t N τ τ1) (g : frTk t N' τ1 τ2) (hN : N ≤ N') : frTk t N τ τ2 := by
  obtain ⟨h1, h2, h3, h4, h5, h6, h7, h8, h9, h10⟩ := h
  obtain ⟨g1, g2, g3, g4, g5, g6, g7, g8, g9, g10⟩ := g
  refine ⟨fun a k a1 a2 a3 a4 a5 a6 => (g1 a k a1 a2 a3 a4 a5 a6).trans (h1 a k a1 a2 a3 a4 a5 a6), fun a k a1 a2 a3 => (g2 a k a1 a2 a3).trans (h2 a k a1 a2 a3), fun a k a1 a2 => (g3 a k a1 a2).trans (h3 a k a1 a2), fun a => (g4 a).trans (h4 a), fun a => (g5 a).trans (h5 a), fun a a1 a2 a3 a4 => (g6 a a1 a2 a3 a4).trans (h6 a a1 a2 a3 a4), fun i a1 => (g7 i a1).trans (h7 i a1), fun i a1 => (g8 i a1).trans (h8 i a1), fun i a1 => (g9 i (by omega)).trans (h9 i a1), fun B i p hB hp => ?_⟩
  have x1 := h10 B i p hB hp
  have x2 := g10 B i p hB (by rw [h6 B (by omega) (by omega) (by omega) (by omega)]; exact hp)
  exact ⟨fun k => (x2.1 k).trans (x1.1 k), fun k => (x2.2.1 k).trans (x1.2.1 k), fun k => (x2.2.2 k).trans (x1.2.2 k)⟩
theorem frTk_le {t N N' : Nat} {τ τ1 : px_TT} (h : frTk t N' τ τ1) (hN : N ≤ N') : frTk t N τ τ1 := frTk_trans frTk_refl h hN
section FTK
variable {sk sk' : Nat → Nat × Nat × Nat} {L L' : Nat} {τ τ' : px_TT} {own : Nat → Nat × Nat} {gs : List (List Nat × Int64)} {ws : List (List Nat)} {t N : Nat}
theorem frTk_Sy (f : frSy t N τ τ') (hs : ∀ i, i < N → ∃ p, eN τ 149 i = some p) : frTk t N τ τ' := by
  obtain ⟨f1, f2, f3, f4, f5, f6, f7, f8⟩ := f
  have e149 : ∀ i, i < N → eN τ' 149 i = eN τ 149 i := fun i hi => by
    obtain ⟨p, hp⟩ := hs i hi
    rw [hp]
    exact (f8 149 i p (Or.inr (Or.inr ⟨rfl, hi⟩)) hp).1
  exact ⟨fun a k a1 a2 a3 _ _ _ => f1 a k a1 a2 a3, fun a k a1 a2 _ => f2 a k a1 a2, fun a k a1 _ => f3 a k a1, f4, f5, fun a a1 a2 _ _ => f6 a a1 a2, f7, fun i _ => by rw [f6 1689 (by decide) (by decide)], e149, fun B i p hB hp => (f8 B i p (by omega) hp).2⟩
theorem frTk_Op (hn : NP sk L τ own) (f : frOp t τ τ') (ht : t < 64) : frTk t N τ τ' := by
  obtain ⟨f1, f2, f3, f4, f5, f6⟩ := f
  refine ⟨fun a k _ _ _ _ a5 _ => f1 a k a5, fun a k _ _ a5 => f2 a k a5, fun a k _ _ => f3 a k, f4, f5, fun a _ _ _ _ => f6 a, fun i _ => by rw [f6], fun i _ => by rw [f6], fun i _ => by rw [f6], fun B i p hB hp => ?_⟩
  have h1 := (hn B i p (by omega) hp).1
  exact ⟨fun k => f1 p k (by omega), fun k => f2 p k (by omega), fun k => f3 p k⟩
theorem frTk_X {i p : Nat} (hn : NP sk L τ own) (hp : eN τ 149 i = some p) (f : frX p τ τ') : frTk t N τ τ' := by
  have h1 := (hn 149 i p (Or.inr (Or.inr rfl)) hp).1
  obtain ⟨f1, f2, f3, f4, f5, f6, f7⟩ := f
  refine ⟨fun a k a1 _ _ a4 _ _ => f1 a k (by omega) (a4.elim Or.inl (fun q => Or.inr q.2.1)), fun a k a1 _ _ => f2 a k (by omega), fun a k a1 _ => f3 a k (by omega), f5, f6, fun a _ _ a3 _ => f7 a a3, fun i _ => by rw [f7 _ (by decide)], fun i _ => by rw [f7 _ (by decide)], fun i _ => by rw [f7 _ (by decide)], fun B j q hB hq => ?_⟩
  have hB3 : B = 141 ∨ B = 144 ∨ B = 149 := by omega
  have h2 := (hn B j q hB3 hq).1
  have hne : q ≠ p := NP_ne hn hB3 (Or.inr (Or.inr rfl)) hq hp (fun e => by omega)
  exact ⟨fun k => f1 q k hne (Or.inl (by omega)), fun k => f2 q k hne, fun k => f3 q k hne⟩
/-- a number of the link's own, or a member's mark -/
theorem frTk_I {a k : Nat} {v : Int32} (hn : NP sk L τ own) (h : (a = 147 ∧ (k = 14 ∨ k = 15 ∨ k = 17)) ∨ ((10 ≤ a ∧ a < 138) ∧ (k = 15 ∨ k = 16))) : frTk t N τ (tI τ a k v) := by
  refine ⟨fun x y _ _ _ a4 _ a6 => tI_ne (by omega), fun _ _ _ _ _ => rfl, fun _ _ _ _ => rfl, fun _ => rfl, fun _ => rfl, fun _ _ _ _ _ => rfl, fun _ _ => rfl, fun _ _ => rfl, fun _ _ => rfl, fun B i p hB hp => ?_⟩
  have h1 := (hn B i p (by omega) hp).1
  exact ⟨fun y => tI_ne (Or.inl (by omega)), fun _ => rfl, fun _ => rfl⟩
theorem frTk_b {v : Option Nat} (hn : NP sk L τ own) : frTk t N τ (tN τ 147 13 v) := by
  refine ⟨fun _ _ _ _ _ _ _ _ => rfl, fun _ _ _ _ _ => rfl, fun x y _ h => ?_, fun _ => rfl, fun _ => rfl, fun _ _ _ _ _ => rfl, fun _ _ => rfl, fun _ _ => rfl, fun _ _ => rfl, fun B i p hB hp => ?_⟩
  · rw [fN_tN, if_neg (by omega)]
  · have h1 := (hn B i p (by omega) hp).1
    exact ⟨fun _ => rfl, fun _ => rfl, fun y => by rw [fN_tN, if_neg (by omega)]⟩
theorem frTk_o {v : Option Nat} : frTk t N τ (vN τ 1689 (va_up (eN τ 1689) t v)) := by
  have hne : ∀ a, a ≠ 1689 → eN (vN τ 1689 (va_up (eN τ 1689) t v)) a = eN τ a := fun a h => u1_ne h
  have hat : eN (vN τ 1689 (va_up (eN τ 1689) t v)) 1689 = va_up (eN τ 1689) t v := (u1_eq : u1 τ.2.2.2.2.2 1689 (va_up (eN τ 1689) t v) 1689 = _)
  exact ⟨fun _ _ _ _ _ _ _ _ => rfl, fun _ _ _ _ _ => rfl, fun _ _ _ _ => rfl, fun _ => rfl, fun _ => rfl, fun a _ _ _ a4 => hne a a4, fun i _ => by rw [hne _ (by decide)], fun i hi => by rw [hat, va_up_n hi], fun i _ => by rw [hne _ (by decide)], fun B i p hB hp => ⟨fun _ => rfl, fun _ => rfl, fun _ => rfl⟩⟩
theorem GR_mw (h : GR τ) (hN : ∀ a k, a < 1726 → (a ≠ 147 ∨ k ≠ 13) → fN τ' a k = fN τ a k) (hI : ∀ a k, a < 138 → k < 3 → fI τ' a k = fI τ a k) (h9 : eN τ' 9 = eN τ 9) (h151 : eN τ' 151 = eN τ 151) : GR τ' := by
  have hg : ∀ x, x ∈ grl → x.1 < 1726 ∧ (x.1 ≠ 147 ∨ x.2.1 ≠ 13) := by decide +kernel
  refine ⟨fun x hx => (hN _ _ (hg x hx).1 (hg x hx).2).trans (h.1 x hx), fun i hi => ?_, ?_⟩
  · obtain ⟨a1, a2, a3, a4, a5⟩ := h.2.1 i hi
    exact ⟨(hN _ _ (by omega) (by omega)).trans a1, (hN _ _ (by omega) (by omega)).trans a2, by rw [h9]; exact a3, (hI _ _ (by omega) (by decide)).trans a4, (hI _ _ (by omega) (by decide)).trans a5⟩
  · rw [h151]; exact h.2.2
theorem GR_Tk (h : GR τ) (f : frTk t N τ τ') : GR τ' := GR_mw h (fun a k ha h2 => f.2.2.1 a k (by omega) h2) (fun a k ha hk => f.1 a k (by omega) (by omega) (Or.inl (by omega)) (Or.inl (by omega)) (by omega) (Or.inr (by omega))) (f.2.2.2.2.2.1 9 (by decide) (by decide) (by decide) (by decide)) (f.2.2.2.2.2.1 151 (by decide) (by decide) (by decide) (by decide))
theorem SF_Tk (f : frTk t N τ τ') : SF τ τ' := ⟨fun a k h hk => f.1 a k (by omega) (by omega) (Or.inl (by omega)) (Or.inl (by omega)) (by omega) (Or.inr (by omega)), fun a k h => f.2.2.1 a k (by omega) (Or.inl (by omega)), fun a _ => f.2.2.2.1 a⟩
theorem CN_Tk {N' A : Nat} (h : CN sk L τ N' A ws) (e : EX sk L sk' L') (f : frTk t N τ τ') (hN : N' = 140 ∨ N' = 143) (hA : A = 141 ∨ A = 144) : CN sk' L' τ' N' A ws := by
  obtain ⟨s1, s2, s3, s4, s5, s6, s7⟩ := h
  have eA : eN τ' A = eN τ A := f.2.2.2.2.2.1 A (by omega) (by omega) (by omega) (by omega)
  refine ⟨ob_ex s1 e, (f.2.2.1 N' 0 (by omega) (Or.inl (by omega))).trans s2, ar_ex s3 e, s4, s5, (f.1 N' 2 (by omega) (by omega) (Or.inl (by omega)) (Or.inl (by omega)) (by omega) (by omega)).trans s6, fun i w hw => ?_⟩
  obtain ⟨z1, z2, z3, z4⟩ := s7 i w hw
  have hz := f.2.2.2.2.2.2.2.2.2 A i _ hA z2
  rw [eA]
  exact ⟨z1, z2, ob_ex z3 e, (hz.2.1 0).trans z4.1, (hz.2.1 1).trans z4.2.1, (hz.2.1 2).trans z4.2.2.1, (hz.1 3).trans z4.2.2.2⟩
theorem CG_Tk (h : CG sk L τ gs) (e : EX sk L sk' L') (f : frTk t N τ τ') : CG sk' L' τ' gs := by
  refine ⟨CN_Tk h.1 e f (Or.inl rfl) (Or.inl rfl), fun i x hx => ?_⟩
  have hm : (gs.map Prod.fst)[i]? = some x.1 := by rw [List.getElem?_map, hx]; rfl
  have hp : eN τ 141 i = some ((eN τ 141 i).getD 0) := (h.1.2.2.2.2.2.2 i _ hm).2.1
  have hz := f.2.2.2.2.2.2.2.2.2 141 i _ (Or.inl rfl) hp
  rw [f.2.2.2.2.2.1 141 (by decide) (by decide) (by decide) (by decide), hz.2.1 7]
  exact h.2 i x hx
theorem CW_Tk (h : CW sk L τ ws) (e : EX sk L sk' L') (f : frTk t N τ τ') : CW sk' L' τ' ws := CN_Tk h e f (Or.inr rfl) (Or.inr rfl)
end FTK
end
section
/-! names first, definitions then: the same -/
theorem eObj_g {b : Nat → Nat} {n : Nat} (h : eObj b n = 0) : oT b 0 = 0 ∧ ∀ i, 1 ≤ i → i < oS b → oT b i = 17 → gH b i = true := by
  unfold eObj at h
  by_cases c1 : n < 64 ∨ oH b = false
  · rw [if_pos c1] at h; cases h
  · rw [if_neg c1] at h
    by_cases c2 : 1 ≤ oS b ∧ oS b ≤ 24 ∧ oR b + 64 * oS b ≤ n ∧ oT b 0 = 0
    · rw [if_neg (fun q => q c2)] at h
      by_cases c3 : fst0 (eSec b n) 0 (oS b) = 0
      · rw [if_neg (fun q => q c3)] at h
        by_cases c4 : eSym b = 0
        · rw [if_neg (fun q => q c4)] at h
          by_cases c5 : eSit b = 0
          · rw [if_neg (fun q => q c5)] at h
            refine ⟨c2.2.2.2, fun i h1 hi ht => ?_⟩
            have hgs : gs b 1 (oS b - 1) (fun _ => false) = true := by
              unfold eGrp at h
              by_cases c6 : gs b 1 (oS b - 1) (fun _ => false) = true
              · exact c6
              · rw [if_neg c6] at h; cases h
            exact (gs_1 (oS b - 1) 1 _ hgs i h1 (by omega) ht).1
          · rw [if_pos c5] at h; exact absurd h c5
        · rw [if_pos c4] at h; exact absurd h c4
      · rw [if_pos c3] at h; exact absurd h c3
    · rw [if_pos c2] at h; cases h
theorem entL_in {w : List Nat} {xs : px_NL} (h : w ∈ xs.map Prod.fst) : entL w xs = xs := by
  unfold entL
  rw [if_pos (idx_iff.mpr h)]
theorem setR_entL {w : List Nat} {xs : px_NL} {i : Nat} {f : px_NR → px_NR} (hi : i < xs.length) : setR (entL w xs) i f = entL w (setR xs i f) := by
  unfold entL
  rw [setR_fst]
  split
  · rfl
  · unfold setR
    rw [List.getElem?_append_left hi, List.getElem?_eq_getElem hi]
    show (xs ++ [(w, nr0)]).set i _ = xs.set i _ ++ _
    rw [List.set_append_left _ _ hi]
theorem getD_entL {w : List Nat} {xs : px_NL} {i : Nat} {d : List Nat × px_NR} (hi : i < xs.length) : (entL w xs).getD i d = xs.getD i d := by
  unfold entL
  split
  · rfl
  · rw [List.getD_eq_getElem?_getD, List.getD_eq_getElem?_getD, List.getElem?_append_left hi]
/-- comS over variables -/
def comG (S : Nat) (Y : List Nat) (f g : px_NR → px_NR) (st : px_NL × List Nat) : Bool × px_NL × List Nat :=
  if S = 0 then (true, setR (entL Y st.1) (plc Y (st.1.map Prod.fst)) f, st.2)
  else if S = 3 ∧ ((entL Y st.1).getD (plc Y (st.1.map Prod.fst)) ([], nr0)).2.1 = 3 then (false, entL Y st.1, st.2)
  else (true, setR (entL Y st.1) (plc Y (st.1.map Prod.fst)) g, if ((entL Y st.1).getD (plc Y (st.1.map Prod.fst)) ([], nr0)).2.1 = 0 then st.2 ++ [plc Y (st.1.map Prod.fst)] else st.2)
theorem comS_G {dr : Nat → Bool} {t : Nat} {b : Nat → Nat} {k : Nat} {st : px_NL × List Nat} : comS dr t b k st = comG (sOf dr t b k) (yT b k) (fun r => (r.1, (r.2.1 || decide (yB b k = 1)), r.2.2)) (cmS (sOf dr t b k) t k (yZ b k) (yV b k)) st := by
  unfold comS comG
  rfl
def tkG (B S : Nat) (Y : List Nat) (f g : px_NR → px_NR) (s : px_TS) : px_TS :=
  if B = 0 then s
  else if s.1 = 1 then (1, entL Y s.2.1, s.2.2.1, s.2.2.2)
  else if (comG S Y f g (s.2.1, s.2.2.1)).1 = true then (s.1, (comG S Y f g (s.2.1, s.2.2.1)).2.1, (comG S Y f g (s.2.1, s.2.2.1)).2.2, s.2.2.2)
  else (1, (comG S Y f g (s.2.1, s.2.2.1)).2.1, (comG S Y f g (s.2.1, s.2.2.1)).2.2, some Y)
theorem tk1_G {dr : Nat → Bool} {t : Nat} {b : Nat → Nat} {k : Nat} {s : px_TS} : tk1 dr t b k s = tkG (yB b k) (sOf dr t b k) (yT b k) (fun r => (r.1, (r.2.1 || decide (yB b k = 1)), r.2.2)) (cmS (sOf dr t b k) t k (yZ b k) (yV b k)) s := by
  unfold tk1 tkG
  rw [comS_G]
/-- a name entered -/
def tEn (w : List Nat) (s : px_TS) : px_TS := (s.1, entL w s.2.1, s.2.2.1, s.2.2.2)
section PTK
variable {B S : Nat} {Y w : List Nat} {f g : px_NR → px_NR}
theorem comG_in {xs : px_NL} {od : List Nat} (h : Y ∈ xs.map Prod.fst) : comG S Y f g (entL w xs, od) = ((comG S Y f g (xs, od)).1, entL w (comG S Y f g (xs, od)).2.1, (comG S Y f g (xs, od)).2.2) := by
  have h2 : Y ∈ (entL w xs).map Prod.fst := by rw [entL_fst]; exact ent_mem.mpr (Or.inr h)
  have hp : plc Y ((entL w xs).map Prod.fst) = plc Y (xs.map Prod.fst) := by rw [entL_fst]; exact plc_ent h
  have hl : plc Y (xs.map Prod.fst) < xs.length := by have := plc_lt h; rw [List.length_map] at this; exact this
  unfold comG
  show (if S = 0 then (true, setR (entL Y (entL w xs)) (plc Y ((entL w xs).map Prod.fst)) f, od) else if S = 3 ∧ ((entL Y (entL w xs)).getD (plc Y ((entL w xs).map Prod.fst)) ([], nr0)).2.1 = 3 then (false, entL Y (entL w xs), od) else (true, setR (entL Y (entL w xs)) (plc Y ((entL w xs).map Prod.fst)) g, if ((entL Y (entL w xs)).getD (plc Y ((entL w xs).map Prod.fst)) ([], nr0)).2.1 = 0 then od ++ [plc Y ((entL w xs).map Prod.fst)] else od)) = _
  show _ = ((if S = 0 then (true, setR (entL Y xs) (plc Y (xs.map Prod.fst)) f, od) else if S = 3 ∧ ((entL Y xs).getD (plc Y (xs.map Prod.fst)) ([], nr0)).2.1 = 3 then (false, entL Y xs, od) else (true, setR (entL Y xs) (plc Y (xs.map Prod.fst)) g, if ((entL Y xs).getD (plc Y (xs.map Prod.fst)) ([], nr0)).2.1 = 0 then od ++ [plc Y (xs.map Prod.fst)] else od) : Bool × px_NL × List Nat).1, entL w (if S = 0 then (true, setR (entL Y xs) (plc Y (xs.map Prod.fst)) f, od) else if S = 3 ∧ ((entL Y xs).getD (plc Y (xs.map Prod.fst)) ([], nr0)).2.1 = 3 then (false, entL Y xs, od) else (true, setR (entL Y xs) (plc Y (xs.map Prod.fst)) g, if ((entL Y xs).getD (plc Y (xs.map Prod.fst)) ([], nr0)).2.1 = 0 then od ++ [plc Y (xs.map Prod.fst)] else od) : Bool × px_NL × List Nat).2.1, (if S = 0 then (true, setR (entL Y xs) (plc Y (xs.map Prod.fst)) f, od) else if S = 3 ∧ ((entL Y xs).getD (plc Y (xs.map Prod.fst)) ([], nr0)).2.1 = 3 then (false, entL Y xs, od) else (true, setR (entL Y xs) (plc Y (xs.map Prod.fst)) g, if ((entL Y xs).getD (plc Y (xs.map Prod.fst)) ([], nr0)).2.1 = 0 then od ++ [plc Y (xs.map Prod.fst)] else od) : Bool × px_NL × List Nat).2.2)
  rw [entL_in h2, hp, entL_in h, getD_entL hl, setR_entL hl, setR_entL hl]
  by_cases c1 : S = 0
  · rw [if_pos c1, if_pos c1]
  · rw [if_neg c1, if_neg c1]
    by_cases c2 : S = 3 ∧ (xs.getD (plc Y (xs.map Prod.fst)) ([], nr0)).2.1 = 3
    · rw [if_pos c2, if_pos c2]
    · rw [if_neg c2, if_neg c2]
theorem tkG_in {s : px_TS} (h : B ≠ 0 → Y ∈ txs s) : tkG B S Y f g (tEn w s) = tEn w (tkG B S Y f g s) := by
  obtain ⟨a, xs, od, bl⟩ := s
  by_cases c0 : B = 0
  · unfold tkG; rw [if_pos c0, if_pos c0]
  · have h : Y ∈ xs.map Prod.fst := h c0
    have h2 : Y ∈ (entL w xs).map Prod.fst := by rw [entL_fst]; exact ent_mem.mpr (Or.inr h)
    unfold tkG
    rw [if_neg c0, if_neg c0]
    show (if a = 1 then (1, entL Y (entL w xs), od, bl) else if (comG S Y f g (entL w xs, od)).1 = true then (a, (comG S Y f g (entL w xs, od)).2.1, (comG S Y f g (entL w xs, od)).2.2, bl) else (1, (comG S Y f g (entL w xs, od)).2.1, (comG S Y f g (entL w xs, od)).2.2, some Y)) = tEn w (if a = 1 then (1, entL Y xs, od, bl) else if (comG S Y f g (xs, od)).1 = true then (a, (comG S Y f g (xs, od)).2.1, (comG S Y f g (xs, od)).2.2, bl) else (1, (comG S Y f g (xs, od)).2.1, (comG S Y f g (xs, od)).2.2, some Y))
    by_cases c1 : a = 1
    · rw [if_pos c1, if_pos c1, entL_in h2, entL_in h]; rfl
    · rw [if_neg c1, if_neg c1, comG_in h]
      generalize comG S Y f g (xs, od) = R
      show (if R.1 = true then (a, entL w R.2.1, R.2.2, bl) else (1, entL w R.2.1, R.2.2, some Y)) = _
      by_cases c2 : R.1 = true
      · rw [if_pos c2, if_pos c2]; rfl
      · rw [if_neg c2, if_neg c2]; rfl
theorem plc_self {xs : px_NL} : plc Y ((entL Y xs).map Prod.fst) = plc Y (xs.map Prod.fst) := by
  rw [entL_fst]
  unfold ent plc
  split
  · rfl
  · rename_i h
    have e : idx Y 0 (xs.map Prod.fst) = none := by
      cases e : idx Y 0 (xs.map Prod.fst) with
      | none => rfl
      | some i => rw [e] at h; exact absurd rfl h
    rw [idx_last e, e, Nat.zero_add]
    rfl
theorem tkG_self {s : px_TS} : tkG B S Y f g (tEn Y s) = if B = 0 then tEn Y s else tkG B S Y f g s := by
  obtain ⟨a, xs, od, bl⟩ := s
  by_cases c0 : B = 0
  · rw [if_pos c0]; unfold tkG; rw [if_pos c0]
  · rw [if_neg c0]
    have h2 : Y ∈ (entL Y xs).map Prod.fst := by rw [entL_fst]; exact ent_mem.mpr (Or.inl rfl)
    have e : comG S Y f g (entL Y xs, od) = comG S Y f g (xs, od) := by
      unfold comG
      show (if S = 0 then (true, setR (entL Y (entL Y xs)) (plc Y ((entL Y xs).map Prod.fst)) f, od) else if S = 3 ∧ ((entL Y (entL Y xs)).getD (plc Y ((entL Y xs).map Prod.fst)) ([], nr0)).2.1 = 3 then (false, entL Y (entL Y xs), od) else (true, setR (entL Y (entL Y xs)) (plc Y ((entL Y xs).map Prod.fst)) g, if ((entL Y (entL Y xs)).getD (plc Y ((entL Y xs).map Prod.fst)) ([], nr0)).2.1 = 0 then od ++ [plc Y ((entL Y xs).map Prod.fst)] else od)) = _
      rw [entL_in h2, plc_self]
    unfold tkG
    rw [if_neg c0, if_neg c0]
    show (if a = 1 then (1, entL Y (entL Y xs), od, bl) else if (comG S Y f g (entL Y xs, od)).1 = true then (a, (comG S Y f g (entL Y xs, od)).2.1, (comG S Y f g (entL Y xs, od)).2.2, bl) else (1, (comG S Y f g (entL Y xs, od)).2.1, (comG S Y f g (entL Y xs, od)).2.2, some Y)) = _
    rw [e, entL_in h2]
end PTK
end
section
/-! names first, definitions then: whole -/
def eS (b : Nat → Nat) (k : Nat) (s : px_TS) : px_TS := if hsN b k = true then tEn (yT b k) s else s
section PTL
variable {dr : Nat → Bool} {t : Nat} {b : Nat → Nat}
theorem eS_mem {k : Nat} {s : px_TS} {w : List Nat} (h : w ∈ txs s) : w ∈ txs (eS b k s) := by
  unfold eS
  split
  · show w ∈ (entL _ s.2.1).map Prod.fst
    rw [entL_fst]
    exact ent_mem.mpr (Or.inr h)
  · exact h
theorem tk1_in {k j : Nat} {s : px_TS} (h : yB b k ≠ 0 → yT b k ∈ txs s) : tk1 dr t b k (eS b j s) = eS b j (tk1 dr t b k s) := by
  unfold eS
  split
  · rw [tk1_G, tk1_G]
    exact tkG_in h
  · rfl
theorem tk1_ins {k : Nat} : ∀ (c j : Nat) (s : px_TS), (yB b k ≠ 0 → yT b k ∈ txs s) → tk1 dr t b k (itr (eS b) j c s) = itr (eS b) j c (tk1 dr t b k s) := by
  intro c
  induction c with
  | zero => intro j s _; rfl
  | succ c ih =>
    intro j s h
    rw [itr_s, itr_s, ih (j + 1) (eS b j s) (fun q => eS_mem (h q)), tk1_in h]
theorem tk1_self {k : Nat} {s : px_TS} (h1 : 1 ≤ k) (hk : k < oM b) : tk1 dr t b k (eS b k s) = tk1 dr t b k s := by
  unfold eS hsN
  by_cases c : yB b k = 0
  · rw [if_neg (show ¬ decide (1 ≤ k ∧ k < oM b ∧ yB b k ≠ 0) = true from fun q => (of_decide_eq_true q).2.2 c)]
  · rw [if_pos (decide_eq_true ⟨h1, hk, c⟩), tk1_G, tkG_self, if_neg c, tk1_G]
theorem tks_ent : ∀ (c k : Nat) (s : px_TS), 1 ≤ k → k + c ≤ oM b → itr (tk1 dr t b) k c (itr (eS b) k c s) = itr (tk1 dr t b) k c s := by
  intro c
  induction c with
  | zero => intro k s _ _; rfl
  | succ c ih =>
    intro k s h1 hk
    rw [itr_s, itr_s, itr_s, tk1_ins c (k + 1) (eS b k s) (fun q => ?_), ih (k + 1) _ (by omega) (by omega), tk1_self h1 (by omega)]
    unfold eS hsN
    rw [if_pos (decide_eq_true ⟨h1, by omega, q⟩)]
    show yT b k ∈ (entL _ s.2.1).map Prod.fst
    rw [entL_fst]
    exact ent_mem.mpr (Or.inl rfl)
theorem eS_c : ∀ (c k : Nat) (s : px_TS), itr (eS b) k c s = (s.1, itr (ec1 b) k c s.2.1, s.2.2.1, s.2.2.2) := by
  intro c
  induction c with
  | zero => intro k s; rfl
  | succ c ih =>
    intro k s
    rw [itr_s, itr_s, ih]
    unfold eS ec1
    split <;> rfl
theorem itr_add {α : Type} {g : Nat → α → α} : ∀ (c d k : Nat) (s : α), itr g k (c + d) s = itr g (k + c) d (itr g k c s) := by
  intro c
  induction c with
  | zero => intro d k s; rw [Nat.zero_add, itr_0, Nat.add_zero]
  | succ c ih =>
    intro d k s
    rw [show c + 1 + d = (c + d) + 1 by omega, itr_s, itr_s, ih, show k + 1 + c = k + (c + 1) by omega]
theorem ec_64 (h64 : oM b ≤ 64) (xs : px_NL) : itr (ec1 b) 0 64 xs = itr (ec1 b) 1 (oM b - 1) xs := by
  have hid : ∀ k, (k = 0 ∨ oM b ≤ k) → ∀ ys : px_NL, ec1 b k ys = ys := fun k hk ys => by
    unfold ec1 hsN
    rw [if_neg (show ¬ decide (1 ≤ k ∧ k < oM b ∧ yB b k ≠ 0) = true from fun q => by have := of_decide_eq_true q; omega)]
  by_cases c : oM b = 0
  · rw [c, itr_0]
    exact itr_idr 64 0 (fun j _ _ => hid j (Or.inr (by omega)) xs)
  · rw [show (64 : Nat) = 1 + ((oM b - 1) + (64 - oM b)) by omega, itr_add, itr_add]
    show itr (ec1 b) (0 + 1 + (oM b - 1)) (64 - oM b) (itr (ec1 b) (0 + 1) (oM b - 1) (ec1 b 0 xs)) = _
    rw [hid 0 (Or.inl rfl)]
    exact itr_idr _ _ (fun j h1 _ => hid j (Or.inr (by omega)) _)
/-- all names entered, then the symbols one by one -/
theorem tks_first (h64 : oM b ≤ 64) (s : px_TS) : itr (tk1 dr t b) 1 (oM b - 1) s = itr (tk1 dr t b) 1 (oM b - 1) (s.1, itr (ec1 b) 0 64 s.2.1, s.2.2.1, s.2.2.2) := by
  rw [ec_64 h64, ← eS_c]
  by_cases c : oM b = 0
  · rw [c]; rfl
  · rw [tks_ent _ _ _ (Nat.le_refl _) (by omega)]
theorem ec_mem {xs : px_NL} : ∀ (c k : Nat) (xs : px_NL), (∀ w, w ∈ xs.map Prod.fst → w ∈ (itr (ec1 b) k c xs).map Prod.fst) ∧ ∀ j, k ≤ j → j < k + c → hsN b j = true → yT b j ∈ (itr (ec1 b) k c xs).map Prod.fst := by
  intro c
  induction c with
  | zero => intro k xs; exact ⟨fun w h => h, fun j h1 h2 => by omega⟩
  | succ c ih =>
    intro k xs
    obtain ⟨i1, i2⟩ := ih (k + 1) (ec1 b k xs)
    rw [itr_s]
    refine ⟨fun w h => i1 w ?_, fun j h1 h2 hj => ?_⟩
    · unfold ec1
      split
      · rw [entL_fst]; exact ent_mem.mpr (Or.inr h)
      · exact h
    · by_cases e : j = k
      · rw [e] at hj ⊢
        refine i1 _ ?_
        unfold ec1
        rw [if_pos hj, entL_fst]
        exact ent_mem.mpr (Or.inl rfl)
      · exact i2 j (by omega) (by omega) hj
/-- behind a double nothing comes -/
theorem tk1_stop {s : px_TS} {k : Nat} (h : s.1 = 1) (hm : yB b k ≠ 0 → yT b k ∈ txs s) : tk1 dr t b k s = s := by
  unfold tk1
  by_cases c : yB b k = 0
  · rw [if_pos c]
  · rw [if_neg c, if_pos h, entL_in (hm c)]
    obtain ⟨a, xs, od, bl⟩ := s
    have h : a = 1 := h
    rw [h]
end PTL
end
section
/-! dropGroups of the class -/
/-- what the class has marked as taken stays -/
def frTq (τ τ' : px_TT) : Prop := fI τ' 147 14 = fI τ 147 14 ∧ (∀ a k, 10 ≤ a → a < 138 → fI τ' a k = fI τ a k) ∧ eN τ' 1689 = eN τ 1689
theorem frTq_refl {τ : px_TT} : frTq τ τ := ⟨rfl, fun _ _ _ _ => rfl, rfl⟩
theorem frTq_trans {τ τ1 τ2 : px_TT} (h : frTq τ τ1) (g : frTq τ1 τ2) : frTq τ τ2 := ⟨g.1.trans h.1, fun a k h1 h2 => (g.2.1 a k h1 h2).trans (h.2.1 a k h1 h2), g.2.2.trans h.2.2⟩
theorem frTq_I {τ : px_TT} {a k : Nat} {v : Int32} (h : 1815 ≤ a ∨ (a = 147 ∧ k ≠ 14)) : frTq τ (tI τ a k v) := ⟨tI_ne (by omega), fun x y h1 h2 => tI_ne (Or.inl (by omega)), rfl⟩
theorem frTq_Op {τ τ' : px_TT} {t : Nat} (f : frOp t τ τ') : frTq τ τ' := ⟨f.1 147 14 (by omega), fun a k h1 h2 => f.1 a k (by omega), f.2.2.2.2.2 1689⟩
theorem frTq_X {τ τ' : px_TT} {p : Nat} (f : frX p τ τ') (hp : 1815 ≤ p) : frTq τ τ' := ⟨f.1 147 14 (by omega) (Or.inr (by decide)), fun a k h1 h2 => f.1 a k (by omega) (Or.inl (by omega)), f.2.2.2.2.2.2 1689 (by decide)⟩
theorem frTq_Sy {τ τ' : px_TT} {t N : Nat} (f : frSy t N τ τ') : frTq τ τ' := ⟨f.1 147 14 (by decide) (by decide) (Or.inl (by decide)), fun a k h1 h2 => f.1 a k (by omega) (by omega) (Or.inl (by omega)), f.2.2.2.2.2.1 1689 (by decide) (by decide)⟩
section CDG
variable {F : Nat} {c : px_CT} {sk sk' : Nat → Nat × Nat × Nat} {L L' : Nat} {τ τ' : px_TT} {tb : Nat → Nat → Nat} {xs : px_NL} {od : List Nat} {sg sg' : List (List Nat)} {own : Nat → Nat × Nat} {w : List Nat} {t N : Nat} {b : Nat → Nat}
theorem CLn_fx (h : CLn sk L τ tb xs od sg) (hn : NP sk L τ own) (e : EX sk L sk' L') (hI : ∀ a k, (1815 ≤ a ∨ (a = 148 ∧ k = 2) ∨ (a = 147 ∧ k = 15)) → fI τ' a k = fI τ a k) (hJ : ∀ a k, 1815 ≤ a → fJ τ' a k = fJ τ a k) (hN : ∀ a k, (1815 ≤ a ∨ a = 148) → fN τ' a k = fN τ a k) (e1 : eN τ' 149 = eN τ 149) (e2 : eN τ' 1693 = eN τ 1693) : CLn sk' L' τ' tb xs od sg := by
  obtain ⟨⟨s1, s2, s3, s4, s5, s6, s7⟩, h2, h3, h4⟩ := h
  have eP : ∀ j, pN τ' 149 j = pN τ 149 j := fun j => by unfold pN; rw [e1]
  refine ⟨⟨ob_ex s1 e, (hN 148 0 (Or.inr rfl)).trans s2, ar_ex s3 e, s4, s5, (hI 148 2 (by omega)).trans s6, fun j v hv => ?_⟩, fun i x hx => ?_, ⟨(hI 147 15 (by omega)).trans h3.1, fun i d hd => ?_⟩, h4⟩
  · obtain ⟨y1, y2, y3, y4⟩ := s7 j v hv
    have hg := (hn 149 j _ (Or.inr (Or.inr rfl)) y2).1
    rw [eP, e1]
    exact ⟨y1, y2, ob_ex y3 e, (hJ _ 0 hg).trans y4.1, (hJ _ 1 hg).trans y4.2.1, (hJ _ 2 hg).trans y4.2.2.1, (hI _ 3 (Or.inl hg)).trans y4.2.2.2⟩
  · obtain ⟨y1, y2, y3, y4⟩ := s7 i x.1 (by rw [List.getElem?_map, hx]; rfl)
    have hg := (hn 149 i _ (Or.inr (Or.inr rfl)) y2).1
    obtain ⟨r1, r2⟩ := h2 i x hx
    rw [eP]
    exact ⟨crec_fr r1 (fun k => hI _ k (Or.inl hg)) (fun k => hJ _ k hg) (fun k => hN _ k (Or.inl hg)), (hI _ 12 (Or.inl hg)).trans r2⟩
  · rw [e2, eP]; exact h3.2 i d hd
theorem RSy_fx {j : Nat} (h : RSy τ t b xs j) (e1 : eN τ' 149 = eN τ 149) (e2 : ∀ k, k < j → eN τ' 1692 (64 * t + k) = eN τ 1692 (64 * t + k)) : RSy τ' t b xs j := fun k hk => by
  obtain ⟨h1, h2⟩ := h k hk
  refine ⟨?_, h2⟩
  rw [e2 k hk, h1]
  unfold syN pN
  rw [e1]
theorem NP_fx (hn : NP sk L τ own) (e : ∀ A, (A = 141 ∨ A = 144 ∨ A = 149) → eN τ' A = eN τ A) : NP sk L τ' own := fun A i p hA hp => by
  rw [e A hA] at hp
  exact hn A i p hA hp
theorem nd_at {l : List (List Nat)} {i j : Nat} {v : List Nat} (h : l.Nodup) (h1 : l[i]? = some v) (h2 : l[j]? = some v) : i = j := by
  have e1 := idx_nd h h1
  have e2 := idx_nd h h2
  exact Option.some.inj (e1.symm.trans e2)
theorem plc_get {l : List (List Nat)} (h : w ∈ l) : l[plc w l]? = some w := by
  obtain ⟨i, hi⟩ := Option.isSome_iff_exists.mp (idx_iff.mpr h)
  have := idx_some hi
  unfold plc
  rw [hi]
  exact this
theorem CLn_sg {p : Nat} (h : CLn sk L τ tb xs od sg) (hn : NP sk L τ own) (hnd : (xs.map Prod.fst).Nodup) (hw : w ∈ xs.map Prod.fst) (hp : p = pN τ 149 (plc w (xs.map Prod.fst))) (hsg : ∀ v, v ∈ sg' ↔ v = w ∨ v ∈ sg) : CLn sk L (tI τ p 12 (bI true)) tb xs od sg' := by
  have hpl := plc_get hw
  obtain ⟨⟨s1, s2, s3, s4, s5, s6, s7⟩, h2, h3, h4⟩ := h
  obtain ⟨y1, y2, y3, y4⟩ := s7 _ _ hpl
  rw [← hp] at y2 y3 y4
  have hg := (hn 149 _ _ (Or.inr (Or.inr rfl)) y2).1
  have eP : ∀ j, pN (tI τ p 12 (bI true)) 149 j = pN τ 149 j := fun j => rfl
  refine ⟨⟨s1, s2, s3, s4, s5, (tI_ne (Or.inl (by omega))).trans s6, fun j v hv => ?_⟩, fun i x hx => ?_, ⟨(tI_ne (Or.inl (by omega))).trans h3.1, fun i d hd => h3.2 i d hd⟩, fun v hv => ?_⟩
  · obtain ⟨z1, z2, z3, z4⟩ := s7 j v hv
    exact ⟨z1, z2, z3, z4.1, z4.2.1, z4.2.2.1, (tI_ne (Or.inr (by decide))).trans z4.2.2.2⟩
  · have hx1 : (xs.map Prod.fst)[i]? = some x.1 := by rw [List.getElem?_map, hx]; rfl
    obtain ⟨z1, z2, z3, z4⟩ := s7 i x.1 hx1
    obtain ⟨r1, r2⟩ := h2 i x hx
    rw [eP]
    constructor
    · unfold crec cdf
      rw [show fI (tI τ p 12 (bI true)) (pN τ 149 i) 4 = fI τ (pN τ 149 i) 4 from tI_ne (Or.inr (by decide)), show fI (tI τ p 12 (bI true)) (pN τ 149 i) 10 = fI τ (pN τ 149 i) 10 from tI_ne (Or.inr (by decide)), show fI (tI τ p 12 (bI true)) (pN τ 149 i) 11 = fI τ (pN τ 149 i) 11 from tI_ne (Or.inr (by decide)), show fI (tI τ p 12 (bI true)) (pN τ 149 i) 5 = fI τ (pN τ 149 i) 5 from tI_ne (Or.inr (by decide)), show fI (tI τ p 12 (bI true)) (pN τ 149 i) 13 = fI τ (pN τ 149 i) 13 from tI_ne (Or.inr (by decide)), show fI (tI τ p 12 (bI true)) (pN τ 149 i) 15 = fI τ (pN τ 149 i) 15 from tI_ne (Or.inr (by decide)), show fI (tI τ p 12 (bI true)) (pN τ 149 i) 16 = fI τ (pN τ 149 i) 16 from tI_ne (Or.inr (by decide))]
      exact r1
    · by_cases ci : i = plc w (xs.map Prod.fst)
      · have ew : x.1 = w := by
          rw [ci, hpl] at hx1
          exact (Option.some.inj hx1).symm
        rw [ci, ← hp, tI_at, decide_eq_true ((hsg x.1).mpr (Or.inl ew))]
      · have ne : pN τ 149 i ≠ p := NP_ne hn (Or.inr (Or.inr rfl)) (Or.inr (Or.inr rfl)) z2 y2 (fun q => ci q.2)
        rw [tI_ne (Or.inl ne), r2]
        have hx2 : x.1 ≠ w := fun q => ci (nd_at hnd (by rw [hx1, q]) hpl)
        congr 1
        by_cases c : x.1 ∈ sg
        · rw [decide_eq_true c, decide_eq_true ((hsg x.1).mpr (Or.inr c))]
        · rw [decide_eq_false c, decide_eq_false (fun q => ((hsg x.1).mp q).elim hx2 c)]
  · rcases (hsg v).mp hv with e | e
    · rw [e]; exact hw
    · exact h4 v e
theorem frTk_p {i p k : Nat} {v : Int32} (hn : NP sk L τ own) (hp : eN τ 149 i = some p) : frTk t N τ (tI τ p k v) := by
  have h1 := (hn 149 i p (Or.inr (Or.inr rfl)) hp).1
  refine ⟨fun a y a1 _ _ _ _ _ => tI_ne (Or.inl (by omega)), fun _ _ _ _ _ => rfl, fun _ _ _ _ => rfl, fun _ => rfl, fun _ => rfl, fun _ _ _ _ _ => rfl, fun _ _ => rfl, fun _ _ => rfl, fun _ _ => rfl, fun B j q hB hq => ?_⟩
  have hB3 : B = 141 ∨ B = 144 ∨ B = 149 := by omega
  have hne : q ≠ p := NP_ne hn hB3 (Or.inr (Or.inr rfl)) hq hp (fun e => by omega)
  exact ⟨fun y => tI_ne (Or.inl hne), fun _ => rfl, fun _ => rfl⟩
end CDG
end
section
/-! dropGroups of the class: its loop -/
section CDH
variable {F : Nat} {c : px_CT} {sk : Nat → Nat × Nat × Nat} {L : Nat} {tb : Nat → Nat → Nat} {q g base u n t N : Nat} {S : Nat → Int32} {xs : px_NL} {od : List Nat} {own : Nat → Nat × Nat} {b : Nat → Nat}
theorem dg1_no {i : Nat} {s : (Nat → Bool) × Nat × List (List Nat)} (h : ¬ (oT b i = 17 ∧ gN b i 0 = 1)) : dg1 t b i s = s := by
  unfold dg1
  rw [if_neg h]
theorem dg1_in {i : Nat} {dr : Nat → Bool} {cn : Nat} {sg : List (List Nat)} (h : oT b i = 17 ∧ gN b i 0 = 1) (hw : yT b (oI b i) ∈ sg) : dg1 t b i (dr, cn, sg) = (mkD t b i 1 (oZ b i / 4 - 1) dr, cn + 1, sg) := by
  unfold dg1
  rw [if_pos h, if_pos (idx_iff.mpr hw)]
theorem dg1_new {i : Nat} {dr : Nat → Bool} {cn : Nat} {sg : List (List Nat)} (h : oT b i = 17 ∧ gN b i 0 = 1) (hw : yT b (oI b i) ∉ sg) : dg1 t b i (dr, cn, sg) = (dr, cn, sg ++ [yT b (oI b i)]) := by
  unfold dg1
  rw [if_pos h, if_neg (fun q => hw (idx_iff.mp q))]
/-- what holds in the loop -/
def DGs (sk : Nat → Nat × Nat × Nat) (L : Nat) (own : Nat → Nat × Nat) (tb : Nat → Nat → Nat) (t : Nat) (b : Nat → Nat) (base u : Nat) (xs : px_NL) (od : List Nat) (τ : px_TT) (s : (Nat → Bool) × Nat × List (List Nat)) : Prop := NP sk L τ own ∧ CLn sk L τ tb xs od s.2.2 ∧ RSy τ t b xs 64 ∧ RPd τ t b base u s.1 ∧ fI τ 147 17 = nI s.2.1
theorem k_dg_2 (hS : GS sk L) (hF : 65536 < F) (hq : 7 ≤ q ∧ q < 138) (hg7 : 7 ≤ g ∧ g < 140) (ht : t < 64) (hb : b = cb S base n) (hnd : (xs.map Prod.fst).Nodup) : ∀ (d i f : Nat) (τ : px_TT) (s : (Nat → Bool) × Nat × List (List Nat)), i + d = oS b → d < f → s.2.1 + d < 2 ^ 31 → GR τ → cD sk L τ q g base n S → DGs sk L own tb t b base u xs od τ s → ∃ τ', f_Link_dropGroups_2 F c f 147 (nI t) (some q) (nI i) (cH sk L τ) = some ((), cH sk L τ') ∧ DGs sk L own tb t b base u xs od τ' (itr (dg1 t b) i d s) ∧ frTk t N τ τ' ∧ (frTq τ τ' ∧ fN τ' 147 13 = fN τ 147 13) := by
  intro d
  induction d with
  | zero =>
    intro i f τ s hi hf hc hR hD hs
    obtain ⟨f, rfl⟩ : ∃ x, f = x + 1 := ⟨f - 1, by omega⟩
    refine ⟨τ, ?_, hs, frTk_refl, frTq_refl, rfl⟩
    have h24 := hD.1.1.1.2.1.2.2
    rw [← hb] at h24
    unfold f_Link_dropGroups_2 f_Link_dropGroups_110
    rw [bs, C7g8 hD.1.1.1.1.1, bs, hD.1.1.1.2.2.2.2, ← hb, if_pos (nI_le (by omega) (by omega))]
  | succ d ih =>
    intro i f τ s hi hf hc hR hD hs
    obtain ⟨f, rfl⟩ : ∃ x, f = x + 1 := ⟨f - 1, by omega⟩
    have hr := hD.1.1.1
    have o := hr.1.1
    have h24 := hD.1.1.1.2.1.2.2
    rw [← hb] at h24
    have iS : i < oS (cb S base n) := by rw [← hb]; omega
    have kP := k_P (F := F) (c := c) hr (by omega) iS
    have kT := k_T (F := F) (c := c) hr (by omega) iS
    have go : ∀ (s1 : (Nat → Bool) × Nat × List (List Nat)) (τ1 : px_TT), s1 = dg1 t b i s → s1.2.1 ≤ s.2.1 + 1 → DGs sk L own tb t b base u xs od τ1 s1 → frTk t N τ τ1 → (frTq τ τ1 ∧ fN τ1 147 13 = fN τ 147 13) → ∃ τ', f_Link_dropGroups_104 F c (f_Link_dropGroups_2 F c f) 147 (nI t) (some q) (nI i) (cH sk L τ1) = some ((), cH sk L τ') ∧ DGs sk L own tb t b base u xs od τ' (itr (dg1 t b) i (d + 1) s) ∧ frTk t N τ τ' ∧ (frTq τ τ' ∧ fN τ' 147 13 = fN τ 147 13) := fun s1 τ1 e1 e2 hs1 f1 x1 => by
      obtain ⟨τ', j1, j2, j3, j4, j5⟩ := ih (i + 1) f τ1 s1 (by omega) (by omega) (by omega) (GR_Tk hR f1) (cD_mv hD EX_refl (SF_Tk f1) (by omega) hg7) hs1
      refine ⟨τ', ?_, ?_, frTk_trans f1 j3 (Nat.le_refl _), frTq_trans x1.1 j4, j5.trans x1.2⟩
      · unfold f_Link_dropGroups_104
        rw [nI_add]
        exact j1
      · rw [itr_s, ← e1]; exact j2
    unfold f_Link_dropGroups_2
    rw [bs, C7g8 o, bs, hr.2.2.2.2, if_neg (nI_ge iS (by rw [← hb]; omega)), c_o o, bs, kP, xb_mk, c_o o, bs, kT, xb_mk]
    by_cases cT : oT b i = 17
    · have h1i : 1 ≤ i := by
        rcases Nat.eq_zero_or_pos i with e | e
        · rw [e, hb, (eObj_g hD.2.2).1] at cT; cases cT
        · exact e
      have hgh := of_decide_eq_true ((eObj_g hD.2.2).2 i h1i iS (by rw [← hb]; exact cT))
      obtain ⟨z0, z5, z6⟩ := (eObj_0 hD.2.2).2.2 i h1i iS (by rw [← hb]; exact cT)
      have hn : base + n ≤ 65536 := hr.1.2.2.2.2.2.2.2.2.1
      have hnum := k_num (F := F) (c := c) (x := oP (cb S base n) i) (k := 4) hr.1 (by omega) (by decide) (by omega)
      rw [nm_in (by omega), show le (cb S base n) (oP (cb S base n) i) 4 = gN (cb S base n) i 0 from by unfold gN; rw [Nat.mul_zero, Nat.add_zero]] at hnum
      rw [if_pos (show lN (oT (cb S base n) i) = 17 by rw [← hb, cT]; rfl), c_o o, bs, lN_i, hnum, xb_mk]
      have hgn : gN (cb S base n) i 0 ≤ 1 := hgh.2.2.2.2.2.2.2
      by_cases cG : gN b i 0 = 1
      · rw [if_pos (show lN (gN (cb S base n) i 0) = lN 1 by rw [← hb, cG])]
        obtain ⟨hn1, hC, hRS, hRP, h17⟩ := id hs
        have hM : oM (cb S base n) ≤ 64 := w2_M hD.1.2.2
        have hI64 : oI b i < 64 := by rw [hb]; omega
        have hhs : hsN b (oI b i) = true := decide_eq_true ⟨by rw [hb]; exact hgh.2.2.2.2.1, by rw [hb]; exact hgh.2.2.2.2.2.1, by rw [hb]; exact hgh.2.2.2.2.2.2.1⟩
        obtain ⟨y1, y2⟩ := hRS _ hI64
        have y2 := y2 hhs
        unfold syN at y1
        rw [if_pos hhs] at y1
        have hpl := plc_get y2
        obtain ⟨w, hw⟩ : ∃ w, w = yT b (oI b i) := ⟨_, rfl⟩
        have dgi := fun (h : yT b (oI b i) ∈ s.2.2) => dg1_in (t := t) (dr := s.1) (cn := s.2.1) (sg := s.2.2) ⟨cT, cG⟩ h
        have dgn := fun (h : yT b (oI b i) ∉ s.2.2) => dg1_new (t := t) (dr := s.1) (cn := s.2.1) (sg := s.2.2) ⟨cT, cG⟩ h
        rw [← hw] at y1 y2 hpl dgi dgn
        obtain ⟨P, hP⟩ : ∃ P, P = plc w (xs.map Prod.fst) := ⟨_, rfl⟩
        obtain ⟨x, hx, hxw⟩ : ∃ x, xs[P]? = some x ∧ x.1 = w := by
          rw [← hP, List.getElem?_map] at hpl
          cases e : xs[P]? with
          | none => rw [e] at hpl; cases hpl
          | some x => rw [e] at hpl; exact ⟨x, rfl, Option.some.inj hpl⟩
        obtain ⟨p, hp⟩ : ∃ p, p = pN τ 149 P := ⟨_, rfl⟩
        rw [← hP, ← hp] at y1
        obtain ⟨z1, z2, z3, z4⟩ := CLn_at hC hx
        have hfl := (hC.2.1 P x hx).2
        rw [← hp] at z2 z3 z4 hfl
        rw [hxw] at hfl
        have kI := k_I (F := F) (c := c) hr (by omega) iS
        have kI2 : (lN (oI (cb S base n) i)).toInt32 = nI (oI b i) := by rw [lN_i, hb]
        rw [c_o o, bs, kI, xb_mk, c_o (G147 hS), bs, kI2, k_nameOf hS hR ht hI64, y1, xb_mk]
        show ∃ τ', ((xgI (cH sk L τ) 5 12 p).bind _) = _ ∧ _
        rw [C5g12 z3, bs, hfl]
        by_cases cw : w ∈ s.2.2
        · rw [decide_eq_true cw, if_neg (show ¬ bI true = 0 by decide), C3g17 (G147 hS), bs, h17, nI_add, C3p17 (G147 hS), bs]
          obtain ⟨τ1, hτ1⟩ : ∃ x, x = tI τ 147 17 (nI (s.2.1 + 1)) := ⟨_, rfl⟩
          have f1 : frTk t N τ τ1 := by rw [hτ1]; exact frTk_I hn1 (Or.inl ⟨rfl, by omega⟩)
          have hD1 : cD sk L τ1 q g base n S := cD_mv hD EX_refl (SF_Tk f1) (by omega) hg7
          have hR1 := GR_Tk hR f1
          have hp1 : RPd τ1 t (cb S base n) base u s.1 := fun j hj => isPd_fr (by rw [← hb]; exact hRP j hj) (fun k => by rw [hτ1]; exact tI_ne (Or.inl (by omega)))
          have kZ := k_Z (F := F) (c := c) hD1.1.1.1 (by omega) iS
          obtain ⟨τ2, d1, d2, d3⟩ := k_dropParts (F := F) (c := c) hS hF hq.2 ht h1i iS (by rw [← hb]; exact cT) hR1 hD1 hp1
          have n1 : NP sk L τ1 own := NP_fx hn1 (fun A _ => by rw [hτ1]; rfl)
          have f2 : frTk t N τ1 τ2 := frTk_Op n1 d3 ht
          have n2 : NP sk L τ2 own := NP_fx n1 (fun A _ => d3.2.2.2.2.2 A)
          have e149 : eN τ2 149 = eN τ 149 := by rw [d3.2.2.2.2.2, hτ1]; rfl
          have hC2 : CLn sk L τ2 tb xs od s.2.2 := CLn_fx hC hn1 EX_refl (fun a k h => by rw [d3.1 a k (by omega), hτ1]; exact tI_ne (by omega)) (fun a k h => by rw [d3.2.1 a k (by omega), hτ1]; rfl) (fun a k h => by rw [d3.2.2.1 a k, hτ1]; rfl) e149 (by rw [d3.2.2.2.2.2, hτ1]; rfl)
          have hp2 : p = pN τ2 149 (plc w (xs.map Prod.fst)) := by rw [hp, hP]; unfold pN; rw [e149]
          have z22 : eN τ2 149 P = some p := by rw [e149]; exact z2
          have hC3 := CLn_sg (sg' := s.2.2) hC2 n2 hnd y2 hp2 (fun v => ⟨Or.inr, fun q => q.elim (fun e => by rw [e]; exact cw) id⟩)
          have f3 : frTk t N τ2 (tI τ2 p 12 (bI true)) := frTk_p n2 z22
          have hp15 := (n2 149 P p (Or.inr (Or.inr rfl)) z22).1
          obtain ⟨τ', j1, j2, j3, j4⟩ := go (mkD t b i 1 (oZ b i / 4 - 1) s.1, s.2.1 + 1, s.2.2) (tI τ2 p 12 (bI true)) (dgi cw).symm (Nat.le_refl _) ⟨NP_fx n2 (fun _ _ => rfl), hC3, RSy_fx hRS e149 (fun k _ => by show eN τ2 1692 _ = _; rw [d3.2.2.2.2.2, hτ1]; rfl), fun j hj => isPd_fr (by rw [hb]; exact d2 j hj) (fun k => tI_ne (Or.inl (by omega))), by
            show fI (tI τ2 p 12 (bI true)) 147 17 = nI (s.2.1 + 1)
            rw [tI_ne (Or.inl (by omega)), d3.1 147 17 (by omega), hτ1, tI_at]⟩ (frTk_trans f1 (frTk_trans f2 f3 (Nat.le_refl _)) (Nat.le_refl _)) ⟨frTq_trans (by rw [hτ1]; exact frTq_I (Or.inr ⟨rfl, by decide⟩)) (frTq_trans (frTq_Op d3) (frTq_I (Or.inl hp15))), by show fN τ2 147 13 = _; rw [d3.2.2.1, hτ1]; rfl⟩
          refine ⟨τ', ?_, j2, j3, j4⟩
          rw [← hτ1, c_o o, bs, kZ, xb_mk, c_o (G147 hS), bs, lN_i, d1, xb_mk]
          unfold f_Link_dropGroups_98
          rw [bs, show xpZ _ 5 12 p (nI 1) = _ from C5z12 z3 true, bs]
          exact j1
        · rw [decide_eq_false cw, if_pos (show bI false = 0 from rfl)]
          have hC3 := CLn_sg (sg' := s.2.2 ++ [w]) (p := p) hC hn1 hnd y2 (by rw [hp, hP]) (fun v => by rw [List.mem_append, List.mem_singleton]; exact Or.comm)
          have hp15 := (hn1 149 P p (Or.inr (Or.inr rfl)) z2).1
          obtain ⟨τ', j1, j2, j3, j4⟩ := go (s.1, s.2.1, s.2.2 ++ [w]) (tI τ p 12 (bI true)) (dgn cw).symm (Nat.le_succ _) ⟨NP_fx hn1 (fun _ _ => rfl), hC3, RSy_fx hRS rfl (fun k _ => rfl), fun j hj => isPd_fr (hRP j hj) (fun k => tI_ne (Or.inl (by omega))), (tI_ne (Or.inl (by omega))).trans h17⟩ (frTk_p hn1 z2) ⟨frTq_I (Or.inl hp15), rfl⟩
          refine ⟨τ', ?_, j2, j3, j4⟩
          unfold f_Link_dropGroups_98
          rw [bs, show xpZ _ 5 12 p (nI 1) = _ from C5z12 z3 true, bs]
          exact j1
      · have hg0 : gN (cb S base n) i 0 = 0 := by rw [← hb] at hgn ⊢; omega
        rw [hg0, if_neg (show ¬ lN 0 = lN 1 by decide)]
        exact go s τ (dg1_no (fun q => cG q.2)).symm (Nat.le_succ _) hs frTk_refl ⟨frTq_refl, rfl⟩
    · have hT32 : oT (cb S base n) i < 2 ^ 32 := le_lt (fun k => cb_lt _ _ _ k) _ _
      rw [if_neg (show ¬ lN (oT (cb S base n) i) = 17 from fun q => cT (by rw [hb]; exact (lEQ (a := oT (cb S base n) i) (b := 17) (by omega) (by decide)).mp q))]
      exact go s τ (dg1_no (fun q => cT q.1)).symm (Nat.le_succ _) hs frTk_refl ⟨frTq_refl, rfl⟩
end CDH
end
section
/-! settle of the class -/
theorem lt31 {a b : Nat} (ha : a < 2 ^ 31) (hb : b < 2 ^ 31) : (lN a < lN b) ↔ a < b := by
  rw [Int64.lt_iff_toInt_lt, lN_ti (by omega), lN_ti (by omega), if_pos (by omega), if_pos (by omega)]
  omega
theorem frX_refl {p : Nat} {τ : px_TT} : frX p τ τ := ⟨fun _ _ _ _ => rfl, fun _ _ _ => rfl, fun _ _ _ => rfl, ⟨fun _ _ => rfl, rfl, rfl⟩, fun _ => rfl, fun _ => rfl, fun _ _ => rfl⟩
section CST
variable {F : Nat} {c : px_CT} {sk : Nat → Nat × Nat × Nat} {L : Nat} {τ : px_TT} {tb : Nat → Nat → Nat} {q g base n k t p no : Nat} {S : Nat → Int32} {r : px_NR} {W V Z : Nat} {b : Nat → Nat} {dr : Nat → Bool}
/-- what settle leaves -/
def SOr (τ τ' : px_TT) (p no : Nat) (r : px_NR) : Prop := (r.1 = 0 → fI τ' 147 15 = nI (no + 1) ∧ eN τ' 1693 = va_up (eN τ 1693) no (some p)) ∧ (r.1 ≠ 0 → fI τ' 147 15 = nI no ∧ eN τ' 1693 = eN τ 1693)
theorem k_st_76 {s : Nat} {inf : Int32} (hS : GS sk L) (hR : GR τ) (hp : ob sk L 5 p) (hpl : 1815 ≤ p) (ht : t < 64) (hno : no < 4128) (h15 : fI τ 147 15 = nI no) (hc : crec tb τ p r) (hr3 : r.1 ≤ 3) (hok : okR r) (eW : yW (tb t) k = W) (eV : yV (tb t) k = V) (hs : s = 1 ∨ s = 2 ∨ s = 3) (hW : W < 65536) (h2 : s = 2 ↔ W = 65522) (hW2 : W = 65521 ∨ W = 65522 ∨ W < 24) (hz : s = 2 → V < 2 ^ 31 ∧ Z < 2 ^ 31) : ∃ τ', f_Link_settle_76 F c 147 (some p) (nI t) inf (nI (W)) (lN (V)) (lN (Z)) (nI s) (cH sk L τ) = some (bI (decide (¬ (s = 3 ∧ r.1 = 3))), cH sk L τ') ∧ crec tb τ' p (cmS s t k (Z) (V) r) ∧ frX p τ τ' ∧ SOr τ τ' p no r := by
  have h4 : fI τ p 4 = nI r.1 := by rw [hc.1, if_neg (by omega)]
  have hS3 : s ≤ 3 := by omega
  have q147 : p ≠ 147 := by omega
  by_cases c1 : r.1 < s
  · have e3 : decide (¬ (s = 3 ∧ r.1 = 3)) = true := decide_eq_true (fun q => by omega)
    have dfn : ∀ (hm inf : Int32) (pt : Option Nat), ((s = 2 → hm = nI 3) ∧ (s ≠ 2 → W = 65521 → hm = nI 2) ∧ (s ≠ 2 → W ≠ 65521 → hm = nI 1 ∧ pt = some (152 + (24 * t + W)))) → ∃ τ', f_Link_define F c 147 (some p) (nI s) hm pt (lN (V)) (lN (Z)) inf (cH sk L τ) = some ((), cH sk L τ') ∧ crec tb τ' p (cmS s t k (Z) (V) r) ∧ frX p τ τ' ∧ SOr τ τ' p no r := fun hm inf pt hh => by
      obtain ⟨τ2, d1, d2, d3, d4, d5⟩ := k_define (F := F) (c := c) (τ := τ) (s := nI s) (hm := hm) (inf := inf) (pt := pt) (v := lN (V)) (z := lN (Z)) hS (GR_r hR (by decide)) hp hpl hno h15
      refine ⟨τ2, d1, ?_, frX_df d3 q147, fun h0 => d4 (by rw [h4, h0]), fun h0 => d5 (by rw [h4]; exact fun q => h0 ((nI_eq (b := 0) (by omega) (by decide)).mp q))⟩
      have ec : cmS s t k (Z) (V) r = dfR s t k (Z) (V) r := by unfold cmS; rw [if_pos c1]
      rw [ec]
      obtain ⟨_, ⟨a, b', g1, g2, g3⟩, _, _, g15, g16⟩ := hc
      refine ⟨?_, ⟨a, b', (d3.1 _ 10 (Or.inr (by decide)) (Or.inl q147)).trans g1, (d3.1 _ 11 (Or.inr (by decide)) (Or.inl q147)).trans g2, g3⟩, ⟨fun q => ?_, fun q => ?_, fun q => ?_, fun _ q => (nomatch q), fun q t' k' e => ?_⟩, (fun _ => d2.2.2.2.2.2), (d3.1 _ 15 (Or.inr (by decide)) (Or.inl q147)).trans g15, (d3.1 _ 16 (Or.inr (by decide)) (Or.inl q147)).trans g16⟩
      · show fI τ2 p 4 = nI (if s = 4 then 3 else s)
        rw [if_neg (by omega)]; exact d2.1
      · have q : s = 0 := q
        omega
      · have q : s = 4 := q
        omega
      · have q : s = 2 := q
        refine ⟨d2.2.1.trans (hh.1 q), ?_, ?_⟩
        · rw [d2.2.2.2.1]; show _ = lN (if s = 2 then V else 0); rw [if_pos q]
        · rw [d2.2.2.2.2.1]; show _ = lN (if s = 2 then Z else 0); rw [if_pos q]
      · have q : s = 1 ∨ s = 3 := q
        have e : some (t, k) = some (t', k') := e
        cases e
        rw [eV, eW]
        refine ⟨d2.2.2.2.1, fun w => d2.2.1.trans (hh.2.1 (by omega) w), fun w => ?_⟩
        obtain ⟨x1, x2⟩ := hh.2.2 (by omega) w
        exact ⟨d2.2.1.trans x1, d2.2.2.1.trans x2⟩
    unfold f_Link_settle_76
    rw [bs, C5g4 hp, bs, h4, if_pos (nI_lt c1 (by omega)), e3]
    by_cases c2 : s = 2
    · obtain ⟨τ2, d1, d2⟩ := dfn (nI 3) (nI 16) none ⟨fun _ => rfl, fun q => absurd c2 q, fun q => absurd c2 q⟩
      refine ⟨τ2, ?_, d2⟩
      rw [h2.mp c2, if_pos (show nI 65522 = 65522 from rfl), c_o (G147 hS), bs, d1, xb_mk]
      rfl
    · have hne : ¬ nI (W) = (65522 : Int32) := fun q => c2 (h2.mpr ((nI_eq (b := 65522) (by omega) (by decide)).mp q))
      rw [if_neg hne]
      by_cases c3 : W = 65521
      · obtain ⟨τ2, d1, d2⟩ := dfn (nI 2) inf none ⟨fun q => absurd q c2, fun _ _ => rfl, fun _ q => absurd c3 q⟩
        refine ⟨τ2, ?_, d2⟩
        rw [if_pos (show nI (W) = 65521 by rw [c3]; rfl), c_o (G147 hS), bs, d1, xb_mk]
        rfl
      · have hne2 : ¬ nI (W) = (65521 : Int32) := fun q => c3 ((nI_eq (b := 65521) (by omega) (by decide)).mp q)
        have hw24 : W < 24 := by
          rcases hW2 with e | e | e
          · exact absurd e c3
          · exact absurd (h2.mpr e) c2
          · exact e
        obtain ⟨τ2, d1, d2⟩ := dfn (nI 1) inf (some (152 + (24 * t + W))) ⟨fun q => absurd q c2, fun _ q => absurd q c3, fun _ _ => ⟨rfl, rfl⟩⟩
        refine ⟨τ2, ?_, d2⟩
        rw [if_neg hne2, c_o (G147 hS), bs, k_part hS hR ht hw24, xb_mk, c_o (G147 hS), bs, d1, xb_mk]
        rfl
  · unfold f_Link_settle_76 f_Link_settle_127 f_Link_settle_138
    rw [bs, C5g4 hp, bs, h4, if_neg (nI_nlt (by omega) (by omega))]
    have hr0 : r.1 ≠ 0 := by omega
    have sto : ∀ τ', fI τ' 147 15 = fI τ 147 15 → eN τ' 1693 = eN τ 1693 → SOr τ τ' p no r := fun τ' x1 x2 => ⟨fun q => absurd q hr0, fun _ => ⟨x1.trans h15, x2⟩⟩
    by_cases c2 : s = 2
    · rw [c2, if_pos rfl, bs]
      have e3 : decide (¬ (2 = 3 ∧ r.1 = 3)) = true := decide_eq_true (fun q => by omega)
      by_cases c3 : r.1 = 2
      · have e8 := (hc.2.2.1.2.2.1 c3).2.2
        have e7 := (hc.2.2.1.2.2.1 c3).2.1
        obtain ⟨hv, hz⟩ := hz c2
        rw [if_pos (show nI r.1 = nI 2 by rw [c3]), C5g8 hp, bs, e8, C5p8 hp, bs]
        obtain ⟨z9, hZ⟩ : ∃ z9, z9 = (if lN (Z) < lN r.2.2.2.2.2.1 then lN r.2.2.2.2.2.1 else lN (Z)) := ⟨_, rfl⟩
        rw [← hZ]
        have e72 : fJ (tJ τ p 8 z9) p 7 = lN r.2.2.2.2.2.2 := (tJ_ne (Or.inr (by decide))).trans e7
        rw [C5g7 hp, bs, e72, C5p7 hp, bs]
        obtain ⟨v9, hV⟩ : ∃ v9, v9 = (if lN (V) < lN r.2.2.2.2.2.2 then lN r.2.2.2.2.2.2 else lN (V)) := ⟨_, rfl⟩
        rw [← hV, if_neg (show ¬ nI 3 ≤ nI 2 by decide), xz_1, e3]
        have ec : cmS 2 t k (Z) (V) r = cmR (Z) (V) r := by unfold cmS; rw [if_neg (by omega), if_pos ⟨rfl, c3⟩]
        have eZ : z9 = lN (if Z ≤ r.2.2.2.2.2.1 then r.2.2.2.2.2.1 else Z) := by
          rw [hZ]
          have h1 := hok.2.1
          generalize Z = z at *
          generalize r.2.2.2.2.2.1 = z' at *
          by_cases x : z < z'
          · rw [if_pos ((lt31 (by omega) (by omega)).mpr x), if_pos (by omega)]
          · rw [if_neg (fun w => x ((lt31 (by omega) (by omega)).mp w))]
            by_cases y : z ≤ z'
            · rw [if_pos y, show z = z' by omega]
            · rw [if_neg y]
        have eV9 : v9 = lN (if V ≤ r.2.2.2.2.2.2 then r.2.2.2.2.2.2 else V) := by
          rw [hV]
          have h1 := hok.2.2
          generalize V = z at *
          generalize r.2.2.2.2.2.2 = z' at *
          by_cases x : z < z'
          · rw [if_pos ((lt31 (by omega) (by omega)).mpr x), if_pos (by omega)]
          · rw [if_neg (fun w => x ((lt31 (by omega) (by omega)).mp w))]
            by_cases y : z ≤ z'
            · rw [if_pos y, show z = z' by omega]
            · rw [if_neg y]
        refine ⟨tJ (tJ τ p 8 z9) p 7 v9, rfl, ?_, ⟨fun _ _ _ _ => rfl, fun a j ha => (tJ_ne (Or.inl ha)).trans (tJ_ne (Or.inl ha)), fun _ _ _ => rfl, ⟨fun j hj => (tJ_ne (Or.inr (by omega))).trans (tJ_ne (Or.inr (by omega))), rfl, rfl⟩, fun _ => rfl, fun _ => rfl, fun _ _ => rfl⟩, sto _ rfl rfl⟩
        rw [ec]
        refine ⟨?_, hc.2.1, ⟨fun q => ?_, fun q => ?_, fun q => ⟨(hc.2.2.1.2.2.1 c3).1, ?_, ?_⟩, fun q => ?_, fun q => ?_⟩, (fun _ => hc.2.2.2.1 (by omega)), hc.2.2.2.2⟩
        · exact hc.1
        · have q : r.1 = 0 := q
          omega
        · have q : r.1 = 4 := q
          omega
        · rw [tJ_at, eV9]; rfl
        · rw [tJ_ne (Or.inr (by decide)), tJ_at, eZ]; rfl
        · have q : r.1 = 1 ∨ r.1 = 3 := q
          omega
        · have q : r.1 = 1 ∨ r.1 = 3 := q
          omega
      · rw [if_neg (show ¬ nI r.1 = nI 2 from fun q => c3 ((nI_eq (by omega) (by decide)).mp q)), if_neg (show ¬ nI 3 ≤ nI 2 by decide), xz_1, e3]
        have ec : cmS 2 t k (Z) (V) r = r := by unfold cmS; rw [if_neg (by omega), if_neg (fun q => c3 q.2)]
        rw [ec]
        exact ⟨τ, rfl, hc, frX_refl, sto τ rfl rfl⟩
    · rw [if_neg (show ¬ nI s = nI 2 from fun q => c2 ((nI_eq (by omega) (by decide)).mp q))]
      have ec : cmS s t k (Z) (V) r = r := by unfold cmS; rw [if_neg c1, if_neg (fun q => c2 q.1)]
      rw [ec]
      refine ⟨τ, ?_, hc, frX_refl, sto τ rfl rfl⟩
      by_cases c3 : s = 3
      · rw [c3, if_pos (show nI 3 ≤ nI 3 by decide), xz_0, decide_eq_false (show ¬ ¬ (3 = 3 ∧ r.1 = 3) from fun q => q ⟨rfl, by omega⟩)]
      · rw [if_neg (nI_ge (by omega) (by omega)), xz_1, decide_eq_true (show ¬ (s = 3 ∧ r.1 = 3) from fun q => c3 q.1)]
end CST
end
section
/-! settle of the class, whole; a name missed -/
section CSU
variable {F : Nat} {c : px_CT} {sk : Nat → Nat × Nat × Nat} {L : Nat} {τ : px_TT} {tb : Nat → Nat → Nat} {q g base n k t p no : Nat} {S : Nat → Int32} {r : px_NR} {b : Nat → Nat} {dr : Nat → Bool}
theorem sOf_w (h : wNo dr t b k ≠ 0) : sOf dr t b k = (if yW b k = 65522 then 2 else if yB b k = 1 then 3 else 1) := by
  have e : wNo dr t b k = yW b k := by
    unfold wNo at h ⊢
    by_cases c : 0 < yW b k ∧ yW b k < 24 ∧ dr (24 * t + yW b k) = true
    · rw [if_pos c] at h; exact absurd rfl h
    · rw [if_neg c]
  unfold sOf
  rw [if_neg h, e]
theorem yOK_W (h : yOK b k = true) : yW b k = 0 ∨ yW b k = 65521 ∨ yW b k = 65522 ∨ yW b k < oS b := (of_decide_eq_true h).2.1
theorem k_settle (hS : GS sk L) (hF : 8 < F) (hR : GR τ) (hp : ob sk L 5 p) (hpl : 1815 ≤ p) (ht : t < 64) (hno : no < 4128) (h15 : fI τ 147 15 = nI no) (hc : crec tb τ p r) (hr3 : r.1 ≤ 3) (hok : okR r) (hb : tb t = b) (hs : cS sk L τ q g base n S) (hb0 : b = cb S base n) (hk : k < oM b) (hy : yOK b k = true) (hB : yB b k ≠ 0) (hw : wNo dr t b k ≠ 0) : ∃ τ', f_Link_settle F c 147 (some p) (nI t) (some q) (nI (yP b k)) (cH sk L τ) = some (bI (decide (¬ (sOf dr t b k = 3 ∧ r.1 = 3))), cH sk L τ') ∧ crec tb τ' p (cmS (sOf dr t b k) t k (yZ b k) (yV b k) r) ∧ frX p τ τ' ∧ SOr τ τ' p no r := by
  have o := hs.1.1.1.1
  have hO := hs.1.1.1
  obtain ⟨e1, e2, e3⟩ := cS_y hs (show k < oM (cb S base n) by rw [← hb0]; exact hk)
  have hbb := cb_lt S base n (yP (cb S base n) k + 4)
  have n4 := k_num (F := F) (c := c) (x := yP (cb S base n) k + 4) (k := 1) hO hF (by decide) (by omega)
  have n6 := k_num (F := F) (c := c) (x := yP (cb S base n) k + 6) (k := 2) hO hF (by decide) (by omega)
  have n8 := k_num (F := F) (c := c) (x := yP (cb S base n) k + 8) (k := 8) hO hF (by decide) (by omega)
  have n16 := k_ysize (F := F) (c := c) hs hF (show k < oM (cb S base n) by rw [← hb0]; exact hk)
  rw [nm_in (by omega), le_1] at n4
  rw [nm_in (by omega), show le (cb S base n) (yP (cb S base n) k + 6) 2 = yW (cb S base n) k from rfl] at n6
  rw [nm_in (by omega), show le (cb S base n) (yP (cb S base n) k + 8) 8 = yV (cb S base n) k from rfl] at n8
  rw [← hb0] at n4 n6 n8 n16 hbb
  have hW : yW b k < 65536 := by rw [hb0]; exact le_lt (fun x => cb_lt _ _ _ x) _ _
  have hW2 : yW b k = 65521 ∨ yW b k = 65522 ∨ yW b k < 24 := by
    have h24 := hs.1.1.2.1.2.2
    rw [← hb0] at h24
    rcases yOK_W hy with e | e | e | e
    · exact Or.inr (Or.inr (by omega))
    · exact Or.inl e
    · exact Or.inr (Or.inl e)
    · exact Or.inr (Or.inr (by omega))
  have esh : (nI (b (yP b k + 4))) >>> ((nI 4) &&& 31) = nI (yB b k) := by
    rw [pk_shrN (by omega) _ 4 (by decide), show (2 : Nat) ^ 4 = 16 from rfl]
    rfl
  rw [sOf_w hw]
  have hz : yW b k = 65522 → yV b k < 2 ^ 31 ∧ yZ b k < 2 ^ 31 := fun e => by
    have := yOK_c hy hB e
    omega
  unfold f_Link_settle
  rw [bs, c_o o, bs, nI_add, n4, xb_mk, c_o o, bs, nI_add, n6, xb_mk, c_o o, bs, nI_add, n8, xb_mk, c_o o, bs, nI_add, n16, xb_mk, lN_i, lN_i]
  by_cases c1 : yW b k = 65522
  · rw [if_pos (show nI (yW b k) = 65522 by rw [c1]; rfl), if_pos c1]
    exact k_st_76 hS hR hp hpl ht hno h15 hc hr3 hok (by rw [hb]) (by rw [hb]) (Or.inr (Or.inl rfl)) hW ⟨fun _ => c1, fun _ => rfl⟩ hW2 (fun _ => hz c1)
  · rw [if_neg (show ¬ nI (yW b k) = (65522 : Int32) from fun q => c1 ((nI_eq (b := 65522) (by omega) (by decide)).mp q)), if_neg c1, esh]
    have hB16 : yB b k < 16 := by unfold yB; omega
    by_cases c2 : yB b k = 1
    · rw [if_pos (show nI (yB b k) = nI 1 by rw [c2]), if_pos c2]
      exact k_st_76 hS hR hp hpl ht hno h15 hc hr3 hok (by rw [hb]) (by rw [hb]) (Or.inr (Or.inr rfl)) hW ⟨fun q => absurd q (by decide), fun q => absurd q c1⟩ hW2 (fun q => absurd q (by decide))
    · rw [if_neg (show ¬ nI (yB b k) = nI 1 from fun q => c2 ((nI_eq (by omega) (by decide)).mp q)), if_neg c2]
      exact k_st_76 hS hR hp hpl ht hno h15 hc hr3 hok (by rw [hb]) (by rw [hb]) (Or.inl rfl) hW ⟨fun q => absurd q (by decide), fun q => absurd q c1⟩ hW2 (fun q => absurd q (by decide))
/-- a name that is missed -/
theorem k_dn_71 {k2 : Nat → Int32 → Option Nat → Int32 → px_H → Option (Int32 × px_H)} (hF : 8 < F) (hp : ob sk L 5 p) (hpl : 1815 ≤ p) (hc : crec tb τ p r) (hs : cS sk L τ q g base n S) (hb0 : b = cb S base n) (h1 : 1 ≤ k) (hk : k < oM b) : ∃ τ', f_Link_defineNames_71 F c k2 147 (nI t) (some q) (nI k) (some p) (cH sk L τ) = k2 147 (nI t) (some q) (nI (k + 1)) (cH sk L τ') ∧ crec tb τ' p (r.1, (r.2.1 || decide (yB b k = 1)), r.2.2) ∧ frX p τ τ' ∧ fI τ' 147 15 = fI τ 147 15 ∧ eN τ' 1693 = eN τ 1693 := by
  obtain ⟨x1, ⟨a, b', g1, g2, g3⟩, x3⟩ := id hc
  have hB16 : yB b k < 16 := by have := cb_lt S base n (yP b k + 4); rw [← hb0] at this; unfold yB; omega
  have fin : ∀ v : Bool, (v || b') = (r.2.1 || decide (yB b k = 1)) → crec tb (tI τ p 10 (bI v)) p (r.1, (r.2.1 || decide (yB b k = 1)), r.2.2) ∧ frX p τ (tI τ p 10 (bI v)) ∧ fI (tI τ p 10 (bI v)) 147 15 = fI τ 147 15 ∧ eN (tI τ p 10 (bI v)) 1693 = eN τ 1693 := fun v hv => by
    have hI : ∀ k, k ≠ 10 → fI (tI τ p 10 (bI v)) p k = fI τ p k := fun k hk => tI_ne (Or.inr hk)
    refine ⟨⟨(hI 4 (by decide)).trans x1, ⟨v, b', tI_at, (hI 11 (by decide)).trans g2, hv⟩, ?_⟩, frX_I (by decide) (by decide), tI_ne (Or.inl (by omega)), rfl⟩
    unfold cdf
    rw [hI 5 (by decide), hI 13 (by decide), hI 15 (by decide), hI 16 (by decide)]
    exact x3
  unfold f_Link_defineNames_71 f_Link_defineNames_90 f_Link_defineNames_95 f_Link_defineNames_129
  rw [bs, C5g10 hp, bs, g1]
  cases a with
  | true =>
    rw [if_neg (show ¬ bI true = 0 by decide), bs, show xpZ _ 5 10 p (nI 1) = _ from C5z10 hp true, bs, nI_add]
    exact ⟨_, rfl, fin true (by rw [← g3, Bool.true_or, Bool.true_or])⟩
  | false =>
    rw [if_pos (show bI false = 0 from rfl), bs, c_o hs.1.1.1.1, bs, k_bindOf hs hF h1 (by rw [← hb0]; exact hk), ← hb0, xb_mk]
    rw [Bool.false_or] at g3
    by_cases c1 : yB b k = 1
    · rw [if_pos (show nI (yB b k) = nI 1 by rw [c1]), bs, show xpZ _ 5 10 p (nI 1) = _ from C5z10 hp true, bs, nI_add]
      exact ⟨_, rfl, fin true (by rw [decide_eq_true c1, Bool.true_or, Bool.or_true])⟩
    · rw [if_neg (show ¬ nI (yB b k) = nI 1 from fun q => c1 ((nI_eq (by omega) (by decide)).mp q)), bs, show xpZ _ 5 10 p (nI 0) = _ from C5z10 hp false, bs, nI_add]
      exact ⟨_, rfl, fin false (by rw [decide_eq_false c1, Bool.false_or, Bool.or_false, g3])⟩
end CSU
end
section
/-! defineNames of the class -/
section CDN
variable {F : Nat} {c : px_CT} {sk : Nat → Nat × Nat × Nat} {L : Nat} {tb : Nat → Nat → Nat} {q g base u n t N : Nat} {S : Nat → Int32} {own : Nat → Nat × Nat} {b : Nat → Nat} {dr : Nat → Bool} {sg : List (List Nat)}
def DNs (sk : Nat → Nat × Nat × Nat) (L : Nat) (own : Nat → Nat × Nat) (tb : Nat → Nat → Nat) (t : Nat) (b : Nat → Nat) (base u : Nat) (dr : Nat → Bool) (sg : List (List Nat)) (τ : px_TT) (s : px_TS) : Prop := NP sk L τ own ∧ CLn sk L τ tb s.2.1 s.2.2.1 sg ∧ RSy τ t b s.2.1 64 ∧ RPd τ t b base u dr
/-- whom the link blames -/
def BL (sk : Nat → Nat × Nat × Nat) (L : Nat) (τ : px_TT) : Prop := ∃ p w, fN τ 147 13 = some p ∧ ob sk L 5 p ∧ isNm τ p w ∧ okN w
theorem RSy_nm {τ : px_TT} {xs xs' : px_NL} {j : Nat} (h : RSy τ t b xs j) (e : xs'.map Prod.fst = xs.map Prod.fst) : RSy τ t b xs' j := by
  unfold RSy syN at h ⊢
  rw [e]
  exact h
theorem RPd_X {τ τ' : px_TT} {p : Nat} (h : RPd τ t b base u dr) (f : frX p τ τ') (hp : 1815 ≤ p) (ht : t < 64) : RPd τ' t b base u dr := fun i hi => isPd_fr (h i hi) (fun k => f.1 _ k (by omega) (Or.inl (by omega)))
theorem comS_at {k P : Nat} {r : px_NR} {xs : px_NL} {od : List Nat} (h : yT b k ∈ xs.map Prod.fst) (hP : plc (yT b k) (xs.map Prod.fst) = P) (hx : xs[P]? = some (yT b k, r)) : comS dr t b k (xs, od) = if sOf dr t b k = 0 then (true, setR xs P (fun r => (r.1, (r.2.1 || decide (yB b k = 1)), r.2.2)), od) else if sOf dr t b k = 3 ∧ r.1 = 3 then (false, xs, od) else (true, setR xs P (cmS (sOf dr t b k) t k (yZ b k) (yV b k)), if r.1 = 0 then od ++ [P] else od) := by
  have hd : xs.getD P ([], nr0) = (yT b k, r) := by rw [List.getD_eq_getElem?_getD, hx]; rfl
  unfold comS
  show (if sOf dr t b k = 0 then (true, setR (entL (yT b k) xs) (plc (yT b k) (xs.map Prod.fst)) _, od) else if sOf dr t b k = 3 ∧ ((entL (yT b k) xs).getD (plc (yT b k) (xs.map Prod.fst)) ([], nr0)).2.1 = 3 then (false, entL (yT b k) xs, od) else (true, setR (entL (yT b k) xs) (plc (yT b k) (xs.map Prod.fst)) _, if ((entL (yT b k) xs).getD (plc (yT b k) (xs.map Prod.fst)) ([], nr0)).2.1 = 0 then od ++ [plc (yT b k) (xs.map Prod.fst)] else od)) = _
  rw [entL_in h, hP, hd]
theorem DN_upd {τ τ' : px_TT} {s : px_TS} {P p : Nat} {x : List Nat × px_NR} {f : px_NR → px_NR} {od' : List Nat} (ht : t < 64) (h : DNs sk L own tb t b base u dr sg τ s) (hx : s.2.1[P]? = some x) (hp : p = pN τ 149 P) (hf : frX p τ τ') (hc : crec tb τ' p (f x.2)) (ho : fI τ' 147 15 = nI od'.length ∧ ∀ (j d : Nat), od'[j]? = some d → d < s.2.1.length ∧ eN τ' 1693 j = some (pN τ 149 d)) (a : Nat) (bl : Option (List Nat)) : DNs sk L own tb t b base u dr sg τ' (a, setR s.2.1 P f, od', bl) := by
  obtain ⟨h1, h2, h3, h4⟩ := h
  obtain ⟨z1, z2, z3, z4⟩ := CLn_at h2 hx
  have h1815 := (h1 149 P _ (Or.inr (Or.inr rfl)) z2).1
  rw [← hp] at h1815
  rw [hp] at hf hc
  refine ⟨NP_X h1 hf, CLn_upd h2 h1 hx hf hc ho, ?_, RPd_X h4 hf (by rw [← hp]; exact h1815) ht⟩
  refine RSy_nm (RSy_fx h3 (hf.2.2.2.2.2.2 149 (by decide)) (fun k _ => by rw [hf.2.2.2.2.2.2 1692 (by decide)])) ?_
  show (setR s.2.1 P f).map Prod.fst = _
  rw [setR_fst]
theorem od_keep {τ τ' : px_TT} {xs : px_NL} {od : List Nat} (h : CLn sk L τ tb xs od sg) (e1 : fI τ' 147 15 = fI τ 147 15) (e2 : eN τ' 1693 = eN τ 1693) : fI τ' 147 15 = nI od.length ∧ ∀ (j d : Nat), od[j]? = some d → d < xs.length ∧ eN τ' 1693 j = some (pN τ 149 d) := by
  rw [e1, e2]
  exact h.2.2.1
theorem od_app {τ τ' : px_TT} {xs : px_NL} {od : List Nat} {P p : Nat} (h : CLn sk L τ tb xs od sg) (hP : P < xs.length) (hp : p = pN τ 149 P) (e1 : fI τ' 147 15 = nI (od.length + 1)) (e2 : eN τ' 1693 = va_up (eN τ 1693) od.length (some p)) : fI τ' 147 15 = nI (od ++ [P]).length ∧ ∀ (j d : Nat), (od ++ [P])[j]? = some d → d < xs.length ∧ eN τ' 1693 j = some (pN τ 149 d) := by
  refine ⟨by rw [List.length_append, List.length_singleton]; exact e1, fun j d hd => ?_⟩
  by_cases cj : j < od.length
  · rw [List.getElem?_append_left cj] at hd
    obtain ⟨y1, y2⟩ := h.2.2.1.2 j d hd
    rw [e2, va_up_n (by omega)]
    exact ⟨y1, y2⟩
  · have ej : j = od.length := by
      have := (List.getElem?_eq_some_iff.mp hd).1
      rw [List.length_append, List.length_singleton] at this
      omega
    rw [ej, List.getElem?_append_right (Nat.le_refl _), Nat.sub_self] at hd
    have hd : P = d := Option.some.inj hd
    rw [← hd, ej, e2, va_up_a, hp]
    exact ⟨hP, rfl⟩
theorem k_dn_2 (hS : GS sk L) (hF : 65536 < F) (hq : 7 ≤ q ∧ q < 138) (hg7 : 7 ≤ g ∧ g < 140) (ht : t < 64) (hb : b = cb S base n) (htb : tb t = b) (hM : oM b ≤ 64) : ∀ (d k f : Nat) (τ : px_TT) (s : px_TS), k + d = oM b → 1 ≤ k → d < f → s.1 = 0 → okL s.2.1 → AL (fun x => x.2.1 ≤ 3) s.2.1 → s.2.2.1.length + d ≤ 4096 → (∀ j, 1 ≤ j → j < oM b → yB b j ≠ 0 → yT b j ∈ txs s) → GR τ → cD sk L τ q g base n S → DNs sk L own tb t b base u dr sg τ s → ∃ τ', f_Link_defineNames_2 F c f 147 (nI t) (some q) (nI k) (cH sk L τ) = some (bI (decide ((itr (tk1 dr t b) k d s).1 ≠ 1)), cH sk L τ') ∧ DNs sk L own tb t b base u dr sg τ' (itr (tk1 dr t b) k d s) ∧ frTk t N τ τ' ∧ (frTq τ τ' ∧ fI τ' 147 17 = fI τ 147 17) ∧ (((itr (tk1 dr t b) k d s).1 = 0 ∧ fN τ' 147 13 = fN τ 147 13) ∨ ((itr (tk1 dr t b) k d s).1 = 1 ∧ BL sk L τ')) := by
  intro d
  induction d with
  | zero =>
    intro k f τ s hk h1 hf hs0 hok h3 hol hin hR hD hs
    obtain ⟨f, rfl⟩ : ∃ x, f = x + 1 := ⟨f - 1, by omega⟩
    refine ⟨τ, ?_, hs, frTk_refl, ⟨frTq_refl, rfl⟩, Or.inl ⟨hs0, rfl⟩⟩
    unfold f_Link_defineNames_2 f_Link_defineNames_135
    rw [bs, C7g11 hD.1.1.1.1.1, bs, hD.1.2.1.2.1, ← hb, if_pos (nI_le (by omega) (by omega)), itr_0, hs0]
    rfl
  | succ d ih =>
    intro k f τ s hk h1 hf hs0 hok h3 hol hin hR hD hs
    obtain ⟨f, rfl⟩ : ∃ x, f = x + 1 := ⟨f - 1, by omega⟩
    have hcs := hD.1
    have o := hcs.1.1.1.1
    have hkM : k < oM b := by omega
    have hkM' : k < oM (cb S base n) := by rw [← hb]; exact hkM
    obtain ⟨hn, hC, hRS, hRP⟩ := id hs
    have hy : yOK b k = true := by rw [hb]; exact (eObj_0 hD.2.2).2.1 k h1 hkM'
    rw [itr_s]
    have go : ∀ (s1 : px_TS) (τ1 : px_TT), s1 = tk1 dr t b k s → s1.1 = 0 → s1.2.1.map Prod.fst = s.2.1.map Prod.fst → okL s1.2.1 → AL (fun x => x.2.1 ≤ 3) s1.2.1 → s1.2.2.1.length ≤ s.2.2.1.length + 1 → DNs sk L own tb t b base u dr sg τ1 s1 → frTk t N τ τ1 → (frTq τ τ1 ∧ fI τ1 147 17 = fI τ 147 17) → fN τ1 147 13 = fN τ 147 13 → ∃ τ', f_Link_defineNames_2 F c f 147 (nI t) (some q) (nI (k + 1)) (cH sk L τ1) = some (bI (decide ((itr (tk1 dr t b) (k + 1) d (tk1 dr t b k s)).1 ≠ 1)), cH sk L τ') ∧ DNs sk L own tb t b base u dr sg τ' (itr (tk1 dr t b) (k + 1) d (tk1 dr t b k s)) ∧ frTk t N τ τ' ∧ (frTq τ τ' ∧ fI τ' 147 17 = fI τ 147 17) ∧ (((itr (tk1 dr t b) (k + 1) d (tk1 dr t b k s)).1 = 0 ∧ fN τ' 147 13 = fN τ 147 13) ∨ ((itr (tk1 dr t b) (k + 1) d (tk1 dr t b k s)).1 = 1 ∧ BL sk L τ')) := fun s1 τ1 e1 e2 e3 e4 e5 e6 e7 e8 x8 e9 => by
      rw [← e1]
      obtain ⟨τ', j1, j2, j3, ⟨x9, x10⟩, j4⟩ := ih (k + 1) f τ1 s1 (by omega) (by omega) (by omega) e2 e4 e5 (by omega) (fun j a1 a2 a3 => by show _ ∈ s1.2.1.map Prod.fst; rw [e3]; exact hin j a1 a2 a3) (GR_Tk hR e8) (cD_mv hD EX_refl (SF_Tk e8) (by omega) hg7) e7
      exact ⟨τ', j1, j2, frTk_trans e8 j3 (Nat.le_refl _), ⟨frTq_trans x8.1 x9, x10.trans x8.2⟩, j4.imp (fun q => ⟨q.1, q.2.trans e9⟩) id⟩
    obtain ⟨y1, y2⟩ := hRS k (by omega)
    unfold f_Link_defineNames_2
    rw [bs, C7g11 o, bs, hcs.2.1.2.1, ← hb, if_neg (nI_ge hkM (by omega)), c_o (G147 hS), bs, k_nameOf hS hR ht (by omega), y1, xb_mk]
    by_cases cB : yB b k = 0
    · have e : syN τ b s.2.1 k = none := by
        unfold syN hsN
        rw [if_neg (show ¬ decide (1 ≤ k ∧ k < oM b ∧ yB b k ≠ 0) = true from fun q => (of_decide_eq_true q).2.2 cB)]
      rw [e]
      show ∃ τ', f_Link_defineNames_129 F c (f_Link_defineNames_2 F c f) 147 (nI t) (some q) (nI k) (cH sk L τ) = _ ∧ _
      unfold f_Link_defineNames_129
      rw [nI_add]
      exact go s τ (by unfold tk1; rw [if_pos cB]) hs0 rfl hok h3 (by omega) hs frTk_refl ⟨frTq_refl, rfl⟩ rfl
    · have hhs : hsN b k = true := decide_eq_true ⟨h1, hkM, cB⟩
      have y2 := y2 hhs
      have hpl := plc_get y2
      obtain ⟨P, hP⟩ : ∃ P, plc (yT b k) (s.2.1.map Prod.fst) = P := ⟨_, rfl⟩
      rw [hP] at hpl
      obtain ⟨r, hx⟩ : ∃ r, s.2.1[P]? = some (yT b k, r) := by
        rw [List.getElem?_map] at hpl
        cases e : s.2.1[P]? with
        | none => rw [e] at hpl; cases hpl
        | some x =>
          rw [e] at hpl
          have hpl : x.1 = yT b k := Option.some.inj hpl
          exact ⟨x.2, by rw [← hpl]⟩
      have hPl : P < s.2.1.length := (List.getElem?_eq_some_iff.mp hx).1
      obtain ⟨p, hp⟩ : ∃ p, p = pN τ 149 P := ⟨_, rfl⟩
      have e : syN τ b s.2.1 k = some p := by
        unfold syN
        rw [if_pos hhs, hP, hp]
      obtain ⟨z1, z2, z3, z4⟩ := CLn_at hC hx
      have zq := (hn 149 P _ (Or.inr (Or.inr rfl)) z2).1
      have hcr := (hC.2.1 P _ hx).1
      rw [← hp] at z2 z3 z4 zq hcr
      have hcr : crec tb τ p r := hcr
      have hr3 : r.1 ≤ 3 := h3 P _ hx
      have hro : okR r := hok P _ hx
      have hno := hC.2.2.1.1
      have eT : tk1 dr t b k s = if (comS dr t b k (s.2.1, s.2.2.1)).1 = true then (s.1, (comS dr t b k (s.2.1, s.2.2.1)).2.1, (comS dr t b k (s.2.1, s.2.2.1)).2.2, s.2.2.2) else (1, (comS dr t b k (s.2.1, s.2.2.1)).2.1, (comS dr t b k (s.2.1, s.2.2.1)).2.2, some (yT b k)) := by
        unfold tk1
        rw [if_neg cB, if_neg (by omega)]
      rw [comS_at y2 hP hx] at eT
      have hW : yW b k < 65536 := by rw [hb]; exact le_lt (fun x => cb_lt _ _ _ x) _ _
      rw [e]
      -- the name is missed
      have miss : sOf dr t b k = 0 → ∃ τ', f_Link_defineNames_71 F c (f_Link_defineNames_2 F c f) 147 (nI t) (some q) (nI k) (some p) (cH sk L τ) = some (bI (decide ((itr (tk1 dr t b) (k + 1) d (tk1 dr t b k s)).1 ≠ 1)), cH sk L τ') ∧ DNs sk L own tb t b base u dr sg τ' (itr (tk1 dr t b) (k + 1) d (tk1 dr t b k s)) ∧ frTk t N τ τ' ∧ (frTq τ τ' ∧ fI τ' 147 17 = fI τ 147 17) ∧ (((itr (tk1 dr t b) (k + 1) d (tk1 dr t b k s)).1 = 0 ∧ fN τ' 147 13 = fN τ 147 13) ∨ ((itr (tk1 dr t b) (k + 1) d (tk1 dr t b k s)).1 = 1 ∧ BL sk L τ')) := fun hw => by
        obtain ⟨τ1, a1, a2, a3, a4, a5⟩ := k_dn_71 (F := F) (c := c) (t := t) (k2 := f_Link_defineNames_2 F c f) (by omega) z3 zq hcr hcs hb h1 hkM
        rw [if_pos hw, if_pos rfl] at eT
        rw [a1]
        have hfn : fN τ1 147 13 = fN τ 147 13 := a3.2.2.1 147 13 (by omega)
        have ok1 : okL (setR s.2.1 P (fun r => (r.1, (r.2.1 || decide (yB b k = 1)), r.2.2))) := AL_setR (P := fun x => okR x.2) hok (fun x hx' => ⟨(hok P x hx').1, (hok P x hx').2⟩)
        have ok3 : AL (fun x => x.2.1 ≤ 3) (setR s.2.1 P (fun r => (r.1, (r.2.1 || decide (yB b k = 1)), r.2.2))) := AL_setR (P := fun x => x.2.1 ≤ 3) h3 (fun x hx' => h3 P x hx')
        have fs1 : (setR s.2.1 P (fun r => (r.1, (r.2.1 || decide (yB b k = 1)), r.2.2))).map Prod.fst = s.2.1.map Prod.fst := setR_fst
        exact go _ τ1 eT.symm hs0 fs1 ok1 ok3 (Nat.le_succ _) (DN_upd (f := fun r => (r.1, (r.2.1 || decide (yB b k = 1)), r.2.2)) ht hs hx hp a3 a2 (od_keep hC a4 a5) _ _) (frTk_X hn z2 a3) ⟨frTq_X a3 zq, a3.1 147 17 (by omega) (Or.inr (by decide))⟩ hfn
      have sett : wNo dr t b k ≠ 0 → ∃ τ', ((xgI (cH sk L τ) 7 10 q).bind fun t2 => (xo (cH sk L τ) 3 147).bind fun _ => xb (f_Link_settle F c 147 (some p) (nI t) (some q) (t2 + ((nI 24) * nI k)) (cH sk L τ)) fun t3 ph4 => if t3 = 0 then f_Link_defineNames_121 F c 147 (some p) ph4 else f_Link_defineNames_129 F c (f_Link_defineNames_2 F c f) 147 (nI t) (some q) (nI k) ph4) = some (bI (decide ((itr (tk1 dr t b) (k + 1) d (tk1 dr t b k s)).1 ≠ 1)), cH sk L τ') ∧ DNs sk L own tb t b base u dr sg τ' (itr (tk1 dr t b) (k + 1) d (tk1 dr t b k s)) ∧ frTk t N τ τ' ∧ (frTq τ τ' ∧ fI τ' 147 17 = fI τ 147 17) ∧ (((itr (tk1 dr t b) (k + 1) d (tk1 dr t b k s)).1 = 0 ∧ fN τ' 147 13 = fN τ 147 13) ∨ ((itr (tk1 dr t b) (k + 1) d (tk1 dr t b k s)).1 = 1 ∧ BL sk L τ')) := fun hw => by
        have hS0 : sOf dr t b k ≠ 0 := by rw [sOf_w hw]; repeat (first | omega | split)
        obtain ⟨e1, e2, e3⟩ := cS_y hcs hkM'
        obtain ⟨τ1, a1, a2, a3, a4⟩ := k_settle (F := F) (c := c) (dr := dr) hS (by omega) hR z3 zq ht (show s.2.2.1.length < 4128 by omega) hno hcr hr3 hro htb hcs hb hkM hy cB hw
        rw [C7g10 o, bs, c_o (G147 hS), bs, e1, pk_mul, nI_add, show oP (cb S base n) (oY (cb S base n)) + 24 * k = yP (cb S base n) k from rfl, ← hb, a1, xb_mk]
        rw [if_neg hS0] at eT
        have hfn : fN τ1 147 13 = fN τ 147 13 := a3.2.2.1 147 13 (by omega)
        have ft := frTk_X (t := t) (N := N) hn z2 a3
        by_cases cd : sOf dr t b k = 3 ∧ r.1 = 3
        · rw [if_pos cd, if_neg (show ¬ false = true by decide)] at eT
          rw [decide_eq_false (fun q => q cd), if_pos (show bI false = 0 from rfl)]
          have ec : cmS (sOf dr t b k) t k (yZ b k) (yV b k) r = r := by unfold cmS; rw [if_neg (by omega), if_neg (by omega)]
          rw [ec] at a2
          have hset : setR s.2.1 P (fun r => r) = s.2.1 := by
            unfold setR
            rw [hx]
            exact List.ext_getElem? (fun j => by
              by_cases cj : j = P
              · rw [cj, List.getElem?_set_self hPl, hx]
              · rw [List.getElem?_set_ne (fun e => cj e.symm)])
          have hd1 : DNs sk L own tb t b base u dr sg τ1 (1, setR s.2.1 P (fun r => r), s.2.2.1, some (yT b k)) := DN_upd (f := fun r => r) ht hs hx hp a3 a2 (od_keep hC ((a4.2 (by omega)).1.trans hno.symm) (a4.2 (by omega)).2) 1 (some (yT b k))
          rw [hset] at hd1
          have n1 := hd1.1
          obtain ⟨w1, w2, w3, w4⟩ := CLn_at hd1.2.1 hx
          have e149 : eN τ1 149 = eN τ 149 := a3.2.2.2.2.2.2 149 (by decide)
          have ep : pN τ1 149 P = p := by unfold pN; rw [e149, z2]; rfl
          rw [ep] at w2 w3 w4
          have eI : itr (tk1 dr t b) (k + 1) d (tk1 dr t b k s) = (1, s.2.1, s.2.2.1, some (yT b k)) := by
            rw [eT]
            exact itr_idr d (k + 1) (fun j j1 j2 => tk1_stop rfl (fun h => hin j (by omega) (by omega) h))
          rw [eI]
          refine ⟨tN τ1 147 13 (some p), ?_, ?_, frTk_trans ft (frTk_b n1) (Nat.le_refl _), ⟨frTq_trans (frTq_X a3 zq) ⟨rfl, fun _ _ _ _ => rfl, rfl⟩, a3.1 147 17 (by omega) (Or.inr (by decide))⟩, Or.inr ⟨rfl, p, yT b k, by rw [fN_tN, if_pos ⟨rfl, rfl⟩], w3, ?_, w1⟩⟩
          · unfold f_Link_defineNames_121
            rw [C3w13 (G147 hS), bs]
            rfl
          · exact ⟨NP_fx n1 (fun _ _ => rfl), CLn_fx hd1.2.1 n1 EX_refl (fun _ _ _ => rfl) (fun _ _ _ => rfl) (fun a j h => by rw [fN_tN, if_neg (by omega)]) rfl rfl, RSy_fx hd1.2.2.1 rfl (fun _ _ => rfl), fun i hi => isPd_fr (hd1.2.2.2 i hi) (fun _ => rfl)⟩
          · exact w4
        · rw [if_neg cd, if_pos rfl] at eT
          rw [decide_eq_true cd, if_neg (show ¬ bI true = 0 by decide)]
          unfold f_Link_defineNames_129
          rw [nI_add]
          have ok1 : okL (setR s.2.1 P (cmS (sOf dr t b k) t k (yZ b k) (yV b k))) := AL_setR (P := fun x => okR x.2) hok (fun x hx' => okR_cm (hok P x hx') (by have := sOf_3 (dr := dr) (t := t) (b := b) (k := k); omega) (fun e2 => by have := yOK_c hy cB (sOf_2 e2); omega) (fun e2 => by have := yOK_c hy cB (sOf_2 e2); omega))
          have ok3 : AL (fun x => x.2.1 ≤ 3) (setR s.2.1 P (cmS (sOf dr t b k) t k (yZ b k) (yV b k))) := AL_setR (P := fun x => x.2.1 ≤ 3) h3 (fun x hx' => by
            have := h3 P x hx'
            have h4 := sOf_3 (dr := dr) (t := t) (b := b) (k := k)
            show (cmS _ _ _ _ _ x.2).1 ≤ 3
            unfold cmS dfR cmR
            repeat (first | exact this | exact h4 | split))
          by_cases cr : r.1 = 0
          · rw [if_pos cr] at eT
            obtain ⟨b1, b2⟩ := a4.1 cr
            exact go _ τ1 eT.symm hs0 setR_fst ok1 ok3 (by show (s.2.2.1 ++ [P]).length ≤ _; rw [List.length_append, List.length_singleton]; exact Nat.le_refl _) (DN_upd (f := cmS (sOf dr t b k) t k (yZ b k) (yV b k)) ht hs hx hp a3 a2 (od_app hC hPl hp b1 b2) _ _) ft ⟨frTq_X a3 zq, a3.1 147 17 (by omega) (Or.inr (by decide))⟩ hfn
          · rw [if_neg cr] at eT
            obtain ⟨b1, b2⟩ := a4.2 cr
            exact go _ τ1 eT.symm hs0 setR_fst ok1 ok3 (Nat.le_succ _) (DN_upd (f := cmS (sOf dr t b k) t k (yZ b k) (yV b k)) ht hs hx hp a3 a2 (od_keep hC (b1.trans hno.symm) b2) _ _) ft ⟨frTq_X a3 zq, a3.1 147 17 (by omega) (Or.inr (by decide))⟩ hfn
      show ∃ τ', ((xo (cH sk L τ) 7 q).bind _) = _ ∧ _
      rw [c_o o, bs, k_whereOf hcs (by omega) hkM', ← hb, xb_mk]
      have e59 : ∀ s0 : Bool, f_Link_defineNames_59 F c (f_Link_defineNames_2 F c f) 147 (nI t) (some q) (nI k) (some p) (nI (yW b k)) (bI s0) (cH sk L τ) = if yW b k = 0 ∨ s0 = true then f_Link_defineNames_71 F c (f_Link_defineNames_2 F c f) 147 (nI t) (some q) (nI k) (some p) (cH sk L τ) else ((xgI (cH sk L τ) 7 10 q).bind fun t2 => (xo (cH sk L τ) 3 147).bind fun _ => xb (f_Link_settle F c 147 (some p) (nI t) (some q) (t2 + ((nI 24) * nI k)) (cH sk L τ)) fun t3 ph4 => if t3 = 0 then f_Link_defineNames_121 F c 147 (some p) ph4 else f_Link_defineNames_129 F c (f_Link_defineNames_2 F c f) 147 (nI t) (some q) (nI k) ph4) := fun s0 => by
        unfold f_Link_defineNames_59
        by_cases c0 : yW b k = 0
        · rw [if_pos (show nI (yW b k) = 0 by rw [c0]; rfl), if_pos (Or.inl c0)]
        · rw [if_neg (show ¬ nI (yW b k) = 0 from fun q => c0 ((nI_eq (b := 0) (by omega) (by decide)).mp q))]
          cases s0 with
          | true => rw [if_neg (show ¬ bI true = 0 by decide), if_pos (Or.inr rfl)]
          | false => rw [if_pos (show bI false = 0 from rfl), if_neg (show ¬ (yW b k = 0 ∨ false = true) from fun q => q.elim c0 (fun q => nomatch q)), bs]
      have tot : ∀ s0 : Bool, (wNo dr t b k = 0 ↔ (yW b k = 0 ∨ s0 = true)) → ∃ τ', f_Link_defineNames_59 F c (f_Link_defineNames_2 F c f) 147 (nI t) (some q) (nI k) (some p) (nI (yW b k)) (bI s0) (cH sk L τ) = some (bI (decide ((itr (tk1 dr t b) (k + 1) d (tk1 dr t b k s)).1 ≠ 1)), cH sk L τ') ∧ DNs sk L own tb t b base u dr sg τ' (itr (tk1 dr t b) (k + 1) d (tk1 dr t b k s)) ∧ frTk t N τ τ' ∧ (frTq τ τ' ∧ fI τ' 147 17 = fI τ 147 17) ∧ (((itr (tk1 dr t b) (k + 1) d (tk1 dr t b k s)).1 = 0 ∧ fN τ' 147 13 = fN τ 147 13) ∨ ((itr (tk1 dr t b) (k + 1) d (tk1 dr t b k s)).1 = 1 ∧ BL sk L τ')) := fun s0 hw => by
        rw [e59 s0]
        by_cases cw : yW b k = 0 ∨ s0 = true
        · rw [if_pos cw]
          exact miss (by unfold sOf; rw [if_pos (hw.mpr cw)])
        · rw [if_neg cw]
          exact sett (fun q => cw (hw.mp q))
      by_cases c24 : 24 ≤ yW b k
      · rw [if_pos (nI_le c24 (by omega))]
        refine tot false ⟨fun q => ?_, fun q => ?_⟩
        · unfold wNo at q
          rw [if_neg (by omega)] at q
          exact Or.inl q
        · rcases q with q | q
          · omega
          · cases q
      · rw [if_neg (nI_ge (by omega) (by omega)), c_o (G147 hS), bs, k_part hS hR ht (by omega), xb_mk, bs, C8g8 (G_part hS (show 24 * t + yW b k < 1536 by omega)), bs, (hRP (yW b k) (by omega)).2.2.2.1]
        by_cases cdr : dr (24 * t + yW b k) = true
        · rw [if_pos cdr, if_pos rfl]
          refine tot true ⟨fun _ => Or.inr rfl, fun _ => ?_⟩
          unfold wNo
          by_cases c0 : yW b k = 0
          · rw [if_neg (by omega)]; exact c0
          · rw [if_pos ⟨by omega, by omega, cdr⟩]
        · rw [if_neg cdr, if_neg (show ¬ nI (if kpB b (yW b k) = true then 1 else 0) = nI 2 from fun q => by
            have := (nI_eq (by split <;> omega) (by decide)).mp q
            split at this <;> omega)]
          refine tot false ⟨fun q => ?_, fun q => ?_⟩
          · unfold wNo at q
            rw [if_neg (fun w => cdr w.2.2)] at q
            exact Or.inl q
          · unfold wNo
            rcases q with q | q
            · split
              · rfl
              · exact q
            · cases q
end CDN
end
