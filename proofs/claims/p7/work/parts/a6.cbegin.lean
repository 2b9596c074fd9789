/-! begin of the class: the names wished -/
section CBH
variable {F : Nat} {c : px_CT} {ws : List (List Nat)} {tb : Nat → Nat → Nat}
theorem crec_ws {τ : px_TT} {p : Nat} {r : px_NR} (h : crec tb τ p r) : crec tb (tI τ p 11 (bI true)) p (wsR r) := by
  obtain ⟨c1, ⟨a, b, g1, g2, g3⟩, c3⟩ := h
  have hI : ∀ k, k ≠ 11 → fI (tI τ p 11 (bI true)) p k = fI τ p k := fun k hk => tI_ne (Or.inr hk)
  refine ⟨(hI 4 (by decide)).trans c1, ⟨a, true, (hI 10 (by decide)).trans g1, tI_at, Bool.or_true a⟩, ?_⟩
  unfold cdf
  rw [hI 5 (by decide), hI 13 (by decide), hI 15 (by decide), hI 16 (by decide)]
  exact c3
theorem k_bg_125 (hF : 4128 < F) : ∀ (l : List (List Nat)) (i f k : Nat) (sk : Nat → Nat × Nat × Nat) (L : Nat) (τ : px_TT) (own : Nat → Nat × Nat) (xs : px_NL) (od : List Nat), ws.drop i = l → i + l.length = ws.length → l.length < f → GS sk L → GR τ → NP sk L τ own → CW sk L τ ws → CLn sk L τ tb xs od [] → xs.length + l.length ≤ 4096 → RMk sk L (k + l.length) → ∃ sk' L' τ' own', f_Link_begin_125 F c f 147 (nI i) (cH sk L τ) = some ((), cH sk' L' τ') ∧ EX sk L sk' L' ∧ RMk sk' L' k ∧ NP sk' L' τ' own' ∧ CLn sk' L' τ' tb (tlW l xs) od [] ∧ frLk τ τ' := by
  intro l
  induction l with
  | nil =>
    intro i f k sk L τ own xs od hd hil0 hf hS hR hn hg hC hx hr
    obtain ⟨f, rfl⟩ : ∃ x, f = x + 1 := ⟨f - 1, by omega⟩
    have o147 := G147 hS
    obtain ⟨s1, s2, s3, s4, s5, s6, s7⟩ := id hg
    rw [List.length_nil] at hil0
    refine ⟨sk, L, τ, own, ?_, EX_refl, hr, hn, hC, frLk_refl⟩
    unfold f_Link_begin_125 f_Link_begin_161
    rw [C3r2 o147 (GR_r (v := 143) hR (by decide)), bs, C6g2 s1, bs, s6, if_pos (nI_le (by omega) (by omega))]
  | cons g l ih =>
    intro i f k sk L τ own xs od hd hil0 hf hS hR hn hg hC hx hr
    obtain ⟨f, rfl⟩ : ∃ x, f = x + 1 := ⟨f - 1, by omega⟩
    have o147 := G147 hS
    obtain ⟨s1, s2, s3, s4, s5, s6, s7⟩ := id hg
    rw [List.length_cons] at hf hx hr hil0
    have hgi : ws[i]? = some g := by
      have := congrArg (fun z => z[0]?) hd
      simp only [List.getElem?_drop, Nat.add_zero, List.getElem?_cons_zero] at this
      exact this
    have hil := (List.getElem?_eq_some_iff.mp hgi).1
    have hd' : ws.drop (i + 1) = l := by
      have := congrArg List.tail hd
      rw [List.tail_drop] at this
      exact this
    obtain ⟨n1, n2, n3, n4, n5⟩ := k_natG (F := F) (c := c) hg hgi
    generalize hP : (eN τ 144 i).getD 0 = p at *
    have hto : oth2 149 (xs.map Prod.fst).length τ p := Or.inr ⟨144, i, Or.inr (Or.inl rfl), n5, fun e => by omega⟩
    have hxl : (xs.map Prod.fst).length = xs.length := List.length_map ..
    obtain ⟨sk1, L1, τ1, own1, e1, e2, e3, e4, e5, e6, e7, e8⟩ := k_enterG (F := F) (c := c) (k := k + l.length) hS hC.1 hn (Or.inr (Or.inr rfl)) (by decide) n2 hto n3 n4 (by rw [hxl]; omega) (by rw [hxl]; omega) hr
    rw [hxl] at e6 e8
    have hC1 := CLn_ent hC e5 e6 e7 e8
    have f1 := frLk_En hn e8
    have hS1 := GS_ex hS e2
    have hR1 := GR_Lk hR f1
    obtain ⟨r, p1, p2⟩ := plc_at (w := g) (xs := xs)
    obtain ⟨z1, z2, z3, z4⟩ := CLn_at hC1 p1
    have zq := (e4 149 _ _ (Or.inr (Or.inr rfl)) z2).1
    have fx : frX (pN τ1 149 (plc g (xs.map Prod.fst))) τ1 (tI τ1 (pN τ1 149 (plc g (xs.map Prod.fst))) 11 (bI true)) := frX_I (by decide) (by decide)
    have f2 := frLk_X e4 z2 fx
    have hC2 := CLn_upd (f := wsR) (od' := od) hC1 e4 p1 fx (crec_ws (hC1.2.1 _ _ p1).1) ⟨(tI_ne (Or.inl (by omega))).trans hC1.2.2.1.1, fun j d hd => hC1.2.2.1.2 j d hd⟩
    have hel := entL_len (w := g) (xs := xs)
    obtain ⟨sk3, L3, τ3, own3, j1, j2, j3, j4, j5, j6⟩ := ih (i + 1) f k sk1 L1 _ own1 (setR (entL g xs) (plc g (xs.map Prod.fst)) wsR) od hd' (by omega) (by omega) hS1 (GR_Lk hR1 f2) (NP_X e4 fx) (CW_Lk hg e2 (frLk_trans f1 f2)) hC2 (by rw [setR_len]; omega) e3
    refine ⟨sk3, L3, τ3, own3, ?_, EX_trans e2 j2, j3, j4, j5, frLk_trans f1 (frLk_trans f2 j6)⟩
    unfold f_Link_begin_125
    rw [C3r2 o147 (GR_r (v := 143) hR (by decide)), bs, C6g2 s1, bs, s6, if_neg (nI_ge hil (by omega)), C3r3 o147 (GR_r (v := 148) hR (by decide)), bs, bs, c_o s1, bs, n1, xb_mk, c_o hC.1.1, bs, e1, xb_mk, bs, show xpZ _ 5 11 _ (nI 1) = _ from C5z11 z3 true, bs, nI_add]
    exact j1
/-- the members are taken by no link yet -/
def frMb (τ τ' : px_TT) : Prop := (∀ a k, (¬ (10 ≤ a ∧ a < 138) ∨ (k ≠ 15 ∧ k ≠ 16)) → fI τ' a k = fI τ a k) ∧ τ'.2 = τ.2
theorem k_bg_2 : ∀ (d i f : Nat) (sk : Nat → Nat × Nat × Nat) (L : Nat) (τ : px_TT), i + d = 64 → d < f → GS sk L → GR τ → (∀ q, q < i → fI τ (10 + 2 * q) 15 = bI false ∧ fI τ (10 + 2 * q) 16 = nI 0) → ∃ τ', f_Link_begin_2 F c f 147 (nI i) (cH sk L τ) = f_Link_begin_37 F c 147 (cH sk L τ') ∧ GR τ' ∧ (∀ q, q < 64 → fI τ' (10 + 2 * q) 15 = bI false ∧ fI τ' (10 + 2 * q) 16 = nI 0) ∧ frMb τ τ' := by
  intro d
  induction d with
  | zero =>
    intro i f sk L τ hi hf hS hR hq
    obtain ⟨f, rfl⟩ : ∃ x, f = x + 1 := ⟨f - 1, by omega⟩
    refine ⟨τ, ?_, hR, fun q h => hq q (by omega), fun _ _ _ => rfl, rfl⟩
    unfold f_Link_begin_2
    rw [C3r0 (G147 hS) (GR_r (v := 9) hR (by decide)), bs, c_l (G9 hS) (by decide), bs, if_pos (nI_le (by omega) (by omega))]
  | succ d ih =>
    intro i f sk L τ hi hf hS hR hq
    obtain ⟨f, rfl⟩ : ∃ x, f = x + 1 := ⟨f - 1, by omega⟩
    have hi64 : i < 64 := by omega
    have o := G_of hS hi64
    have e9 := (hR.2.1 i hi64).2.2.1
    have hR1 : GR (tI τ (10 + 2 * i) 15 (bI false)) := GR_I hR (Or.inr (Or.inr (by decide)))
    have e9' : eN (tI τ (10 + 2 * i) 15 (bI false)) 9 i = some (10 + 2 * i) := e9
    have hR2 : GR (tI (tI τ (10 + 2 * i) 15 (bI false)) (10 + 2 * i) 16 (nI 0)) := GR_I hR1 (Or.inr (Or.inr (by decide)))
    obtain ⟨τ', j1, j2, j3, j4⟩ := ih (i + 1) f sk L (tI (tI τ (10 + 2 * i) 15 (bI false)) (10 + 2 * i) 16 (nI 0)) (by omega) (by omega) hS hR2 (fun q h => by
      by_cases cq : q = i
      · rw [cq]
        exact ⟨by rw [fI_tI, if_neg (by omega), fI_tI, if_pos ⟨rfl, rfl⟩], by rw [fI_tI, if_pos ⟨rfl, rfl⟩]⟩
      · rw [fI_tI, if_neg (by omega), fI_tI, if_neg (by omega), fI_tI, if_neg (by omega), fI_tI, if_neg (by omega)]
        exact hq q (by omega))
    refine ⟨τ', ?_, j2, j3, fun a k h => ?_, j4.2.trans rfl⟩
    · unfold f_Link_begin_2
      rw [C3r0 (G147 hS) (GR_r (v := 9) hR (by decide)), bs, c_l (G9 hS) (by decide), bs, if_neg (nI_ge (by omega) (by omega)), bs, c_aN (G9 hS) (by decide) (by decide) hi64, bs, e9, bs, show xpZ _ 7 15 _ (nI 0) = _ from C7z15 o false, bs, C3r0 (G147 hS) (GR_r (v := 9) hR1 (by decide)), bs, c_aN (G9 hS) (by decide) (by decide) hi64, bs, e9', bs, C7p16 o, bs, nI_add]
      exact j1
    · rw [j4.1 a k h, fI_tI, if_neg (by omega), fI_tI, if_neg (by omega)]
theorem k_begin {gs : List (List Nat × Int64)} {sk : Nat → Nat × Nat × Nat} {L k : Nat} {τ : px_TT} {own : Nat → Nat × Nat} (hF : 4128 < F) (hS : GS sk L) (hR : GR τ) (hn : NP sk L τ own) (hg : CG sk L τ gs) (hw : CW sk L τ ws) (hr : RMk sk L (k + 32)) (hnd : (gs.map Prod.fst).Nodup) : ∃ sk' L' τ' own', f_Link_begin F c 147 (cH sk L τ) = some ((), cH sk' L' τ') ∧ EX sk L sk' L' ∧ RMk sk' L' k ∧ NP sk' L' τ' own' ∧ GR τ' ∧ CG sk' L' τ' gs ∧ CW sk' L' τ' ws ∧ CLn sk' L' τ' tb (xs0 gs ws) (od0 gs) [] ∧ (∀ q, q < 64 → fI τ' (10 + 2 * q) 15 = bI false ∧ fI τ' (10 + 2 * q) 16 = nI 0) ∧ (fI τ' 147 14 = nI 0 ∧ fI τ' 147 17 = nI 0 ∧ fJ τ' 147 19 = lN 0 ∧ fN τ' 147 13 = some 1696) ∧ (∀ a k, a < 1815 → (¬ (10 ≤ a ∧ a < 138) ∨ (k ≠ 15 ∧ k ≠ 16)) → (a ≠ 148 ∨ k ≠ 2) → (a ≠ 147 ∨ (k ≠ 14 ∧ k ≠ 15 ∧ k ≠ 17)) → fI τ' a k = fI τ a k) ∧ (∀ a, eI τ' a = eI τ a) ∧ (∀ a, a ≠ 149 → a ≠ 1693 → eN τ' a = eN τ a) ∧ (∀ a k, a < 1815 → (a ≠ 147 ∨ k ≠ 19) → fJ τ' a k = fJ τ a k) ∧ (∀ a k, a < 1815 → (a ≠ 147 ∨ k ≠ 13) → fN τ' a k = fN τ a k) ∧ ∀ a, eJ τ' a = eJ τ a := by
  have o147 := G147 hS
  have o148 := G148 hS
  obtain ⟨τ1, a1, a2, a3, a4⟩ := k_bg_2 (F := F) (c := c) 64 0 F sk L τ rfl (by omega) hS hR (fun q h => by omega)
  have hgl : gs.length ≤ 16 := by have := hg.1.2.2.2.1; rw [List.length_map] at this; exact this
  have hwl : ws.length ≤ 16 := hw.2.2.2.1
  have eJ1 : ∀ a k, fJ τ1 a k = fJ τ a k := fun a k => by show τ1.2.1 a k = τ.2.1 a k; rw [a4.2]
  have eN1 : ∀ a k, fN τ1 a k = fN τ a k := fun a k => by show τ1.2.2.1 a k = τ.2.2.1 a k; rw [a4.2]
  have eE1 : ∀ a, eI τ1 a = eI τ a := fun a => by show τ1.2.2.2.1 a = τ.2.2.2.1 a; rw [a4.2]
  have eF1 : ∀ a, eN τ1 a = eN τ a := fun a => by show τ1.2.2.2.2.2 a = τ.2.2.2.2.2 a; rw [a4.2]
  obtain ⟨τ2, hτ2⟩ : ∃ x, x = tI (tN (tJ (tI (tI (tI τ1 147 14 (nI 0)) 147 15 (nI 0)) 147 17 (nI 0)) 147 19 (lN 0)) 147 13 (some 1696)) 148 2 (nI 0) := ⟨_, rfl⟩
  have gI2 : ∀ a k, a ≠ 147 → a ≠ 148 → fI τ2 a k = fI τ1 a k := fun a k h1 h2 => by rw [hτ2]; simp only [fI_tI, fI_tJ, fI_tN, h1, h2, false_and, if_false]
  have gJ2 : ∀ a k, a ≠ 147 → fJ τ2 a k = fJ τ1 a k := fun a k h1 => by rw [hτ2]; simp only [fJ_tI, fJ_tJ, fJ_tN, h1, false_and, if_false]
  have gN2 : ∀ a k, (a ≠ 147 ∨ k ≠ 13) → fN τ2 a k = fN τ1 a k := fun a k h1 => by
    rw [hτ2]
    simp only [fN_tI, fN_tJ, fN_tN]
    rw [if_neg (fun q => h1.elim (fun e => e q.1) (fun e => e q.2))]
  have gE2 : ∀ a, eI τ2 a = eI τ1 a := fun a => by rw [hτ2]; rfl
  have gF2 : ∀ a, eN τ2 a = eN τ1 a := fun a => by rw [hτ2]; rfl
  have v14 : fI τ2 147 14 = nI 0 := by rw [hτ2]; simp [fI_tI, fI_tJ, fI_tN]
  have v15 : fI τ2 147 15 = nI 0 := by rw [hτ2]; simp [fI_tI, fI_tJ, fI_tN]
  have v17 : fI τ2 147 17 = nI 0 := by rw [hτ2]; simp [fI_tI, fI_tJ, fI_tN]
  have v19 : fJ τ2 147 19 = lN 0 := by rw [hτ2]; simp [fJ_tI, fJ_tJ, fJ_tN]
  have v13 : fN τ2 147 13 = some 1696 := by rw [hτ2]; simp [fN_tI, fN_tJ, fN_tN]
  have v2 : fI τ2 148 2 = nI 0 := by rw [hτ2]; simp [fI_tI, fI_tJ, fI_tN]
  have vo : ∀ k, k ≠ 14 → k ≠ 15 → k ≠ 17 → fI τ2 147 k = fI τ1 147 k := fun k h1 h2 h3 => by rw [hτ2]; simp [fI_tI, fI_tJ, fI_tN, h1, h2, h3]
  have vp : ∀ k, k ≠ 2 → fI τ2 148 k = fI τ1 148 k := fun k h1 => by rw [hτ2]; simp [fI_tI, fI_tJ, fI_tN, h1]
  have g12 : fN τ1 147 12 = some 1696 := GR_r a2 (by decide)
  have g148 : fN τ1 147 3 = some 148 := GR_r a2 (by decide)
  have e37 : f_Link_begin_37 F c 147 (cH sk L τ1) = f_Link_begin_75 F c F 147 (nI 0) (cH sk L τ2) := by
    unfold f_Link_begin_37
    rw [C3p14 o147, bs, C3p15 o147, bs, C3p17 o147, bs, C3p19 o147, bs, C3r12 o147 (show fN (tJ (tI (tI (tI τ1 147 14 (nI 0)) 147 15 (nI 0)) 147 17 (nI 0)) 147 19 (lN 0)) 147 12 = some 1696 from g12), bs, C3w13 o147, bs, C3r3 o147 (show fN (tN (tJ (tI (tI (tI τ1 147 14 (nI 0)) 147 15 (nI 0)) 147 17 (nI 0)) 147 19 (lN 0)) 147 13 (some 1696)) 147 3 = some 148 from by
      rw [fN_tN, if_neg (by decide)]
      exact g148), bs, C6p2 o148, bs, ← hτ2]
  have hgr : ∀ x, x ∈ grl → x.1 ≠ 147 ∨ x.2.1 ≠ 13 := by decide
  have hR2 : GR τ2 := ⟨fun x hx => (gN2 _ _ (hgr x hx)).trans (a2.1 x hx), fun i hi => by
    obtain ⟨b1, b2, b3, b4, b5⟩ := a2.2.1 i hi
    exact ⟨(gN2 _ _ (Or.inl (by omega))).trans b1, (gN2 _ _ (Or.inl (by omega))).trans b2, by rw [gF2]; exact b3, (gI2 _ _ (by omega) (by omega)).trans b4, (gI2 _ _ (by omega) (by omega)).trans b5⟩, fun i hi => by rw [gF2]; exact a2.2.2 i hi⟩
  have hSH : SH τ τ2 := ⟨fun a k h => (gI2 a k (by omega) (by omega)).trans (a4.1 a k (Or.inl (by omega))), fun a k h => (gJ2 a k (by omega)).trans (eJ1 a k), fun a k h => (gN2 a k (Or.inl (by omega))).trans (eN1 a k), fun a _ => (gF2 a).trans (eF1 a)⟩
  have hg2 := CG_sh hg hSH hn
  have hw2 := CW_sh hw hSH hn
  have hn2 : NP sk L τ2 own := fun A i q hA hq => hn A i q hA (by rw [gF2, eF1] at hq; exact hq)
  have hC2 : CLn sk L τ2 tb [] [] [] := ⟨⟨o148, GR_r (v := 149) hR2 (by decide), G149 hS, Nat.zero_le _, by decide, v2, fun i w h => by rw [List.map_nil, List.getElem?_nil] at h; cases h⟩, (fun i x h => by rw [List.getElem?_nil] at h; cases h), ⟨v15, fun i d h => by rw [List.getElem?_nil] at h; cases h⟩, fun w h => nomatch h⟩
  obtain ⟨sk3, L3, τ3, own3, b1, b2, b3, b4, b5, b6⟩ := k_bg_75 (F := F) (c := c) (tb := tb) hF gs 0 F (k + ws.length) sk L τ2 own [] [] List.drop_zero (by omega) (by omega) hS hR2 hn2 hg2 hC2 (by rw [List.length_nil]; omega) (by rw [List.length_nil]; omega) ⟨by have := hr.1; omega, by have := hr.2; omega⟩ (fun g _ q => nomatch q) hnd
  have hgl2 := (tlG_inv gs ([], []) (fun i x hx => by rw [List.getElem?_nil] at hx; cases hx) List.Pairwise.nil (fun d hd => nomatch hd)).2.2.2.1
  have hgl2 : (tlG gs ([], [])).1.length ≤ 0 + gs.length := hgl2
  obtain ⟨sk4, L4, τ4, own4, c1, c2, c3, c4, c5, c6⟩ := k_bg_125 (F := F) (c := c) (tb := tb) hF ws 0 F k sk3 L3 τ3 own3 (tlG gs ([], [])).1 (tlG gs ([], [])).2 List.drop_zero (by omega) (by omega) (GS_ex hS b2) (GR_Lk hR2 b6) b4 (CW_Lk hw2 b2 b6) b5 (by omega) b3
  have f4 := frLk_trans b6 c6
  have e4 := EX_trans b2 c2
  refine ⟨sk4, L4, τ4, own4, ?_, e4, c3, c4, GR_Lk hR2 f4, CG_Lk hg2 e4 f4, CW_Lk hw2 e4 f4, c5, fun q hq => ?_, ⟨?_, ?_, ?_, ?_⟩, fun a k h1 h2 h3 h4 => ?_, fun a => by rw [f4.2.2.2.1, gE2, eE1], fun a h1 h2 => by rw [f4.2.2.2.2.2.1 a h1 h2, gF2, eF1], fun a k h1 h2 => ?_, fun a k h1 h2 => by rw [f4.2.2.1 a k h1, gN2 a k h2, eN1], fun a => by rw [f4.2.2.2.2.1 a]; show eJ τ2 a = _; rw [hτ2]; show τ1.2.2.2.2.1 a = τ.2.2.2.2.1 a; rw [a4.2]⟩
  · unfold f_Link_begin
    rw [a1, e37, b1]
    unfold f_Link_begin_123
    exact c1
  · rw [f4.1 _ 15 (by omega) (Or.inl (by omega)) (Or.inl (by omega)), f4.1 _ 16 (by omega) (Or.inl (by omega)) (Or.inl (by omega)), gI2 _ _ (by omega) (by omega), gI2 _ _ (by omega) (by omega)]
    exact a3 q hq
  · exact (f4.1 147 14 (by decide) (Or.inl (by decide)) (Or.inr (by decide))).trans v14
  · exact (f4.1 147 17 (by decide) (Or.inl (by decide)) (Or.inr (by decide))).trans v17
  · exact (f4.2.1 147 19 (by decide)).trans v19
  · exact (f4.2.2.1 147 13 (by decide)).trans v13
  · rw [f4.1 a k h1 h3 (h4.elim Or.inl (fun q => Or.inr q.2.1))]
    by_cases d1 : a = 147
    · have h4 := h4.resolve_left (fun q => q d1)
      rw [d1, vo k h4.1 h4.2.1 h4.2.2]
      exact a4.1 147 k (Or.inl (by omega))
    · by_cases d2 : a = 148
      · have h3 := h3.resolve_left (fun q => q d2)
        rw [d2, vp k h3]
        exact a4.1 148 k (Or.inl (by omega))
      · rw [gI2 a k d1 d2]
        exact a4.1 a k h2
  · rw [f4.2.1 a k h1]
    by_cases d1 : a = 147
    · have h2 := h2.resolve_left (fun q => q d1)
      rw [d1, hτ2]
      simp only [fJ_tI, fJ_tJ, fJ_tN]
      rw [if_neg (fun q => h2 q.2)]
      exact eJ1 147 k
    · rw [gJ2 a k d1, eJ1]
end CBH
