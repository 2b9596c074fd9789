section
/-! what calls write besides what a link reads -/
def Zc (a : Nat) : Prop := (1 ≤ a ∧ a < 7) ∨ a = 146 ∨ a = 1695 ∨ (1711 ≤ a ∧ a ≤ 1725)
def frZ (τ τ' : px_TT) : Prop := (∀ a k, ¬ Zc a → (a = 0 → k < 15) → (1815 ≤ a → k ≠ 17) → (152 ≤ a → a < 1688 → k ≠ 12) → (a = 147 → k ≠ 18) → fI τ' a k = fI τ a k) ∧ (∀ a k, ¬ Zc a → (a = 147 → k ≠ 19) → fJ τ' a k = fJ τ a k) ∧ (∀ a k, (a = 0 → k ≠ 1 ∧ k ≠ 2) → fN τ' a k = fN τ a k) ∧ (∀ a, ¬ Zc a → eI τ' a = eI τ a) ∧ (∀ a, ¬ Zc a → eJ τ' a = eJ τ a) ∧ ∀ a, a ≠ 1717 → eN τ' a = eN τ a
theorem frZ_refl {τ : px_TT} : frZ τ τ := ⟨fun _ _ _ _ _ _ _ => rfl, fun _ _ _ _ => rfl, fun _ _ _ => rfl, fun _ _ => rfl, fun _ _ => rfl, fun _ _ => rfl⟩
theorem frZ_trans {τ τ1 τ2 : px_TT} (h : frZ τ τ1) (g : frZ τ1 τ2) : frZ τ τ2 := ⟨fun a k x y z w u => (g.1 a k x y z w u).trans (h.1 a k x y z w u), fun a k x y => (g.2.1 a k x y).trans (h.2.1 a k x y), fun a k x => (g.2.2.1 a k x).trans (h.2.2.1 a k x), fun a x => (g.2.2.2.1 a x).trans (h.2.2.2.1 a x), fun a x => (g.2.2.2.2.1 a x).trans (h.2.2.2.2.1 a x), fun a x => (g.2.2.2.2.2 a x).trans (h.2.2.2.2.2 a x)⟩
theorem frZ_Rw {r A : Nat} {τ τ' : px_TT} (f : frRw r A τ τ') (hr : Zc r) (hA : Zc A) : frZ τ τ' := ⟨fun a k h _ _ _ _ => f.1 a k (Or.inl (fun e => h (e ▸ hr))), fun a k _ _ => f.2.1 a k, fun a k _ => f.2.2.1 a k, fun a h => f.2.2.2.1 a (fun e => h (e ▸ hA)), fun a _ => f.2.2.2.2.1 a, fun a _ => f.2.2.2.2.2 a⟩
theorem frZ_N {a : Nat} {τ τ' : px_TT} (f : frN a τ τ') (ha : Zc a) : frZ τ τ' := ⟨fun x k h _ _ _ _ => f.1 x k (Or.inl (fun e => h (e ▸ ha))), fun x k h _ => f.2.1 x k (Or.inl (fun e => h (e ▸ ha))), fun x k _ => f.2.2.1 x k, fun x _ => f.2.2.2.1 x, fun x _ => f.2.2.2.2.1 x, fun x _ => f.2.2.2.2.2 x⟩
theorem frZ_I {τ : px_TT} {a k : Nat} {v : Int32} (h : Zc a ∨ (a = 0 ∧ 15 ≤ k) ∨ (1815 ≤ a ∧ k = 17) ∨ (152 ≤ a ∧ a < 1688 ∧ k = 12) ∨ (a = 147 ∧ k = 18)) : frZ τ (tI τ a k v) := ⟨fun x y h1 h2 h3 h4 h5 => tI_ne (by
    rcases h with q | q | q | q | q
    · exact Or.inl (fun e => h1 (e ▸ q))
    · omega
    · omega
    · omega
    · omega), fun _ _ _ _ => rfl, fun _ _ _ => rfl, fun _ _ => rfl, fun _ _ => rfl, fun _ _ => rfl⟩
theorem frZ_J {τ : px_TT} {a k : Nat} {v : Int64} (h : Zc a ∨ (a = 147 ∧ k = 19)) : frZ τ (tJ τ a k v) := ⟨fun _ _ _ _ _ _ _ => rfl, fun x y h1 h2 => tJ_ne (by
    rcases h with q | q
    · exact Or.inl (fun e => h1 (e ▸ q))
    · omega), fun _ _ _ => rfl, fun _ _ => rfl, fun _ _ => rfl, fun _ _ => rfl⟩
theorem frZ_v {τ : px_TT} {a : Nat} {g : Nat → Int32} (h : Zc a) : frZ τ (vI τ a g) := ⟨fun _ _ _ _ _ _ _ => rfl, fun _ _ _ _ => rfl, fun _ _ _ => rfl, fun x hx => eI_v_ne (fun e => hx (e ▸ h)), fun _ _ => rfl, fun _ _ => rfl⟩
theorem frZ_vJ {τ : px_TT} {a : Nat} {g : Nat → Int64} (h : Zc a) : frZ τ (vJ τ a g) := ⟨fun _ _ _ _ _ _ _ => rfl, fun _ _ _ _ => rfl, fun _ _ _ => rfl, fun _ _ => rfl, fun x hx => eJ_v_ne (fun e => hx (e ▸ h)), fun _ _ => rfl⟩
theorem frZ_vN {τ : px_TT} {g : Nat → Option Nat} : frZ τ (vN τ 1717 g) := ⟨fun _ _ _ _ _ _ _ => rfl, fun _ _ _ _ => rfl, fun _ _ _ => rfl, fun _ _ => rfl, fun _ _ => rfl, fun x hx => eN_v_ne hx⟩
theorem frZ_tN {τ : px_TT} {k : Nat} {v : Option Nat} (h : k = 1 ∨ k = 2) : frZ τ (tN τ 0 k v) := ⟨fun _ _ _ _ _ _ _ => rfl, fun _ _ _ _ => rfl, fun x y hx => by rw [fN_tN, if_neg (by omega)], fun _ _ => rfl, fun _ _ => rfl, fun _ _ => rfl⟩
theorem GR_my {τ τ' : px_TT} (h : GR τ) (hN : ∀ a k, a < 1726 → (a = 0 → k ≠ 1 ∧ k ≠ 2) → fN τ' a k = fN τ a k) (hI : ∀ a k, 10 ≤ a → a < 138 → k < 3 → fI τ' a k = fI τ a k) (h9 : eN τ' 9 = eN τ 9) (h151 : eN τ' 151 = eN τ 151) : GR τ' := by
  refine ⟨fun x hx => ?_, fun i hi => ?_, fun i hi => ?_⟩
  · have hlt : ∀ x, x ∈ grl → x.1 < 1726 ∧ (x.1 = 0 → x.2.1 ≠ 1 ∧ x.2.1 ≠ 2) := by decide
    rw [hN _ _ (hlt x hx).1 (hlt x hx).2]
    exact h.1 x hx
  · have g := h.2.1 i hi
    rw [hN _ _ (by omega) (by omega), hN _ _ (by omega) (by omega), h9, hI _ _ (by omega) (by omega) (by omega), hI _ _ (by omega) (by omega) (by omega)]
    exact g
  · rw [h151]; exact h.2.2 i hi
section CFZ
variable {sk : Nat → Nat × Nat × Nat} {L : Nat} {τ τ' : px_TT} {own : Nat → Nat × Nat} {fs : px_FS} {s : px_TK} {xs : px_NL} {ST rn : Nat → Bool} {gs : List (List Nat × Int64)} {ws : List (List Nat)} {C B : Nat → Nat} {ll sl cpf : List Nat} {tO : Nat → Nat} {th : Nat → Bool} {NA : Nat → Int64} {pp : Nat} {ad : Nat → Nat} {fe3 tp sp fp0 fp1 fp2 bg0 bg1 bg2 : Nat}
theorem Zc_no {a : Nat} (h : a = 0 ∨ (7 ≤ a ∧ a < 146) ∨ (147 ≤ a ∧ a < 1695) ∨ (1696 ≤ a ∧ a < 1711) ∨ 1726 ≤ a) : ¬ Zc a := fun w => by unfold Zc at w; omega
theorem GR_Z (h : GR τ) (f : frZ τ τ') : GR τ' := GR_my h (fun a k _ hk => f.2.2.1 a k hk) (fun a k h1 h2 _ => f.1 a k (Zc_no (by omega)) (by omega) (by omega) (by omega) (by omega)) (f.2.2.2.2.2 9 (by decide)) (f.2.2.2.2.2 151 (by decide))
theorem SF_Z (f : frZ τ τ') : SF τ τ' := ⟨fun a k h hk => f.1 a k (Zc_no (by omega)) (by omega) (by omega) (by omega) (by omega), fun a k h => f.2.2.1 a k (by omega), fun a h => f.2.2.2.1 a (Zc_no (by omega))⟩
theorem CF_Z (h : CF sk L τ fs) (f : frZ τ τ') : CF sk L τ' fs := CF_mv h EX_refl (SF_Z f)
theorem CB_Z (h : CB τ C) (f : frZ τ τ') : CB τ' C := by
  unfold CB
  rw [f.2.2.2.1 8 (Zc_no (by omega))]
  exact h
theorem NP_Z (h : NP sk L τ own) (f : frZ τ τ') : NP sk L τ' own := NP_fx h (fun A hA => f.2.2.2.2.2 A (by omega))
theorem TKe_Zf (h : TKe sk L own τ fs s xs ST rn) (f : frZ τ τ') : TKe sk L own τ' fs s xs ST rn := by
  obtain ⟨a1, a2, a3, ⟨k1, k2, k3, k4⟩, a5, a6, a7⟩ := h
  have hT := BK_T (s := s) a5.1
  have hge : ∀ i, i < xs.length → 1815 ≤ pN τ 149 i := fun i hi => (k1 149 i _ (Or.inr (Or.inr rfl)) (CLm_at k2 (List.getElem?_eq_getElem hi)).2.1).1
  have eE : ∀ a, a ≠ 1717 → eN τ' a = eN τ a := f.2.2.2.2.2
  have hI : ∀ i, i < xs.length → ∀ k, k ≠ 17 → fI τ' (pN τ 149 i) k = fI τ (pN τ 149 i) k := fun i hi k hk => by
    have := hge i hi
    exact f.1 _ k (Zc_no (by omega)) (by omega) (fun _ => hk) (by omega) (by omega)
  refine ⟨a1, GR_Z a2 f, CF_Z a3 f, ⟨NP_Z k1 f, CLm_fx k2 EX_refl (fun i hi k hk => hI i hi k (by omega)) (fun i x hx e => by rw [hI i (List.getElem?_eq_some_iff.mp hx).1 13 (by decide)]; exact (k2.2.1 i x hx).2 e) (fun i hi k hk => f.2.1 _ k (Zc_no (by have := hge i hi; omega)) (by have := hge i hi; omega)) (fun i hi => f.2.2.1 _ 6 (by have := hge i hi; omega)) ⟨f.2.2.1 148 0 (by omega), f.1 148 2 (Zc_no (by omega)) (by omega) (by omega) (by omega) (by omega)⟩ (f.1 147 15 (Zc_no (by omega)) (by omega) (by omega) (by omega) (by omega)) (eE 149 (by decide)) (eE 1693 (by decide)), (f.1 147 14 (Zc_no (by omega)) (by omega) (by omega) (by omega) (by omega)).trans k3, fun t q hq => ?_⟩, a5, a6, a7⟩
  have ht := (List.getElem?_eq_some_iff.mp hq).1
  obtain ⟨r1, r2, r3⟩ := k4 t q hq
  exact ⟨fun i hi => isPe_fx (r1 i hi) (fun k hk _ => f.1 _ k (Zc_no (by omega)) (by omega) (by omega) (by omega) (by omega)) (by rw [f.1 _ 9 (Zc_no (by omega)) (by omega) (by omega) (by omega) (by omega)]; exact (r1 i hi).2.2.2.2.1), RSy_fx r2 (eE 149 (by decide)) (fun k _ => by rw [eE 1692 (by decide)]), by rw [eE 1689 (by decide)]; exact r3⟩
theorem CN_Z {N' A : Nat} (h : CN sk L τ N' A ws) (hn : NP sk L τ own) (f : frZ τ τ') (hN : N' = 140 ∨ N' = 143) (hA : A = 141 ∨ A = 144) : CN sk L τ' N' A ws := by
  obtain ⟨s1, s2, s3, s4, s5, s6, s7⟩ := h
  have eA : eN τ' A = eN τ A := f.2.2.2.2.2 A (by omega)
  refine ⟨s1, (f.2.2.1 N' 0 (by omega)).trans s2, s3, s4, s5, (f.1 N' 2 (Zc_no (by omega)) (by omega) (by omega) (by omega) (by omega)).trans s6, fun i w hw => ?_⟩
  obtain ⟨z1, z2, z3, z4⟩ := s7 i w hw
  have hz := (hn A i _ (by omega) z2).1
  rw [eA]
  exact ⟨z1, z2, z3, (f.2.1 _ 0 (Zc_no (by omega)) (by omega)).trans z4.1, (f.2.1 _ 1 (Zc_no (by omega)) (by omega)).trans z4.2.1, (f.2.1 _ 2 (Zc_no (by omega)) (by omega)).trans z4.2.2.1, (f.1 _ 3 (Zc_no (by omega)) (by omega) (by omega) (by omega) (by omega)).trans z4.2.2.2⟩
theorem CG_Z (h : CG sk L τ gs) (hn : NP sk L τ own) (f : frZ τ τ') : CG sk L τ' gs := by
  refine ⟨CN_Z h.1 hn f (Or.inl rfl) (Or.inl rfl), fun i x hx => ?_⟩
  have hm : (gs.map Prod.fst)[i]? = some x.1 := by rw [List.getElem?_map, hx]; rfl
  have hp : eN τ 141 i = some ((eN τ 141 i).getD 0) := (h.1.2.2.2.2.2.2 i _ hm).2.1
  have hz := (hn 141 i _ (Or.inl rfl) hp).1
  rw [f.2.2.2.2.2 141 (by decide), f.2.1 _ 7 (Zc_no (by omega)) (by omega)]
  exact h.2 i x hx
theorem CW_Z (h : CW sk L τ ws) (hn : NP sk L τ own) (f : frZ τ τ') : CW sk L τ' ws := CN_Z h hn f (Or.inr rfl) (Or.inr rfl)
theorem isNm_Z {w : List Nat} (h : isNm τ 1696 w) (f : frZ τ τ') : isNm τ' 1696 w := ⟨(f.2.1 _ 0 (Zc_no (by omega)) (by omega)).trans h.1, (f.2.1 _ 1 (Zc_no (by omega)) (by omega)).trans h.2.1, (f.2.1 _ 2 (Zc_no (by omega)) (by omega)).trans h.2.2.1, (f.1 _ 3 (Zc_no (by omega)) (by omega) (by omega) (by omega) (by omega)).trans h.2.2.2⟩
theorem LAc_Z (h : LAc sk L own τ fs s xs ST rn ll C B cpf tO pp ad) (f : frZ τ τ') : LAc sk L own τ' fs s xs ST rn ll C B cpf tO pp ad := by
  obtain ⟨h1, ⟨hk, hl, hall⟩, hcb, hpl, h5, hpp, had, hT, hrel⟩ := h
  have hT4 := BK_T (s := s) h1.2.2.2.2.1.1
  refine ⟨TKe_Zf h1 f, ⟨hk, hl, hall⟩, CB_Z hcb f, CPl_fx hpl (f.1 1697 3 (Zc_no (by omega)) (by omega) (by omega) (by omega) (by omega)) (f.1 1697 4 (Zc_no (by omega)) (by omega) (by omega) (by omega) (by omega)) (f.2.2.2.1 1698 (Zc_no (by omega))) (f.2.2.2.1 1699 (Zc_no (by omega))), ?_, hpp, fun x hx hs => ?_, hT, hrel⟩
  · rw [f.2.1 _ _ (Zc_no (by omega)) (by omega)]; exact h5
  · have hx1 := (hl.2 x hx).1
    rw [f.2.1 _ _ (Zc_no (by omega)) (by omega)]
    exact had x hx hs
theorem LAD_Z (h : LAD sk L own τ fs s xs ST rn ll sl C B cpf tO th NA pp ad fe3 tp sp fp0 fp1 fp2 bg0 bg1 bg2) (f : frZ τ τ') : LAD sk L own τ' fs s xs ST rn ll sl C B cpf tO th NA pp ad fe3 tp sp fp0 fp1 fp2 bg0 bg1 bg2 := by
  obtain ⟨d1, d2, ⟨d3, d4⟩, ⟨d5, d6⟩, d7, d8, d9, d10, d11, ⟨d12, d13, d14⟩, d15, d16, d17⟩ := h
  have h1 := d1.1
  have hT4 := BK_T (s := s) h1.2.2.2.2.1.1
  have hge : ∀ i, i < xs.length → 1815 ≤ pN τ 149 i := fun i hi => (h1.2.2.2.1.1 149 i _ (Or.inr (Or.inr rfl)) (CLm_at h1.2.2.2.1.2.1 (List.getElem?_eq_getElem hi)).2.1).1
  have eP : ∀ n, pN τ' 149 n = pN τ 149 n := fun n => by unfold pN; rw [f.2.2.2.2.2 149 (by decide)]
  have e3 := f.2.2.2.1 1703 (Zc_no (by omega))
  have e4 := f.2.2.2.2.1 1704 (Zc_no (by omega))
  have e5 := f.2.2.2.2.1 1705 (Zc_no (by omega))
  have eJ0 : ∀ k, fJ τ' 1700 k = fJ τ 1700 k := fun k => f.2.1 _ _ (Zc_no (by omega)) (by omega)
  refine ⟨LAc_Z d1 f, COr_fx d2 (f.1 1700 11 (Zc_no (by omega)) (by omega) (by omega) (by omega) (by omega)) (f.2.2.2.2.2 1701 (by decide)), ⟨⟨?_, ?_, ?_, ?_⟩, d4⟩, ⟨fun j hj => by rw [e3]; exact d5 j hj, by rw [e3]; exact d6⟩, fun j hj => ?_, fun x hx => ?_, fun w => by rw [eJ0]; exact d9 w, by rw [eJ0]; exact d10, by rw [eJ0]; exact d11, ⟨by rw [e4]; exact d12, by rw [e4]; exact d13, by rw [e4]; exact d14⟩, by rw [e5]; exact d15, by rw [e5]; exact d16, by rw [e5]; exact d17⟩
  · rw [f.1 1700 12 (Zc_no (by omega)) (by omega) (by omega) (by omega) (by omega)]; exact d3.1
  · intro i z hz; rw [f.2.2.2.1 1708 (Zc_no (by omega))]; exact d3.2.1 i z hz
  · intro P hP t ht
    have := hge P hP
    rw [eP, f.1 _ _ (Zc_no (by omega)) (by omega) (by omega) (by omega) (by omega)]
    exact d3.2.2.1 P hP t ht
  · intro z hz hn; rw [f.2.2.2.1 1709 (Zc_no (by omega))]; exact d3.2.2.2 z hz hn
  · have := hge j hj
    rw [eP, f.2.1 _ _ (Zc_no (by omega)) (by omega)]
    exact d7 j hj
  · have hx1 := (d1.2.1.2.1.2 x hx).1
    rw [f.2.1 _ _ (Zc_no (by omega)) (by omega)]
    exact d8 x hx
end CFZ
end
section
/-! addresses of symbols, as the class has them -/
section CSY
variable {F : Nat} {c : px_CT} {sk : Nat → Nat × Nat × Nat} {L : Nat} {τ : px_TT} {own : Nat → Nat × Nat} {fs : px_FS} {s : px_TK} {xs : px_NL} {ST rn : Nat → Bool} {ll : List Nat} {C B : Nat → Nat} {cpf : List Nat} {tO : Nat → Nat} {pp : Nat} {ad : Nat → Nat} {on : Bool} {R : Nat → Bool} {NA : Nat → Int64} {t j : Nat}
theorem k_nameOf2 (h : TKe sk L own τ fs s xs ST rn) (ht : t < s.2.2.1.length) (hj : j < oM (tB fs s.2.2.1 t)) : f_Link_nameOf F c 147 (nI t) (nI j) (cH sk L τ) = some (syN τ (tB fs s.2.2.1 t) xs j, cH sk L τ) ∧ (hsN (tB fs s.2.2.1 t) j = true → plc (yT (tB fs s.2.2.1 t) j) (xs.map Prod.fst) < xs.length) ∧ j < 64 := by
  have hT := BK_T (s := s) h.2.2.2.2.1.1
  obtain ⟨q, hq, hq64, hD, hcb, he, hpe, hsy, _⟩ := TKe_ob h ht
  have hM := w2_M (eObj_0 he).1
  have hj64 : j < 64 := by omega
  obtain ⟨s1, s2⟩ := hsy j hj64
  refine ⟨?_, fun hh => ?_, hj64⟩
  · rw [k_nameOf h.1 h.2.1 (by omega) hj64, s1]
  · have := plc_lt (s2 hh)
    rw [List.length_map] at this
    exact this
theorem k_symbolAddress (hF : 65536 < F) (h : LAc sk L own τ fs s xs ST rn ll C B cpf tO pp ad) (hr : STr fs s on R ST) (hNA : ∀ i, i < xs.length → fJ τ (pN τ 149 i) 14 = NA i) (ht : t < s.2.2.1.length) (hj : j < oM (tB fs s.2.2.1 t)) : f_Layout_symbolAddress F c 1700 (nI t) (nI j) (cH sk L τ) = some (syA (tB fs s.2.2.1) xs (ownV B (pf0 B tO (tB fs s.2.2.1) ll) tO (tB fs s.2.2.1) s.2.1.1 (sta (tB fs s.2.2.1) s.2.1.1 on R) pp ad) NA t j, cH sk L τ) := by
  have hS := h.1.1
  have hR := h.1.2.1
  have hT := BK_T (s := s) h.1.2.2.2.2.1.1
  obtain ⟨q, hq, hq64, hD, hcb, he, hpe, hsy, _⟩ := TKe_ob h.1 ht
  obtain ⟨kn, kp, hj64⟩ := k_nameOf2 (F := F) (c := c) h.1 ht hj
  have ko := k_object (F := F) (c := c) h.1 hq
  obtain ⟨w2', hyk, _⟩ := eObj_0 he
  have hjm : j < oM (cb (eI τ 8) (bsO fs q) (tNf fs s.2.2.1 t)) := by rw [hcb]; exact hj
  have kw := k_whereOf (F := F) (c := c) hD.1 (by omega) hjm
  have kv := k_valueOf (F := F) (c := c) hD.1 (by omega) hjm
  rw [hcb] at kw kv
  have hq7 : ob sk L 7 (10 + 2 * q) := hD.1.1.1.1.1
  have o := G1700 hS
  unfold f_Layout_symbolAddress
  rw [C2r0 o (GR_r (v := 147) hR (by decide)), bs, c_o (G147 hS), bs, kn, xb_mk]
  by_cases c1 : hsN (tB fs s.2.2.1 t) j = true
  · have es : syN τ (tB fs s.2.2.1 t) xs j = some (pN τ 149 (plc (yT (tB fs s.2.2.1 t) j) (xs.map Prod.fst))) := by unfold syN; rw [if_pos c1]
    have hpl := kp c1
    have hp := (CLm_at h.1.2.2.2.1.2.1 (List.getElem?_eq_getElem hpl)).2.2.1
    have hc := of_decide_eq_true c1
    rw [es]
    show ((xgJ (cH sk L τ) 5 14 _).bind fun t11 => _) = _
    rw [C5g14 hp, bs, hNA _ hpl]
    unfold syA
    rw [if_neg (by omega), if_neg hc.2.2]
  · have es : syN τ (tB fs s.2.2.1 t) xs j = none := by unfold syN; rw [if_neg c1]
    rw [es]
    show ((xgR (cH sk L τ) 2 0 1700).bind fun t5 => _) = _
    rw [C2r0 o (GR_r (v := 147) hR (by decide)), bs, c_o (G147 hS), bs, ko, xb_mk]
    by_cases c0 : j = 0
    · subst c0
      rw [if_pos (show nI 0 = 0 from rfl)]
      unfold f_Layout_symbolAddress_43 syA
      rw [if_pos (show nI 0 = 0 from rfl), if_pos rfl]
    · have hyB : yB (tB fs s.2.2.1 t) j = 0 := by
        rcases Nat.eq_zero_or_pos (yB (tB fs s.2.2.1 t) j) with e | e
        · exact e
        · exact absurd (decide_eq_true (⟨by omega, hj, by omega⟩ : 1 ≤ j ∧ j < oM (tB fs s.2.2.1 t) ∧ yB (tB fs s.2.2.1 t) j ≠ 0)) c1
      have hyo := hyk j (by omega) hj
      have hwn : yW (tB fs s.2.2.1 t) j ≠ 65522 := (of_decide_eq_true hyo).2.2.1 hyB
      have hwr := (of_decide_eq_true hyo).2.1
      have hS24 := w2'.1.2.1.2
      have hV : yV (tB fs s.2.2.1 t) j < 2 ^ 64 := by rw [← hcb]; exact le_lt (cb_lt _ _ _) _ 8
      have hW : yW (tB fs s.2.2.1 t) j < 65536 := by rw [← hcb]; exact le_lt (cb_lt _ _ _) _ 2
      have eS : syA (tB fs s.2.2.1) xs (ownV B (pf0 B tO (tB fs s.2.2.1) ll) tO (tB fs s.2.2.1) s.2.1.1 (sta (tB fs s.2.2.1) s.2.1.1 on R) pp ad) NA t j = ownV B (pf0 B tO (tB fs s.2.2.1) ll) tO (tB fs s.2.2.1) s.2.1.1 (sta (tB fs s.2.2.1) s.2.1.1 on R) pp ad t j := by unfold syA; rw [if_neg c0, if_pos hyB]
      have e88 : ∀ a6, f_Layout_symbolAddress_88 F c 1700 (nI j) (some (10 + 2 * q)) a6 (cH sk L τ) = some (lN (yV (tB fs s.2.2.1 t) j), cH sk L τ) := fun a6 => by
        unfold f_Layout_symbolAddress_88 f_Layout_symbolAddress_93 f_Layout_symbolAddress_124
        rw [if_neg (by decide), bs, c_o hq7, bs, kv, xb_mk]
      rw [eS, ownV_c (ST := ST) hyo hS24 hwn (STr_i hr ht), if_neg (show ¬ nI j = 0 from fun e => c0 ((nI_eq (b := 0) (by omega) (by decide)).mp e)), bs, c_o hq7, bs, kw, xb_mk]
      unfold f_Layout_symbolAddress_43
      by_cases cw : yW (tB fs s.2.2.1 t) j = 0
      · rw [cw, if_pos (show nI 0 = 0 from rfl), if_pos rfl]
      · rw [if_neg (show ¬ nI (yW (tB fs s.2.2.1 t) j) = 0 from fun e => cw ((nI_eq (b := 0) (by omega) (by decide)).mp e)), if_neg cw]
        by_cases c24 : yW (tB fs s.2.2.1 t) j < 24
        · have hpe' := hpe (yW (tB fs s.2.2.1 t) j) c24
          have ha := k_addressIn (F := F) (c := c) (x := 24 * t + yW (tB fs s.2.2.1 t) j) hF h (by omega) hV
          have hp8 := (TKe_part h.1 (x := 24 * t + yW (tB fs s.2.2.1 t) j) (by omega)).1
          rw [if_neg (nI_ge c24 (by decide)), C2r0 o (GR_r (v := 147) hR (by decide)), bs, c_o (G147 hS), bs, k_part hS hR (by omega) c24, xb_mk]
          unfold f_Layout_symbolAddress_73
          show ((xgI (cH sk L τ) 8 8 _).bind fun t2 => _) = _
          rw [C8g8 hp8, bs, hpe'.2.2.2.1]
          by_cases ck : kpB (tB fs s.2.2.1 t) (yW (tB fs s.2.2.1 t) j) = true ∨ s.2.1.1 (24 * t + yW (tB fs s.2.2.1 t) j) = true
          · have eR : (if yW (tB fs s.2.2.1 t) j < 24 ∧ (kpB (tB fs s.2.2.1 t) (yW (tB fs s.2.2.1 t) j) = true ∨ s.2.1.1 (24 * t + yW (tB fs s.2.2.1 t) j) = true) then adV ST B (pf0 B tO (tB fs s.2.2.1) ll) tO (tB fs s.2.2.1) pp ad (24 * t + yW (tB fs s.2.2.1 t) j) (yV (tB fs s.2.2.1 t) j) else lN (yV (tB fs s.2.2.1 t) j)) = adV ST B (pf0 B tO (tB fs s.2.2.1) ll) tO (tB fs s.2.2.1) pp ad (24 * t + yW (tB fs s.2.2.1 t) j) (yV (tB fs s.2.2.1 t) j) := if_pos ⟨c24, ck⟩
            have en : ¬ nI (if s.2.1.1 (24 * t + yW (tB fs s.2.2.1 t) j) = true then 2 else if kpB (tB fs s.2.2.1 t) (yW (tB fs s.2.2.1 t) j) = true then 1 else 0) = 0 := by
              by_cases cd : s.2.1.1 (24 * t + yW (tB fs s.2.2.1 t) j) = true
              · rw [if_pos cd]; decide
              · rw [if_neg cd, if_pos (ck.resolve_right cd)]; decide
            rw [if_neg en, eR]
            unfold f_Layout_symbolAddress_93 f_Layout_symbolAddress_124
            rw [if_pos (show nI 0 = 0 from rfl), C2r1 o (GR_r (v := 1697) hR (by decide)), bs, bs, c_o hq7, bs, kv, xb_mk, c_o (G1697 hS), bs, ha, xb_mk]
          · have e0 : nI (if s.2.1.1 (24 * t + yW (tB fs s.2.2.1 t) j) = true then 2 else if kpB (tB fs s.2.2.1 t) (yW (tB fs s.2.2.1 t) j) = true then 1 else 0) = 0 := by
              rw [if_neg (fun q => ck (Or.inr q)), if_neg (fun q => ck (Or.inl q))]; rfl
            rw [if_pos e0, e88, if_neg (fun q => ck q.2)]
        · rw [if_pos (nI_le (by omega) (by omega))]
          unfold f_Layout_symbolAddress_73
          show f_Layout_symbolAddress_88 F c 1700 (nI j) (some (10 + 2 * q)) none (cH sk L τ) = _
          rw [e88, if_neg (fun q => c24 q.1)]
/-- what a slot holds -/
def slV (SY : Nat → Nat → Int64) (tp z : Nat) : Int64 := if z % 2 = 0 then SY (z / 2 / 64) (z / 2 % 64) else SY (z / 2 / 64) (z / 2 % 64) - lN tp
theorem k_slotValue {sl : List Nat} {k z : Nat} {tp : Nat} (hF : 65536 < F) (h : LAc sk L own τ fs s xs ST rn ll C B cpf tO pp ad) (hr : STr fs s on R ST) (hNA : ∀ i, i < xs.length → fJ τ (pN τ 149 i) 14 = NA i) (hc : SLc s.2.2.1.length (tB fs s.2.2.1) xs τ sl) (hI : SLI s.2.2.1.length (tB fs s.2.2.1) sl) (h17 : fJ τ 1700 17 = lN tp) (hz : sl[k]? = some z) (hk : sl.length ≤ 2800) : f_Layout_slotValue F c 1700 (nI k) (cH sk L τ) = some (slV (syA (tB fs s.2.2.1) xs (ownV B (pf0 B tO (tB fs s.2.2.1) ll) tO (tB fs s.2.2.1) s.2.1.1 (sta (tB fs s.2.2.1) s.2.1.1 on R) pp ad) NA) tp z, cH sk L τ) := by
  have hkl := (List.getElem?_eq_some_iff.mp hz).1
  obtain ⟨z1, z2⟩ := hI.2 z (List.mem_of_getElem? hz)
  have hT := BK_T (s := s) h.1.2.2.2.2.1.1
  have o := G1700 h.1.1
  have ks := k_symbolAddress (F := F) (c := c) (NA := NA) hF h hr hNA z1 z2
  have hz8 : z < 8192 := by omega
  unfold f_Layout_slotValue f_Layout_slotValue_22 f_Layout_slotValue_59
  rw [if_neg (nI_pos (by omega)), C2g12 o, bs, hc.1, if_neg (nI_ge hkl (by omega)), C2r9 o (GR_r (v := 1708) h.1.2.1 (by decide)), bs, c_aI (G1708 h.1.1) (by decide) (by decide) (by omega), bs, hc.2.1 k z hz, c_o o, bs, pk_div (by omega) (by decide) (by decide), pk_div (by omega) (by decide) (by decide), pk_mul, pk_sub (by omega), show z / 2 - z / 2 / 64 * 64 = z / 2 % 64 by omega, ks, xb_mk, show nI z &&& nI 1 = nI (z % 2) from pk_andN (by omega) 1 (by decide)]
  unfold slV
  by_cases cz : z % 2 = 0
  · rw [if_pos (show nI (z % 2) = 0 by rw [cz]; rfl), if_pos cz]
  · rw [if_neg (show ¬ nI (z % 2) = 0 from fun q => cz ((nI_eq (b := 0) (by omega) (by decide)).mp q)), if_neg cz, C2g17 o, bs, h17]
end CSY
end
section
/-! the file that a link writes: safe -/
section CWR
variable {F : Nat} {c : px_CT} {sk : Nat → Nat × Nat × Nat} {L : Nat} {τ : px_TT}
abbrev rF (sk : Nat → Nat × Nat × Nat) (L : Nat) (τ : px_TT) : Prop := rowOK sk L τ 1711 1712 65536
abbrev fF (τ τ' : px_TT) : Prop := frRw 1711 1712 τ τ'
abbrev fC (τ : px_TT) (w : px_FW) : Prop := fW 1711 1712 65536 τ w
/-- numbers put one behind the other -/
def pT (l : List (Nat × Int64)) (w : px_FW) : px_FW := l.foldl (fun w x => wPut 65536 x.1 x.2 w) w
theorem pT_c {k : Nat} {v : Int64} {l : List (Nat × Int64)} {w : px_FW} : pT ((k, v) :: l) w = pT l (wPut 65536 k v w) := rfl
theorem pT_n {w : px_FW} : pT [] w = w := rfl
def hdL (v : Int64) (sg b : Int32) : List (Nat × Int64) := [(8, v), (8, (64 : Int64)), (8, lN 0), (4, lN 0), (2, (64 : Int64)), (2, (56 : Int64)), (2, (sg + b).toInt64), (6, lN 0)]
/-- the head of the file -/
def hdW (v : Int64) (sg b : Int32) (w : px_FW) : px_FW := pT (hdL v sg b) (pT [(2, (2 : Int64)), (2, (62 : Int64)), (4, lN 1)] (wFil 16 (nI 0).toInt8.toInt32.toInt8.toInt32 (itr (fun i => wPut 65536 1 ((nI ([127, 69, 76, 70, 2, 1, 1].getD i 0)).toInt64)) 0 7 w)))
def rwL (τ : px_TT) (a b : Int32) (j : Nat) (w : Int64) : List (Nat × Int64) := [(4, a.toInt64), (4, b.toInt64), (8, eJ τ 1704 j), (8, eJ τ 1705 j), (8, eJ τ 1705 j), (8, eJ τ 1706 j), (8, eJ τ 1707 j), (8, w)]
/-- where a run begins -/
def vST (NA : Nat → Int64) (xs : px_NL) : Int64 := match idx wST 0 (xs.map Prod.fst) with
  | none => lN 0
  | some i => NA i
theorem GR_Fw {τ' : px_TT} (h : GR τ) (f : fF τ τ') : GR τ' := GR_Rw h f (Or.inr (by decide))
theorem frZ_F {τ' : px_TT} (f : fF τ τ') : frZ τ τ' := frZ_Rw f (by unfold Zc; omega) (by unfold Zc; omega)
theorem k_wh_180 {a b : Int32} (hF : 65536 < F) (hS : GS sk L) (hR : GR τ) (h : rF sk L τ) : ∃ τ', f_Filler_writeHead_180 F c 1710 1711 (nI 2) a b (cH sk L τ) = some ((), cH sk L τ') ∧ rF sk L τ' ∧ fF τ τ' ∧ ∀ w, fC τ w → fC τ' (pT [(2, (a + b).toInt64), (6, lN 0)] w) := by
  obtain ⟨τ1, a1, r1, f1, u1⟩ := k_putC (F := F) (c := c) (v := (a + b).toInt64) (k := 2) (by omega) (by decide) h
  have F1 : fF τ τ1 := f1
  obtain ⟨τ2, a2, r2, f2, u2⟩ := k_putC (F := F) (c := c) (v := lN 0) (k := 6) (by omega) (by decide) r1
  have F2 : fF τ τ2 := frRw_trans F1 f2
  refine ⟨τ2, ?_, r2, F2, fun w hw => by rw [pT_c, pT_c, pT_n]; exact u2 _ (u1 w hw)⟩
  unfold f_Filler_writeHead_180
  rw [c_o h.1, bs, a1, xb_mk, C1r4 (G1710 hS) (GR_r (v := 1711) (GR_Fw hR F1) (by decide)), bs, c_o h.1, bs, a2, xb_mk]
theorem k_wh_95 {v : Int64} {th : Nat → Bool} (hF : 65536 < F) (hS : GS sk L) (hR : GR τ) (hth : ∀ j, j < 3 → eI τ 1703 j = bI (th j)) (h : rF sk L τ) : ∃ τ', f_Filler_writeHead_95 F c 1710 1711 (nI 8) v (cH sk L τ) = some ((), cH sk L τ') ∧ rF sk L τ' ∧ fF τ τ' ∧ ∀ w, fC τ w → fC τ' (pT (hdL v (nI (sgN th 3)) (if eI τ 1703 3 = 0 then nI 0 else nI 1)) w) := by
  obtain ⟨τ1, a1, r1, f1, u1⟩ := k_putC (F := F) (c := c) (v := v) (k := 8) (by omega) (by decide) h
  have F1 : fF τ τ1 := f1
  obtain ⟨τ2, a2, r2, f2, u2⟩ := k_putC (F := F) (c := c) (v := (64 : Int64)) (k := 8) (by omega) (by decide) r1
  have F2 : fF τ τ2 := frRw_trans F1 f2
  obtain ⟨τ3, a3, r3, f3, u3⟩ := k_putC (F := F) (c := c) (v := lN 0) (k := 8) (by omega) (by decide) r2
  have F3 : fF τ τ3 := frRw_trans F2 f3
  obtain ⟨τ4, a4, r4, f4, u4⟩ := k_putC (F := F) (c := c) (v := lN 0) (k := 4) (by omega) (by decide) r3
  have F4 : fF τ τ4 := frRw_trans F3 f4
  obtain ⟨τ5, a5, r5, f5, u5⟩ := k_putC (F := F) (c := c) (v := (64 : Int64)) (k := 2) (by omega) (by decide) r4
  have F5 : fF τ τ5 := frRw_trans F4 f5
  obtain ⟨τ6, a6, r6, f6, u6⟩ := k_putC (F := F) (c := c) (v := (56 : Int64)) (k := 2) (by omega) (by decide) r5
  have F6 : fF τ τ6 := frRw_trans F5 f6
  have hth6 : ∀ j, j < 3 → eI τ6 1703 j = bI (th j) := fun j hj => by rw [F6.2.2.2.1 1703 (by decide)]; exact hth j hj
  have kc := k_countSegments (F := F) (c := c) (by omega) hS (GR_Fw hR F6) hth6
  have e3 : eI τ6 1703 3 = eI τ 1703 3 := by rw [F6.2.2.2.1 1703 (by decide)]
  have fin : ∀ b : Int32, ∃ τ', f_Filler_writeHead_180 F c 1710 1711 (nI 2) (nI (sgN th 3)) b (cH sk L τ6) = some ((), cH sk L τ') ∧ rF sk L τ' ∧ fF τ τ' ∧ ∀ w, fC τ w → fC τ' (pT (hdL v (nI (sgN th 3)) b) w) := fun b => by
    obtain ⟨τ7, b1, b2, b3, b4⟩ := k_wh_180 (F := F) (c := c) (a := nI (sgN th 3)) (b := b) hF hS (GR_Fw hR F6) r6
    exact ⟨τ7, b1, b2, frRw_trans F6 b3, fun w hw => by unfold hdL; rw [pT_c, pT_c, pT_c, pT_c, pT_c, pT_c]; exact b4 _ (u6 _ (u5 _ (u4 _ (u3 _ (u2 _ (u1 w hw))))))⟩
  unfold f_Filler_writeHead_95
  rw [c_o h.1, bs, a1, xb_mk, C1r4 (G1710 hS) (GR_r (v := 1711) (GR_Fw hR F1) (by decide)), bs, c_o h.1, bs, a2, xb_mk, C1r4 (G1710 hS) (GR_r (v := 1711) (GR_Fw hR F2) (by decide)), bs, c_o h.1, bs, a3, xb_mk, C1r4 (G1710 hS) (GR_r (v := 1711) (GR_Fw hR F3) (by decide)), bs, c_o h.1, bs, a4, xb_mk, C1r4 (G1710 hS) (GR_r (v := 1711) (GR_Fw hR F4) (by decide)), bs, c_o h.1, bs, a5, xb_mk, C1r4 (G1710 hS) (GR_r (v := 1711) (GR_Fw hR F5) (by decide)), bs, c_o h.1, bs, a6, xb_mk, C1r4 (G1710 hS) (GR_r (v := 1711) (GR_Fw hR F6) (by decide)), bs, C1r1 (G1710 hS) (GR_r (v := 1700) (GR_Fw hR F6) (by decide)), bs, c_o (G1700 hS), bs, kc, xb_mk, C1r1 (G1710 hS) (GR_r (v := 1700) (GR_Fw hR F6) (by decide)), bs, C2r4 (G1700 hS) (GR_r (v := 1703) (GR_Fw hR F6) (by decide)), bs, c_aI (G1703 hS) (by decide) (by decide) (by decide), bs, e3]
  by_cases c3 : eI τ 1703 3 = 0
  · have fc := fin (nI 0)
    rw [if_pos c3, if_pos c3]
    exact fc
  · have fc := fin (nI 1)
    rw [if_neg c3, if_neg c3]
    exact fc
theorem k_writeHead {th : Nat → Bool} {NA : Nat → Int64} {own : Nat → Nat × Nat} {fs : px_FS} {s : px_TK} {xs : px_NL} {ST rn : Nat → Bool} (hF : 65536 < F) (hc : KT c) (hk : TKe sk L own τ fs s xs ST rn) (hst : isNm τ 1696 wST) (hNA : ∀ i, i < xs.length → fJ τ (pN τ 149 i) 14 = NA i) (hth : ∀ j, j < 3 → eI τ 1703 j = bI (th j)) (h : rF sk L τ) : ∃ τ', f_Filler_writeHead F c 1710 (cH sk L τ) = some ((), cH sk L τ') ∧ rF sk L τ' ∧ fF τ τ' ∧ ∀ g, fC τ' (hdW (vST NA xs) (nI (sgN th 3)) (if eI τ 1703 3 = 0 then nI 0 else nI 1) (0, g)) := by
  have hS := hk.1
  have hR := hk.2.1
  have kf := k_find2 (F := F) (c := c) (t := 1696) (w := wST) hk (by omega) (G1696 hS) hst ⟨by decide, by decide⟩
  obtain ⟨τ1, a1, r1, f1, u1⟩ := k_clearC (F := F) (c := c) h
  have F1 : fF τ τ1 := f1
  obtain ⟨τ2, a2, r2, f2, u2⟩ := k_putAll_2C (F := F) (c := c) (j := 3) (m := 7) (l := [127, 69, 76, 70, 2, 1, 1]) (by decide) hc.2.2.1.1 hc.2.2.1.2 rfl (by decide) (by omega) 7 0 F τ1 rfl (by omega) r1
  have F2 : fF τ τ2 := frRw_trans F1 f2
  obtain ⟨τ3, a3, r3, f3, u3⟩ := k_fillToC (F := F) (c := c) (e := 16) (x := nI 0) hF (by decide) r2
  have F3 : fF τ τ3 := frRw_trans F2 f3
  obtain ⟨τ4, a4, r4, f4, u4⟩ := k_putC (F := F) (c := c) (v := (2 : Int64)) (k := 2) (by omega) (by decide) r3
  have F4 : fF τ τ4 := frRw_trans F3 f4
  obtain ⟨τ5, a5, r5, f5, u5⟩ := k_putC (F := F) (c := c) (v := (62 : Int64)) (k := 2) (by omega) (by decide) r4
  have F5 : fF τ τ5 := frRw_trans F4 f5
  obtain ⟨τ6, a6, r6, f6, u6⟩ := k_putC (F := F) (c := c) (v := lN 1) (k := 4) (by omega) (by decide) r5
  have F6 : fF τ τ6 := frRw_trans F5 f6
  have hth6 : ∀ j, j < 3 → eI τ6 1703 j = bI (th j) := fun j hj => by rw [F6.2.2.2.1 1703 (by decide)]; exact hth j hj
  have e3 : eI τ6 1703 3 = eI τ 1703 3 := by rw [F6.2.2.2.1 1703 (by decide)]
  have fin : ∀ v : Int64, ∃ τ', f_Filler_writeHead_95 F c 1710 1711 (nI 8) v (cH sk L τ6) = some ((), cH sk L τ') ∧ rF sk L τ' ∧ fF τ τ' ∧ ∀ g, fC τ' (hdW v (nI (sgN th 3)) (if eI τ 1703 3 = 0 then nI 0 else nI 1) (0, g)) := fun v => by
    obtain ⟨τ7, b1, b2, b3, b4⟩ := k_wh_95 (F := F) (c := c) (v := v) hF hS (GR_Fw hR F6) hth6 r6
    rw [e3] at b4
    exact ⟨τ7, b1, b2, frRw_trans F6 b3, fun g => by unfold hdW; rw [pT_c, pT_c, pT_c, pT_n]; exact b4 _ (u6 _ (u5 _ (u4 _ (u3 (by decide) _ (u2 _ (u1 g))))))⟩
  have e2 : f_Row_putAll F c 1711 3 (cH sk L τ1) = some ((), cH sk L τ2) := a2
  unfold f_Filler_writeHead
  rw [C1r0 (G1710 hS) (GR_r (v := 147) hR (by decide)), bs, C3r3 (G147 hS) (GR_r (v := 148) hR (by decide)), bs, bs, C3r12 (G147 hS) (GR_r (v := 1696) hR (by decide)), bs, c_o (G148 hS), bs, kf, xb_mk, C1r4 (G1710 hS) (GR_r (v := 1711) hR (by decide)), bs, c_o h.1, bs, a1, xb_mk, C1r4 (G1710 hS) (GR_r (v := 1711) (GR_Fw hR F1) (by decide)), bs, c_o h.1, bs, e2, xb_mk, C1r4 (G1710 hS) (GR_r (v := 1711) (GR_Fw hR F2) (by decide)), bs, c_o h.1, bs, show (16 : Int64) = lN 16 from rfl, a3, xb_mk, C1r4 (G1710 hS) (GR_r (v := 1711) (GR_Fw hR F3) (by decide)), bs, c_o h.1, bs, a4, xb_mk, C1r4 (G1710 hS) (GR_r (v := 1711) (GR_Fw hR F4) (by decide)), bs, c_o h.1, bs, a5, xb_mk, C1r4 (G1710 hS) (GR_r (v := 1711) (GR_Fw hR F5) (by decide)), bs, c_o h.1, bs, a6, xb_mk, C1r4 (G1710 hS) (GR_r (v := 1711) (GR_Fw hR F6) (by decide)), bs]
  cases ei : idx wST 0 (xs.map Prod.fst) with
  | none =>
    have eV : vST NA xs = lN 0 := by unfold vST; rw [ei]
    rw [eV]
    exact fin _
  | some i =>
    have eV : vST NA xs = NA i := by unfold vST; rw [ei]
    have hi : i < xs.length := by
      have := (idx_lt ei).2
      rw [List.length_map] at this
      omega
    have hp := (CLm_at hk.2.2.2.1.2.1 (List.getElem?_eq_getElem hi)).2.2.1
    show ∃ τ', ((xgJ (cH sk L τ6) 5 14 (pN τ 149 i)).bind fun t21 => f_Filler_writeHead_95 F c 1710 1711 (nI 8) t21 (cH sk L τ6)) = some ((), cH sk L τ') ∧ rF sk L τ' ∧ fF τ τ' ∧ ∀ g, fC τ' (hdW (vST NA xs) (nI (sgN th 3)) (if eI τ 1703 3 = 0 then nI 0 else nI 1) (0, g))
    rw [C5g14 hp, bs, F6.2.1, hNA i hi, eV]
    exact fin _
theorem k_writeRow {j : Nat} {a b : Int32} {w : Int64} (hF : 65536 < F) (hS : GS sk L) (hR : GR τ) (hj : j < 4) (h : rF sk L τ) : ∃ τ', f_Filler_writeRow F c 1710 a b (nI j) w (cH sk L τ) = some ((), cH sk L τ') ∧ rF sk L τ' ∧ fF τ τ' ∧ ∀ x, fC τ x → fC τ' (pT (rwL τ a b j w) x) := by
  obtain ⟨τ1, a1, r1, f1, u1⟩ := k_putC (F := F) (c := c) (v := a.toInt64) (k := 4) (by omega) (by decide) h
  have F1 : fF τ τ1 := f1
  obtain ⟨τ2, a2, r2, f2, u2⟩ := k_putC (F := F) (c := c) (v := b.toInt64) (k := 4) (by omega) (by decide) r1
  have F2 : fF τ τ2 := frRw_trans F1 f2
  obtain ⟨τ3, a3, r3, f3, u3⟩ := k_putC (F := F) (c := c) (v := eJ τ2 1704 j) (k := 8) (by omega) (by decide) r2
  have F3 : fF τ τ3 := frRw_trans F2 f3
  obtain ⟨τ4, a4, r4, f4, u4⟩ := k_putC (F := F) (c := c) (v := eJ τ3 1705 j) (k := 8) (by omega) (by decide) r3
  have F4 : fF τ τ4 := frRw_trans F3 f4
  obtain ⟨τ5, a5, r5, f5, u5⟩ := k_putC (F := F) (c := c) (v := eJ τ4 1705 j) (k := 8) (by omega) (by decide) r4
  have F5 : fF τ τ5 := frRw_trans F4 f5
  obtain ⟨τ6, a6, r6, f6, u6⟩ := k_putC (F := F) (c := c) (v := eJ τ5 1706 j) (k := 8) (by omega) (by decide) r5
  have F6 : fF τ τ6 := frRw_trans F5 f6
  obtain ⟨τ7, a7, r7, f7, u7⟩ := k_putC (F := F) (c := c) (v := eJ τ6 1707 j) (k := 8) (by omega) (by decide) r6
  have F7 : fF τ τ7 := frRw_trans F6 f7
  obtain ⟨τ8, a8, r8, f8, u8⟩ := k_putC (F := F) (c := c) (v := w) (k := 8) (by omega) (by decide) r7
  have F8 : fF τ τ8 := frRw_trans F7 f8
  have g2 : eJ τ2 1704 j = eJ τ 1704 j := by rw [F2.2.2.2.2.1]
  have g3 : eJ τ3 1705 j = eJ τ 1705 j := by rw [F3.2.2.2.2.1]
  have g4 : eJ τ4 1705 j = eJ τ 1705 j := by rw [F4.2.2.2.2.1]
  have g5 : eJ τ5 1706 j = eJ τ 1706 j := by rw [F5.2.2.2.2.1]
  have g6 : eJ τ6 1707 j = eJ τ 1707 j := by rw [F6.2.2.2.2.1]
  rw [g2] at u3
  rw [g3] at u4
  rw [g4] at u5
  rw [g5] at u6
  rw [g6] at u7
  refine ⟨τ8, ?_, r8, F8, fun x hx => by unfold rwL; rw [pT_c, pT_c, pT_c, pT_c, pT_c, pT_c, pT_c, pT_c, pT_n]; exact u8 _ (u7 _ (u6 _ (u5 _ (u4 _ (u3 _ (u2 _ (u1 x hx)))))))⟩
  unfold f_Filler_writeRow
  rw [C1r4 (G1710 hS) (GR_r (v := 1711) hR (by decide)), bs, c_o h.1, bs, a1, xb_mk, C1r4 (G1710 hS) (GR_r (v := 1711) (GR_Fw hR F1) (by decide)), bs, c_o h.1, bs, a2, xb_mk, C1r4 (G1710 hS) (GR_r (v := 1711) (GR_Fw hR F2) (by decide)), bs, C1r1 (G1710 hS) (GR_r (v := 1700) (GR_Fw hR F2) (by decide)), bs, C2r5 (G1700 hS) (GR_r (v := 1704) (GR_Fw hR F2) (by decide)), bs, c_aJ (G1704 hS) (by decide) hj, bs, c_o h.1, bs, a3, xb_mk, C1r4 (G1710 hS) (GR_r (v := 1711) (GR_Fw hR F3) (by decide)), bs, C1r1 (G1710 hS) (GR_r (v := 1700) (GR_Fw hR F3) (by decide)), bs, C2r6 (G1700 hS) (GR_r (v := 1705) (GR_Fw hR F3) (by decide)), bs, c_aJ (G1705 hS) (by decide) hj, bs, c_o h.1, bs, a4, xb_mk, C1r4 (G1710 hS) (GR_r (v := 1711) (GR_Fw hR F4) (by decide)), bs, C1r1 (G1710 hS) (GR_r (v := 1700) (GR_Fw hR F4) (by decide)), bs, C2r6 (G1700 hS) (GR_r (v := 1705) (GR_Fw hR F4) (by decide)), bs, c_aJ (G1705 hS) (by decide) hj, bs, c_o h.1, bs, a5, xb_mk, C1r4 (G1710 hS) (GR_r (v := 1711) (GR_Fw hR F5) (by decide)), bs, C1r1 (G1710 hS) (GR_r (v := 1700) (GR_Fw hR F5) (by decide)), bs, C2r7 (G1700 hS) (GR_r (v := 1706) (GR_Fw hR F5) (by decide)), bs, c_aJ (G1706 hS) (by decide) hj, bs, c_o h.1, bs, a6, xb_mk, C1r4 (G1710 hS) (GR_r (v := 1711) (GR_Fw hR F6) (by decide)), bs, C1r1 (G1710 hS) (GR_r (v := 1700) (GR_Fw hR F6) (by decide)), bs, C2r8 (G1700 hS) (GR_r (v := 1707) (GR_Fw hR F6) (by decide)), bs, c_aJ (G1707 hS) (by decide) hj, bs, c_o h.1, bs, a7, xb_mk, C1r4 (G1710 hS) (GR_r (v := 1711) (GR_Fw hR F7) (by decide)), bs, c_o h.1, bs, a8, xb_mk]
end CWR
end
section
/-! the file that a link writes: safe, whole -/
theorem drop_x {l : List Nat} {k x : Nat} (h : l[k]? = some x) : l.drop k = x :: l.drop (k + 1) := by
  obtain ⟨h1, h2⟩ := List.getElem?_eq_some_iff.mp h
  rw [List.drop_eq_getElem_cons h1, h2]
theorem getD_x {l : List Nat} {k x : Nat} (h : l[k]? = some x) : l.getD k 0 = x := by
  rw [List.getD_eq_getElem?_getD, h]
  rfl
/-- addresses of symbols -/
def syF (fs : px_FS) (s : px_TK) (xs : px_NL) (B tO : Nat → Nat) (ll : List Nat) (on : Bool) (R : Nat → Bool) (pp : Nat) (ad : Nat → Nat) (NA : Nat → Int64) : Nat → Nat → Int64 := syA (tB fs s.2.2.1) xs (ownV B (pf0 B tO (tB fs s.2.2.1) ll) tO (tB fs s.2.2.1) s.2.1.1 (sta (tB fs s.2.2.1) s.2.1.1 on R) pp ad) NA
/-- where a part stands in the file -/
def spV (τ : px_TT) (fs : px_FS) (s : px_TK) (x : Nat) : Int32 := ((eJ τ 1704 (sgO (oG (tB fs s.2.2.1 (x / 24)) (x % 24))) + fJ τ (152 + x) 11) - eJ τ 1705 (sgO (oG (tB fs s.2.2.1 (x / 24)) (x % 24)))).toInt32
def slP (τ : px_TT) : Int32 := ((eJ τ 1704 2 + fJ τ 1700 13) - eJ τ 1705 2).toInt32
def poP (τ : px_TT) : Int32 := ((eJ τ 1704 1 + fJ τ 1697 5) - eJ τ 1705 1).toInt32
/-- the slots -/
def slW (p : Int32) (SY : Nat → Nat → Int64) (tp : Nat) (sl : List Nat) (k d : Nat) (w : px_FW) : px_FW := itr (fun k => wSet (p + nI 8 * nI k) 8 (slV SY tp (sl.getD k 0))) k d w
/-- the strings -/
def plW (S P Lg : Nat → Int32) : Nat → Nat → Int32 → px_FW → px_FW
  | 0, _, _, w => w
  | d + 1, k, p, w => plW S P Lg d (k + 1) (p + Lg k) (wCov S 65536 p (P k) (Lg k) w)
theorem slW_s {p : Int32} {SY : Nat → Nat → Int64} {tp : Nat} {sl : List Nat} {k d : Nat} {w : px_FW} : slW p SY tp sl k (d + 1) w = slW p SY tp sl (k + 1) d (wSet (p + nI 8 * nI k) 8 (slV SY tp (sl.getD k 0)) w) := rfl
theorem slW_0 {p : Int32} {SY : Nat → Nat → Int64} {tp : Nat} {sl : List Nat} {k : Nat} {w : px_FW} : slW p SY tp sl k 0 w = w := rfl
theorem plW_s {S P Lg : Nat → Int32} {d k : Nat} {p : Int32} {w : px_FW} : plW S P Lg (d + 1) k p w = plW S P Lg d (k + 1) (p + Lg k) (wCov S 65536 p (P k) (Lg k) w) := rfl
theorem plW_0 {S P Lg : Nat → Int32} {k : Nat} {p : Int32} {w : px_FW} : plW S P Lg 0 k p w = w := rfl
/-- a part's bytes -/
def seW (τ : px_TT) (fs : px_FS) (s : px_TK) (w : px_FW) (x : Nat) : px_FW := if fI τ (152 + x) 4 = nI 3 then w else if fI τ (152 + x) 4 = nI 5 then w else if fI τ (152 + x) 10 = 0 then wCov (eI τ 8) 65536 (spV τ fs s x) (fI τ (152 + x) 7) (fI τ (152 + x) 5) w else w
/-- strings and slots -/
def psW (τ : px_TT) (SY : Nat → Nat → Int64) (tp : Nat) (sl : List Nat) (np : Nat) (w : px_FW) : px_FW := slW (slP τ) SY tp sl 0 sl.length (plW (eI τ 8) (eI τ 1698) (eI τ 1699) np 0 (poP τ) w)
def tmW (τ : px_TT) (w : px_FW) : px_FW := if eI τ 1703 3 = 0 then w else pT (rwL τ (nI 7) (nI 4) 3 (fJ τ 1700 16)) w
def rsW (τ : px_TT) (s : Nat) (w : px_FW) : px_FW := if eI τ 1703 s = 0 then w else pT (rwL τ (nI 1) (nI ([5, 4, 6].getD s 0)) s (4096 : Int64)) w
theorem rwL_fr {τ τ' : px_TT} {a b : Int32} {j : Nat} {w : Int64} (f : fF τ τ') : rwL τ' a b j w = rwL τ a b j w := by
  unfold rwL
  rw [f.2.2.2.2.1, f.2.2.2.2.1, f.2.2.2.2.1, f.2.2.2.2.1]
section CWS
variable {F : Nat} {c : px_CT} {sk : Nat → Nat × Nat × Nat} {L : Nat} {τ0 : px_TT} {own : Nat → Nat × Nat} {fs : px_FS} {s : px_TK} {xs : px_NL} {ST rn : Nat → Bool} {C B : Nat → Nat} {ll sl cpf : List Nat} {tO : Nat → Nat} {th : Nat → Bool} {NA : Nat → Int64} {pp : Nat} {ad : Nat → Nat} {fe3 tp sp fp0 fp1 fp2 bg0 bg1 bg2 : Nat} {on : Bool} {R : Nat → Bool}
theorem k_w_287 {p : Int32} (hF : 65536 < F) (hr : STr fs s on R ST) (hN : SLN s.2.2.1.length (tB fs s.2.2.1)) (hL : LAD sk L own τ0 fs s xs ST rn ll sl C B cpf tO th NA pp ad fe3 tp sp fp0 fp1 fp2 bg0 bg1 bg2) : ∀ (d k f : Nat) (τ : px_TT), k + d = sl.length → d < f → rF sk L τ → fF τ0 τ → ∃ τ', f_Filler_write_287 F c f 1710 p (nI k) (cH sk L τ) = some ((), cH sk L τ') ∧ rF sk L τ' ∧ fF τ0 τ' ∧ ∀ w, fC τ w → fC τ' (slW p (syF fs s xs B tO ll on R pp ad NA) tp sl k d w) := by
  have hns := hN _ hL.2.2.1.2
  intro d
  induction d with
  | zero =>
    intro k f τ hk hf h hfr
    obtain ⟨f, rfl⟩ : ∃ x, f = x + 1 := ⟨f - 1, by omega⟩
    have hL1 := LAD_Z hL (frZ_F hfr)
    have hS := hL1.1.1.1
    have hR := hL1.1.1.2.1
    refine ⟨τ, ?_, h, hfr, fun w hw => by rw [slW_0]; exact hw⟩
    unfold f_Filler_write_287 f_Filler_write_327
    rw [C1r1 (G1710 hS) (GR_r (v := 1700) hR (by decide)), bs, C2g12 (G1700 hS), bs, hL1.2.2.1.1.1, if_pos (nI_le (by omega) (by omega))]
  | succ d ih =>
    intro k f τ hk hf h hfr
    obtain ⟨f, rfl⟩ : ∃ x, f = x + 1 := ⟨f - 1, by omega⟩
    have hL1 := LAD_Z hL (frZ_F hfr)
    have hS := hL1.1.1.1
    have hR := hL1.1.1.2.1
    have hkl : k < sl.length := by omega
    obtain ⟨z, hz⟩ : ∃ z, sl[k]? = some z := ⟨_, List.getElem?_eq_getElem hkl⟩
    have kv : f_Layout_slotValue F c 1700 (nI k) (cH sk L τ) = some (slV (syF fs s xs B tO ll on R pp ad NA) tp (sl.getD k 0), cH sk L τ) := by
      rw [getD_x hz]
      exact k_slotValue (F := F) (c := c) (NA := NA) hF hL1.1 hr hL1.2.2.2.2.1 hL1.2.2.1.1 hL1.2.2.1.2 hL1.2.2.2.2.2.2.2.1 hz hns
    obtain ⟨τ1, a1, r1, f1, u1⟩ := k_setC (F := F) (c := c) (v := slV (syF fs s xs B tO ll on R pp ad NA) tp (sl.getD k 0)) (k := 8) (p := p + nI 8 * nI k) (by omega) (by decide) h
    obtain ⟨τ2, b1, b2, b3, b4⟩ := ih (k + 1) f τ1 (by omega) (by omega) r1 (frRw_trans hfr f1)
    refine ⟨τ2, ?_, b2, b3, fun w hw => by rw [slW_s]; exact b4 _ (u1 w hw)⟩
    unfold f_Filler_write_287
    rw [C1r1 (G1710 hS) (GR_r (v := 1700) hR (by decide)), bs, C2g12 (G1700 hS), bs, hL1.2.2.1.1.1, if_neg (nI_ge hkl (by omega)), C1r4 (G1710 hS) (GR_r (v := 1711) hR (by decide)), bs, bs, c_o (G1700 hS), bs, kv, xb_mk, c_o h.1, bs, a1, xb_mk, nI_add]
    exact b1
theorem k_w_194 (hF : 65536 < F) (hr : STr fs s on R ST) (hN : SLN s.2.2.1.length (tB fs s.2.2.1)) (hL : LAD sk L own τ0 fs s xs ST rn ll sl C B cpf tO th NA pp ad fe3 tp sp fp0 fp1 fp2 bg0 bg1 bg2) : ∀ (d k f : Nat) (p : Int32) (τ : px_TT), k + d = cpf.length → d < f → rF sk L τ → fF τ0 τ → ∃ τ', f_Filler_write_194 F c f 1710 p (nI k) (cH sk L τ) = some ((), cH sk L τ') ∧ rF sk L τ' ∧ fF τ0 τ' ∧ ∀ w, fC τ w → fC τ' (slW (slP τ0) (syF fs s xs B tO ll on R pp ad NA) tp sl 0 sl.length (plW (eI τ0 8) (eI τ0 1698) (eI τ0 1699) d k p w)) := by
  have hns := hN _ hL.2.2.1.2
  have hcl := stL_len hL.1.2.2.2.1.2.2.1
  intro d
  induction d with
  | zero =>
    intro k f p τ hk hf h hfr
    obtain ⟨f, rfl⟩ : ∃ x, f = x + 1 := ⟨f - 1, by omega⟩
    have hL1 := LAD_Z hL (frZ_F hfr)
    have hS := hL1.1.1.1
    have hR := hL1.1.1.2.1
    unfold f_Filler_write_194 f_Filler_write_256
    rw [C1r2 (G1710 hS) (GR_r (v := 1697) hR (by decide)), bs, C9g3 (G1697 hS), bs, hL1.1.2.2.2.1.1, if_pos (nI_le (by omega) (by omega)), C1r1 (G1710 hS) (GR_r (v := 1700) hR (by decide)), bs, C2r5 (G1700 hS) (GR_r (v := 1704) hR (by decide)), bs, c_aJ (G1704 hS) (by decide) (by decide), bs, bs, C2g13 (G1700 hS), bs, bs, C2r6 (G1700 hS) (GR_r (v := 1705) hR (by decide)), bs, c_aJ (G1705 hS) (by decide) (by decide), bs, hfr.2.2.2.2.1, hfr.2.1, hfr.2.2.2.2.1]
    obtain ⟨τ2, b1, b2, b3, b4⟩ := k_w_287 (F := F) (c := c) (p := slP τ0) hF hr hN hL sl.length 0 F τ (Nat.zero_add _) (by omega) h hfr
    exact ⟨τ2, b1, b2, b3, fun w hw => by rw [plW_0]; exact b4 w hw⟩
  | succ d ih =>
    intro k f p τ hk hf h hfr
    obtain ⟨f, rfl⟩ : ∃ x, f = x + 1 := ⟨f - 1, by omega⟩
    have hL1 := LAD_Z hL (frZ_F hfr)
    have hS := hL1.1.1.1
    have hR := hL1.1.1.2.1
    have hkl : k < cpf.length := by omega
    obtain ⟨τ1, a1, r1, f1, u1⟩ := k_coverC (F := F) (c := c) (p := p) (q := eI τ 1698 k) (m := eI τ 1699 k) (G8 hS) (by decide) hL1.1.2.2.1.1 h
    have hR1 := GR_Fw hR f1
    have F1 := frRw_trans hfr f1
    obtain ⟨τ2, b1, b2, b3, b4⟩ := ih (k + 1) f (p + eI τ1 1699 k) τ1 (by omega) (by omega) r1 F1
    rw [F1.2.2.2.1 1699 (by decide)] at b4
    rw [hfr.2.2.2.1 8 (by decide), hfr.2.2.2.1 1698 (by decide), hfr.2.2.2.1 1699 (by decide)] at u1
    refine ⟨τ2, ?_, b2, b3, fun w hw => by rw [plW_s]; exact b4 _ (u1 w hw)⟩
    unfold f_Filler_write_194
    rw [C1r2 (G1710 hS) (GR_r (v := 1697) hR (by decide)), bs, C9g3 (G1697 hS), bs, hL1.1.2.2.2.1.1, if_neg (nI_ge hkl (by omega)), C1r4 (G1710 hS) (GR_r (v := 1711) hR (by decide)), bs, C1r3 (G1710 hS) (GR_r (v := 7) hR (by decide)), bs, C10r0 (G7 hS) (GR_r (v := 8) hR (by decide)), bs, bs, C9r1 (G1697 hS) (GR_r (v := 1698) hR (by decide)), bs, c_aI (G1698 hS) (by decide) (by decide) (by omega), bs, bs, C9r2 (G1697 hS) (GR_r (v := 1699) hR (by decide)), bs, c_aI (G1699 hS) (by decide) (by decide) (by omega), bs, c_o h.1, bs, a1, xb_mk, C1r2 (G1710 hS) (GR_r (v := 1697) hR1 (by decide)), bs, C9r2 (G1697 hS) (GR_r (v := 1699) hR1 (by decide)), bs, c_aI (G1699 hS) (by decide) (by decide) (by omega), bs, nI_add]
    exact b1
theorem k_spotOf {τ : px_TT} {x : Nat} (hc : KT c) (hL : LAD sk L own τ fs s xs ST rn ll sl C B cpf tO th NA pp ad fe3 tp sp fp0 fp1 fp2 bg0 bg1 bg2) (hx : x < 24 * s.2.2.1.length) (hs : ST x = true) : f_Filler_spotOf F c 1710 (some (152 + x)) (cH sk L τ) = some (spV τ fs s x, cH sk L τ) := by
  have hS := hL.1.1.1
  have hR := hL.1.1.2.1
  obtain ⟨p4, _⟩ := TKe_pt hL.1.1 hL.1.2.1.1 hx hs
  have hp := (TKe_part hL.1.1 hx).1
  have hg := oG_5 (b := tB fs s.2.2.1 (x / 24)) (i := x % 24)
  have ks := k_segmentOf (F := F) (c := c) hc hp (by omega) p4
  have hsg : sgO (oG (tB fs s.2.2.1 (x / 24)) (x % 24)) < 4 := by unfold sgO; split <;> omega
  unfold f_Filler_spotOf spV
  rw [C1r1 (G1710 hS) (GR_r (v := 1700) hR (by decide)), bs, c_o (G1700 hS), bs, ks, xb_mk, C1r1 (G1710 hS) (GR_r (v := 1700) hR (by decide)), bs, C2r5 (G1700 hS) (GR_r (v := 1704) hR (by decide)), bs, c_aJ (G1704 hS) (by decide) hsg, bs, bs, C8g11 hp, bs, bs, C2r6 (G1700 hS) (GR_r (v := 1705) hR (by decide)), bs, c_aJ (G1705 hS) (by decide) hsg, bs]
theorem k_w_87 (hF : 65536 < F) (hc : KT c) (hr : STr fs s on R ST) (hN : SLN s.2.2.1.length (tB fs s.2.2.1)) (hL : LAD sk L own τ0 fs s xs ST rn ll sl C B cpf tO th NA pp ad fe3 tp sp fp0 fp1 fp2 bg0 bg1 bg2) : ∀ (d k f : Nat) (τ : px_TT), k + d = ll.length → d < f → rF sk L τ → fF τ0 τ → ∃ τ', f_Filler_write_87 F c f 1710 (nI k) (cH sk L τ) = some ((), cH sk L τ') ∧ rF sk L τ' ∧ fF τ0 τ' ∧ ∀ w, fC τ w → fC τ' (psW τ0 (syF fs s xs B tO ll on R pp ad NA) tp sl cpf.length ((ll.drop k).foldl (seW τ0 fs s) w)) := by
  have hcl := stL_len hL.1.2.2.2.1.2.2.1
  have hl1 := hL.1.2.1.2.1.1
  intro d
  induction d with
  | zero =>
    intro k f τ hk hf h hfr
    obtain ⟨f, rfl⟩ : ∃ x, f = x + 1 := ⟨f - 1, by omega⟩
    have hL1 := LAD_Z hL (frZ_F hfr)
    have hS := hL1.1.1.1
    have hR := hL1.1.1.2.1
    unfold f_Filler_write_87 f_Filler_write_163
    rw [C1r1 (G1710 hS) (GR_r (v := 1700) hR (by decide)), bs, C2g11 (G1700 hS), bs, hL1.2.1.1, if_pos (nI_le (by omega) (by omega)), bs, C2r5 (G1700 hS) (GR_r (v := 1704) hR (by decide)), bs, c_aJ (G1704 hS) (by decide) (by decide), bs, C1r2 (G1710 hS) (GR_r (v := 1697) hR (by decide)), bs, C9g5 (G1697 hS), bs, bs, C2r6 (G1700 hS) (GR_r (v := 1705) hR (by decide)), bs, c_aJ (G1705 hS) (by decide) (by decide), bs, hfr.2.2.2.2.1, hfr.2.1, hfr.2.2.2.2.1, show ll.drop k = [] from List.drop_eq_nil_of_le (by omega)]
    obtain ⟨τ2, b1, b2, b3, b4⟩ := k_w_194 (F := F) (c := c) hF hr hN hL cpf.length 0 F (poP τ0) τ (Nat.zero_add _) (by omega) h hfr
    exact ⟨τ2, b1, b2, b3, fun w hw => by rw [List.foldl_nil]; unfold psW; exact b4 w hw⟩
  | succ d ih =>
    intro k f τ hk hf h hfr
    obtain ⟨f, rfl⟩ : ∃ x, f = x + 1 := ⟨f - 1, by omega⟩
    have hL1 := LAD_Z hL (frZ_F hfr)
    have hS := hL1.1.1.1
    have hR := hL1.1.1.2.1
    have hkl : k < ll.length := by omega
    obtain ⟨x, hx⟩ : ∃ x, ll[k]? = some x := ⟨_, List.getElem?_eq_getElem hkl⟩
    have hx2 := hL1.1.2.1.2.1.2 x (List.mem_of_getElem? hx)
    have hp := (TKe_part hL1.1.1 hx2.1).1
    have kp := k_partAt (F := F) (c := c) hS hR hL1.2.1 hl1 hx
    have hT := BK_T (s := s) hL1.1.1.2.2.2.2.1.1
    have next : ∀ τ1, rF sk L τ1 → fF τ0 τ1 → (∀ w, fC τ w → fC τ1 (seW τ0 fs s w x)) → ∃ τ', f_Filler_write_157 F c (f_Filler_write_87 F c f) 1710 (nI k) (cH sk L τ1) = some ((), cH sk L τ') ∧ rF sk L τ' ∧ fF τ0 τ' ∧ ∀ w, fC τ w → fC τ' (psW τ0 (syF fs s xs B tO ll on R pp ad NA) tp sl cpf.length ((ll.drop k).foldl (seW τ0 fs s) w)) := fun τ1 h1 f1 g1 => by
      obtain ⟨τ2, b1, b2, b3, b4⟩ := ih (k + 1) f τ1 (by omega) (by omega) h1 f1
      refine ⟨τ2, ?_, b2, b3, fun w hw => ?_⟩
      · unfold f_Filler_write_157
        rw [nI_add]
        exact b1
      · rw [drop_x hx, List.foldl_cons]
        exact b4 _ (g1 w hw)
    have kv := k_spotOf (F := F) (c := c) hc hL1 hx2.1 hx2.2
    have e4 : fI τ (152 + x) 4 = fI τ0 (152 + x) 4 := hfr.1 _ _ (Or.inl (by omega))
    have e5 : fI τ (152 + x) 5 = fI τ0 (152 + x) 5 := hfr.1 _ _ (Or.inl (by omega))
    have e7 : fI τ (152 + x) 7 = fI τ0 (152 + x) 7 := hfr.1 _ _ (Or.inl (by omega))
    have e10 : fI τ (152 + x) 10 = fI τ0 (152 + x) 10 := hfr.1 _ _ (Or.inl (by omega))
    have eS : spV τ fs s x = spV τ0 fs s x := by unfold spV; rw [hfr.2.2.2.2.1, hfr.2.1, hfr.2.2.2.2.1]
    rw [eS] at kv
    obtain ⟨τ1, a1, r1, f1, u1⟩ := k_coverC (F := F) (c := c) (p := spV τ0 fs s x) (q := fI τ0 (152 + x) 7) (m := fI τ0 (152 + x) 5) (G8 hS) (by decide) hL1.1.2.2.1.1 h
    rw [hfr.2.2.2.1 8 (by decide)] at u1
    unfold f_Filler_write_87
    rw [C1r1 (G1710 hS) (GR_r (v := 1700) hR (by decide)), bs, C2g11 (G1700 hS), bs, hL1.2.1.1, if_neg (nI_ge hkl (by omega)), bs, c_o (G1700 hS), bs, kp, xb_mk, bs, C8g4 hp, bs, e4]
    by_cases d1 : fI τ0 (152 + x) 4 = nI 3
    · rw [if_pos d1]
      exact next τ h hfr (fun w hw => by unfold seW; rw [if_pos d1]; exact hw)
    · rw [if_neg d1, bs]
      by_cases d2 : fI τ0 (152 + x) 4 = nI 5
      · rw [if_pos d2]
        exact next τ h hfr (fun w hw => by unfold seW; rw [if_neg d1, if_pos d2]; exact hw)
      · rw [if_neg d2, C8g10 hp, bs, e10]
        by_cases d3 : fI τ0 (152 + x) 10 = 0
        · rw [if_pos d3, C1r4 (G1710 hS) (GR_r (v := 1711) hR (by decide)), bs, c_o (G1710 hS), bs, kv, xb_mk, C1r3 (G1710 hS) (GR_r (v := 7) hR (by decide)), bs, C10r0 (G7 hS) (GR_r (v := 8) hR (by decide)), bs, C8g7 hp, bs, C8g5 hp, bs, e7, e5, c_o h.1, bs, a1, xb_mk]
          exact next τ1 r1 (frRw_trans hfr f1) (fun w hw => by unfold seW; rw [if_neg d1, if_neg d2, if_pos d3]; exact u1 w hw)
        · rw [if_neg d3]
          exact next τ h hfr (fun w hw => by unfold seW; rw [if_neg d1, if_neg d2, if_neg d3]; exact hw)
theorem k_w_43 {τ : px_TT} (hF : 65536 < F) (hc : KT c) (hr : STr fs s on R ST) (hN : SLN s.2.2.1.length (tB fs s.2.2.1)) (hfe : fe3 < 2 ^ 62) (hL : LAD sk L own τ0 fs s xs ST rn ll sl C B cpf tO th NA pp ad fe3 tp sp fp0 fp1 fp2 bg0 bg1 bg2) (h : rF sk L τ) (hfr : fF τ0 τ) : ∃ τ', f_Filler_write_43 F c 1710 (cH sk L τ) = some ((), cH sk L τ') ∧ rF sk L τ' ∧ fF τ0 τ' ∧ (fe3 ≤ 65536 → ∀ w, fC τ w → fC τ' (psW τ0 (syF fs s xs B tO ll on R pp ad NA) tp sl cpf.length (ll.foldl (seW τ0 fs s) (wFil fe3 (nI 0).toInt8.toInt32.toInt8.toInt32 (tmW τ0 w))))) := by
  have hL1 := LAD_Z hL (frZ_F hfr)
  have hS := hL1.1.1.1
  have hR := hL1.1.1.2.1
  have hl1 := hL.1.2.1.2.1.1
  have e70 : ∀ τ1, rF sk L τ1 → fF τ0 τ1 → ∃ τ', f_Filler_write_70 F c 1710 (cH sk L τ1) = some ((), cH sk L τ') ∧ rF sk L τ' ∧ fF τ0 τ' ∧ (fe3 ≤ 65536 → ∀ w, fC τ1 w → fC τ' (psW τ0 (syF fs s xs B tO ll on R pp ad NA) tp sl cpf.length (ll.foldl (seW τ0 fs s) (wFil fe3 (nI 0).toInt8.toInt32.toInt8.toInt32 w)))) := fun τ1 h1 f1 => by
    have hL2 := LAD_Z hL (frZ_F f1)
    have hR2 := hL2.1.1.2.1
    obtain ⟨τ2, a1, r1, g1, u1⟩ := k_fillToC (F := F) (c := c) (e := fe3) (x := nI 0) hF hfe h1
    obtain ⟨τ3, b1, b2, b3, b4⟩ := k_w_87 (F := F) (c := c) hF hc hr hN hL ll.length 0 F τ2 (Nat.zero_add _) (by omega) r1 (frRw_trans f1 g1)
    refine ⟨τ3, ?_, b2, b3, fun q w hw => by have z := b4 _ (u1 q w hw); rw [List.drop_zero] at z; exact z⟩
    unfold f_Filler_write_70
    rw [C1r4 (G1710 hS) (GR_r (v := 1711) hR2 (by decide)), bs, C1r1 (G1710 hS) (GR_r (v := 1700) hR2 (by decide)), bs, C2g18 (G1700 hS), bs, hL2.2.2.2.2.2.2.2.2.1, c_o h1.1, bs, a1, xb_mk]
    exact b1
  unfold f_Filler_write_43
  rw [C1r1 (G1710 hS) (GR_r (v := 1700) hR (by decide)), bs, C2r4 (G1700 hS) (GR_r (v := 1703) hR (by decide)), bs, c_aI (G1703 hS) (by decide) (by decide) (by decide), bs]
  have e3 : eI τ 1703 3 = eI τ0 1703 3 := by rw [hfr.2.2.2.1 1703 (by decide)]
  rw [e3]
  by_cases d3 : eI τ0 1703 3 = 0
  · rw [if_pos d3]
    obtain ⟨τ2, b1, b2, b3, b4⟩ := e70 τ h hfr
    exact ⟨τ2, b1, b2, b3, fun q w hw => by unfold tmW; rw [if_pos d3]; exact b4 q w hw⟩
  · rw [if_neg d3]
    obtain ⟨τ1, a1, r1, f1, u1⟩ := k_writeRow (F := F) (c := c) (j := 3) (a := nI 7) (b := nI 4) (w := fJ τ 1700 16) hF hS hR (by decide) h
    obtain ⟨τ2, b1, b2, b3, b4⟩ := e70 τ1 r1 (frRw_trans hfr f1)
    refine ⟨τ2, ?_, b2, b3, fun q w hw => ?_⟩
    · rw [bs, C2g16 (G1700 hS), bs, c_o (G1710 hS), bs, a1, xb_mk]
      exact b1
    · unfold tmW
      rw [if_neg d3]
      rw [rwL_fr hfr, hfr.2.1] at u1
      exact b4 q _ (u1 w hw)
theorem k_w_6 (hF : 65536 < F) (hc : KT c) (hr : STr fs s on R ST) (hN : SLN s.2.2.1.length (tB fs s.2.2.1)) (hfe : fe3 < 2 ^ 62) (hL : LAD sk L own τ0 fs s xs ST rn ll sl C B cpf tO th NA pp ad fe3 tp sp fp0 fp1 fp2 bg0 bg1 bg2) : ∀ (d j f : Nat) (τ : px_TT), j + d = 3 → d < f → rF sk L τ → fF τ0 τ → ∃ τ', f_Filler_write_6 F c f 1710 (nI j) (cH sk L τ) = some ((), cH sk L τ') ∧ rF sk L τ' ∧ fF τ0 τ' ∧ (fe3 ≤ 65536 → ∀ w, fC τ w → fC τ' (psW τ0 (syF fs s xs B tO ll on R pp ad NA) tp sl cpf.length (ll.foldl (seW τ0 fs s) (wFil fe3 (nI 0).toInt8.toInt32.toInt8.toInt32 (tmW τ0 (itr (rsW τ0) j d w)))))) := by
  intro d
  induction d with
  | zero =>
    intro j f τ hj hf h hfr
    obtain ⟨f, rfl⟩ : ∃ x, f = x + 1 := ⟨f - 1, by omega⟩
    unfold f_Filler_write_6
    rw [if_pos (nI_le (by omega) (by omega))]
    exact k_w_43 hF hc hr hN hfe hL h hfr
  | succ d ih =>
    intro j f τ hj hf h hfr
    obtain ⟨f, rfl⟩ : ∃ x, f = x + 1 := ⟨f - 1, by omega⟩
    have hL1 := LAD_Z hL (frZ_F hfr)
    have hS := hL1.1.1.1
    have hR := hL1.1.1.2.1
    have next : ∀ τ1, rF sk L τ1 → fF τ0 τ1 → (∀ w, fC τ w → fC τ1 (rsW τ0 j w)) → ∃ τ', f_Filler_write_37 F c (f_Filler_write_6 F c f) 1710 (nI j) (cH sk L τ1) = some ((), cH sk L τ') ∧ rF sk L τ' ∧ fF τ0 τ' ∧ (fe3 ≤ 65536 → ∀ w, fC τ w → fC τ' (psW τ0 (syF fs s xs B tO ll on R pp ad NA) tp sl cpf.length (ll.foldl (seW τ0 fs s) (wFil fe3 (nI 0).toInt8.toInt32.toInt8.toInt32 (tmW τ0 (itr (rsW τ0) j (d + 1) w)))))) := fun τ1 h1 f1 g1 => by
      obtain ⟨τ2, b1, b2, b3, b4⟩ := ih (j + 1) f τ1 (by omega) (by omega) h1 f1
      refine ⟨τ2, ?_, b2, b3, fun q w hw => by rw [itr_s]; exact b4 q _ (g1 w hw)⟩
      unfold f_Filler_write_37
      rw [nI_add]
      exact b1
    have ej : eI τ 1703 j = eI τ0 1703 j := by rw [hfr.2.2.2.1 1703 (by decide)]
    unfold f_Filler_write_6
    rw [if_neg (nI_ge (by omega) (by omega)), C1r1 (G1710 hS) (GR_r (v := 1700) hR (by decide)), bs, C2r4 (G1700 hS) (GR_r (v := 1703) hR (by decide)), bs, c_aI (G1703 hS) (by decide) (by decide) (by omega), bs, ej]
    by_cases dj : eI τ0 1703 j = 0
    · rw [if_pos dj]
      exact next τ h hfr (fun w hw => by unfold rsW; rw [if_pos dj]; exact hw)
    · obtain ⟨τ1, a1, r1, f1, u1⟩ := k_writeRow (F := F) (c := c) (j := j) (a := nI 1) (b := nI ([5, 4, 6].getD j 0)) (w := (4096 : Int64)) hF hS hR (by omega) h
      rw [rwL_fr hfr] at u1
      rw [if_neg dj, xkI_at hc.2.1.2 (by decide) hc.2.1.1 (by decide) (by show j < 3; omega), bs, c_o (G1710 hS), bs, a1, xb_mk]
      exact next τ1 r1 (frRw_trans hfr f1) (fun w hw => by unfold rsW; rw [if_neg dj]; exact u1 w hw)
/-- what the file holds before its sites are filled -/
def wrW (τ : px_TT) (fs : px_FS) (s : px_TK) (v : Int64) (sg : Nat) (SY : Nat → Nat → Int64) (tp fe3 : Nat) (ll sl : List Nat) (np : Nat) (g : Nat → Int32) : px_FW := psW τ SY tp sl np (ll.foldl (seW τ fs s) (wFil fe3 (nI 0).toInt8.toInt32.toInt8.toInt32 (tmW τ (itr (rsW τ) 0 3 (hdW v (nI sg) (if eI τ 1703 3 = 0 then nI 0 else nI 1) (0, g))))))
theorem k_write (hF : 65536 < F) (hc : KT c) (hr : STr fs s on R ST) (hN : SLN s.2.2.1.length (tB fs s.2.2.1)) (hfe : fe3 < 2 ^ 62) (hL : LAD sk L own τ0 fs s xs ST rn ll sl C B cpf tO th NA pp ad fe3 tp sp fp0 fp1 fp2 bg0 bg1 bg2) (hst : isNm τ0 1696 wST) (h : rF sk L τ0) : ∃ τ', f_Filler_write F c 1710 (cH sk L τ0) = some ((), cH sk L τ') ∧ rF sk L τ' ∧ fF τ0 τ' ∧ (fe3 ≤ 65536 → ∀ g, fC τ' (wrW τ0 fs s (vST NA xs) (sgN th 3) (syF fs s xs B tO ll on R pp ad NA) tp fe3 ll sl cpf.length g)) := by
  obtain ⟨τ1, a1, r1, f1, u1⟩ := k_writeHead (F := F) (c := c) hF hc hL.1.1 hst hL.2.2.2.2.1 hL.2.2.2.1.1 h
  obtain ⟨τ2, b1, b2, b3, b4⟩ := k_w_6 (F := F) (c := c) hF hc hr hN hfe hL 3 0 F τ1 rfl (by omega) r1 f1
  refine ⟨τ2, ?_, b2, b3, fun q g => by unfold wrW; exact b4 q _ (u1 g)⟩
  unfold f_Filler_write
  rw [c_o (G1710 hL.1.1.1), bs, a1, xb_mk]
  exact b1
end CWS
end
section
/-! what the class puts at a site -/
theorem fit32 {v : Int64} : (v = v.toInt32.toInt64) ↔ ((-2147483648 : Int64) ≤ v ∧ v ≤ (2147483647 : Int64)) := by
  rw [← Int64.toInt_inj, Int32.toInt_toInt64, Int64.toInt_toInt32, Int64.le_iff_toInt_le, Int64.le_iff_toInt_le, show (-2147483648 : Int64).toInt = -2147483648 from by decide, show (2147483647 : Int64).toInt = 2147483647 by decide]
  constructor
  · intro e
    have h1 := Int.le_bmod (x := v.toInt) (m := 2 ^ 32) (by decide)
    have h2 := Int.bmod_lt (x := v.toInt) (m := 2 ^ 32) (by decide)
    omega
  · intro h
    exact (Int.bmod_eq_of_le (by omega) (by omega)).symm
theorem fit_rov {v : Int64} : decide (v = v.toInt32.toInt64) = !(decide (v < (-2147483648 : Int64)) || !decide (v ≤ (2147483647 : Int64))) := by
  have e : (v < (-2147483648 : Int64)) ↔ ¬ ((-2147483648 : Int64) ≤ v) := by rw [Int64.lt_iff_toInt_lt, Int64.le_iff_toInt_le]; omega
  by_cases c : v = v.toInt32.toInt64
  · obtain ⟨h1, h2⟩ := fit32.mp c
    rw [decide_eq_true c, decide_eq_false (fun q => e.mp q h1), decide_eq_true h2]; rfl
  · rw [decide_eq_false c]
    by_cases c1 : (-2147483648 : Int64) ≤ v
    · have c2 : ¬ v ≤ (2147483647 : Int64) := fun q => c (fit32.mpr ⟨c1, q⟩)
      rw [decide_eq_false c2, Bool.not_false, Bool.or_true]; rfl
    · rw [decide_eq_true (e.mpr c1), Bool.true_or]; rfl
section CFS
variable {F : Nat} {c : px_CT} {sk : Nat → Nat × Nat × Nat} {L : Nat} {τ : px_TT} {own : Nat → Nat × Nat} {fs : px_FS} {s : px_TK} {xs : px_NL} {ST rn : Nat → Bool} {C B : Nat → Nat} {ll sl cpf : List Nat} {tO : Nat → Nat} {th : Nat → Bool} {NA : Nat → Int64} {pp : Nat} {ad : Nat → Nat} {fe3 tp sp fp0 fp1 fp2 bg0 bg1 bg2 : Nat} {on : Bool} {R rn0 : Nat → Bool} {t i j : Nat}
/-- how many bytes, and whether what comes there fits -/
theorem k_fs_226 {p w : Nat} {u a3 a7 : Int32} {v : Int64} {how : Nat} (hF : 65536 < F) (hS : GS sk L) (hR : GR τ) (h : rF sk L τ) (hw : w = 4 ∨ w = 8) (hh : how < 2 ^ 31) (ku : f_Filler_spotOf F c 1710 (some p) (cH sk L τ) = some (u, cH sk L τ)) : ∃ τ', f_Filler_fillSite_226 F c 1710 (some p) (nI how) (nI w) a7 v (cH sk L τ) = some (bI (decide (w = 8) || (if how = 10 then decide (((v.toUInt64 >>> ((nI 32).toInt64.toUInt64 &&& Int64.toUInt64 63)).toInt64) = lN 0) else decide (v = v.toInt32.toInt64))), cH sk L τ') ∧ rF sk L τ' ∧ fF τ τ' ∧ ∀ y, fC τ y → fC τ' (wSet (u + a7) w v y) := by
  obtain ⟨τ1, a1, r1, f1, u1⟩ := k_setC (F := F) (c := c) (v := v) (k := w) (p := u + a7) (by omega) (by omega) h
  refine ⟨τ1, ?_, r1, f1, u1⟩
  have e285 : ∀ b : Bool, f_Filler_fillSite_285 F c (nI w) (bI b) (cH sk L τ1) = some (bI (decide (w = 8) || b), cH sk L τ1) := fun b => by
    unfold f_Filler_fillSite_285 f_Filler_fillSite_299 f_Filler_fillSite_304
    cases b with
    | false =>
      rw [if_pos (show bI false = 0 from rfl), xz_1, xz_0, Bool.or_false]
      rcases hw with e | e
      · subst e; rfl
      · subst e; rfl
    | true => rw [if_neg (show ¬ bI true = 0 by decide), xz_1, Bool.or_true]
  unfold f_Filler_fillSite_226
  rw [C1r4 (G1710 hS) (GR_r (v := 1711) hR (by decide)), bs, c_o (G1710 hS), bs, ku, xb_mk, c_o h.1, bs, a1, xb_mk]
  by_cases c1 : how = 10
  · rw [if_pos (show nI how = nI 10 by rw [c1]), if_pos c1]
    by_cases c2 : ((v.toUInt64 >>> ((nI 32).toInt64.toUInt64 &&& Int64.toUInt64 63)).toInt64) = lN 0
    · rw [if_pos c2, decide_eq_true c2]; exact e285 true
    · rw [if_neg c2, decide_eq_false c2]; exact e285 false
  · rw [if_neg (fun q => c1 ((nI_eq hh (by decide)).mp q)), if_neg c1]
    by_cases c2 : v = v.toInt32.toInt64
    · rw [if_pos c2, decide_eq_true c2]; exact e285 true
    · rw [if_neg c2, decide_eq_false c2]; exact e285 false
theorem k_kindOf {q g base n : Nat} {S : Nat → Int32} (hs : cS sk L τ q g base n S) (hF : 8 < F) (hj : j < oM (cb S base n)) : f_ObjectFile_kindOf F c q (nI j) (cH sk L τ) = some (nI (cb S base n (yP (cb S base n) j + 4) % 16), cH sk L τ) := by
  obtain ⟨e1, e2, e3⟩ := cS_y hs hj
  have hb := cb_lt S base n (yP (cb S base n) j + 4)
  unfold f_ObjectFile_kindOf
  rw [C7g10 hs.1.1.1.1, bs, c_o hs.1.1.1.1, bs, e1, pk_mul, nI_add, nI_add, show oP (cb S base n) (oY (cb S base n)) + 24 * j = yP (cb S base n) j from rfl, k_num hs.1.1.1 hF (by decide) (by omega), nm_in (by omega), xb_mk, le_1, lN_i, pk_andN (by omega) 4 (by decide)]
/-- with what a site of a section that stays names, that stays -/
theorem reach_st {T : Nat} {tb : Nat → Nat → Nat} {dr : Nat → Bool} {x : Nat} (hro : RRo T tb dr xs on R rn0) (ht : t < T) (h1 : 1 ≤ i) (hi : i < oS (tb t)) (hs : isS (tb t) i = true) (hj : j < sN (tb t) i) (hH : sH (tb t) i j ≠ 0) (hst : sta tb dr on R t (oI (tb t) i) = true) (hx : secY tb dr xs t (sY (tb t) i j) = some x) : (!on || R x) = true := by
  cases eo : on with
  | false => rfl
  | true =>
    obtain ⟨h2, _⟩ := hro eo
    have hR1 : R (24 * t + oI (tb t) i) = true := by
      unfold sta at hst
      rw [eo] at hst
      simp only [Bool.and_eq_true, Bool.not_true, Bool.false_or] at hst
      exact hst.2.2
    have hr1 := (h2 _).mp hR1
    show R x = true
    exact (h2 x).mpr (fun P hP hcl => hcl t i j ht h1 hi hs hj hH (hr1 P hP hcl) x hx)
theorem k_sumFor {how A : Nat} (hF : 65536 < F) (hL : LAc sk L own τ fs s xs ST rn ll C B cpf tO pp ad) (hr : STr fs s on R ST) (hW : WP s.2.2.1.length (tB fs s.2.2.1) s.2.1.1 xs) (hNA : ∀ i, i < xs.length → fJ τ (pN τ 149 i) 14 = NA i) (ht : t < s.2.2.1.length) (hj : j < oM (tB fs s.2.2.1 t)) (hh : how < 2 ^ 31) (hA : A < 2 ^ 64) (hst : ∀ x, secY (tB fs s.2.2.1) s.2.1.1 xs t j = some x → (!on || R x) = true) : f_Filler_sumFor F c 1710 (nI how) (nI t) (nI j) (lN A) (cH sk L τ) = some (if (how = 1 ∨ how = 10 ∨ how = 11) ∧ ofS (tB fs s.2.2.1) s.2.1.1 (sta (tB fs s.2.2.1) s.2.1.1 on R) t j = true then lN (pp + baN B (pf0 B tO (tB fs s.2.2.1) ll) (tO t + oP (tB fs s.2.2.1 t) (yW (tB fs s.2.2.1 t) j)) (oZ (tB fs s.2.2.1 t) (yW (tB fs s.2.2.1 t) j)) ((yV (tB fs s.2.2.1 t) j + A) % 2 ^ 64)) else syA (tB fs s.2.2.1) xs (ownV B (pf0 B tO (tB fs s.2.2.1) ll) tO (tB fs s.2.2.1) s.2.1.1 (sta (tB fs s.2.2.1) s.2.1.1 on R) pp ad) NA t j + lN A, cH sk L τ) := by
  have hS := hL.1.1
  have hR := hL.1.2.1
  have hT := BK_T (s := s) hL.1.2.2.2.2.1.1
  obtain ⟨q, hq, hq64, hD, hcb, he, hpe, hsy, _⟩ := TKe_ob hL.1 ht
  obtain ⟨kn, kp, hj64⟩ := k_nameOf2 (F := F) (c := c) hL.1 ht hj
  have ko := k_object (F := F) (c := c) hL.1 hq
  have ksa := k_symbolAddress (F := F) (c := c) (NA := NA) hF hL hr hNA ht hj
  have kpo := k_partOf (F := F) (c := c) hL.1 (by omega) hW ht hj
  have hjm : j < oM (cb (eI τ 8) (bsO fs q) (tNf fs s.2.2.1 t)) := by rw [hcb]; exact hj
  have kk := k_kindOf (F := F) (c := c) hD.1 (by omega) hjm
  have kv := k_valueOf (F := F) (c := c) hD.1 (by omega) hjm
  rw [hcb] at kk kv
  have hq7 : ob sk L 7 (10 + 2 * q) := hD.1.1.1.1.1
  have hS24 := (eObj_0 he).1.1.2.1.2
  generalize eSA : syA (tB fs s.2.2.1) xs (ownV B (pf0 B tO (tB fs s.2.2.1) ll) tO (tB fs s.2.2.1) s.2.1.1 (sta (tB fs s.2.2.1) s.2.1.1 on R) pp ad) NA t j = SA at *
  have e108 : f_Filler_sumFor_108 F c 1710 (nI t) (nI j) (lN A) (cH sk L τ) = some (SA + lN A, cH sk L τ) := by
    unfold f_Filler_sumFor_108
    rw [C1r1 (G1710 hS) (GR_r (v := 1700) hR (by decide)), bs, c_o (G1700 hS), bs, ksa, xb_mk]
  unfold f_Filler_sumFor
  rw [C1r0 (G1710 hS) (GR_r (v := 147) hR (by decide)), bs, c_o (G147 hS), bs, ko, xb_mk]
  by_cases cp : how = 1 ∨ how = 10 ∨ how = 11
  · have e27 : f_Filler_sumFor_27 F c 1710 (nI t) (nI j) (lN A) (some (10 + 2 * q)) (cH sk L τ) = some (if ofS (tB fs s.2.2.1) s.2.1.1 (sta (tB fs s.2.2.1) s.2.1.1 on R) t j = true then lN (pp + baN B (pf0 B tO (tB fs s.2.2.1) ll) (tO t + oP (tB fs s.2.2.1 t) (yW (tB fs s.2.2.1 t) j)) (oZ (tB fs s.2.2.1 t) (yW (tB fs s.2.2.1 t) j)) ((yV (tB fs s.2.2.1 t) j + A) % 2 ^ 64)) else SA + lN A, cH sk L τ) := by
      unfold f_Filler_sumFor_27 f_Filler_sumFor_32
      rw [if_neg (by decide)]
      by_cases c0 : j = 0
      · have eo : ofS (tB fs s.2.2.1) s.2.1.1 (sta (tB fs s.2.2.1) s.2.1.1 on R) t j = false := by unfold ofS; rw [decide_eq_false (fun q => q.1 c0), Bool.false_and]
        rw [if_pos (show nI j ≤ 0 by rw [c0]; decide), eo, if_neg (show ¬ false = true by decide)]
        exact e108
      · rw [if_neg (show ¬ nI j ≤ 0 from nI_ge (a := 0) (by omega) (by omega)), C1r0 (G1710 hS) (GR_r (v := 147) hR (by decide)), bs, c_o (G147 hS), bs, kn, xb_mk]
        by_cases c1 : hsN (tB fs s.2.2.1 t) j = true
        · have es : syN τ (tB fs s.2.2.1 t) xs j = some (pN τ 149 (plc (yT (tB fs s.2.2.1 t) j) (xs.map Prod.fst))) := by unfold syN; rw [if_pos c1]
          have hc := of_decide_eq_true c1
          have eo : ofS (tB fs s.2.2.1) s.2.1.1 (sta (tB fs s.2.2.1) s.2.1.1 on R) t j = false := by unfold ofS; rw [decide_eq_false (fun q => hc.2.2 q.2.1), Bool.false_and]
          rw [es, eo, if_neg (by decide)]
          exact e108
        · have es : syN τ (tB fs s.2.2.1 t) xs j = none := by unfold syN; rw [if_neg c1]
          have hyB : yB (tB fs s.2.2.1 t) j = 0 := by
            rcases Nat.eq_zero_or_pos (yB (tB fs s.2.2.1 t) j) with e | e
            · exact e
            · exact absurd (decide_eq_true (⟨by omega, hj, by omega⟩ : 1 ≤ j ∧ j < oM (tB fs s.2.2.1 t) ∧ yB (tB fs s.2.2.1 t) j ≠ 0)) c1
          rw [es]
          show ((some (10 + 2 * q)).bind fun p5 => _) = _
          rw [bs, c_o hq7, bs, kk, xb_mk]
          have hk16 : tB fs s.2.2.1 t (yP (tB fs s.2.2.1 t) j + 4) % 16 < 16 := Nat.mod_lt _ (by decide)
          by_cases c3 : tB fs s.2.2.1 t (yP (tB fs s.2.2.1 t) j + 4) % 16 = 3
          · rw [if_pos (show nI _ = nI 3 by rw [c3]), C1r0 (G1710 hS) (GR_r (v := 147) hR (by decide)), bs, c_o (G147 hS), bs, kpo, xb_mk]
            have eY : secY (tB fs s.2.2.1) s.2.1.1 xs t j = secT (tB fs s.2.2.1) s.2.1.1 t (wNo s.2.1.1 t (tB fs s.2.2.1 t) j) := by unfold secY; rw [if_neg c0, if_pos hyB]
            have eoS : ofS (tB fs s.2.2.1) s.2.1.1 (sta (tB fs s.2.2.1) s.2.1.1 on R) t j = (isN (tB fs s.2.2.1) t (wNo s.2.1.1 t (tB fs s.2.2.1 t) j) && (sta (tB fs s.2.2.1) s.2.1.1 on R t (wNo s.2.1.1 t (tB fs s.2.2.1 t) j) && oStr (tB fs s.2.2.1 t) (wNo s.2.1.1 t (tB fs s.2.2.1 t) j))) := by unfold ofS; rw [decide_eq_true (⟨c0, hyB, c3⟩ : j ≠ 0 ∧ yB (tB fs s.2.2.1 t) j = 0 ∧ tB fs s.2.2.1 t (yP (tB fs s.2.2.1 t) j + 4) % 16 = 3), Bool.true_and]
            have eNT := isN_T (t := t) (tb := tB fs s.2.2.1) (dr := s.2.1.1) (k := j) hS24
            rw [eoS, eNT]
            cases eT : secT (tB fs s.2.2.1) s.2.1.1 t (wNo s.2.1.1 t (tB fs s.2.2.1 t) j) with
            | none =>
              rw [eY, eT]
              show f_Filler_sumFor_108 F c 1710 (nI t) (nI j) (lN A) (cH sk L τ) = _
              rw [e108, show (none : Option Nat).isSome = false from rfl, Bool.false_and, if_neg (show ¬ false = true by decide)]
            | some x =>
              have hxT := eT
              unfold secT at hxT
              by_cases cc : 0 < wNo s.2.1.1 t (tB fs s.2.2.1 t) j ∧ wNo s.2.1.1 t (tB fs s.2.2.1 t) j < oS (tB fs s.2.2.1 t) ∧ oK (tB fs s.2.2.1 t) (wNo s.2.1.1 t (tB fs s.2.2.1 t) j) = true ∧ s.2.1.1 (24 * t + wNo s.2.1.1 t (tB fs s.2.2.1 t) j) = false
              · rw [if_pos cc] at hxT
                have hx : x = 24 * t + wNo s.2.1.1 t (tB fs s.2.2.1 t) j := (Option.some.inj hxT).symm
                have ew : wNo s.2.1.1 t (tB fs s.2.2.1 t) j = yW (tB fs s.2.2.1 t) j := by
                  have h0 := cc.1
                  unfold wNo at h0 ⊢
                  split
                  · rename_i hh; rw [if_pos hh] at h0; omega
                  · rfl
                rw [ew] at cc hx ⊢
                have hx24 : x < 24 * s.2.2.1.length := by omega
                have hRx := hst x (by rw [eY]; exact eT)
                have hkp : kpB (tB fs s.2.2.1 t) (yW (tB fs s.2.2.1 t) j) = true := by unfold kpB; rw [decide_eq_true cc.2.1, cc.2.2.1]; rfl
                have hSTx : ST x = true := by
                  rw [hx, STr_i hr ht _ (by omega), hkp, cc.2.2.2, ← hx, hRx]; rfl
                have hsta : sta (tB fs s.2.2.1) s.2.1.1 on R t (yW (tB fs s.2.2.1 t) j) = true := by
                  unfold sta
                  rw [cc.2.2.1, cc.2.2.2, ← hx, hRx]; rfl
                have hp8 := (TKe_part hL.1 hx24).1
                have p10 := (TKe_pt hL.1 hL.2.1.1 hx24 hSTx).2.2.2.2.1
                have esx : sS (tB fs s.2.2.1) x = oStr (tB fs s.2.2.1 t) (yW (tB fs s.2.2.1 t) j) := by unfold sS; rw [hx, show (24 * t + yW (tB fs s.2.2.1 t) j) / 24 = t by omega, show (24 * t + yW (tB fs s.2.2.1 t) j) % 24 = yW (tB fs s.2.2.1 t) j by omega]
                have epx : pS tO (tB fs s.2.2.1) x = tO t + oP (tB fs s.2.2.1 t) (yW (tB fs s.2.2.1 t) j) := by unfold pS; rw [hx, show (24 * t + yW (tB fs s.2.2.1 t) j) / 24 = t by omega, show (24 * t + yW (tB fs s.2.2.1 t) j) % 24 = yW (tB fs s.2.2.1 t) j by omega]
                have ezx : zS (tB fs s.2.2.1) x = oZ (tB fs s.2.2.1 t) (yW (tB fs s.2.2.1 t) j) := by unfold zS; rw [hx, show (24 * t + yW (tB fs s.2.2.1 t) j) / 24 = t by omega, show (24 * t + yW (tB fs s.2.2.1 t) j) % 24 = yW (tB fs s.2.2.1 t) j by omega]
                rw [hsta, eY, eT]
                show ((xgI (cH sk L τ) 8 10 (152 + x)).bind fun t12 => _) = some (if (true && (true && oStr (tB fs s.2.2.1 t) (yW (tB fs s.2.2.1 t) j))) = true then _ else _, _)
                rw [C8g10 hp8, bs, p10, esx, Bool.true_and, Bool.true_and]
                cases eo : oStr (tB fs s.2.2.1 t) (yW (tB fs s.2.2.1 t) j) with
                | false =>
                  rw [if_pos (show bI false = 0 from rfl), if_neg (by decide)]
                  exact e108
                | true =>
                  have ka := k_addressIn (F := F) (c := c) (x := x) (V := (yV (tB fs s.2.2.1 t) j + A) % 2 ^ 64) hF hL hx24 (Nat.mod_lt _ (by decide))
                  have eA : adV ST B (pf0 B tO (tB fs s.2.2.1) ll) tO (tB fs s.2.2.1) pp ad x ((yV (tB fs s.2.2.1 t) j + A) % 2 ^ 64) = lN (pp + baN B (pf0 B tO (tB fs s.2.2.1) ll) (tO t + oP (tB fs s.2.2.1 t) (yW (tB fs s.2.2.1 t) j)) (oZ (tB fs s.2.2.1 t) (yW (tB fs s.2.2.1 t) j)) ((yV (tB fs s.2.2.1 t) j + A) % 2 ^ 64)) := by
                    unfold adV
                    rw [if_pos hSTx, if_pos (by rw [esx]; exact eo), epx, ezx]
                  rw [eA] at ka
                  rw [if_neg (show ¬ bI true = 0 by decide), if_pos rfl, C1r2 (G1710 hS) (GR_r (v := 1697) hR (by decide)), bs, c_o hq7, bs, kv, xb_mk, c_o (G1697 hS), bs, lN_add, lN_mod (yV (tB fs s.2.2.1 t) j + A), ka, xb_mk]
              · rw [if_neg cc] at hxT; cases hxT
          · have eo : ofS (tB fs s.2.2.1) s.2.1.1 (sta (tB fs s.2.2.1) s.2.1.1 on R) t j = false := by unfold ofS; rw [decide_eq_false (fun q => c3 q.2.2), Bool.false_and]
            rw [if_neg (fun q => c3 ((nI_eq (by omega) (by decide)).mp q)), eo, if_neg (by decide)]
            exact e108
    have eR : (if (how = 1 ∨ how = 10 ∨ how = 11) ∧ ofS (tB fs s.2.2.1) s.2.1.1 (sta (tB fs s.2.2.1) s.2.1.1 on R) t j = true then lN (pp + baN B (pf0 B tO (tB fs s.2.2.1) ll) (tO t + oP (tB fs s.2.2.1 t) (yW (tB fs s.2.2.1 t) j)) (oZ (tB fs s.2.2.1 t) (yW (tB fs s.2.2.1 t) j)) ((yV (tB fs s.2.2.1 t) j + A) % 2 ^ 64)) else SA + lN A) = (if ofS (tB fs s.2.2.1) s.2.1.1 (sta (tB fs s.2.2.1) s.2.1.1 on R) t j = true then lN (pp + baN B (pf0 B tO (tB fs s.2.2.1) ll) (tO t + oP (tB fs s.2.2.1 t) (yW (tB fs s.2.2.1 t) j)) (oZ (tB fs s.2.2.1 t) (yW (tB fs s.2.2.1 t) j)) ((yV (tB fs s.2.2.1 t) j + A) % 2 ^ 64)) else SA + lN A) := by
      by_cases c2 : ofS (tB fs s.2.2.1) s.2.1.1 (sta (tB fs s.2.2.1) s.2.1.1 on R) t j = true
      · rw [if_pos ⟨cp, c2⟩, if_pos c2]
      · rw [if_neg (fun q => c2 q.2), if_neg c2]
    rw [eR, e27]
    by_cases h1 : how = 1
    · rw [if_pos (show nI how = nI 1 by rw [h1])]
    · rw [if_neg (fun q => h1 ((nI_eq hh (by decide)).mp q))]
      by_cases h2 : how = 10
      · rw [if_pos (show nI how = nI 10 by rw [h2])]
      · rw [if_neg (fun q => h2 ((nI_eq hh (by decide)).mp q)), if_pos (show nI how = nI 11 by rw [show how = 11 by omega])]
  · rw [if_neg (fun q => cp (Or.inl ((nI_eq hh (by decide)).mp q))), if_neg (fun q => cp (Or.inr (Or.inl ((nI_eq hh (by decide)).mp q)))), if_neg (fun q => cp (Or.inr (Or.inr ((nI_eq hh (by decide)).mp q))))]
    unfold f_Filler_sumFor_32
    rw [if_pos (show nI 0 = 0 from rfl), e108]
    have eR : (if (how = 1 ∨ how = 10 ∨ how = 11) ∧ ofS (tB fs s.2.2.1) s.2.1.1 (sta (tB fs s.2.2.1) s.2.1.1 on R) t j = true then lN (pp + baN B (pf0 B tO (tB fs s.2.2.1) ll) (tO t + oP (tB fs s.2.2.1 t) (yW (tB fs s.2.2.1 t) j)) (oZ (tB fs s.2.2.1 t) (yW (tB fs s.2.2.1 t) j)) ((yV (tB fs s.2.2.1 t) j + A) % 2 ^ 64)) else SA + lN A) = SA + lN A := if_neg (fun q => cp q.1)
    rw [eR]
end CFS
end
section
/-! a site of the class is filled as the document says -/
/-- what is put at a short site -/
def shW (p : Int32) (K : Nat) (v : Int64) (y : px_FW) : px_FW := if K = 3 then wSet (p + nI 3) 1 (144 : Int64) (wSet (p - nI 1) 4 v (wSet (p - nI 2) 1 (233 : Int64) y)) else if K = 2 then wSet p 4 v (wSet (p - nI 2) 2 (59495 : Int64) y) else wSet p 4 v (wSet (p - nI 2) 1 (141 : Int64) y)
section CFT
variable {F : Nat} {c : px_CT} {sk : Nat → Nat × Nat × Nat} {L : Nat} {τ : px_TT}
theorem k_fSh {u : Int32} {t x q p Lv Dv Y K X Yb base P0 adr : Nat} {SA : Int64} (hF : 65536 < F) (hS : GS sk L) (hR : GR τ) (h : rF sk L τ) (oq : ob sk L 7 q) (hp : ob sk L 8 p) (ko : f_Link_object F c 147 (nI t) (cH sk L τ) = some (some q, cH sk L τ)) (s1 : f_ObjectFile_num F c q (nI x) (nI 8) (cH sk L τ) = some (lN Lv, cH sk L τ)) (s3 : f_ObjectFile_num F c q (nI (x + 12)) (nI 4) (cH sk L τ) = some (lN Y, cH sk L τ)) (s4 : f_ObjectFile_num F c q (nI (x + 16)) (nI 8) (cH sk L τ) = some (lN Dv, cH sk L τ)) (ku : f_Filler_spotOf F c 1710 (some p) (cH sk L τ) = some (u, cH sk L τ)) (h7 : fI τ p 7 = nI (base + P0)) (h5 : fI τ q 5 = nI base) (h11 : fJ τ p 11 = lN adr) (ksa : f_Layout_symbolAddress F c 1700 (nI t) (nI Y) (cH sk L τ) = some (SA, cH sk L τ)) (kX : f_ObjectFile_num F c q (nI (P0 + Lv - 2)) (nI 1) (cH sk L τ) = some (lN X, cH sk L τ)) (kY : f_ObjectFile_num F c q (nI (P0 + Lv - 2 + 1)) (nI 1) (cH sk L τ) = some (lN Yb, cH sk L τ)) (h2 : 2 ≤ Lv) (hLv : Lv < 2 ^ 30) (hX : X < 256) (hY : Yb < 256) (c1 : X = 139 → K = 1) (c2 : X ≠ 139 → Yb = 21 → K = 2) (c3 : X ≠ 139 → Yb ≠ 21 → K = 3) : ∃ τ', f_Filler_fillShort F c 1710 (nI t) (nI x) (some p) (cH sk L τ) = some (bI (decide ((SA + lN Dv - lN (adr + Lv) + (if K = 3 then lN 1 else lN 0)) = (SA + lN Dv - lN (adr + Lv) + (if K = 3 then lN 1 else lN 0)).toInt32.toInt64)), cH sk L τ') ∧ rF sk L τ' ∧ fF τ τ' ∧ ∀ y, fC τ y → fC τ' (shW (u + nI Lv) K (SA + lN Dv - lN (adr + Lv) + (if K = 3 then lN 1 else lN 0)) y) := by
  have e0 : ∀ v : Int64, v + lN 0 = v := fun v => Int64.add_zero v
  have e236 : ∀ (v : Int64) (τ1 : px_TT), f_Filler_fillShort_236 F c v (cH sk L τ1) = some (bI (decide (v = v.toInt32.toInt64)), cH sk L τ1) := fun v τ1 => by
    unfold f_Filler_fillShort_236 f_Filler_fillShort_251
    by_cases cc : v = v.toInt32.toInt64
    · rw [if_pos cc, xz_1, decide_eq_true cc]
    · rw [if_neg cc, xz_0, decide_eq_false cc]
  have pre : ∀ z, f_Filler_fillShort F c 1710 (nI t) (nI x) (some p) (cH sk L τ) = z ↔ (if lN X = ((139 : Int64)) then
    (xgR (cH sk L τ) 1 4 1710).bind fun t34 =>
    (xo (cH sk L τ) 10 t34).bind fun _ =>
    xb (f_Row_set F c t34 ((u + nI Lv) - (nI 2)) (nI 1) ((141 : Int64)) (cH sk L τ)) fun _ ph35 =>
    (xgR ph35 1 4 1710).bind fun t36 =>
    (xo ph35 10 t36).bind fun _ =>
    xb (f_Row_set F c t36 (u + nI Lv) (nI 4) (SA + lN Dv - lN (adr + Lv)) ph35) fun _ ph37 =>
    f_Filler_fillShort_236 F c (SA + lN Dv - lN (adr + Lv)) ph37
  else if lN Yb = ((21 : Int64)) then
      (xgR (cH sk L τ) 1 4 1710).bind fun t30 =>
      (xo (cH sk L τ) 10 t30).bind fun _ =>
      xb (f_Row_set F c t30 ((u + nI Lv) - (nI 2)) (nI 2) ((59495 : Int64)) (cH sk L τ)) fun _ ph31 =>
      (xgR ph31 1 4 1710).bind fun t32 =>
      (xo ph31 10 t32).bind fun _ =>
      xb (f_Row_set F c t32 (u + nI Lv) (nI 4) (SA + lN Dv - lN (adr + Lv)) ph31) fun _ ph33 =>
      f_Filler_fillShort_236 F c (SA + lN Dv - lN (adr + Lv)) ph33
    else
      (xgR (cH sk L τ) 1 4 1710).bind fun t24 =>
      (xo (cH sk L τ) 10 t24).bind fun _ =>
      xb (f_Row_set F c t24 ((u + nI Lv) - (nI 2)) (nI 1) ((233 : Int64)) (cH sk L τ)) fun _ ph25 =>
      (xgR ph25 1 4 1710).bind fun t26 =>
      (xo ph25 10 t26).bind fun _ =>
      xb (f_Row_set F c t26 ((u + nI Lv) - (nI 1)) (nI 4) ((SA + lN Dv - lN (adr + Lv)) + (lN 1)) ph25) fun _ ph27 =>
      (xgR ph27 1 4 1710).bind fun t28 =>
      (xo ph27 10 t28).bind fun _ =>
      xb (f_Row_set F c t28 ((u + nI Lv) + (nI 3)) (nI 1) ((144 : Int64)) ph27) fun _ ph29 =>
      f_Filler_fillShort_236 F c ((SA + lN Dv - lN (adr + Lv)) + (lN 1)) ph29) = z := fun z => by
    unfold f_Filler_fillShort
    rw [C1r0 (G1710 hS) (GR_r (v := 147) hR (by decide)), bs, c_o (G147 hS), bs, ko, xb_mk, bs, c_o oq, bs, s1, xb_mk, c_o (G1710 hS), bs, ku, xb_mk, bs, C8g7 hp, bs, C7g5 oq, bs, C8g11 hp, bs, C1r1 (G1710 hS) (GR_r (v := 1700) hR (by decide)), bs, c_o oq, bs, nI_add, s3, xb_mk, c_o (G1700 hS), bs, lN_i, ksa, xb_mk, c_o oq, bs, nI_add, s4, xb_mk, c_o oq, bs, h7, h5, h11, lN_i, nI_l (by omega), lN_add, pk_sub (by omega), show base + P0 - base = P0 by omega, nI_add, pk_sub (by omega), kX, xb_mk, c_o oq, bs, nI_add, kY, xb_mk]
  rw [← exists_congr (fun τ' => and_congr_left (fun _ => (pre _).symm))]
  by_cases d1 : X = 139
  · have hK1 := c1 d1
    have hK : ¬ K = 3 := by omega
    rw [if_neg hK, e0, if_pos (show lN X = (139 : Int64) by rw [d1]; rfl)]
    obtain ⟨τ1, a1, r1, f1, u1⟩ := k_setC (F := F) (c := c) (v := (141 : Int64)) (k := 1) (p := (u + nI Lv) - nI 2) (by omega) (by decide) h
    obtain ⟨τ2, a2, r2, f2, u2⟩ := k_setC (F := F) (c := c) (v := SA + lN Dv - lN (adr + Lv)) (k := 4) (p := u + nI Lv) (by omega) (by decide) r1
    refine ⟨τ2, ?_, r2, frRw_trans f1 f2, fun y hy => by unfold shW; rw [if_neg hK, if_neg (show ¬ K = 2 by omega)]; exact u2 _ (u1 y hy)⟩
    rw [C1r4 (G1710 hS) (GR_r (v := 1711) hR (by decide)), bs, c_o h.1, bs, a1, xb_mk, C1r4 (G1710 hS) (GR_r (v := 1711) (GR_Fw hR f1) (by decide)), bs, c_o h.1, bs, a2, xb_mk, e236]
  · rw [if_neg (show ¬ lN X = (139 : Int64) from fun e => d1 ((lEQ (b := 139) (by omega) (by decide)).mp e))]
    by_cases d2 : Yb = 21
    · have hK1 := c2 d1 d2
      have hK : ¬ K = 3 := by omega
      rw [if_neg hK, e0, if_pos (show lN Yb = (21 : Int64) by rw [d2]; rfl)]
      obtain ⟨τ1, a1, r1, f1, u1⟩ := k_setC (F := F) (c := c) (v := (59495 : Int64)) (k := 2) (p := (u + nI Lv) - nI 2) (by omega) (by decide) h
      obtain ⟨τ2, a2, r2, f2, u2⟩ := k_setC (F := F) (c := c) (v := SA + lN Dv - lN (adr + Lv)) (k := 4) (p := u + nI Lv) (by omega) (by decide) r1
      refine ⟨τ2, ?_, r2, frRw_trans f1 f2, fun y hy => by unfold shW; rw [if_neg hK, if_pos hK1]; exact u2 _ (u1 y hy)⟩
      rw [C1r4 (G1710 hS) (GR_r (v := 1711) hR (by decide)), bs, c_o h.1, bs, a1, xb_mk, C1r4 (G1710 hS) (GR_r (v := 1711) (GR_Fw hR f1) (by decide)), bs, c_o h.1, bs, a2, xb_mk, e236]
    · have hK := c3 d1 d2
      rw [if_pos hK, if_neg (show ¬ lN Yb = (21 : Int64) from fun e => d2 ((lEQ (b := 21) (by omega) (by decide)).mp e))]
      obtain ⟨τ1, a1, r1, f1, u1⟩ := k_setC (F := F) (c := c) (v := (233 : Int64)) (k := 1) (p := (u + nI Lv) - nI 2) (by omega) (by decide) h
      obtain ⟨τ2, a2, r2, f2, u2⟩ := k_setC (F := F) (c := c) (v := (SA + lN Dv - lN (adr + Lv)) + lN 1) (k := 4) (p := (u + nI Lv) - nI 1) (by omega) (by decide) r1
      obtain ⟨τ3, a3, r3, f3, u3⟩ := k_setC (F := F) (c := c) (v := (144 : Int64)) (k := 1) (p := (u + nI Lv) + nI 3) (by omega) (by decide) r2
      refine ⟨τ3, ?_, r3, frRw_trans f1 (frRw_trans f2 f3), fun y hy => by unfold shW; rw [if_pos hK]; exact u3 _ (u2 _ (u1 y hy))⟩
      rw [C1r4 (G1710 hS) (GR_r (v := 1711) hR (by decide)), bs, c_o h.1, bs, a1, xb_mk, C1r4 (G1710 hS) (GR_r (v := 1711) (GR_Fw hR f1) (by decide)), bs, c_o h.1, bs, a2, xb_mk, C1r4 (G1710 hS) (GR_r (v := 1711) (GR_Fw hR (frRw_trans f1 f2)) (by decide)), bs, c_o h.1, bs, a3, xb_mk, e236]
/-- a site that is not short -/
theorem k_fs_165 {u : Int32} {p w H Lv adr tp : Nat} {sl : Bool} {v0 : Int64} (hF : 65536 < F) (hS : GS sk L) (hR : GR τ) (h : rF sk L τ) (hp : ob sk L 8 p) (hw : w = 4 ∨ w = 8) (hH : H ≤ 42) (hLv : Lv < 2 ^ 30) (h11 : fJ τ p 11 = lN adr) (h17 : fJ τ 1700 17 = lN tp) (hsl : sl = isSl H) (ku : f_Filler_spotOf F c 1710 (some p) (cH sk L τ) = some (u, cH sk L τ)) : ∃ τ' v, v = (if isSl H = true then v0 - lN (adr + Lv) else if H = 2 ∨ H = 4 then v0 - lN (adr + Lv) else if H = 18 ∨ H = 23 then v0 - lN tp else v0) ∧ f_Filler_fillSite_165 F c 1710 (some p) (nI H) (nI w) (nI Lv) (bI sl) v0 (cH sk L τ) = some (bI (decide (w = 8) || (if H = 10 then decide (((v.toUInt64 >>> ((nI 32).toInt64.toUInt64 &&& Int64.toUInt64 63)).toInt64) = lN 0) else decide (v = v.toInt32.toInt64))), cH sk L τ') ∧ rF sk L τ' ∧ fF τ τ' ∧ ∀ y, fC τ y → fC τ' (wSet (u + nI Lv) w v y) := by
  have k226 : ∀ v, ∃ τ', f_Filler_fillSite_226 F c 1710 (some p) (nI H) (nI w) (nI Lv) v (cH sk L τ) = some (bI (decide (w = 8) || (if H = 10 then decide (((v.toUInt64 >>> ((nI 32).toInt64.toUInt64 &&& Int64.toUInt64 63)).toInt64) = lN 0) else decide (v = v.toInt32.toInt64))), cH sk L τ') ∧ rF sk L τ' ∧ fF τ τ' ∧ ∀ y, fC τ y → fC τ' (wSet (u + nI Lv) w v y) := fun v => k_fs_226 (a3 := nI 0) hF hS hR h hw (by omega) ku
  have k213 : ∃ τ', f_Filler_fillSite_213 F c 1710 (some p) (nI H) (nI w) (nI Lv) v0 (cH sk L τ) = some (bI (decide (w = 8) || (if H = 10 then decide ((((v0 - lN (adr + Lv)).toUInt64 >>> ((nI 32).toInt64.toUInt64 &&& Int64.toUInt64 63)).toInt64) = lN 0) else decide ((v0 - lN (adr + Lv)) = (v0 - lN (adr + Lv)).toInt32.toInt64))), cH sk L τ') ∧ rF sk L τ' ∧ fF τ τ' ∧ ∀ y, fC τ y → fC τ' (wSet (u + nI Lv) w (v0 - lN (adr + Lv)) y) := by
    obtain ⟨τ', z⟩ := k226 (v0 - lN (adr + Lv))
    refine ⟨τ', ?_, z.2⟩
    unfold f_Filler_fillSite_213
    rw [bs, C8g11 hp, bs, h11, nI_l (by omega), lN_add]
    exact z.1
  have k181 : ∃ τ', f_Filler_fillSite_181 F c 1710 (some p) (nI H) (nI w) (nI Lv) v0 (cH sk L τ) = some (bI (decide (w = 8) || (if H = 10 then decide ((((v0 - lN tp).toUInt64 >>> ((nI 32).toInt64.toUInt64 &&& Int64.toUInt64 63)).toInt64) = lN 0) else decide ((v0 - lN tp) = (v0 - lN tp).toInt32.toInt64))), cH sk L τ') ∧ rF sk L τ' ∧ fF τ τ' ∧ ∀ y, fC τ y → fC τ' (wSet (u + nI Lv) w (v0 - lN tp) y) := by
    obtain ⟨τ', z⟩ := k226 (v0 - lN tp)
    refine ⟨τ', ?_, z.2⟩
    unfold f_Filler_fillSite_181
    rw [C1r1 (G1710 hS) (GR_r (v := 1700) hR (by decide)), bs, C2g17 (G1700 hS), bs, h17]
    exact z.1
  have eN1 : ∀ v, v < 2 ^ 31 → ((nI H = nI v) ↔ H = v) := fun v hv => nI_eq (by omega) hv
  unfold f_Filler_fillSite_165
  by_cases d18 : H = 18 ∨ H = 23
  · have e1 : isSl H = false := decide_eq_false (by omega)
    obtain ⟨τ', z1, z2, z3⟩ := k181
    refine ⟨τ', v0 - lN tp, by rw [e1, if_neg (by decide), if_neg (by omega), if_pos d18], ?_, z2, z3⟩
    by_cases d : H = 18
    · rw [if_pos ((eN1 18 (by decide)).mpr d)]; exact z1
    · rw [if_neg (fun e => d ((eN1 18 (by decide)).mp e)), if_pos ((eN1 23 (by decide)).mpr (by omega))]; exact z1
  · rw [if_neg (fun e => d18 (Or.inl ((eN1 18 (by decide)).mp e))), if_neg (fun e => d18 (Or.inr ((eN1 23 (by decide)).mp e)))]
    by_cases d2 : H = 2 ∨ H = 4
    · have e1 : isSl H = false := decide_eq_false (by omega)
      obtain ⟨τ', z1, z2, z3⟩ := k213
      refine ⟨τ', v0 - lN (adr + Lv), by rw [e1, if_neg (by decide), if_pos d2], ?_, z2, z3⟩
      by_cases d : H = 2
      · rw [if_pos ((eN1 2 (by decide)).mpr d)]; exact z1
      · rw [if_neg (fun e => d ((eN1 2 (by decide)).mp e)), if_pos ((eN1 4 (by decide)).mpr (by omega))]; exact z1
    · rw [if_neg (fun e => d2 (Or.inl ((eN1 2 (by decide)).mp e))), if_neg (fun e => d2 (Or.inr ((eN1 4 (by decide)).mp e)))]
      cases es : isSl H with
      | false =>
        rw [es] at hsl
        obtain ⟨τ', z1, z2, z3⟩ := k226 v0
        refine ⟨τ', v0, by rw [if_neg (by decide), if_neg d2, if_neg d18], ?_, z2, z3⟩
        rw [hsl, if_pos (show bI false = 0 from rfl)]; exact z1
      | true =>
        rw [es] at hsl
        obtain ⟨τ', z1, z2, z3⟩ := k213
        refine ⟨τ', v0 - lN (adr + Lv), by rw [if_pos rfl], ?_, z2, z3⟩
        rw [hsl, if_neg (show ¬ bI true = 0 by decide)]; exact z1
end CFT
end
section
/-! a site of the class, whole -/
theorem rov_c {H : Nat} {v : Int64} (h0 : H ≠ 0) (hH : wd H ≠ 16) : (decide (wd H = 8) || (if H = 10 then decide (((v.toUInt64 >>> ((nI 32).toInt64.toUInt64 &&& Int64.toUInt64 63)).toInt64) = lN 0) else decide (v = v.toInt32.toInt64))) = !(decide (H ≠ 0) && rov H v) := by
  rw [decide_eq_true h0, Bool.true_and]
  unfold rov
  by_cases c1 : H = 1 ∨ H = 18
  · have e8 : wd H = 8 := by unfold wd; rw [if_pos c1]
    rw [decide_eq_true e8, Bool.true_or, if_pos (by omega)]; rfl
  · have e8 : ¬ wd H = 8 := by unfold wd; rw [if_neg c1]; split <;> (try split) <;> omega
    rw [decide_eq_false e8, Bool.false_or, if_neg (show ¬ (H < 2 ∨ H = 18) by omega)]
    by_cases c2 : H = 10
    · rw [if_pos c2, if_pos c2, Bool.not_not]
    · rw [if_neg c2, if_neg c2, fit_rov]
/-- what is put at a site -/
def siW (p : Int32) (H Lv K : Nat) (v : Int64) (y : px_FW) : px_FW := if H = 0 then y else if K = 0 then wSet (p + nI Lv) (wd H) v y else shW (p + nI Lv) K v y
section CFU
variable {F : Nat} {c : px_CT} {sk : Nat → Nat × Nat × Nat} {L : Nat} {τ : px_TT} {own : Nat → Nat × Nat} {fs : px_FS} {s : px_TK} {xs : px_NL} {ST rn : Nat → Bool} {C B : Nat → Nat} {ll sl cpf : List Nat} {tO : Nat → Nat} {th : Nat → Bool} {NA : Nat → Int64} {pp : Nat} {ad : Nat → Nat} {fe3 tp sp fp0 fp1 fp2 bg0 bg1 bg2 : Nat} {on : Bool} {R rn0 : Nat → Bool} {t i j : Nat} {SV : Nat → Nat → Nat → Int64}
theorem skB_c {X Y H K : Nat} (hK : K = skB X Y H) (h0 : K ≠ 0) : (X = 139 → K = 1) ∧ (X ≠ 139 → Y = 21 → K = 2) ∧ (X ≠ 139 → Y ≠ 21 → K = 3) := by
  unfold skB at hK
  by_cases c1 : X = 139 ∧ (Y ^^^ 5) &&& 199 = 0
  · rw [if_pos c1] at hK
    exact ⟨fun _ => hK, fun q => absurd c1.1 q, fun q => absurd c1.1 q⟩
  · rw [if_neg c1] at hK
    by_cases c2 : H = 41 ∧ X = 255
    · rw [if_pos c2] at hK
      refine ⟨fun q => by omega, fun _ e => ?_, fun _ e => ?_⟩
      · rw [if_pos e] at hK; exact hK
      · rw [if_neg e] at hK
        by_cases c3 : Y = 37
        · rw [if_pos c3] at hK; exact hK
        · rw [if_neg c3] at hK; exact absurd hK h0
    · rw [if_neg c2] at hK; exact absurd hK h0
theorem k_fillSite (hF : 65536 < F) (hr : STr fs s on R ST) (hc : KT c) (hW : WP s.2.2.1.length (tB fs s.2.2.1) s.2.1.1 xs) (hro : RRo s.2.2.1.length (tB fs s.2.2.1) s.2.1.1 xs on R rn0) (hsl : sl = slL s.2.2.1.length (tB fs s.2.2.1) s.2.1.1 xs (sta (tB fs s.2.2.1) s.2.1.1 on R)) (hns : sl.length ≤ 2800) (hSV : SV = svF B tO (tB fs s.2.2.1) s.2.1.1 xs (sta (tB fs s.2.2.1) s.2.1.1 on R) ll sl NA ad sp tp pp) (hL : LAD sk L own τ fs s xs ST rn ll sl C B cpf tO th NA pp ad fe3 tp sp fp0 fp1 fp2 bg0 bg1 bg2) (h : rF sk L τ) (ht : t < s.2.2.1.length) (hi : i < oS (tB fs s.2.2.1 t)) (hs : isS (tB fs s.2.2.1 t) i = true) (hst : ST (24 * t + oI (tB fs s.2.2.1 t) i) = true) (hj : j < sN (tB fs s.2.2.1 t) i) : ∃ τ', f_Filler_fillSite F c 1710 (nI t) (nI (sP (tB fs s.2.2.1 t) i j)) (some (152 + (24 * t + oI (tB fs s.2.2.1 t) i))) (cH sk L τ) = some (bI (!ovJ SV (tB fs s.2.2.1) t i j), cH sk L τ') ∧ rF sk L τ' ∧ fF τ τ' ∧ ∀ y, fC τ y → fC τ' (siW (spV τ fs s (24 * t + oI (tB fs s.2.2.1 t) i)) (sH (tB fs s.2.2.1 t) i j) (sL (tB fs s.2.2.1 t) i j) (skY (tB fs s.2.2.1) s.2.1.1 xs t i j) (SV t i j) y) := by
  have hk := hL.1.1
  have hS := hk.1
  have hR := hk.2.1
  have hT := BK_T (s := s) hk.2.2.2.2.1.1
  obtain ⟨q, q1, q2, hD, hcb, he, hp, hRS, h89⟩ := TKe_ob hk ht
  have oq := hD.1.1.1.1.1
  obtain ⟨hyo, hS24, hM64⟩ := TKe_ys hk t ht
  obtain ⟨hpl, hy⟩ := s_place he hi hs hj
  obtain ⟨s1, s2, s3, s4⟩ := k_site (F := F) (c := c) hD (by omega) hcb hpl
  have hsit := eSit_0 he (isS_1 he hs) hi hs
  have hok := sOK_0w (hsit.2.2.2.2.2 j hj)
  have hH := wd_42 hok.1
  have hi1 := isS_1 he hs
  have hoI := hsit.1
  have hx24 : 24 * t + oI (tB fs s.2.2.1 t) i < 24 * s.2.2.1.length := by omega
  have hkp := hL.1.2.1.1 _ hx24 hst
  rw [show (24 * t + oI (tB fs s.2.2.1 t) i) / 24 = t by omega, show (24 * t + oI (tB fs s.2.2.1 t) i) % 24 = oI (tB fs s.2.2.1 t) i by omega] at hkp
  have hp7 := ((hp (oI (tB fs s.2.2.1 t) i) (by omega)).2.2.2.2.2.1 hkp.1).2.2
  have opp := G_part hS (show 24 * t + oI (tB fs s.2.2.1 t) i < 1536 by omega)
  have hxl := hL.1.2.1.2.2 _ hx24 hst
  have h11 := hL.2.2.2.2.2.1 _ hxl
  have h17 := hL.2.2.2.2.2.2.2.1
  have hsta : sta (tB fs s.2.2.1) s.2.1.1 on R t (oI (tB fs s.2.2.1 t) i) = true := by
    have e := STr_i hr ht (oI (tB fs s.2.2.1 t) i) (by omega)
    rw [hst] at e
    unfold sta
    unfold kpB at e
    rw [decide_eq_true hoI, Bool.true_and] at e
    exact e.symm
  have ksh := k_isShort (F := F) (c := c) hk hL.1.2.1.1 (by omega) hW ht hi hs hst hj
  have ksa := k_symbolAddress (F := F) (c := c) (NA := NA) hF hL.1 hr hL.2.2.2.2.1 ht hy
  have kso := fun b => k_slotOf (F := F) (c := c) (th := b) hk hL.2.2.1.1 ht hy
  have kob := k_object (F := F) (c := c) hk q1
  have hsp := k_spotOf (F := F) (c := c) hc hL hx24 hst
  have hZ16 := (eObj_a he hoI hsit.2.1).1
  have hb16 : bsO fs q + tNf fs s.2.2.1 t ≤ 65536 := hD.1.1.1.1.2.2.2.2.2.2.2.2.1
  have s1' : f_ObjectFile_num F c (10 + 2 * q) (nI (sP (tB fs s.2.2.1 t) i j)) (nI 8) (cH sk L τ) = some (lN (sL (tB fs s.2.2.1 t) i j), cH sk L τ) := by unfold sL; exact s1
  have s4' : f_ObjectFile_num F c (10 + 2 * q) (nI (sP (tB fs s.2.2.1 t) i j + 16)) (nI 8) (cH sk L τ) = some (lN (sD (tB fs s.2.2.1 t) i j), cH sk L τ) := by unfold sD; exact s4
  have hsD : sD (tB fs s.2.2.1 t) i j < 2 ^ 64 := by unfold sD; rw [← hcb]; exact le_lt (fun k => cb_lt _ _ _ k) _ 8
  have ksw := k_siteWidth (F := F) (c := c) (x := sH (tB fs s.2.2.1 t) i j) (h := cH sk L τ) (by omega)
  have eSV : SV t i j = siV B (pf0 B tO (tB fs s.2.2.1) ll) tO (tB fs s.2.2.1) s.2.1.1 xs (sta (tB fs s.2.2.1) s.2.1.1 on R) sl (syA (tB fs s.2.2.1) xs (ownV B (pf0 B tO (tB fs s.2.2.1) ll) tO (tB fs s.2.2.1) s.2.1.1 (sta (tB fs s.2.2.1) s.2.1.1 on R) pp ad) NA) (siA (tB fs s.2.2.1) ad t i j) sp tp pp t i j := by rw [hSV]; rfl
  have eOV : ovJ SV (tB fs s.2.2.1) t i j = (decide (sH (tB fs s.2.2.1 t) i j ≠ 0) && rov (sH (tB fs s.2.2.1 t) i j) (SV t i j)) := rfl
  have eSI : siA (tB fs s.2.2.1) ad t i j = lN (ad (24 * t + oI (tB fs s.2.2.1 t) i) + sL (tB fs s.2.2.1 t) i j) := rfl
  rw [eOV]
  unfold f_Filler_fillSite
  rw [C1r0 (G1710 hS) (GR_r (v := 147) hR (by decide)), bs, c_o (G147 hS), bs, kob, xb_mk, bs, c_o oq, bs, nI_add, s2, xb_mk, lN_i, nI_l (by omega), ksw, xb_mk, c_o oq, bs, s1', xb_mk]
  by_cases c0 : sH (tB fs s.2.2.1 t) i j = 0
  · refine ⟨τ, ?_, h, frRw_refl, fun y hy => by unfold siW; rw [if_pos c0]; exact hy⟩
    rw [if_neg (show ¬ 0 < wI (sH (tB fs s.2.2.1 t) i j) by rw [c0]; decide), decide_eq_false (fun q => q c0), Bool.false_and]
    rfl
  · have hw : wd (sH (tB fs s.2.2.1 t) i j) = 4 ∨ wd (sH (tB fs s.2.2.1 t) i j) = 8 := by
      rcases wd_cases (sH (tB fs s.2.2.1 t) i j) with e | e | e | e
      · exact Or.inr e
      · exact Or.inl e
      · exfalso
        unfold wd at e
        split at e
        · omega
        · split at e
          · omega
          · first | omega | (split at e <;> omega)
      · exact absurd e hok.1
    have ewI : wI (sH (tB fs s.2.2.1 t) i j) = nI (wd (sH (tB fs s.2.2.1 t) i j)) := by unfold wI; rw [if_neg hok.1]
    have hsL : sL (tB fs s.2.2.1 t) i j + wd (sH (tB fs s.2.2.1 t) i j) ≤ oZ (tB fs s.2.2.1 t) (oI (tB fs s.2.2.1 t) i) := by
      rcases hok.2.2 with e | e
      · omega
      · exact e.2
    have hT8 : oT (tB fs s.2.2.1 t) (oI (tB fs s.2.2.1 t) i) ≠ 8 := by
      rcases hok.2.2 with e | e
      · omega
      · exact e.1
    rw [ewI, if_pos (show 0 < nI (wd (sH (tB fs s.2.2.1 t) i j)) from nI_lt (a := 0) (by omega) (by omega)), C1r0 (G1710 hS) (GR_r (v := 147) hR (by decide)), bs, c_o (G147 hS), bs, ksh, xb_mk]
    by_cases ck : skY (tB fs s.2.2.1) s.2.1.1 xs t i j = 0
    · have eW : ∀ v y, siW (spV τ fs s (24 * t + oI (tB fs s.2.2.1 t) i)) (sH (tB fs s.2.2.1 t) i j) (sL (tB fs s.2.2.1 t) i j) (skY (tB fs s.2.2.1) s.2.1.1 xs t i j) v y = wSet (spV τ fs s (24 * t + oI (tB fs s.2.2.1 t) i) + nI (sL (tB fs s.2.2.1 t) i j)) (wd (sH (tB fs s.2.2.1 t) i j)) v y := fun v y => by unfold siW; rw [if_neg c0, if_pos ck]
      rw [decide_eq_false (fun q => q ck), if_pos (show bI false = 0 from rfl), c_o oq, bs, nI_add, s3, xb_mk, c_o oq, bs, nI_add, s4', xb_mk, lN_i, lN_i]
      have ksf := k_sumFor (F := F) (c := c) (NA := NA) (how := sH (tB fs s.2.2.1 t) i j) (A := sD (tB fs s.2.2.1 t) i j) hF hL.1 hr hW hL.2.2.2.2.1 ht hy (by omega) hsD (fun x hx => reach_st hro ht hi1 hi hs hj c0 hsta hx)
      have ehit : isSl (sH (tB fs s.2.2.1 t) i j) = true → ∃ ix, ixB (skE (tB fs s.2.2.1) xs (zOf t (sY (tB fs s.2.2.1 t) i j) (sH (tB fs s.2.2.1 t) i j))) 0 sl = some ix := fun e => by
        have := slL_hit (T := s.2.2.1.length) (tb := tB fs s.2.2.1) (dr := s.2.1.1) (xs := xs) (sy := sta (tB fs s.2.2.1) s.2.1.1 on R) ht hi1 hi hs hsta hj e ck
        rw [← hsl] at this
        exact Option.isSome_iff_exists.mp this
      have h13 := hL.2.2.2.2.2.2.1
      rw [eSV]
      unfold siV slX
      rw [if_neg (show ¬ 0 < skY (tB fs s.2.2.1) s.2.1.1 xs t i j by omega), eSI]
      generalize syA (tB fs s.2.2.1) xs (ownV B (pf0 B tO (tB fs s.2.2.1) ll) tO (tB fs s.2.2.1) s.2.1.1 (sta (tB fs s.2.2.1) s.2.1.1 on R) pp ad) NA t (sY (tB fs s.2.2.1 t) i j) = SA at *
      generalize ofS (tB fs s.2.2.1) s.2.1.1 (sta (tB fs s.2.2.1) s.2.1.1 on R) t (sY (tB fs s.2.2.1 t) i j) = oS1 at *
      generalize lN (pp + baN B (pf0 B tO (tB fs s.2.2.1) ll) (tO t + oP (tB fs s.2.2.1 t) (yW (tB fs s.2.2.1 t) (sY (tB fs s.2.2.1 t) i j))) (oZ (tB fs s.2.2.1 t) (yW (tB fs s.2.2.1 t) (sY (tB fs s.2.2.1 t) i j))) ((yV (tB fs s.2.2.1 t) (sY (tB fs s.2.2.1 t) i j) + sD (tB fs s.2.2.1 t) i j) % 2 ^ 64)) = BA at *
      generalize hIX : ixB (skE (tB fs s.2.2.1) xs (zOf t (sY (tB fs s.2.2.1 t) i j) (sH (tB fs s.2.2.1 t) i j))) 0 sl = IX at *
      have ksl : ∀ b, b = decide (sH (tB fs s.2.2.1 t) i j = 22) → isSl (sH (tB fs s.2.2.1 t) i j) = true → f_Filler_slotAddress F c 1710 (nI t) (nI (sY (tB fs s.2.2.1 t) i j)) (bI b) (cH sk L τ) = some (lN (sp + 8 * IX.getD sl.length), cH sk L τ) := fun b hb e => by
        obtain ⟨ix, hix⟩ := ehit e
        have hlt := (ixB_lt (hIX.trans hix)).2.1
        have k1 := kso b
        rw [hb, zz_zOf] at k1
        have eno : sNo (skE (tB fs s.2.2.1) xs (zOf t (sY (tB fs s.2.2.1 t) i j) (sH (tB fs s.2.2.1 t) i j))) sl = ix + 1 := by unfold sNo; rw [hIX, hix]; rfl
        rw [eno, ← hb] at k1
        unfold f_Filler_slotAddress
        rw [C1r1 (G1710 hS) (GR_r (v := 1700) hR (by decide)), bs, C2g13 (G1700 hS), bs, bs, c_o (G1700 hS), bs, k1, xb_mk, h13 (by omega), pk_sub (by omega), show ix + 1 - 1 = ix by omega, nI_l (by omega), show (8 : Int64) = lN 8 from rfl, lN_mul, lN_add, hix]
        rfl
      clear hIX kso ehit eOV eSV ksa hSV
      generalize sH (tB fs s.2.2.1 t) i j = H at *
      generalize sL (tB fs s.2.2.1 t) i j = Lv at *
      generalize sD (tB fs s.2.2.1 t) i j = Dv at *
      generalize sY (tB fs s.2.2.1 t) i j = Y at *
      have go : ∀ (b : Bool) (v0 v : Int64), b = isSl H → v = (if isSl H = true then v0 - lN (ad (24 * t + oI (tB fs s.2.2.1 t) i) + Lv) else if H = 2 ∨ H = 4 then v0 - lN (ad (24 * t + oI (tB fs s.2.2.1 t) i) + Lv) else if H = 18 ∨ H = 23 then v0 - lN tp else v0) → ∃ τ', f_Filler_fillSite_165 F c 1710 (some (152 + (24 * t + oI (tB fs s.2.2.1 t) i))) (nI H) (nI (wd H)) (nI Lv) (bI b) v0 (cH sk L τ) = some (bI (!(decide (H ≠ 0) && rov H v)), cH sk L τ') ∧ rF sk L τ' ∧ fF τ τ' ∧ ∀ y, fC τ y → fC τ' (siW (spV τ fs s (24 * t + oI (tB fs s.2.2.1 t) i)) H Lv (skY (tB fs s.2.2.1) s.2.1.1 xs t i j) v y) := fun b v0 v hb hv => by
        obtain ⟨τ', v', z0, z1, z2, z3⟩ := k_fs_165 (F := F) (c := c) (H := H) (Lv := Lv) (w := wd H) (v0 := v0) (tp := tp) (sl := b) hF hS hR h opp hw hH (by omega) h11 h17 hb hsp
        rw [rov_c c0 hok.1, z0, ← hv] at z1
        rw [z0, ← hv] at z3
        exact ⟨τ', z1, z2, z3.1, fun y hy => by rw [eW]; exact z3.2 y hy⟩
      have eN1 : ∀ v, v < 2 ^ 31 → ((nI H = nI v) ↔ H = v) := fun v hv => nI_eq (by omega) hv
      have hno : H ≠ 24 := fun e => by rw [e] at hok; exact hok.1 (by decide)
      by_cases cs : isSl H = true
      · have hcs := of_decide_eq_true cs
        have e122 : ∃ τ', f_Filler_fillSite_117 F c 1710 (nI t) (some (152 + (24 * t + oI (tB fs s.2.2.1 t) i))) (nI H) (nI (wd H)) (nI Lv) (nI Y) (lN Dv) (cH sk L τ) = some (bI (!(decide (H ≠ 0) && rov H (lN (sp + 8 * IX.getD sl.length) + lN Dv - lN (ad (24 * t + oI (tB fs s.2.2.1 t) i) + Lv)))), cH sk L τ') ∧ rF sk L τ' ∧ fF τ τ' ∧ ∀ y, fC τ y → fC τ' (siW (spV τ fs s (24 * t + oI (tB fs s.2.2.1 t) i)) H Lv (skY (tB fs s.2.2.1) s.2.1.1 xs t i j) (lN (sp + 8 * IX.getD sl.length) + lN Dv - lN (ad (24 * t + oI (tB fs s.2.2.1 t) i) + Lv)) y) := by
          obtain ⟨τ', z1, z2, z3⟩ := go true (lN (sp + 8 * IX.getD sl.length) + lN Dv) _ cs.symm (by rw [if_pos cs])
          refine ⟨τ', ?_, z2, z3⟩
          unfold f_Filler_fillSite_117 f_Filler_fillSite_122 f_Filler_fillSite_145
          rw [if_neg (by decide)]
          by_cases c22 : H = 22
          · have k2 := ksl true (decide_eq_true c22).symm cs
            rw [if_pos ((eN1 22 (by decide)).mpr c22), c_o (G1710 hS), bs, show (nI 1 : Int32) = bI true from rfl, k2, xb_mk]
            exact z1
          · have k2 := ksl false (decide_eq_false c22).symm cs
            rw [if_neg (fun e => c22 ((eN1 22 (by decide)).mp e)), c_o (G1710 hS), bs, show (nI 0 : Int32) = bI false from rfl, k2, xb_mk]
            exact z1
        have eR : (if (H = 1 ∨ H = 10 ∨ H = 11) ∧ oS1 = true then BA else if isSl H = true then lN (sp + 8 * IX.getD sl.length) + lN Dv - lN (ad (24 * t + oI (tB fs s.2.2.1 t) i) + Lv) else if H = 2 ∨ H = 4 then SA + lN Dv - lN (ad (24 * t + oI (tB fs s.2.2.1 t) i) + Lv) else if H = 18 ∨ H = 23 then SA + lN Dv - lN tp else SA + lN Dv) = lN (sp + 8 * IX.getD sl.length) + lN Dv - lN (ad (24 * t + oI (tB fs s.2.2.1 t) i) + Lv) := by rw [if_neg (fun q => by omega), if_pos cs]
        rw [eR]
        by_cases c9 : H = 9
        · rw [if_pos ((eN1 9 (by decide)).mpr c9)]; exact e122
        · rw [if_neg (fun e => c9 ((eN1 9 (by decide)).mp e))]
          by_cases c22 : H = 22
          · rw [if_pos ((eN1 22 (by decide)).mpr c22)]; exact e122
          · rw [if_neg (fun e => c22 ((eN1 22 (by decide)).mp e)), if_neg (nI_ge (by omega) (by omega))]; exact e122
      · have cs' : isSl H = false := by cases hh : isSl H with | false => rfl | true => exact absurd hh cs
        have hcs : ¬ (H = 9 ∨ H = 22 ∨ H = 41 ∨ H = 42) := of_decide_eq_false cs'
        have h23 : H ≤ 23 := by
          have hw16 := hok.1
          unfold wd at hw16
          split at hw16
          · omega
          · split at hw16
            · omega
            · exact absurd rfl hw16
        rw [if_neg (fun e => hcs (Or.inl ((eN1 9 (by decide)).mp e))), if_neg (fun e => hcs (Or.inr (Or.inl ((eN1 22 (by decide)).mp e)))), if_pos (nI_le h23 (by decide))]
        unfold f_Filler_fillSite_122
        rw [if_pos (show nI 0 = 0 from rfl), c_o (G1710 hS), bs, ksf, xb_mk]
        have eR : (if (H = 1 ∨ H = 10 ∨ H = 11) ∧ oS1 = true then BA else if isSl H = true then lN (sp + 8 * IX.getD sl.length) + lN Dv - lN (ad (24 * t + oI (tB fs s.2.2.1 t) i) + Lv) else if H = 2 ∨ H = 4 then SA + lN Dv - lN (ad (24 * t + oI (tB fs s.2.2.1 t) i) + Lv) else if H = 18 ∨ H = 23 then SA + lN Dv - lN tp else SA + lN Dv) = (if isSl H = true then (if (H = 1 ∨ H = 10 ∨ H = 11) ∧ oS1 = true then BA else SA + lN Dv) - lN (ad (24 * t + oI (tB fs s.2.2.1 t) i) + Lv) else if H = 2 ∨ H = 4 then (if (H = 1 ∨ H = 10 ∨ H = 11) ∧ oS1 = true then BA else SA + lN Dv) - lN (ad (24 * t + oI (tB fs s.2.2.1 t) i) + Lv) else if H = 18 ∨ H = 23 then (if (H = 1 ∨ H = 10 ∨ H = 11) ∧ oS1 = true then BA else SA + lN Dv) - lN tp else (if (H = 1 ∨ H = 10 ∨ H = 11) ∧ oS1 = true then BA else SA + lN Dv)) := by
          by_cases c1 : (H = 1 ∨ H = 10 ∨ H = 11) ∧ oS1 = true
          · rw [if_pos c1, if_neg cs, if_neg (show ¬ (H = 2 ∨ H = 4) by omega), if_neg (show ¬ (H = 18 ∨ H = 23) by omega), if_pos c1]
          · rw [if_neg c1, if_neg cs, if_neg cs, if_neg c1]
        rw [eR]
        exact go false _ _ cs'.symm rfl
    · rw [decide_eq_true ck, if_neg (show ¬ bI true = 0 by decide), c_o (G1710 hS), bs]
      have hskY := ck
      have hsk : (sH (tB fs s.2.2.1 t) i j = 41 ∨ sH (tB fs s.2.2.1 t) i j = 42) ∧ 2 ≤ sL (tB fs s.2.2.1 t) i j ∧ skY (tB fs s.2.2.1) s.2.1.1 xs t i j = skB (tB fs s.2.2.1 t (oP (tB fs s.2.2.1 t) (oI (tB fs s.2.2.1 t) i) + sL (tB fs s.2.2.1 t) i j - 2)) (tB fs s.2.2.1 t (oP (tB fs s.2.2.1 t) (oI (tB fs s.2.2.1 t) i) + sL (tB fs s.2.2.1 t) i j - 1)) (sH (tB fs s.2.2.1 t) i j) := by
        unfold skY at hskY ⊢
        by_cases cc : (sH (tB fs s.2.2.1 t) i j = 41 ∨ sH (tB fs s.2.2.1 t) i j = 42) ∧ sD (tB fs s.2.2.1 t) i j = 18446744073709551612 ∧ 2 ≤ sL (tB fs s.2.2.1 t) i j ∧ inY (tB fs s.2.2.1) s.2.1.1 xs t (sY (tB fs s.2.2.1 t) i j) = true
        · rw [if_pos cc]; exact ⟨cc.1, cc.2.2.1, rfl⟩
        · rw [if_neg cc] at hskY; exact absurd rfl hskY
      obtain ⟨k1, k2, k3⟩ := skB_c hsk.2.2 ck
      have hpn : oP (tB fs s.2.2.1 t) (oI (tB fs s.2.2.1 t) i) + oZ (tB fs s.2.2.1 t) (oI (tB fs s.2.2.1 t) i) ≤ tNf fs s.2.2.1 t := by
        have hk1 := of_decide_eq_true hsit.2.1
        exact (eObj_0 he).1.1.2.2.2.1 _ hoI (by omega) hT8
      have hbl : ∀ x, tB fs s.2.2.1 t x < 256 := fun x => by rw [← hcb]; exact cb_lt _ _ _ _
      have num1 : ∀ x, x + 1 ≤ tNf fs s.2.2.1 t → f_ObjectFile_num F c (10 + 2 * q) (nI x) (nI 1) (cH sk L τ) = some (lN (tB fs s.2.2.1 t x), cH sk L τ) := fun x hx => by
        rw [k_num hD.1.1.1.1 (by omega) (by decide) (by omega), nm_in hx, le_1, hcb]
      have kX := num1 (oP (tB fs s.2.2.1 t) (oI (tB fs s.2.2.1 t) i) + sL (tB fs s.2.2.1 t) i j - 2) (by omega)
      have kY := num1 (oP (tB fs s.2.2.1 t) (oI (tB fs s.2.2.1 t) i) + sL (tB fs s.2.2.1 t) i j - 2 + 1) (by omega)
      rw [show oP (tB fs s.2.2.1 t) (oI (tB fs s.2.2.1 t) i) + sL (tB fs s.2.2.1 t) i j - 1 = oP (tB fs s.2.2.1 t) (oI (tB fs s.2.2.1 t) i) + sL (tB fs s.2.2.1 t) i j - 2 + 1 by have := hsk.2.1; omega] at k2 k3
      obtain ⟨τ', z1, z2, z3⟩ := k_fSh (F := F) (c := c) (t := t) (x := sP (tB fs s.2.2.1 t) i j) (K := skY (tB fs s.2.2.1) s.2.1.1 xs t i j) hF hS hR h oq opp kob s1' s3 s4' hsp hp7 hD.1.1.1.1.2.2.2.2.2.2.1 h11 ksa kX kY hsk.2.1 (by omega) (hbl _) (hbl _) k1 k2 k3
      have eV : SV t i j = syA (tB fs s.2.2.1) xs (ownV B (pf0 B tO (tB fs s.2.2.1) ll) tO (tB fs s.2.2.1) s.2.1.1 (sta (tB fs s.2.2.1) s.2.1.1 on R) pp ad) NA t (sY (tB fs s.2.2.1 t) i j) + lN (sD (tB fs s.2.2.1 t) i j) - lN (ad (24 * t + oI (tB fs s.2.2.1 t) i) + sL (tB fs s.2.2.1 t) i j) + (if skY (tB fs s.2.2.1) s.2.1.1 xs t i j = 3 then lN 1 else lN 0) := by
        rw [eSV]
        unfold siV
        rw [if_pos (show 0 < skY (tB fs s.2.2.1) s.2.1.1 xs t i j by omega), eSI]
      refine ⟨τ', ?_, z2, z3.1, fun y hy => by unfold siW; rw [if_neg c0, if_neg ck, eV]; exact z3.2 y hy⟩
      rw [z1, xb_mk, xz_b]
      rw [← eV, ← rov_c c0 hok.1]
      have e4 : ¬ wd (sH (tB fs s.2.2.1 t) i j) = 8 := by rcases hsk.1 with e | e <;> (rw [e]; decide)
      rw [decide_eq_false e4, Bool.false_or, if_neg (by omega)]
end CFU
end
section
/-! all sites of the class -/
theorem ex1_0 {g : Nat → Bool} {k : Nat} : ex1 g k 0 = false := rfl
/-- the frame of filling sites -/
def frSi (τ τ' : px_TT) : Prop := (∀ a k, (a ≠ 1711 ∨ (k ≠ 1 ∧ k ≠ 2)) → fI τ' a k = fI τ a k) ∧ (∀ a k, (a ≠ 147 ∨ k ≠ 19) → fJ τ' a k = fJ τ a k) ∧ (∀ a k, fN τ' a k = fN τ a k) ∧ (∀ a, a ≠ 1712 → eI τ' a = eI τ a) ∧ (∀ a, eJ τ' a = eJ τ a) ∧ ∀ a, eN τ' a = eN τ a
theorem frSi_F {τ τ' : px_TT} (f : fF τ τ') : frSi τ τ' := ⟨f.1, fun a k _ => f.2.1 a k, f.2.2⟩
theorem frSi_J {τ τ' : px_TT} {v : Int64} (f : fF τ τ') : frSi τ (tJ τ' 147 19 v) := ⟨f.1, fun a k h => (tJ_ne (by omega)).trans (f.2.1 a k), f.2.2⟩
theorem frZ_S {τ τ' : px_TT} (f : frSi τ τ') : frZ τ τ' := ⟨fun a k h _ _ _ _ => f.1 a k (Or.inl (fun e => h (by unfold Zc; omega))), fun a k _ h2 => f.2.1 a k (by omega), fun a k _ => f.2.2.1 a k, fun a h => f.2.2.2.1 a (fun e => h (by unfold Zc; omega)), fun a _ => f.2.2.2.2.1 a, fun a _ => f.2.2.2.2.2 a⟩
theorem spV_fr {τ τ' : px_TT} {fs : px_FS} {s : px_TK} {x : Nat} (f : fF τ τ') : spV τ' fs s x = spV τ fs s x := by
  unfold spV
  rw [f.2.2.2.2.1, f.2.1, f.2.2.2.2.1]
/-- what is put at the sites -/
def siJ (τ : px_TT) (fs : px_FS) (s : px_TK) (xs : px_NL) (SV : Nat → Nat → Nat → Int64) (t i j : Nat) (y : px_FW) : px_FW := siW (spV τ fs s (24 * t + oI (tB fs s.2.2.1 t) i)) (sH (tB fs s.2.2.1 t) i j) (sL (tB fs s.2.2.1 t) i j) (skY (tB fs s.2.2.1) s.2.1.1 xs t i j) (SV t i j) y
def siI (τ : px_TT) (fs : px_FS) (s : px_TK) (xs : px_NL) (ST : Nat → Bool) (SV : Nat → Nat → Nat → Int64) (t i : Nat) (y : px_FW) : px_FW := if isS (tB fs s.2.2.1 t) i = true ∧ ST (24 * t + oI (tB fs s.2.2.1 t) i) = true then itr (siJ τ fs s xs SV t i) 0 (sN (tB fs s.2.2.1 t) i) y else y
def siT (τ : px_TT) (fs : px_FS) (s : px_TK) (xs : px_NL) (ST : Nat → Bool) (SV : Nat → Nat → Nat → Int64) (t : Nat) (y : px_FW) : px_FW := itr (siI τ fs s xs ST SV t) 0 (oS (tB fs s.2.2.1 t)) y
section CFV
variable {F : Nat} {c : px_CT} {sk : Nat → Nat × Nat × Nat} {L : Nat} {τ0 : px_TT} {own : Nat → Nat × Nat} {fs : px_FS} {s : px_TK} {xs : px_NL} {ST rn : Nat → Bool} {C B : Nat → Nat} {ll sl cpf : List Nat} {tO : Nat → Nat} {th : Nat → Bool} {NA : Nat → Int64} {pp : Nat} {ad : Nat → Nat} {fe3 tp sp fp0 fp1 fp2 bg0 bg1 bg2 : Nat} {on : Bool} {R rn0 : Nat → Bool} {t i q : Nat} {SV : Nat → Nat → Nat → Int64}
theorem k_fss_70 {k2 : Nat → Int32 → px_H → Option (Int32 × px_H)} {k24 : Nat → Int32 → Option Nat → Int32 → px_H → Option (Int32 × px_H)} (hF : 65536 < F) (hr : STr fs s on R ST) (hc : KT c) (hW : WP s.2.2.1.length (tB fs s.2.2.1) s.2.1.1 xs) (hro : RRo s.2.2.1.length (tB fs s.2.2.1) s.2.1.1 xs on R rn0) (hsl : sl = slL s.2.2.1.length (tB fs s.2.2.1) s.2.1.1 xs (sta (tB fs s.2.2.1) s.2.1.1 on R)) (hns : sl.length ≤ 2800) (hSV : SV = svF B tO (tB fs s.2.2.1) s.2.1.1 xs (sta (tB fs s.2.2.1) s.2.1.1 on R) ll sl NA ad sp tp pp) (hL : LAD sk L own τ0 fs s xs ST rn ll sl C B cpf tO th NA pp ad fe3 tp sp fp0 fp1 fp2 bg0 bg1 bg2) (hq : s.2.2.1[t]? = some q) (hi : i < oS (tB fs s.2.2.1 t)) (hs : isS (tB fs s.2.2.1 t) i = true) (hst : ST (24 * t + oI (tB fs s.2.2.1 t) i) = true) (hsN : sN (tB fs s.2.2.1 t) i < 2 ^ 30) : ∀ (d j f : Nat) (τ : px_TT), j + d = sN (tB fs s.2.2.1 t) i → d < f → rF sk L τ → fF τ0 τ → ∃ τ', rF sk L τ' ∧ ((ex1 (ovJ SV (tB fs s.2.2.1) t i) j d = false ∧ fF τ0 τ' ∧ f_Filler_fillSites_70 F c k2 k24 f 1710 (nI t) (some (10 + 2 * q)) (nI i) (some (152 + (24 * t + oI (tB fs s.2.2.1 t) i))) (nI (sN (tB fs s.2.2.1 t) i)) (nI (oP (tB fs s.2.2.1 t) i)) (nI j) (cH sk L τ) = k24 1710 (nI t) (some (10 + 2 * q)) (nI (i + 1)) (cH sk L τ') ∧ ∀ y, fC τ y → fC τ' (itr (siJ τ0 fs s xs SV t i) j d y)) ∨ (ex1 (ovJ SV (tB fs s.2.2.1) t i) j d = true ∧ frSi τ0 τ' ∧ f_Filler_fillSites_70 F c k2 k24 f 1710 (nI t) (some (10 + 2 * q)) (nI i) (some (152 + (24 * t + oI (tB fs s.2.2.1 t) i))) (nI (sN (tB fs s.2.2.1 t) i)) (nI (oP (tB fs s.2.2.1 t) i)) (nI j) (cH sk L τ) = some (nI 0, cH sk L τ'))) := by
  have ht := (List.getElem?_eq_some_iff.mp hq).1
  intro d
  induction d with
  | zero =>
    intro j f τ hj hf h hfr
    obtain ⟨f, rfl⟩ : ∃ x, f = x + 1 := ⟨f - 1, by omega⟩
    refine ⟨τ, h, Or.inl ⟨rfl, hfr, ?_, fun y hy => by rw [itr_0]; exact hy⟩⟩
    unfold f_Filler_fillSites_70 f_Filler_fillSites_130
    rw [if_pos (nI_le (by omega) (by omega)), nI_add]
  | succ d ih =>
    intro j f τ hj hf h hfr
    obtain ⟨f, rfl⟩ : ∃ x, f = x + 1 := ⟨f - 1, by omega⟩
    have hL1 := LAD_Z hL (frZ_F hfr)
    have hS := hL1.1.1.1
    have hR := hL1.1.1.2.1
    have hT := BK_T (s := s) hL1.1.1.2.2.2.2.1.1
    obtain ⟨τ1, a1, r1, f1, u1⟩ := k_fillSite (F := F) (c := c) (t := t) (i := i) (j := j) (SV := SV) hF hr hc hW hro hsl hns hSV hL1 h ht hi hs hst (by omega)
    have e1 : ex1 (ovJ SV (tB fs s.2.2.1) t i) j (d + 1) = (ovJ SV (tB fs s.2.2.1) t i j || ex1 (ovJ SV (tB fs s.2.2.1) t i) (j + 1) d) := ex1_s
    have es : sP (tB fs s.2.2.1 t) i j = oP (tB fs s.2.2.1 t) i + 24 * j := rfl
    rw [e1]
    unfold f_Filler_fillSites_70
    rw [if_neg (nI_ge (by omega) (by omega)), c_o (G1710 hS), bs, pk_mul, nI_add, nI_add, ← es, a1, xb_mk]
    cases eo : ovJ SV (tB fs s.2.2.1) t i j with
    | false =>
      rw [if_neg (show ¬ bI (!false) = 0 by decide), Bool.false_or]
      rw [spV_fr hfr] at u1
      have u2 : ∀ y, fC τ y → fC τ1 (siJ τ0 fs s xs SV t i j y) := fun y hy => by unfold siJ; exact u1 y hy
      clear u1
      obtain ⟨τ2, b1, b2⟩ := ih (j + 1) f τ1 (by omega) (by omega) r1 (frRw_trans hfr f1)
      refine ⟨τ2, b1, ?_⟩
      rcases b2 with ⟨b2, b3, b4, b5⟩ | b2
      · exact Or.inl ⟨b2, b3, b4, fun y hy => by rw [itr_s]; exact b5 _ (u2 y hy)⟩
      · exact Or.inr b2
    | true =>
      obtain ⟨q', hq', _, hD, hcb, he, _⟩ := TKe_ob hL1.1.1 ht
      have eq : q' = q := Option.some.inj (hq'.symm.trans hq)
      subst eq
      have hL2 := LAD_Z hL1 (frZ_F f1)
      obtain ⟨q2, hq2, _, hD2, hcb2, _⟩ := TKe_ob hL2.1.1 ht
      have eq2 : q2 = q' := Option.some.inj (hq2.symm.trans hq)
      subst eq2
      obtain ⟨hpl, hy⟩ := s_place he hi hs (show j < sN (tB fs s.2.2.1 t) i by omega)
      obtain ⟨s1, _⟩ := k_site (F := F) (c := c) hD2 (by omega) hcb2 hpl
      have hoI := (eSit_0 he (isS_1 he hs) hi hs).1
      have hS24 := (eObj_0 he).1.1.2.1.2
      have opp := G_part hS (show 24 * t + oI (tB fs s.2.2.1 t) i < 1536 by omega)
      refine ⟨_, ?_, Or.inr ⟨rfl, frSi_J (v := fJ τ1 (152 + (24 * t + oI (tB fs s.2.2.1 t) i)) 11 + lN (le (tB fs s.2.2.1 t) (sP (tB fs s.2.2.1 t) i j) 8)) (frRw_trans hfr f1), ?_⟩⟩
      · exact ⟨r1.1, r1.2.1, r1.2.2.1, r1.2.2.2.1, r1.2.2.2.2.1, r1.2.2.2.2.2.1, r1.2.2.2.2.2.2⟩
      · rw [if_pos (show bI (!true) = 0 from rfl)]
        unfold f_Filler_fillSites_95
        rw [C1r0 (G1710 hS) (GR_r (v := 147) hL2.1.1.2.1 (by decide)), bs, bs, C8g11 opp, bs, bs, c_o hD2.1.1.1.1.1, bs, pk_mul, nI_add, ← es, s1, xb_mk, C3p19 (G147 hS), bs]
theorem k_fss_24 {k2 : Nat → Int32 → px_H → Option (Int32 × px_H)} (hF : 65536 < F) (hr : STr fs s on R ST) (hc : KT c) (hW : WP s.2.2.1.length (tB fs s.2.2.1) s.2.1.1 xs) (hro : RRo s.2.2.1.length (tB fs s.2.2.1) s.2.1.1 xs on R rn0) (hsl : sl = slL s.2.2.1.length (tB fs s.2.2.1) s.2.1.1 xs (sta (tB fs s.2.2.1) s.2.1.1 on R)) (hns : sl.length ≤ 2800) (hSV : SV = svF B tO (tB fs s.2.2.1) s.2.1.1 xs (sta (tB fs s.2.2.1) s.2.1.1 on R) ll sl NA ad sp tp pp) (hL : LAD sk L own τ0 fs s xs ST rn ll sl C B cpf tO th NA pp ad fe3 tp sp fp0 fp1 fp2 bg0 bg1 bg2) (hq : s.2.2.1[t]? = some q) : ∀ (d i f : Nat) (τ : px_TT), i + d = oS (tB fs s.2.2.1 t) → d < f → rF sk L τ → fF τ0 τ → ∃ τ', rF sk L τ' ∧ ((ex1 (ovI SV (tB fs s.2.2.1) (sta (tB fs s.2.2.1) s.2.1.1 on R) t) i d = false ∧ fF τ0 τ' ∧ f_Filler_fillSites_24 F c k2 f 1710 (nI t) (some (10 + 2 * q)) (nI i) (cH sk L τ) = k2 1710 (nI (t + 1)) (cH sk L τ') ∧ ∀ y, fC τ y → fC τ' (itr (siI τ0 fs s xs ST SV t) i d y)) ∨ (ex1 (ovI SV (tB fs s.2.2.1) (sta (tB fs s.2.2.1) s.2.1.1 on R) t) i d = true ∧ frSi τ0 τ' ∧ f_Filler_fillSites_24 F c k2 f 1710 (nI t) (some (10 + 2 * q)) (nI i) (cH sk L τ) = some (nI 0, cH sk L τ'))) := by
  have ht := (List.getElem?_eq_some_iff.mp hq).1
  intro d
  induction d with
  | zero =>
    intro i f τ hi hf h hfr
    obtain ⟨f, rfl⟩ : ∃ x, f = x + 1 := ⟨f - 1, by omega⟩
    have hL1 := LAD_Z hL (frZ_F hfr)
    obtain ⟨q', hq', _, hD, hcb, he, _⟩ := TKe_ob hL1.1.1 ht
    have eq : q' = q := Option.some.inj (hq'.symm.trans hq)
    subst eq
    have hS24 := (eObj_0 he).1.1.2.1.2
    have h8 := hD.1.1.1.2.2.2.2
    rw [hcb] at h8
    refine ⟨τ, h, Or.inl ⟨rfl, hfr, ?_, fun y hy => by rw [itr_0]; exact hy⟩⟩
    unfold f_Filler_fillSites_24 f_Filler_fillSites_136
    rw [bs, C7g8 hD.1.1.1.1.1, bs, h8, if_pos (nI_le (by omega) (by omega)), nI_add]
  | succ d ih =>
    intro i f τ hi hf h hfr
    obtain ⟨f, rfl⟩ : ∃ x, f = x + 1 := ⟨f - 1, by omega⟩
    have hL1 := LAD_Z hL (frZ_F hfr)
    have hS := hL1.1.1.1
    have hR := hL1.1.1.2.1
    have hiS : i < oS (tB fs s.2.2.1 t) := by omega
    obtain ⟨q', hq', _, hD, hcb, he, _⟩ := TKe_ob hL1.1.1 ht
    have eq : q' = q := Option.some.inj (hq'.symm.trans hq)
    subst eq
    have hS24 := (eObj_0 he).1.1.2.1.2
    have h8 := hD.1.1.1.2.2.2.2
    have h7 := hD.1.1.1.2.2.2.1
    rw [hcb] at h8 h7
    have hRo := (eObj_0 he).1.1.2.2.1
    have hn16 : bsO fs q' + tNf fs s.2.2.1 t ≤ 65536 := hD.1.1.1.1.2.2.2.2.2.2.2.2.1
    have kst := k_stayT (F := F) (c := c) hL1.1.1 (by omega) ht hiS
    have e1 : ex1 (ovI SV (tB fs s.2.2.1) (sta (tB fs s.2.2.1) s.2.1.1 on R) t) i (d + 1) = (ovI SV (tB fs s.2.2.1) (sta (tB fs s.2.2.1) s.2.1.1 on R) t i || ex1 (ovI SV (tB fs s.2.2.1) (sta (tB fs s.2.2.1) s.2.1.1 on R) t) (i + 1) d) := ex1_s
    rw [e1]
    unfold f_Filler_fillSites_24
    rw [bs, C7g8 hD.1.1.1.1.1, bs, h8, if_neg (nI_ge hiS (by omega)), C1r0 (G1710 hS) (GR_r (v := 147) hR (by decide)), bs, c_o (G147 hS), bs, kst, xb_mk]
    by_cases cc : isS (tB fs s.2.2.1 t) i = true ∧ ST (24 * t + oI (tB fs s.2.2.1 t) i) = true
    · rw [if_pos cc]
      have hoI := (eSit_0 he (isS_1 he cc.1) hiS cc.1)
      have hsta : sta (tB fs s.2.2.1) s.2.1.1 on R t (oI (tB fs s.2.2.1 t) i) = true := by
        have e := STr_i hr ht (oI (tB fs s.2.2.1 t) i) (by omega)
        rw [cc.2] at e
        unfold sta
        unfold kpB at e
        rw [decide_eq_true hoI.1, Bool.true_and] at e
        exact e.symm
      have eI1 : ovI SV (tB fs s.2.2.1) (sta (tB fs s.2.2.1) s.2.1.1 on R) t i = ex1 (ovJ SV (tB fs s.2.2.1) t i) 0 (sN (tB fs s.2.2.1 t) i) := by unfold ovI; rw [cc.1, hsta, Bool.true_and, Bool.true_and]
      obtain ⟨k1, k2', k3⟩ := k_sitesOf (F := F) (c := c) hD (by omega) hcb hiS cc.1
      have hsN : sN (tB fs s.2.2.1 t) i < 65536 := by
        have := hoI.2.2.2.1
        unfold sN
        omega
      obtain ⟨τ1, r1, z⟩ := k_fss_70 (F := F) (c := c) (k2 := k2) (k24 := f_Filler_fillSites_24 F c k2 f) (i := i) (SV := SV) hF hr hc hW hro hsl hns hSV hL hq hiS cc.1 cc.2 (by omega) (sN (tB fs s.2.2.1 t) i) 0 F τ (Nat.zero_add _) (by omega) h hfr
      have e57 : ((xo (cH sk L τ) 7 (10 + 2 * q')).bind fun _ => xb (f_ObjectFile_sitesOf F c (10 + 2 * q') (nI i) (cH sk L τ)) fun t7 ph8 => f_Filler_fillSites_57 F c k2 (f_Filler_fillSites_24 F c k2 f) 1710 (nI t) (some (10 + 2 * q')) (nI i) (some (152 + (24 * t + oI (tB fs s.2.2.1 t) i))) t7 ph8) = f_Filler_fillSites_70 F c k2 (f_Filler_fillSites_24 F c k2 f) F 1710 (nI t) (some (10 + 2 * q')) (nI i) (some (152 + (24 * t + oI (tB fs s.2.2.1 t) i))) (nI (sN (tB fs s.2.2.1 t) i)) (nI (oP (tB fs s.2.2.1 t) i)) (nI 0) (cH sk L τ) := by
        rw [c_o hD.1.1.1.1.1, bs, k1, xb_mk]
        unfold f_Filler_fillSites_57
        rw [bs, c_o hD.1.1.1.1.1, bs, k2', xb_mk, lN_i]
      show ∃ τ', rF sk L τ' ∧ ((_ ∧ fF τ0 τ' ∧ ((xo (cH sk L τ) 7 (10 + 2 * q')).bind fun _ => xb (f_ObjectFile_sitesOf F c (10 + 2 * q') (nI i) (cH sk L τ)) fun t7 ph8 => f_Filler_fillSites_57 F c k2 (f_Filler_fillSites_24 F c k2 f) 1710 (nI t) (some (10 + 2 * q')) (nI i) (some (152 + (24 * t + oI (tB fs s.2.2.1 t) i))) t7 ph8) = _ ∧ ∀ y, fC τ y → fC τ' (itr (siI τ0 fs s xs ST SV t) i (d + 1) y)) ∨ (_ ∧ frSi τ0 τ' ∧ ((xo (cH sk L τ) 7 (10 + 2 * q')).bind fun _ => xb (f_ObjectFile_sitesOf F c (10 + 2 * q') (nI i) (cH sk L τ)) fun t7 ph8 => f_Filler_fillSites_57 F c k2 (f_Filler_fillSites_24 F c k2 f) 1710 (nI t) (some (10 + 2 * q')) (nI i) (some (152 + (24 * t + oI (tB fs s.2.2.1 t) i))) t7 ph8) = _))
      rw [e57, eI1]
      rcases z with ⟨z1, z2, z3, z4⟩ | ⟨z1, z2, z3⟩
      · rw [z1, z3, Bool.false_or]
        obtain ⟨τ2, b1, b2⟩ := ih (i + 1) f τ1 (by omega) (by omega) r1 z2
        refine ⟨τ2, b1, ?_⟩
        rcases b2 with ⟨b2, b3, b4, b5⟩ | b2
        · refine Or.inl ⟨b2, b3, b4, fun y hy => ?_⟩
          have eS : siI τ0 fs s xs ST SV t i y = itr (siJ τ0 fs s xs SV t i) 0 (sN (tB fs s.2.2.1 t) i) y := by unfold siI; rw [if_pos cc]
          rw [itr_s, eS]
          exact b5 _ (z4 y hy)
        · exact Or.inr b2
      · rw [z1, z3]
        exact ⟨τ1, r1, Or.inr ⟨by rw [Bool.true_or], z2, rfl⟩⟩
    · rw [if_neg cc]
      have eI0 : ovI SV (tB fs s.2.2.1) (sta (tB fs s.2.2.1) s.2.1.1 on R) t i = false := by
        unfold ovI
        cases e1 : isS (tB fs s.2.2.1 t) i with
        | false => rw [Bool.false_and, Bool.false_and]
        | true =>
          have hoI := (eSit_0 he (isS_1 he e1) hiS e1)
          have e := STr_i hr ht (oI (tB fs s.2.2.1 t) i) (by omega)
          have hST : ST (24 * t + oI (tB fs s.2.2.1 t) i) = false := by cases hh : ST (24 * t + oI (tB fs s.2.2.1 t) i) with | false => rfl | true => exact absurd ⟨e1, hh⟩ cc
          rw [hST] at e
          have hsta : sta (tB fs s.2.2.1) s.2.1.1 on R t (oI (tB fs s.2.2.1 t) i) = false := by
            unfold sta
            unfold kpB at e
            rw [decide_eq_true hoI.1, Bool.true_and] at e
            exact e.symm
          rw [hsta, Bool.true_and, Bool.false_and]
      have kpl := k_placeOf (F := F) (c := c) (i := i) hD.1.1.1.1 (by omega) (hD.1.1.1.2.2.2.1) (by rw [hcb]; omega)
      have e57 : f_Filler_fillSites_57 F c k2 (f_Filler_fillSites_24 F c k2 f) 1710 (nI t) (some (10 + 2 * q')) (nI i) none (nI 0) (cH sk L τ) = f_Filler_fillSites_24 F c k2 f 1710 (nI t) (some (10 + 2 * q')) (nI (i + 1)) (cH sk L τ) := by
        obtain ⟨F', hF'⟩ : ∃ F', F = F' + 1 := ⟨F - 1, by omega⟩
        have e70 : ∀ v, f_Filler_fillSites_70 F c k2 (f_Filler_fillSites_24 F c k2 f) F 1710 (nI t) (some (10 + 2 * q')) (nI i) none (nI 0) v (nI 0) (cH sk L τ) = f_Filler_fillSites_24 F c k2 f 1710 (nI t) (some (10 + 2 * q')) (nI (i + 1)) (cH sk L τ) := fun v => by
          have : f_Filler_fillSites_70 F c k2 (f_Filler_fillSites_24 F c k2 f) F = f_Filler_fillSites_70 F c k2 (f_Filler_fillSites_24 F c k2 f) (F' + 1) := by rw [← hF']
          rw [this]
          unfold f_Filler_fillSites_70 f_Filler_fillSites_130
          rw [if_pos (by decide), nI_add]
        unfold f_Filler_fillSites_57
        rw [bs, c_o hD.1.1.1.1.1, bs, kpl, xb_mk]
        exact e70 _
      show ∃ τ', rF sk L τ' ∧ ((_ ∧ fF τ0 τ' ∧ f_Filler_fillSites_57 F c k2 (f_Filler_fillSites_24 F c k2 f) 1710 (nI t) (some (10 + 2 * q')) (nI i) none (nI 0) (cH sk L τ) = _ ∧ ∀ y, fC τ y → fC τ' (itr (siI τ0 fs s xs ST SV t) i (d + 1) y)) ∨ (_ ∧ frSi τ0 τ' ∧ f_Filler_fillSites_57 F c k2 (f_Filler_fillSites_24 F c k2 f) 1710 (nI t) (some (10 + 2 * q')) (nI i) none (nI 0) (cH sk L τ) = _))
      rw [e57, eI0, Bool.false_or]
      obtain ⟨τ2, b1, b2⟩ := ih (i + 1) f τ (by omega) (by omega) h hfr
      refine ⟨τ2, b1, ?_⟩
      rcases b2 with ⟨b2, b3, b4, b5⟩ | b2
      · refine Or.inl ⟨b2, b3, b4, fun y hy => ?_⟩
        have eS : siI τ0 fs s xs ST SV t i y = y := by unfold siI; rw [if_neg cc]
        rw [itr_s, eS]
        exact b5 y hy
      · exact Or.inr b2
theorem k_fss_2 (hF : 65536 < F) (hr : STr fs s on R ST) (hc : KT c) (hW : WP s.2.2.1.length (tB fs s.2.2.1) s.2.1.1 xs) (hro : RRo s.2.2.1.length (tB fs s.2.2.1) s.2.1.1 xs on R rn0) (hsl : sl = slL s.2.2.1.length (tB fs s.2.2.1) s.2.1.1 xs (sta (tB fs s.2.2.1) s.2.1.1 on R)) (hns : sl.length ≤ 2800) (hSV : SV = svF B tO (tB fs s.2.2.1) s.2.1.1 xs (sta (tB fs s.2.2.1) s.2.1.1 on R) ll sl NA ad sp tp pp) (hL : LAD sk L own τ0 fs s xs ST rn ll sl C B cpf tO th NA pp ad fe3 tp sp fp0 fp1 fp2 bg0 bg1 bg2) : ∀ (d t f : Nat) (τ : px_TT), t + d = s.2.2.1.length → d < f → rF sk L τ → fF τ0 τ → ∃ τ', f_Filler_fillSites_2 F c f 1710 (nI t) (cH sk L τ) = some (bI (!ex1 (ovT SV (tB fs s.2.2.1) (sta (tB fs s.2.2.1) s.2.1.1 on R)) t d), cH sk L τ') ∧ rF sk L τ' ∧ frSi τ0 τ' ∧ (ex1 (ovT SV (tB fs s.2.2.1) (sta (tB fs s.2.2.1) s.2.1.1 on R)) t d = false → fF τ0 τ' ∧ ∀ y, fC τ y → fC τ' (itr (siT τ0 fs s xs ST SV) t d y)) := by
  have hT := BK_T (s := s) hL.1.1.2.2.2.2.1.1
  intro d
  induction d with
  | zero =>
    intro t f τ ht hf h hfr
    obtain ⟨f, rfl⟩ : ∃ x, f = x + 1 := ⟨f - 1, by omega⟩
    have hL1 := LAD_Z hL (frZ_F hfr)
    have hS := hL1.1.1.1
    have hR := hL1.1.1.2.1
    refine ⟨τ, ?_, h, frSi_F hfr, fun _ => ⟨hfr, fun y hy => by rw [itr_0]; exact hy⟩⟩
    unfold f_Filler_fillSites_2 f_Filler_fillSites_142
    rw [C1r0 (G1710 hS) (GR_r (v := 147) hR (by decide)), bs, C3g14 (G147 hS), bs, hL1.1.1.2.2.2.1.2.2.1, if_pos (nI_le (by omega) (by omega))]
    rfl
  | succ d ih =>
    intro t f τ ht hf h hfr
    obtain ⟨f, rfl⟩ : ∃ x, f = x + 1 := ⟨f - 1, by omega⟩
    have hL1 := LAD_Z hL (frZ_F hfr)
    have hS := hL1.1.1.1
    have hR := hL1.1.1.2.1
    have htl : t < s.2.2.1.length := by omega
    obtain ⟨q, hq, _, hD, hcb, he, _⟩ := TKe_ob hL1.1.1 htl
    have kob := k_object (F := F) (c := c) hL1.1.1 hq
    have hS24 := (eObj_0 he).1.1.2.1
    obtain ⟨τ1, r1, z⟩ := k_fss_24 (F := F) (c := c) (k2 := f_Filler_fillSites_2 F c f) (SV := SV) hF hr hc hW hro hsl hns hSV hL hq (oS (tB fs s.2.2.1 t)) 0 F τ (Nat.zero_add _) (by omega) h hfr
    have eT : ovT SV (tB fs s.2.2.1) (sta (tB fs s.2.2.1) s.2.1.1 on R) t = ex1 (ovI SV (tB fs s.2.2.1) (sta (tB fs s.2.2.1) s.2.1.1 on R) t) 0 (oS (tB fs s.2.2.1 t)) := by
      have h0 : ovI SV (tB fs s.2.2.1) (sta (tB fs s.2.2.1) s.2.1.1 on R) t 0 = false := by
        unfold ovI
        have : isS (tB fs s.2.2.1 t) 0 = false := by
          unfold isS
          exact decide_eq_false (fun q => by have := (eObj_g he).1; omega)
        rw [this, Bool.false_and, Bool.false_and]
      obtain ⟨m, hm⟩ : ∃ m, oS (tB fs s.2.2.1 t) = m + 1 := ⟨oS (tB fs s.2.2.1 t) - 1, by omega⟩
      unfold ovT
      rw [hm, ex1_s, h0, Bool.false_or, Nat.add_sub_cancel]
    have e1 : ex1 (ovT SV (tB fs s.2.2.1) (sta (tB fs s.2.2.1) s.2.1.1 on R)) t (d + 1) = (ovT SV (tB fs s.2.2.1) (sta (tB fs s.2.2.1) s.2.1.1 on R) t || ex1 (ovT SV (tB fs s.2.2.1) (sta (tB fs s.2.2.1) s.2.1.1 on R)) (t + 1) d) := ex1_s
    rw [e1, eT]
    unfold f_Filler_fillSites_2
    rw [C1r0 (G1710 hS) (GR_r (v := 147) hR (by decide)), bs, C3g14 (G147 hS), bs, hL1.1.1.2.2.2.1.2.2.1, if_neg (nI_ge htl (by omega)), bs, c_o (G147 hS), bs, kob, xb_mk]
    rcases z with ⟨z1, z2, z3, z4⟩ | ⟨z1, z2, z3⟩
    · rw [z1, z3, Bool.false_or]
      obtain ⟨τ2, b1, b2, b3, b4⟩ := ih (t + 1) f τ1 (by omega) (by omega) r1 z2
      exact ⟨τ2, b1, b2, b3, fun q => ⟨(b4 q).1, fun y hy => by
        have z5 : fC τ1 (siT τ0 fs s xs ST SV t y) := by unfold siT; exact z4 y hy
        rw [itr_s]
        exact (b4 q).2 _ z5⟩⟩
    · rw [z1, z3, Bool.true_or]
      exact ⟨τ1, rfl, r1, z2, fun q => absurd q (by decide)⟩
theorem k_fillSites (hF : 65536 < F) (hr : STr fs s on R ST) (hc : KT c) (hW : WP s.2.2.1.length (tB fs s.2.2.1) s.2.1.1 xs) (hro : RRo s.2.2.1.length (tB fs s.2.2.1) s.2.1.1 xs on R rn0) (hsl : sl = slL s.2.2.1.length (tB fs s.2.2.1) s.2.1.1 xs (sta (tB fs s.2.2.1) s.2.1.1 on R)) (hns : sl.length ≤ 2800) (hSV : SV = svF B tO (tB fs s.2.2.1) s.2.1.1 xs (sta (tB fs s.2.2.1) s.2.1.1 on R) ll sl NA ad sp tp pp) (hL : LAD sk L own τ0 fs s xs ST rn ll sl C B cpf tO th NA pp ad fe3 tp sp fp0 fp1 fp2 bg0 bg1 bg2) (h : rF sk L τ0) : ∃ τ', f_Filler_fillSites F c 1710 (cH sk L τ0) = some (bI (!ex1 (ovT SV (tB fs s.2.2.1) (sta (tB fs s.2.2.1) s.2.1.1 on R)) 0 s.2.2.1.length), cH sk L τ') ∧ rF sk L τ' ∧ frSi τ0 τ' ∧ (ex1 (ovT SV (tB fs s.2.2.1) (sta (tB fs s.2.2.1) s.2.1.1 on R)) 0 s.2.2.1.length = false → fF τ0 τ' ∧ ∀ y, fC τ0 y → fC τ' (itr (siT τ0 fs s xs ST SV) 0 s.2.2.1.length y)) := by
  have hT := BK_T (s := s) hL.1.1.2.2.2.2.1.1
  exact k_fss_2 hF hr hc hW hro hsl hns hSV hL s.2.2.1.length 0 F τ0 (Nat.zero_add _) (by omega) h frRw_refl
end CFV
end
section
/-! how many bytes the link's file has -/
section CSZ
theorem wP1_z {n : Nat} {b : Int32} {w : px_FW} (h : w.1 < n) : (wP1 n b w).1 = w.1 + 1 := by
  unfold wP1
  rw [if_neg (by omega)]
theorem wPi_z {n : Nat} {v : Int64} : ∀ (k j : Nat) (w : px_FW), w.1 + k ≤ n → (itr (fun j => wP1 n (bV v j)) j k w).1 = w.1 + k := by
  intro k
  induction k with
  | zero => intro j w _; rw [itr_0]; rfl
  | succ k ih =>
    intro j w h
    have h1 := wP1_z (n := n) (b := bV v j) (w := w) (by omega)
    rw [itr_s, ih (j + 1) _ (by rw [h1]; omega), h1]
    omega
theorem wPut_z {n k : Nat} {v : Int64} {w : px_FW} (h : w.1 + k ≤ n) : (wPut n k v w).1 = w.1 + k := wPi_z k 0 w h
theorem itr_z {g : Nat → px_FW → px_FW} (hg : ∀ i w, (g i w).1 = w.1) : ∀ (d i : Nat) (w : px_FW), (itr g i d w).1 = w.1 := by
  intro d
  induction d with
  | zero => intro i w; rw [itr_0]
  | succ d ih => intro i w; rw [itr_s, ih, hg]
theorem wS1_z {p b : Int32} {w : px_FW} : (wS1 p b w).1 = w.1 := by
  unfold wS1
  split
  · rfl
  · split <;> rfl
theorem wSet_z {p : Int32} {k : Nat} {v : Int64} {w : px_FW} : (wSet p k v w).1 = w.1 := itr_z (fun _ _ => wS1_z) k 0 w
theorem wCov_z {S : Nat → Int32} {N : Nat} {p q m : Int32} {w : px_FW} : (wCov S N p q m w).1 = w.1 := by
  unfold wCov
  split
  · rfl
  · split
    · rfl
    · split
      · rfl
      · split <;> rfl
theorem wFil_z {e : Nat} {b : Int32} {w : px_FW} (h : w.1 ≤ e) : (wFil e b w).1 = e := by
  unfold wFil
  split
  · omega
  · rfl
theorem pT_z : ∀ (l : List (Nat × Int64)) (w : px_FW), w.1 + (l.map Prod.fst).sum ≤ 65536 → (pT l w).1 = w.1 + (l.map Prod.fst).sum
  | [], w, _ => by rw [pT_n]; rfl
  | (k, v) :: l, w, h => by
    rw [List.map_cons, List.sum_cons] at h ⊢
    have h1 := wPut_z (n := 65536) (k := k) (v := v) (w := w) (by omega)
    rw [pT_c, pT_z l _ (by rw [h1]; omega), h1]
    omega
theorem pu_z {f : Nat → Int64} : ∀ (d i : Nat) (w : px_FW), w.1 + d ≤ 65536 → (itr (fun i => wPut 65536 1 (f i)) i d w).1 = w.1 + d := by
  intro d
  induction d with
  | zero => intro i w _; rw [itr_0]; rfl
  | succ d ih =>
    intro i w h
    have h1 := wPut_z (n := 65536) (k := 1) (v := f i) (w := w) (by omega)
    rw [itr_s, ih (i + 1) _ (by rw [h1]; omega), h1]
    omega
theorem hdW_z {v : Int64} {sg b : Int32} {g : Nat → Int32} : (hdW v sg b (0, g)).1 = 64 := by
  unfold hdW
  have e1 := pu_z (f := fun i => (nI ([127, 69, 76, 70, 2, 1, 1].getD i 0)).toInt64) 7 0 (0, g) (by show 0 + 7 ≤ 65536; decide)
  have e1 : (itr (fun i => wPut 65536 1 ((nI ([127, 69, 76, 70, 2, 1, 1].getD i 0)).toInt64)) 0 7 (0, g)).1 = 7 := e1
  generalize itr (fun i => wPut 65536 1 ((nI ([127, 69, 76, 70, 2, 1, 1].getD i 0)).toInt64)) 0 7 (0, g) = w1 at *
  have e2 := wFil_z (e := 16) (b := (nI 0).toInt8.toInt32.toInt8.toInt32) (w := w1) (by omega)
  generalize wFil 16 (nI 0).toInt8.toInt32.toInt8.toInt32 w1 = w2 at *
  have s3 : (([(2, (2 : Int64)), (2, (62 : Int64)), (4, lN 1)] : List (Nat × Int64)).map Prod.fst).sum = 8 := rfl
  have e3 := pT_z [(2, (2 : Int64)), (2, (62 : Int64)), (4, lN 1)] w2 (by rw [s3]; omega)
  rw [s3] at e3
  generalize pT [(2, (2 : Int64)), (2, (62 : Int64)), (4, lN 1)] w2 = w3 at *
  have s4 : ((hdL v sg b).map Prod.fst).sum = 40 := rfl
  have e4 := pT_z (hdL v sg b) w3 (by rw [s4]; omega)
  rw [s4] at e4
  omega
theorem rwL_z {τ : px_TT} {a b : Int32} {j : Nat} {v : Int64} {w : px_FW} (h : w.1 + 56 ≤ 65536) : (pT (rwL τ a b j v) w).1 = w.1 + 56 := by
  have s4 : ((rwL τ a b j v).map Prod.fst).sum = 56 := rfl
  have e4 := pT_z (rwL τ a b j v) w (by rw [s4]; exact h)
  rw [s4] at e4
  exact e4
theorem rsW_z {τ : px_TT} {j : Nat} {t : Bool} {w : px_FW} (e : eI τ 1703 j = bI t) (h : w.1 + 56 ≤ 65536) : (rsW τ j w).1 = w.1 + (if t = true then 56 else 0) := by
  unfold rsW
  rw [e]
  cases t with
  | false => rw [if_pos (show bI false = 0 from rfl), if_neg (by decide)]; rfl
  | true => rw [if_neg (show ¬ bI true = 0 by decide), if_pos rfl, rwL_z h]
theorem tmW_z {τ : px_TT} {t : Bool} {w : px_FW} (e : eI τ 1703 3 = bI t) (h : w.1 + 56 ≤ 65536) : (tmW τ w).1 = w.1 + (if t = true then 56 else 0) := by
  unfold tmW
  rw [e]
  cases t with
  | false => rw [if_pos (show bI false = 0 from rfl), if_neg (by decide)]; rfl
  | true => rw [if_neg (show ¬ bI true = 0 by decide), if_pos rfl, rwL_z h]
theorem if56 (t : Bool) : ∃ n : Nat, n ≤ 1 ∧ (if t = true then (1 : Nat) else 0) = n ∧ (if t = true then (56 : Nat) else 0) = 56 * n := by
  cases t with
  | false => exact ⟨0, by decide, rfl, rfl⟩
  | true => exact ⟨1, by decide, rfl, rfl⟩
theorem rs3_z {τ : px_TT} {th : Nat → Bool} {w : px_FW} (e : ∀ j, j < 3 → eI τ 1703 j = bI (th j)) (h : w.1 = 64) : (itr (rsW τ) 0 3 w).1 = 64 + 56 * sgN th 3 := by
  obtain ⟨n0, l0, a0, c0⟩ := if56 (th 0)
  obtain ⟨n1, l1, a1, c1⟩ := if56 (th 1)
  obtain ⟨n2, l2, a2, c2⟩ := if56 (th 2)
  have hs : sgN th 3 = 0 + (if th 0 = true then 1 else 0) + (if th 1 = true then 1 else 0) + (if th 2 = true then 1 else 0) := rfl
  rw [a0, a1, a2] at hs
  rw [itr_s, itr_s, itr_s, itr_0]
  have e0 := rsW_z (w := w) (e 0 (by decide)) (by omega)
  rw [c0] at e0
  generalize rsW τ 0 w = w0 at *
  have e1 := rsW_z (w := w0) (e 1 (by decide)) (by omega)
  rw [c1] at e1
  have e1 : (rsW τ (0 + 1) w0).1 = w0.1 + 56 * n1 := e1
  generalize rsW τ (0 + 1) w0 = w1 at *
  have e2 := rsW_z (w := w1) (e 2 (by decide)) (by omega)
  rw [c2] at e2
  have e2 : (rsW τ (0 + 1 + 1) w1).1 = w1.1 + 56 * n2 := e2
  rw [e2, hs]
  omega
theorem foldl_z {f : px_FW → Nat → px_FW} (hf : ∀ w x, (f w x).1 = w.1) : ∀ (l : List Nat) (w : px_FW), (l.foldl f w).1 = w.1
  | [], _ => rfl
  | x :: l, w => by rw [List.foldl_cons, foldl_z hf l, hf]
theorem seW_z {τ : px_TT} {fs : px_FS} {s : px_TK} {w : px_FW} {x : Nat} : (seW τ fs s w x).1 = w.1 := by
  unfold seW
  split
  · rfl
  · split
    · rfl
    · split
      · exact wCov_z
      · rfl
theorem plW_z {S P Lg : Nat → Int32} : ∀ (d k : Nat) (p : Int32) (w : px_FW), (plW S P Lg d k p w).1 = w.1 := by
  intro d
  induction d with
  | zero => intro k p w; rw [plW_0]
  | succ d ih => intro k p w; rw [plW_s, ih, wCov_z]
theorem psW_z {τ : px_TT} {SY : Nat → Nat → Int64} {tp : Nat} {sl : List Nat} {np : Nat} {w : px_FW} : (psW τ SY tp sl np w).1 = w.1 := by
  unfold psW slW
  rw [itr_z (fun _ _ => wSet_z), plW_z]
/-- the file before its sites are filled -/
theorem wrW_z {τ : px_TT} {fs : px_FS} {s : px_TK} {v : Int64} {SY : Nat → Nat → Int64} {tp fe3 : Nat} {ll sl : List Nat} {np : Nat} {g : Nat → Int32} {sg : Nat} {th : Nat → Bool} {t : Bool} (e : ∀ j, j < 3 → eI τ 1703 j = bI (th j)) (e3 : eI τ 1703 3 = bI t) (h : 64 + 56 * sgN th 3 + (if t = true then 56 else 0) ≤ fe3) : (wrW τ fs s v sg SY tp fe3 ll sl np g).1 = fe3 := by
  unfold wrW
  rw [psW_z, foldl_z (fun _ _ => seW_z)]
  have h1 := hdW_z (v := v) (sg := nI sg) (b := if eI τ 1703 3 = 0 then nI 0 else nI 1) (g := g)
  generalize hdW v (nI sg) (if eI τ 1703 3 = 0 then nI 0 else nI 1) (0, g) = w1 at *
  have h2 := rs3_z e h1
  generalize itr (rsW τ) 0 3 w1 = w2 at *
  have hs := sgN_le (th := th) 3
  have h3 := tmW_z (w := w2) e3 (by omega)
  rw [h2] at h3
  generalize tmW τ w2 = w3 at *
  exact wFil_z (by rw [h3]; exact h)
theorem siW_z {p : Int32} {H Lv K : Nat} {v : Int64} {y : px_FW} : (siW p H Lv K v y).1 = y.1 := by
  unfold siW
  split
  · rfl
  · split
    · exact wSet_z
    · unfold shW
      split
      · rw [wSet_z, wSet_z, wSet_z]
      · split
        · rw [wSet_z, wSet_z]
        · rw [wSet_z, wSet_z]
theorem siJ_z {τ : px_TT} {fs : px_FS} {s : px_TK} {xs : px_NL} {SV : Nat → Nat → Nat → Int64} {t i j : Nat} {y : px_FW} : (siJ τ fs s xs SV t i j y).1 = y.1 := by
  unfold siJ
  rw [siW_z]
theorem siI_z {τ : px_TT} {fs : px_FS} {s : px_TK} {xs : px_NL} {ST : Nat → Bool} {SV : Nat → Nat → Nat → Int64} {t i : Nat} {y : px_FW} : (siI τ fs s xs ST SV t i y).1 = y.1 := by
  unfold siI
  split
  · exact itr_z (g := siJ τ fs s xs SV t i) (fun j w => siJ_z) (sN (tB fs s.2.2.1 t) i) 0 y
  · rfl
theorem siT1_z {τ : px_TT} {fs : px_FS} {s : px_TK} {xs : px_NL} {ST : Nat → Bool} {SV : Nat → Nat → Nat → Int64} {t : Nat} {y : px_FW} : (siT τ fs s xs ST SV t y).1 = y.1 := by
  unfold siT
  exact itr_z (g := siI τ fs s xs ST SV t) (fun j w => siI_z) (oS (tB fs s.2.2.1 t)) 0 y
theorem siT_z {τ : px_TT} {fs : px_FS} {s : px_TK} {xs : px_NL} {ST : Nat → Bool} {SV : Nat → Nat → Nat → Int64} {d i : Nat} {y : px_FW} : (itr (siT τ fs s xs ST SV) i d y).1 = y.1 := itr_z (g := siT τ fs s xs ST SV) (fun j w => siT1_z) d i y
theorem if4 {b : Bool} {a : Nat} (e : a = if b = true then 4 else 0) (h : a = 0) : b = false := by
  cases b with
  | false => rfl
  | true => rw [if_pos rfl] at e; omega
end CSZ
end
section
/-! a link of the class, whole -/
section PRF
variable {fs : px_FS} {gs : List (List Nat × Int64)} {ws : List (List Nat)} {s : px_TK}
/-- what is known of names when none is left -/
theorem LN_f (hf : FSo fs) (hgl : gs.length ≤ 16) (hwl : ws.length ≤ 16) (hs : s = taL fs (xs0 gs ws) (od0 gs)) (h0 : s.1.1 = 0) : xsN s = ownL s.1.2.1 ∧ WK fs s ∧ WP s.2.2.1.length (tB fs s.2.2.1) s.2.1.1 (xsN s) ∧ AL cmP (xsN s) ∧ AL cmQ (xsN s) ∧ AL (fun x => x.2.1 = 4 → 1 ≤ x.2.2.2.1 ∧ x.2.2.2.1 ≤ 4) (xsN s) ∧ (∀ d, d ∈ s.1.2.2.1 → d < (xsN s).length) ∧ ∀ d, stN (xsN s) d = 2 → d ∈ s.1.2.2.1 := by
  obtain ⟨hst0, _⟩ := ST0_xs (gs := gs) (ws := ws) hgl hwl
  have hxs : xsN s = ownL s.1.2.1 := by unfold xsN; rw [if_pos h0]
  have hWK : WK fs s := by rw [hs]; exact WK_0 hf hst0
  have h3 : AL (fun x => x.2.1 ≤ 3) s.1.2.1 := by
    rw [hs]
    exact TK_inv (P := fun s => AL (fun x => x.2.1 ≤ 3) s.2.1) le3_tk hf (fun i x hx => by
      have := (hst0.1 i x hx).2.1.2
      omega)
  have hle : (ownL s.1.2.1).length = s.1.2.1.length := by rw [← List.length_map (f := Prod.fst), ownL_fst, List.length_map]
  refine ⟨hxs, hWK, ?_, ?_, ?_, ?_, ?_, ?_⟩
  · rw [hxs]; exact WP_own (WP_of hWK)
  · rw [hxs]
    refine AL_own (fun k hk x _ hp => ⟨fun e => absurd (show (4 : Nat) = 2 from e) (by decide), hk⟩) ?_
    rw [hs]; exact cmP_0 hf hst0
  · rw [hxs, hs]; exact cmQ_0 hf hst0
  · rw [hxs]; exact ownL_ge h3
  · intro d hd; rw [hxs, hle]; exact hWK.2.2.2.2 d hd
  · intro d hd
    rw [hxs] at hd
    exact odT_own (s := s.1) (by rw [hs]; exact odT_0 hf) d (Or.inr (Or.inl hd))
theorem anN_0 {xs : px_NL} (h : anN fs ws s xs = 0) : s.1.1 = 0 := by
  unfold anN at h
  by_cases c : s.1.1 = 0
  · exact c
  · rw [if_neg c] at h; exact h
theorem anN_2 {xs : px_NL} (h : s.1.1 ≤ 2) : anN fs ws s xs ≤ 2 := by
  unfold anN
  split
  · split <;> omega
  · exact h
/-- the bytes of the files, as the reference has them -/
def BFs (fs : px_FS) (B : Nat → Nat) : Prop := ∀ q o n b, obAt fs q = some (o, n, b, false) → o + n ≤ 65536 ∧ ∀ x, x < n → B (o + x) = b x
end PRF
section CRN
variable {F : Nat} {c : px_CT} {sk : Nat → Nat × Nat × Nat} {L : Nat} {τ : px_TT} {own : Nat → Nat × Nat} {fs : px_FS} {s : px_TK} {xs : px_NL} {ST rn : Nat → Bool} {C B : Nat → Nat} {ll : List Nat} {gs : List (List Nat × Int64)} {ws : List (List Nat)} {k : Nat} {rc : Bool} {R : Nat → Bool}
theorem CBR_of (h : TKe sk L own τ fs s xs ST rn) (hl : llS2 s ST ll) (hk : STk fs s ST) (hb : CB τ C) (hB : BFs fs B) : CBR C B (cAd fs s.2.2.1 (tB fs s.2.2.1)) (tOf fs s.2.2.1) (tB fs s.2.2.1) ll := fun x hx hs => by
  obtain ⟨hx1, hx2⟩ := hl.2 x hx
  have ht : x / 24 < s.2.2.1.length := by omega
  obtain ⟨q, hq⟩ : ∃ q, s.2.2.1[x / 24]? = some q := ⟨_, List.getElem?_eq_getElem ht⟩
  obtain ⟨o, n, b, hob⟩ := (h.2.2.2.2.1.1.2.2.2.2.2.2 q (List.mem_of_getElem? hq)).2
  have eT : obT fs s.2.2.1 (x / 24) = (o, n, b, false) := by unfold obT; rw [hq]; show (obAt fs q).getD _ = _; rw [hob]; rfl
  have eo : tOf fs s.2.2.1 (x / 24) = o := by unfold tOf; rw [eT]
  have eb : tB fs s.2.2.1 (x / 24) = b := by unfold tB; rw [eT]
  have en : tNf fs s.2.2.1 (x / 24) = n := by unfold tNf; rw [eT]
  obtain ⟨q', hq', _, hD, hcb, he, _⟩ := TKe_ob h ht
  have eq : q' = q := Option.some.inj (hq'.symm.trans hq)
  subst eq
  rw [en, eb] at hcb he
  have hi24 : x % 24 < oS b := by have := (TKe_pt h hk hx1 hx2).2.2.2.2.2; rw [eb] at this; exact this
  have hs' : oStr b (x % 24) = true := by unfold sS at hs; rw [eb] at hs; exact hs
  have hs0 : oStr0 b (x % 24) = true := by unfold oStr at hs'; rw [Bool.and_eq_true] at hs'; exact hs'.1
  have hs1 := of_decide_eq_true hs0
  have hin := oK_in (eObj_0 he).1.1 hi24 hs1.1 hs1.2.1
  have hn16 : bsO fs q' + n ≤ 65536 := by have := hD.1.1.1.1.2.2.2.2.2.2.2.2.1; rw [en] at this; exact this
  obtain ⟨b1, b2⟩ := hB q' o n b hob
  have eA : cAd fs s.2.2.1 (tB fs s.2.2.1) x = bsO fs q' + oP b (x % 24) := by unfold cAd; rw [eb, List.getD_eq_getElem?_getD, hq]; rfl
  have eP : pS (tOf fs s.2.2.1) (tB fs s.2.2.1) x = o + oP b (x % 24) := by unfold pS; rw [eo, eb]
  have eZ : zS (tB fs s.2.2.1) x = oZ b (x % 24) := by unfold zS; rw [eb]
  rw [eA, eP, eZ]
  have hCb : ∀ y, y < n → C (bsO fs q' + y) = b y := fun y hy => by rw [hb.2, ← hcb, cb_at hy]
  refine ⟨by omega, by omega, fun i hi => ?_, ?_⟩
  · rw [Nat.add_assoc, hCb _ (by omega), Nat.add_assoc, b2 _ (by omega)]
  · rw [Nat.add_assoc, b2 _ (by omega), show oP b (x % 24) + (oZ b (x % 24) - 1) = oP b (x % 24) + oZ b (x % 24) - 1 by omega]
    exact hs1.2.2.2.2.2
/-- OUT and the draft, and the other rows -/
def ROk (sk : Nat → Nat × Nat × Nat) (L : Nat) (τ : px_TT) : Prop := (∃ ro rd, ((ro = 3 ∧ rd = 5) ∨ (ro = 5 ∧ rd = 3)) ∧ fN τ 0 1 = some ro ∧ fN τ 0 2 = some rd) ∧ rowOK sk L τ 3 4 65536 ∧ rowOK sk L τ 5 6 65536 ∧ rowOK sk L τ 1711 1712 65536 ∧ rowOK sk L τ 1714 1715 1536 ∧ rowOK sk L τ 1719 1720 65536
theorem rowOK_fx {τ' : px_TT} {r A n : Nat} {sk' : Nat → Nat × Nat × Nat} {L' : Nat} (h : rowOK sk L τ r A n) (e : EX sk L sk' L') (h0 : fN τ' r 0 = fN τ r 0) (h1 : fI τ' r 1 = fI τ r 1) (h2 : fI τ' r 2 = fI τ r 2) (hA : eI τ' A = eI τ A) : rowOK sk' L' τ' r A n := by
  obtain ⟨a1, a2, a3, a4, ⟨z, z1, z2⟩, ⟨b, b1⟩, a7⟩ := h
  exact ⟨ob_ex a1 e, ar_ex a2 e, a3, h0.trans a4, ⟨z, z1, h1.trans z2⟩, ⟨b, h2.trans b1⟩, by rw [hA]; exact a7⟩
theorem ROk_fx {τ' : px_TT} {sk' : Nat → Nat × Nat × Nat} {L' : Nat} (h : ROk sk L τ) (e : EX sk L sk' L') (hN0 : ∀ k, fN τ' 0 k = fN τ 0 k) (hN : ∀ a k, (a = 3 ∨ a = 5 ∨ 1711 ≤ a ∧ a < 1726) → fN τ' a k = fN τ a k) (hI : ∀ a k, (a = 3 ∨ a = 5 ∨ 1711 ≤ a ∧ a < 1726) → fI τ' a k = fI τ a k) (hE : ∀ a, (a = 4 ∨ a = 6 ∨ 1711 ≤ a ∧ a < 1726) → eI τ' a = eI τ a) : ROk sk' L' τ' := by
  obtain ⟨⟨ro, rd, r1, r2, r3⟩, h3, h5, h11, h14, h19⟩ := h
  exact ⟨⟨ro, rd, r1, (hN0 1).trans r2, (hN0 2).trans r3⟩, rowOK_fx h3 e (hN _ _ (by omega)) (hI _ _ (by omega)) (hI _ _ (by omega)) (hE _ (by omega)), rowOK_fx h5 e (hN _ _ (by omega)) (hI _ _ (by omega)) (hI _ _ (by omega)) (hE _ (by omega)), rowOK_fx h11 e (hN _ _ (by omega)) (hI _ _ (by omega)) (hI _ _ (by omega)) (hE _ (by omega)), rowOK_fx h14 e (hN _ _ (by omega)) (hI _ _ (by omega)) (hI _ _ (by omega)) (hE _ (by omega)), rowOK_fx h19 e (hN _ _ (by omega)) (hI _ _ (by omega)) (hI _ _ (by omega)) (hE _ (by omega))⟩
/-- a row is written: the rows stay -/
theorem ROk_Rw {τ' : px_TT} {r A n : Nat} (h : ROk sk L τ) (f : frRw r A τ τ') (hr : rowOK sk L τ' r A n) (hc : (r = 3 ∧ A = 4 ∧ n = 65536) ∨ (r = 5 ∧ A = 6 ∧ n = 65536) ∨ (r = 1711 ∧ A = 1712 ∧ n = 65536) ∨ (r = 1714 ∧ A = 1715 ∧ n = 1536) ∨ (r = 1719 ∧ A = 1720 ∧ n = 65536)) : ROk sk L τ' := by
  obtain ⟨⟨ro, rd, r1, r2, r3⟩, h3, h5, h11, h14, h19⟩ := h
  have ot : ∀ {r' A' n' : Nat}, rowOK sk L τ r' A' n' → r' ≠ r → A' ≠ A → rowOK sk L τ' r' A' n' := fun hh h1 h2 => rowOK_fx hh EX_refl (f.2.2.1 _ _) (f.1 _ _ (Or.inl h1)) (f.1 _ _ (Or.inl h1)) (f.2.2.2.1 _ h2)
  refine ⟨⟨ro, rd, r1, (f.2.2.1 _ _).trans r2, (f.2.2.1 _ _).trans r3⟩, ?_⟩
  rcases hc with ⟨e1, e2, e3⟩ | ⟨e1, e2, e3⟩ | ⟨e1, e2, e3⟩ | ⟨e1, e2, e3⟩ | ⟨e1, e2, e3⟩ <;> (subst e1 e2 e3)
  · exact ⟨hr, ot h5 (by decide) (by decide), ot h11 (by decide) (by decide), ot h14 (by decide) (by decide), ot h19 (by decide) (by decide)⟩
  · exact ⟨ot h3 (by decide) (by decide), hr, ot h11 (by decide) (by decide), ot h14 (by decide) (by decide), ot h19 (by decide) (by decide)⟩
  · exact ⟨ot h3 (by decide) (by decide), ot h5 (by decide) (by decide), hr, ot h14 (by decide) (by decide), ot h19 (by decide) (by decide)⟩
  · exact ⟨ot h3 (by decide) (by decide), ot h5 (by decide) (by decide), ot h11 (by decide) (by decide), hr, ot h19 (by decide) (by decide)⟩
  · exact ⟨ot h3 (by decide) (by decide), ot h5 (by decide) (by decide), ot h11 (by decide) (by decide), ot h14 (by decide) (by decide), hr⟩
/-- OUT's row -/
theorem ROk_out (h : ROk sk L τ) : ∃ ro, (ro = 3 ∨ ro = 5) ∧ fN τ 0 1 = some ro ∧ rowOK sk L τ ro (ro + 1) 65536 := by
  obtain ⟨⟨ro, rd, r1, r2, r3⟩, h3, h5, _⟩ := h
  rcases r1 with ⟨e, _⟩ | ⟨e, _⟩
  · subst e; exact ⟨3, Or.inl rfl, r2, h3⟩
  · subst e; exact ⟨5, Or.inr rfl, r2, h5⟩
theorem ROk_dr (h : ROk sk L τ) : ∃ rd, (rd = 3 ∨ rd = 5) ∧ fN τ 0 2 = some rd ∧ rowOK sk L τ rd (rd + 1) 65536 := by
  obtain ⟨⟨ro, rd, r1, r2, r3⟩, h3, h5, _⟩ := h
  rcases r1 with ⟨_, e⟩ | ⟨_, e⟩
  · subst e; exact ⟨5, Or.inr rfl, r3, h5⟩
  · subst e; exact ⟨3, Or.inl rfl, r3, h3⟩
/-- what a link's end writes: its answer, OUT -/
def frE3 (τ τ' : px_TT) : Prop := frZ τ τ' ∧ (∀ a, (a = 1 ∨ a = 2 ∨ 1711 ≤ a) → (∀ k, fI τ' a k = fI τ a k) ∧ (∀ k, fJ τ' a k = fJ τ a k) ∧ eI τ' a = eI τ a ∧ eJ τ' a = eJ τ a ∧ eN τ' a = eN τ a) ∧ (∀ k, fN τ' 0 k = fN τ 0 k) ∧ (∀ k, fI τ' 0 k = fI τ 0 k)
theorem frE3_Rw {τ' : px_TT} {r : Nat} (f : frRw r (r + 1) τ τ') (hr : r = 3 ∨ r = 5) : frE3 τ τ' := ⟨frZ_Rw f (by unfold Zc; omega) (by unfold Zc; omega), fun a ha => ⟨fun k => f.1 a k (Or.inl (by omega)), fun k => f.2.1 a k, f.2.2.2.1 a (by omega), f.2.2.2.2.1 a, f.2.2.2.2.2 a⟩, fun k => f.2.2.1 0 k, fun k => f.1 0 k (Or.inl (by omega))⟩
theorem frE3_trans {τ1 τ2 : px_TT} (h : frE3 τ τ1) (g : frE3 τ1 τ2) : frE3 τ τ2 := ⟨frZ_trans h.1 g.1, fun a ha => ⟨fun k => ((g.2.1 a ha).1 k).trans ((h.2.1 a ha).1 k), fun k => ((g.2.1 a ha).2.1 k).trans ((h.2.1 a ha).2.1 k), (g.2.1 a ha).2.2.1.trans (h.2.1 a ha).2.2.1, (g.2.1 a ha).2.2.2.1.trans (h.2.1 a ha).2.2.2.1, (g.2.1 a ha).2.2.2.2.trans (h.2.1 a ha).2.2.2.2⟩, fun k => (g.2.2.1 k).trans (h.2.2.1 k), fun k => (g.2.2.2 k).trans (h.2.2.2 k)⟩
theorem k_rl_63 {a : Nat} (hF : 65536 < F) (hS : GS sk L) (hR : GR τ) (hro : ROk sk L τ) (hbl : BL sk L τ) (ha : a ≤ 4) : ∃ τ', f_H_runLink_63 F c 0 (nI a) (cH sk L τ) = some (nI a, cH sk L τ') ∧ fI τ' 147 18 = nI a ∧ ROk sk L τ' ∧ frE3 τ τ' := by
  obtain ⟨τ1, hτ1⟩ : ∃ y, y = tI τ 147 18 (nI a) := ⟨_, rfl⟩
  have f1 : frE3 τ τ1 := by
    rw [hτ1]
    exact ⟨frZ_I (Or.inr (Or.inr (Or.inr (Or.inr ⟨rfl, rfl⟩)))), fun x hx => ⟨fun k => tI_ne (Or.inl (by omega)), fun _ => rfl, rfl, rfl, rfl⟩, fun _ => rfl, fun k => tI_ne (Or.inl (by decide))⟩
  have hR1 := GR_Z hR f1.1
  have hro1 : ROk sk L τ1 := ROk_fx hro EX_refl (fun k => f1.2.2.1 k) (fun x k _ => by rw [hτ1]; rfl) (fun x k hx => by rw [hτ1]; exact tI_ne (Or.inl (by omega))) (fun x _ => by rw [hτ1]; rfl)
  have h18 : fI τ1 147 18 = nI a := by rw [hτ1, tI_at]
  obtain ⟨ro, hro2, hN1, hrow⟩ := ROk_out hro1
  obtain ⟨τ2, b1, b2, b3⟩ := k_clearS (F := F) (c := c) hrow
  have hR2 := GR_Rw hR1 b3 (by omega)
  have hro3 := ROk_Rw hro1 b3 b2 (by omega)
  have f2 := frE3_trans f1 (frE3_Rw b3 hro2)
  have hN2 : fN τ2 0 1 = some ro := (b3.2.2.1 0 1).trans hN1
  have e18 : ∀ {τ3 : px_TT}, frRw ro (ro + 1) τ2 τ3 → fI τ3 147 18 = nI a := fun f => by rw [f.1 _ _ (Or.inl (by omega)), b3.1 _ _ (Or.inl (by omega))]; exact h18
  have hob := hrow.1
  unfold f_H_runLink_63 f_H_runLink_139
  rw [C0r11 (G0 hS) (GR_r (v := 147) hR (by decide)), bs, C3p18 (G147 hS), bs, ← hτ1]
  by_cases c0 : a = 0
  · rw [if_pos (show nI a = 0 by rw [c0]; rfl)]
    obtain ⟨τ3, d1, d2, d3⟩ := k_copyS (F := F) (c := c) (q := nI 0) (m := fI τ2 1711 1) (G1712 hS) (by decide) (hro3.2.2.2.1.2.2.2.2.2.2) b2
    refine ⟨τ3, ?_, e18 d3, ROk_Rw hro3 d3 d2 (by omega), frE3_trans f2 (frE3_Rw d3 hro2)⟩
    rw [C0r1 (G0 hS) hN1, bs, c_o hob, bs, b1, xb_mk, C0r1 (G0 hS) hN2, bs, C0r14 (G0 hS) (GR_r (v := 1710) hR2 (by decide)), bs, C1r4 (G1710 hS) (GR_r (v := 1711) hR2 (by decide)), bs, C10r0 (G1711 hS) (GR_r (v := 1712) hR2 (by decide)), bs, bs, C1r4 (G1710 hS) (GR_r (v := 1711) hR2 (by decide)), bs, C10g1 (G1711 hS), bs, c_o hob, bs, d1, xb_mk]
  · rw [if_neg (show ¬ nI a = 0 from fun e => c0 ((nI_eq (b := 0) (by omega) (by decide)).mp e))]
    by_cases c3 : 3 ≤ a
    · rw [if_pos (nI_le c3 (by omega))]
      exact ⟨τ1, rfl, h18, hro1, f1⟩
    · rw [if_neg (nI_ge (by omega) (by decide))]
      obtain ⟨p, w, p1, p2, p3, p4⟩ := hbl
      have p1' : fN τ2 147 13 = some p := by rw [b3.2.2.1, hτ1]; exact p1
      obtain ⟨τ3, d1, d2, d3⟩ := k_writeToS (F := F) (c := c) (by omega) p2 b2
      refine ⟨τ3, ?_, e18 d3, ROk_Rw hro3 d3 d2 (by omega), frE3_trans f2 (frE3_Rw d3 hro2)⟩
      rw [C0r1 (G0 hS) hN1, bs, c_o hob, bs, b1, xb_mk, C0r11 (G0 hS) (GR_r (v := 147) hR2 (by decide)), bs, C3n13 (G147 hS), bs, C0r1 (G0 hS) hN2, bs, p1', bs, c_o p2, bs, d1, xb_mk]
end CRN
end
