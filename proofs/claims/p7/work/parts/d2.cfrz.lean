/-! what calls write besides what a link reads -/
def Zc (a : Nat) : Prop := (1 ≤ a ∧ a < 7) ∨ a = 146 ∨ a = 1695 ∨ (1711 ≤ a ∧ a ≤ 1725)
def frZ (τ τ' : px_TT) : Prop := (∀ a k, ¬ Zc a → (a = 0 → k < 15) → (1815 ≤ a → k ≠ 17) → (152 ≤ a → a < 1688 → k ≠ 12) → (a = 147 → k ≠ 18) → fI τ' a k = fI τ a k) ∧ (∀ a k, ¬ Zc a → (a = 147 → k ≠ 19) → fJ τ' a k = fJ τ a k) ∧ (∀ a k, (a = 0 → k ≠ 1 ∧ k ≠ 2) → fN τ' a k = fN τ a k) ∧ (∀ a, ¬ Zc a → eI τ' a = eI τ a) ∧ (∀ a, ¬ Zc a → eJ τ' a = eJ τ a) ∧ ∀ a, a ≠ 1717 → eN τ' a = eN τ a
theorem frZ_refl {τ : px_TT} : frZ τ τ := ⟨fun _ _ _ _ _ _ _ => rfl, fun _ _ _ _ => rfl, fun _ _ _ => rfl, fun _ _ => rfl, fun _ _ => rfl, fun _ _ => rfl⟩
theorem frZ_trans {τ τ1 τ2 : px_TT} (h : frZ τ τ1) (g : frZ τ1 τ2) : frZ τ τ2 := ⟨fun a k x y z w u => (g.1 a k x y z w u).trans (h.1 a k x y z w u), fun a k x y => (g.2.1 a k x y).trans (h.2.1 a k x y), fun a k x => (g.2.2.1 a k x).trans (h.2.2.1 a k x), fun a x => (g.2.2.2.1 a x).trans (h.2.2.2.1 a x), fun a x => (g.2.2.2.2.1 a x).trans (h.2.2.2.2.1 a x), fun a x => (g.2.2.2.2.2 a x).trans (h.2.2.2.2.2 a x)⟩
theorem frZ_Rw {r A : Nat} {τ τ' : px_TT} (f : frRw r A τ τ') (hr : Zc r) (hA : Zc A) : frZ τ τ' := ⟨fun a k h _ _ _ _ => f.1 a k (Or.inl (fun e => h (e ▸ hr))), fun a k _ _ => f.2.1 a k, fun a k _ => f.2.2.1 a k, fun a h => f.2.2.2.1 a (fun e => h (e ▸ hA)), fun a _ => f.2.2.2.2.1 a, fun a _ => f.2.2.2.2.2 a⟩
theorem frZ_N {a : Nat} {τ τ' : px_TT} (f : frN a τ τ') (ha : Zc a) : frZ τ τ' := ⟨fun x k h _ _ _ _ => f.1 x k (Or.inl (fun e => h (e ▸ ha))), fun x k h _ => f.2.1 x k (Or.inl (fun e => h (e ▸ ha))), fun x k _ => f.2.2.1 x k, fun x _ => f.2.2.2.1 x, fun x _ => f.2.2.2.2.1 x, fun x _ => f.2.2.2.2.2 x⟩
theorem frZ_I {τ : px_TT} {a k : Nat} {v : Int32} (h : Zc a ∨ (a = 0 ∧ 15 ≤ k) ∨ (1815 ≤ a ∧ k = 17) ∨ (152 ≤ a ∧ a < 1688 ∧ k = 12) ∨ (a = 147 ∧ k = 18)) : frZ τ (tI τ a k v) := ⟨fun x y h1 h2 h3 h4 h5 => tI_ne (by
    rcases h with q | q | q | q | q
    · exact Or.inl (fun e => h1 (e ▸ q))
    · omega
    · omega
    · omega
    · omega), fun _ _ _ _ => rfl, fun _ _ _ => rfl, fun _ _ => rfl, fun _ _ => rfl, fun _ _ => rfl⟩
theorem frZ_J {τ : px_TT} {a k : Nat} {v : Int64} (h : Zc a ∨ (a = 147 ∧ k = 19)) : frZ τ (tJ τ a k v) := ⟨fun _ _ _ _ _ _ _ => rfl, fun x y h1 h2 => tJ_ne (by
    rcases h with q | q
    · exact Or.inl (fun e => h1 (e ▸ q))
    · omega), fun _ _ _ => rfl, fun _ _ => rfl, fun _ _ => rfl, fun _ _ => rfl⟩
theorem frZ_v {τ : px_TT} {a : Nat} {g : Nat → Int32} (h : Zc a) : frZ τ (vI τ a g) := ⟨fun _ _ _ _ _ _ _ => rfl, fun _ _ _ _ => rfl, fun _ _ _ => rfl, fun x hx => eI_v_ne (fun e => hx (e ▸ h)), fun _ _ => rfl, fun _ _ => rfl⟩
theorem frZ_vJ {τ : px_TT} {a : Nat} {g : Nat → Int64} (h : Zc a) : frZ τ (vJ τ a g) := ⟨fun _ _ _ _ _ _ _ => rfl, fun _ _ _ _ => rfl, fun _ _ _ => rfl, fun _ _ => rfl, fun x hx => eJ_v_ne (fun e => hx (e ▸ h)), fun _ _ => rfl⟩
theorem frZ_vN {τ : px_TT} {g : Nat → Option Nat} : frZ τ (vN τ 1717 g) := ⟨fun _ _ _ _ _ _ _ => rfl, fun _ _ _ _ => rfl, fun _ _ _ => rfl, fun _ _ => rfl, fun _ _ => rfl, fun x hx => eN_v_ne hx⟩
theorem frZ_tN {τ : px_TT} {k : Nat} {v : Option Nat} (h : k = 1 ∨ k = 2) : frZ τ (tN τ 0 k v) := ⟨fun _ _ _ _ _ _ _ => rfl, fun _ _ _ _ => rfl, fun x y hx => by rw [fN_tN, if_neg (by omega)], fun _ _ => rfl, fun _ _ => rfl, fun _ _ => rfl⟩
theorem GR_my {τ τ' : px_TT} (h : GR τ) (hN : ∀ a k, a < 1726 → (a = 0 → k ≠ 1 ∧ k ≠ 2) → fN τ' a k = fN τ a k) (hI : ∀ a k, 10 ≤ a → a < 138 → k < 3 → fI τ' a k = fI τ a k) (h9 : eN τ' 9 = eN τ 9) (h151 : eN τ' 151 = eN τ 151) : GR τ' := by
  refine ⟨fun x hx => ?_, fun i hi => ?_, fun i hi => ?_⟩
  · have hlt : ∀ x, x ∈ grl → x.1 < 1726 ∧ (x.1 = 0 → x.2.1 ≠ 1 ∧ x.2.1 ≠ 2) := by decide
    rw [hN _ _ (hlt x hx).1 (hlt x hx).2]
    exact h.1 x hx
  · have g := h.2.1 i hi
    rw [hN _ _ (by omega) (by omega), hN _ _ (by omega) (by omega), h9, hI _ _ (by omega) (by omega) (by omega), hI _ _ (by omega) (by omega) (by omega)]
    exact g
  · rw [h151]; exact h.2.2 i hi
section CFZ
variable {sk : Nat → Nat × Nat × Nat} {L : Nat} {τ τ' : px_TT} {own : Nat → Nat × Nat} {fs : px_FS} {s : px_TK} {xs : px_NL} {ST rn : Nat → Bool} {gs : List (List Nat × Int64)} {ws : List (List Nat)} {C B : Nat → Nat} {ll sl cpf : List Nat} {tO : Nat → Nat} {th : Nat → Bool} {NA : Nat → Int64} {pp : Nat} {ad : Nat → Nat} {fe3 tp sp fp0 fp1 fp2 bg0 bg1 bg2 : Nat}
theorem Zc_no {a : Nat} (h : a = 0 ∨ (7 ≤ a ∧ a < 146) ∨ (147 ≤ a ∧ a < 1695) ∨ (1696 ≤ a ∧ a < 1711) ∨ 1726 ≤ a) : ¬ Zc a := fun w => by unfold Zc at w; omega
theorem GR_Z (h : GR τ) (f : frZ τ τ') : GR τ' := GR_my h (fun a k _ hk => f.2.2.1 a k hk) (fun a k h1 h2 _ => f.1 a k (Zc_no (by omega)) (by omega) (by omega) (by omega) (by omega)) (f.2.2.2.2.2 9 (by decide)) (f.2.2.2.2.2 151 (by decide))
theorem SF_Z (f : frZ τ τ') : SF τ τ' := ⟨fun a k h hk => f.1 a k (Zc_no (by omega)) (by omega) (by omega) (by omega) (by omega), fun a k h => f.2.2.1 a k (by omega), fun a h => f.2.2.2.1 a (Zc_no (by omega))⟩
theorem CF_Z (h : CF sk L τ fs) (f : frZ τ τ') : CF sk L τ' fs := CF_mv h EX_refl (SF_Z f)
theorem CB_Z (h : CB τ C) (f : frZ τ τ') : CB τ' C := by
  unfold CB
  rw [f.2.2.2.1 8 (Zc_no (by omega))]
  exact h
theorem NP_Z (h : NP sk L τ own) (f : frZ τ τ') : NP sk L τ' own := NP_fx h (fun A hA => f.2.2.2.2.2 A (by omega))
theorem TKe_Zf (h : TKe sk L own τ fs s xs ST rn) (f : frZ τ τ') : TKe sk L own τ' fs s xs ST rn := by
  obtain ⟨a1, a2, a3, ⟨k1, k2, k3, k4⟩, a5, a6, a7⟩ := h
  have hT := BK_T (s := s) a5.1
  have hge : ∀ i, i < xs.length → 1815 ≤ pN τ 149 i := fun i hi => (k1 149 i _ (Or.inr (Or.inr rfl)) (CLm_at k2 (List.getElem?_eq_getElem hi)).2.1).1
  have eE : ∀ a, a ≠ 1717 → eN τ' a = eN τ a := f.2.2.2.2.2
  have hI : ∀ i, i < xs.length → ∀ k, k ≠ 17 → fI τ' (pN τ 149 i) k = fI τ (pN τ 149 i) k := fun i hi k hk => by
    have := hge i hi
    exact f.1 _ k (Zc_no (by omega)) (by omega) (fun _ => hk) (by omega) (by omega)
  refine ⟨a1, GR_Z a2 f, CF_Z a3 f, ⟨NP_Z k1 f, CLm_fx k2 EX_refl (fun i hi k hk => hI i hi k (by omega)) (fun i x hx e => by rw [hI i (List.getElem?_eq_some_iff.mp hx).1 13 (by decide)]; exact (k2.2.1 i x hx).2 e) (fun i hi k hk => f.2.1 _ k (Zc_no (by have := hge i hi; omega)) (by have := hge i hi; omega)) (fun i hi => f.2.2.1 _ 6 (by have := hge i hi; omega)) ⟨f.2.2.1 148 0 (by omega), f.1 148 2 (Zc_no (by omega)) (by omega) (by omega) (by omega) (by omega)⟩ (f.1 147 15 (Zc_no (by omega)) (by omega) (by omega) (by omega) (by omega)) (eE 149 (by decide)) (eE 1693 (by decide)), (f.1 147 14 (Zc_no (by omega)) (by omega) (by omega) (by omega) (by omega)).trans k3, fun t q hq => ?_⟩, a5, a6, a7⟩
  have ht := (List.getElem?_eq_some_iff.mp hq).1
  obtain ⟨r1, r2, r3⟩ := k4 t q hq
  exact ⟨fun i hi => isPe_fx (r1 i hi) (fun k hk _ => f.1 _ k (Zc_no (by omega)) (by omega) (by omega) (by omega) (by omega)) (by rw [f.1 _ 9 (Zc_no (by omega)) (by omega) (by omega) (by omega) (by omega)]; exact (r1 i hi).2.2.2.2.1), RSy_fx r2 (eE 149 (by decide)) (fun k _ => by rw [eE 1692 (by decide)]), by rw [eE 1689 (by decide)]; exact r3⟩
theorem CN_Z {N' A : Nat} (h : CN sk L τ N' A ws) (hn : NP sk L τ own) (f : frZ τ τ') (hN : N' = 140 ∨ N' = 143) (hA : A = 141 ∨ A = 144) : CN sk L τ' N' A ws := by
  obtain ⟨s1, s2, s3, s4, s5, s6, s7⟩ := h
  have eA : eN τ' A = eN τ A := f.2.2.2.2.2 A (by omega)
  refine ⟨s1, (f.2.2.1 N' 0 (by omega)).trans s2, s3, s4, s5, (f.1 N' 2 (Zc_no (by omega)) (by omega) (by omega) (by omega) (by omega)).trans s6, fun i w hw => ?_⟩
  obtain ⟨z1, z2, z3, z4⟩ := s7 i w hw
  have hz := (hn A i _ (by omega) z2).1
  rw [eA]
  exact ⟨z1, z2, z3, (f.2.1 _ 0 (Zc_no (by omega)) (by omega)).trans z4.1, (f.2.1 _ 1 (Zc_no (by omega)) (by omega)).trans z4.2.1, (f.2.1 _ 2 (Zc_no (by omega)) (by omega)).trans z4.2.2.1, (f.1 _ 3 (Zc_no (by omega)) (by omega) (by omega) (by omega) (by omega)).trans z4.2.2.2⟩
theorem CG_Z (h : CG sk L τ gs) (hn : NP sk L τ own) (f : frZ τ τ') : CG sk L τ' gs := by
  refine ⟨CN_Z h.1 hn f (Or.inl rfl) (Or.inl rfl), fun i x hx => ?_⟩
  have hm : (gs.map Prod.fst)[i]? = some x.1 := by rw [List.getElem?_map, hx]; rfl
  have hp : eN τ 141 i = some ((eN τ 141 i).getD 0) := (h.1.2.2.2.2.2.2 i _ hm).2.1
  have hz := (hn 141 i _ (Or.inl rfl) hp).1
  rw [f.2.2.2.2.2 141 (by decide), f.2.1 _ 7 (Zc_no (by omega)) (by omega)]
  exact h.2 i x hx
theorem CW_Z (h : CW sk L τ ws) (hn : NP sk L τ own) (f : frZ τ τ') : CW sk L τ' ws := CN_Z h hn f (Or.inr rfl) (Or.inr rfl)
theorem isNm_Z {w : List Nat} (h : isNm τ 1696 w) (f : frZ τ τ') : isNm τ' 1696 w := ⟨(f.2.1 _ 0 (Zc_no (by omega)) (by omega)).trans h.1, (f.2.1 _ 1 (Zc_no (by omega)) (by omega)).trans h.2.1, (f.2.1 _ 2 (Zc_no (by omega)) (by omega)).trans h.2.2.1, (f.1 _ 3 (Zc_no (by omega)) (by omega) (by omega) (by omega) (by omega)).trans h.2.2.2⟩
theorem LAc_Z (h : LAc sk L own τ fs s xs ST rn ll C B cpf tO pp ad) (f : frZ τ τ') : LAc sk L own τ' fs s xs ST rn ll C B cpf tO pp ad := by
  obtain ⟨h1, ⟨hk, hl, hall⟩, hcb, hpl, h5, hpp, had, hT, hrel⟩ := h
  have hT4 := BK_T (s := s) h1.2.2.2.2.1.1
  refine ⟨TKe_Zf h1 f, ⟨hk, hl, hall⟩, CB_Z hcb f, CPl_fx hpl (f.1 1697 3 (Zc_no (by omega)) (by omega) (by omega) (by omega) (by omega)) (f.1 1697 4 (Zc_no (by omega)) (by omega) (by omega) (by omega) (by omega)) (f.2.2.2.1 1698 (Zc_no (by omega))) (f.2.2.2.1 1699 (Zc_no (by omega))), ?_, hpp, fun x hx hs => ?_, hT, hrel⟩
  · rw [f.2.1 _ _ (Zc_no (by omega)) (by omega)]; exact h5
  · have hx1 := (hl.2 x hx).1
    rw [f.2.1 _ _ (Zc_no (by omega)) (by omega)]
    exact had x hx hs
theorem LAD_Z (h : LAD sk L own τ fs s xs ST rn ll sl C B cpf tO th NA pp ad fe3 tp sp fp0 fp1 fp2 bg0 bg1 bg2) (f : frZ τ τ') : LAD sk L own τ' fs s xs ST rn ll sl C B cpf tO th NA pp ad fe3 tp sp fp0 fp1 fp2 bg0 bg1 bg2 := by
  obtain ⟨d1, d2, ⟨d3, d4⟩, ⟨d5, d6⟩, d7, d8, d9, d10, d11, ⟨d12, d13, d14⟩, d15, d16, d17⟩ := h
  have h1 := d1.1
  have hT4 := BK_T (s := s) h1.2.2.2.2.1.1
  have hge : ∀ i, i < xs.length → 1815 ≤ pN τ 149 i := fun i hi => (h1.2.2.2.1.1 149 i _ (Or.inr (Or.inr rfl)) (CLm_at h1.2.2.2.1.2.1 (List.getElem?_eq_getElem hi)).2.1).1
  have eP : ∀ n, pN τ' 149 n = pN τ 149 n := fun n => by unfold pN; rw [f.2.2.2.2.2 149 (by decide)]
  have e3 := f.2.2.2.1 1703 (Zc_no (by omega))
  have e4 := f.2.2.2.2.1 1704 (Zc_no (by omega))
  have e5 := f.2.2.2.2.1 1705 (Zc_no (by omega))
  have eJ0 : ∀ k, fJ τ' 1700 k = fJ τ 1700 k := fun k => f.2.1 _ _ (Zc_no (by omega)) (by omega)
  refine ⟨LAc_Z d1 f, COr_fx d2 (f.1 1700 11 (Zc_no (by omega)) (by omega) (by omega) (by omega) (by omega)) (f.2.2.2.2.2 1701 (by decide)), ⟨⟨?_, ?_, ?_, ?_⟩, d4⟩, ⟨fun j hj => by rw [e3]; exact d5 j hj, by rw [e3]; exact d6⟩, fun j hj => ?_, fun x hx => ?_, fun w => by rw [eJ0]; exact d9 w, by rw [eJ0]; exact d10, by rw [eJ0]; exact d11, ⟨by rw [e4]; exact d12, by rw [e4]; exact d13, by rw [e4]; exact d14⟩, by rw [e5]; exact d15, by rw [e5]; exact d16, by rw [e5]; exact d17⟩
  · rw [f.1 1700 12 (Zc_no (by omega)) (by omega) (by omega) (by omega) (by omega)]; exact d3.1
  · intro i z hz; rw [f.2.2.2.1 1708 (Zc_no (by omega))]; exact d3.2.1 i z hz
  · intro P hP t ht
    have := hge P hP
    rw [eP, f.1 _ _ (Zc_no (by omega)) (by omega) (by omega) (by omega) (by omega)]
    exact d3.2.2.1 P hP t ht
  · intro z hz hn; rw [f.2.2.2.1 1709 (Zc_no (by omega))]; exact d3.2.2.2 z hz hn
  · have := hge j hj
    rw [eP, f.2.1 _ _ (Zc_no (by omega)) (by omega)]
    exact d7 j hj
  · have hx1 := (d1.2.1.2.1.2 x hx).1
    rw [f.2.1 _ _ (Zc_no (by omega)) (by omega)]
    exact d8 x hx
end CFZ
