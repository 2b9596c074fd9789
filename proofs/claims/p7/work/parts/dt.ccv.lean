/-! what holds of the class between two calls -/
def CVr (sk : Nat → Nat × Nat × Nat) (L : Nat) (τ : px_TT) : Prop := isNm τ 1696 wST ∧ ROk sk L τ ∧ MEm τ ∧ WLk sk L τ ∧ NTb sk L τ ∧ ∃ t, t ≤ 64 ∧ fI τ 147 14 = nI t
def CV (sk : Nat → Nat × Nat × Nat) (L : Nat) (own : Nat → Nat × Nat) (τ : px_TT) (fs : List (Nat × (Nat → Nat))) (gs : List (List Nat × Int64)) (ws : List (List Nat)) (n : Nat) (b : Nat → Nat) (a : Int32) (Y : px_Y) : Prop := GS sk L ∧ GR τ ∧ NP sk L τ own ∧ CF sk L τ fs ∧ CG sk L τ gs ∧ CW sk L τ ws ∧ CTp τ n b ∧ CVr sk L τ ∧ CX sk L τ fs a Y ∧ ((gs.map Prod.fst).Nodup ∧ (∀ w, w ∈ gs.map Prod.fst → nT w) ∧ ∀ w, w ∈ ws → nT w) ∧ fI τ 147 18 = a
/-- the reference's cells are as they were -/
def K26 (τ τ' : px_TT) : Prop := ∀ a, 1726 ≤ a → a < 1815 → (∀ k, fI τ' a k = fI τ a k) ∧ (∀ k, fJ τ' a k = fJ τ a k) ∧ (∀ k, fN τ' a k = fN τ a k) ∧ eI τ' a = eI τ a ∧ eJ τ' a = eJ τ a ∧ eN τ' a = eN τ a
theorem K26_trans {τ τ1 τ2 : px_TT} (h : K26 τ τ1) (g : K26 τ1 τ2) : K26 τ τ2 := fun a h1 h2 => by
  obtain ⟨a1, a2, a3, a4, a5, a6⟩ := h a h1 h2
  obtain ⟨b1, b2, b3, b4, b5, b6⟩ := g a h1 h2
  exact ⟨fun k => (b1 k).trans (a1 k), fun k => (b2 k).trans (a2 k), fun k => (b3 k).trans (a3 k), b4.trans a4, b5.trans a5, b6.trans a6⟩
theorem K26_refl (τ : px_TT) : K26 τ τ := fun _ _ _ => ⟨fun _ => rfl, fun _ => rfl, fun _ => rfl, rfl, rfl, rfl⟩
theorem K26_Z {τ τ' : px_TT} (h : frZ τ τ') : K26 τ τ' := fun a h1 h2 => ⟨fun k => h.1 a k (Zc_no (by omega)) (by omega) (by omega) (by omega) (by omega), fun k => h.2.1 a k (Zc_no (by omega)) (by omega), fun k => h.2.2.1 a k (by omega), h.2.2.2.1 a (Zc_no (by omega)), h.2.2.2.2.1 a (Zc_no (by omega)), h.2.2.2.2.2 a (by omega)⟩
section CVS
variable {F : Nat} {c : px_CT} {sk sk' : Nat → Nat × Nat × Nat} {L L' : Nat} {own : Nat → Nat × Nat} {τ τ' : px_TT} {fs : List (Nat × (Nat → Nat))} {gs : List (List Nat × Int64)} {ws : List (List Nat)} {n : Nat} {b : Nat → Nat} {a : Int32} {Y : px_Y}
theorem Nmo_fx {p : Nat} (h : Nmo sk L τ p) (e : EX sk L sk' L') (h5 : fI τ' p 5 = fI τ p 5) (h6 : fN τ' p 6 = fN τ p 6) : Nmo sk' L' τ' p := ⟨h.1, ob_ex h.2.1 e, fun w => by rw [h6]; exact h.2.2 (h5.symm.trans w)⟩
theorem CVr_fx (h : CVr sk L τ) (e : EX sk L sk' L') (hI : ∀ a k, (a = 3 ∨ a = 5 ∨ (a = 147 ∧ (k = 14 ∨ k = 15)) ∨ (a = 148 ∧ k = 2) ∨ a = 1696 ∨ (a = 1700 ∧ k = 11) ∨ (1711 ≤ a ∧ a < 1726)) → fI τ' a k = fI τ a k) (hJ : ∀ k, fJ τ' 1696 k = fJ τ 1696 k) (hN : ∀ a k, (a = 0 ∨ a = 3 ∨ a = 5 ∨ (1711 ≤ a ∧ a < 1726)) → fN τ' a k = fN τ a k) (hE : ∀ a, (a = 4 ∨ a = 6 ∨ (1711 ≤ a ∧ a < 1726)) → eI τ' a = eI τ a) (hn : ∀ a, (a = 149 ∨ a = 1693 ∨ a = 1701) → eN τ' a = eN τ a) (hp : ∀ d p, eN τ 149 d = some p → fI τ' p 5 = fI τ p 5 ∧ fN τ' p 6 = fN τ p 6) : CVr sk' L' τ' := by
  obtain ⟨h1, h2, ⟨⟨m6, h6, e6⟩, m9, h9, e9⟩, ⟨⟨o, ho, eo, hw⟩, hwo⟩, ⟨m, hm, em, hnt⟩, t, ht, et⟩ := h
  refine ⟨⟨(hJ 0).trans h1.1, (hJ 1).trans h1.2.1, (hJ 2).trans h1.2.2.1, (hI 1696 3 (by omega)).trans h1.2.2.2⟩, ROk_fx h2 e (fun k => hN 0 k (by omega)) (fun a k ha => hN a k (by omega)) (fun a k ha => hI a k (by omega)) (fun a ha => hE a (by omega)), ⟨⟨m6, h6, (hI 1718 6 (by omega)).trans e6⟩, m9, h9, (hI 1718 9 (by omega)).trans e9⟩, ⟨⟨o, ho, (hI 147 15 (by omega)).trans eo, fun i hi => ?_⟩, WOr_fx hwo (hI 1700 11 (by omega)) (hn 1701 (by omega))⟩, ⟨m, hm, (hI 148 2 (by omega)).trans em, fun i hi => ?_⟩, t, ht, (hI 147 14 (by omega)).trans et⟩
  · obtain ⟨p, e1, e2, d, e3⟩ := hw i hi
    rw [hn 1693 (by omega), hn 149 (by omega)]
    exact ⟨p, e1, Nmo_fx e2 e (hp d p e3).1 (hp d p e3).2, d, e3⟩
  · obtain ⟨p, e1, e2, e3⟩ := hnt i hi
    rw [hn 149 (by omega)]
    exact ⟨p, e1, e2, ob_ex e3 e⟩
theorem CV_S4 (h : CV sk L own τ fs gs ws n b a Y) : S4 sk L τ := by
  obtain ⟨hS, hR, hn, hf, hg, hw, ht, ⟨h1, h2, h3, h4, h5, h6⟩, hz, hnd⟩ := h
  refine ⟨⟨⟨⟨hS, hR, n, ht.2.1, ht.1⟩, CF_MB hf, ⟨_, ?_, hf.2.2.2.1⟩, hf.2.2.1⟩, h4⟩, ⟨_, hf.2.1, hf.1⟩, CF_KD hf, CX_z hz, h6, ht.2.2.1⟩
  have w1 := CF_off hf (Nat.le_refl _)
  have w2 := hf.2.1
  omega
theorem SI_self (h : CV sk L own τ fs gs ws n b a Y) : SI none sk L τ τ := by
  obtain ⟨hS, hR, hn, hf, hg, hw, ht, ⟨h1, h2, h3, h4, h5, h6⟩, hz, hnd⟩ := h
  exact ⟨frZ_refl, ⟨fun _ => rfl, rfl, rfl, fun _ => rfl, rfl⟩, h2, h3, fun N hN => by cases hN⟩
theorem CTp_SI (h : CTp τ n b) (e1 : fI τ' 1 1 = fI τ 1 1) (e2 : eI τ' 2 = eI τ 2) : CTp τ' n b := ⟨e1.trans h.1, h.2.1, by rw [e2]; exact h.2.2.1, by rw [e2]; exact h.2.2.2⟩
theorem CV_SI {zb : Option Nat} (h : CV sk L own τ fs gs ws n b a Y) (hI : SI zb sk L τ τ') : CV sk L own τ' fs gs ws n b a Y := by
  obtain ⟨hS, hR, hn, hf, hg, hw, ht, ⟨h1, h2, h3, ⟨⟨o, ho, eo, hwk⟩, hwo⟩, ⟨m, hm, em, hnt⟩, t, h6, e6⟩, hz, hnd⟩ := h
  have g2 := hI.2.2.1
  have g3 := hI.2.2.2.1
  obtain ⟨f1, f2, f3, f4, f5, f6⟩ := hI.1
  refine ⟨hS, GR_Z hR hI.1, NP_Z hn hI.1, CF_Z hf hI.1, CG_Z hg hn hI.1, CW_Z hw hn hI.1, CTp_SI ht (hI.2.1.1 1) hI.2.1.2.1, ⟨isNm_Z h1 hI.1, g2, g3, ⟨⟨o, ho, (f1 147 15 (Zc_no (by omega)) (by omega) (by omega) (by omega) (by omega)).trans eo, fun i hi => ?_⟩, WOr_fx hwo (f1 1700 11 (Zc_no (by omega)) (by omega) (by omega) (by omega) (by omega)) (f6 1701 (by decide))⟩, ⟨m, hm, (f1 148 2 (Zc_no (by omega)) (by omega) (by omega) (by omega) (by omega)).trans em, fun i hi => ?_⟩, t, h6, (f1 147 14 (Zc_no (by omega)) (by omega) (by omega) (by omega) (by omega)).trans e6⟩, CX_Z hz hn hI.1 (hI.2.1.2.2.2.1 1), hnd.1, hI.2.1.2.2.1.trans hnd.2⟩
  · obtain ⟨p, e1, e2, d, e3⟩ := hwk i hi
    have hp := e2.1
    rw [f6 1693 (by decide), f6 149 (by decide)]
    exact ⟨p, e1, Nmo_fx e2 EX_refl (f1 p 5 (Zc_no (by omega)) (by omega) (by omega) (by omega) (by omega)) (f3 p 6 (by omega)), d, e3⟩
  · obtain ⟨p, e1, e2⟩ := hnt i hi
    rw [f6 149 (by decide)]
    exact ⟨p, e1, e2⟩
/-- the tape is cleared -/
theorem CV_clr (h : CV sk L own τ fs gs ws n b a Y) : CV sk L own (tI (tI τ 1 1 (nI 0)) 1 2 (bI false)) fs gs ws 0 (fun _ => 0) a Y := by
  obtain ⟨hS, hR, hn, hf, hg, hw, ht, hr, hz, hnd⟩ := h
  have hI : ∀ a k, a ≠ 1 → fI (tI (tI τ 1 1 (nI 0)) 1 2 (bI false)) a k = fI τ a k := fun a k ha => (tI_ne (Or.inl ha)).trans (tI_ne (Or.inl ha))
  have hZ : frZ τ (tI (tI τ 1 1 (nI 0)) 1 2 (bI false)) := frZ_trans (frZ_I (Or.inl (by unfold Zc; omega))) (frZ_I (Or.inl (by unfold Zc; omega)))
  refine ⟨hS, GR_Z hR hZ, NP_Z hn hZ, CF_Z hf hZ, CG_Z hg hn hZ, CW_Z hw hn hZ, ⟨(tI_ne (Or.inr (by decide))).trans tI_at, Nat.zero_le _, ht.2.2.1, ?_⟩, CVr_fx hr EX_refl (fun a k ha => hI a k (by omega)) (fun _ => rfl) (fun _ _ _ => rfl) (fun _ _ => rfl) (fun _ _ => rfl) (fun d p e => ⟨hI p 5 (by have := (hn 149 d p (Or.inr (Or.inr rfl)) e).1; omega), rfl⟩), CX_Z hz hn hZ (hI 1711 1 (by decide)), hnd.1, (hI 147 18 (by decide)).trans hnd.2⟩
  funext x
  unfold cb
  rw [if_neg (Nat.not_lt_zero x)]
end CVS
