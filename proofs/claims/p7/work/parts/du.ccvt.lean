/-! the class's calls keep what holds between calls -/
section CVT
variable {F : Nat} {c : px_CT} {sk sk' : Nat → Nat × Nat × Nat} {L L' : Nat} {own : Nat → Nat × Nat} {τ τ' : px_TT} {fs : List (Nat × (Nat → Nat))} {gs : List (List Nat × Int64)} {ws : List (List Nat)} {n : Nat} {b : Nat → Nat} {a : Int32} {Y : px_Y}
theorem CVx (h : CV sk L own τ fs gs ws n b a Y) (e : ∀ A, eN τ' A = eN τ A) (hI : ∀ a k, (a = 3 ∨ a = 5 ∨ (138 ≤ a ∧ a ≠ 146)) → fI τ' a k = fI τ a k) (hJ : ∀ a k, a ≠ 146 → fJ τ' a k = fJ τ a k) (hN : ∀ a k, fN τ' a k = fN τ a k) (hE : ∀ a, (a = 4 ∨ a = 6 ∨ 1700 ≤ a) → eI τ' a = eI τ a) : NP sk L τ' own ∧ CG sk L τ' gs ∧ CW sk L τ' ws ∧ CVr sk L τ' := by
  obtain ⟨hS, hR, hn, hf, hg, hw, ht, hr, hz, hnd⟩ := h
  have cn : ∀ {N A : Nat} {vs : List (List Nat)}, CN sk L τ N A vs → (N = 140 ∨ N = 143) → (A = 141 ∨ A = 144) → CN sk L τ' N A vs := fun {N A vs} w hN' hA => CN_mv w EX_refl (hN N 0) (hI N 2 (by omega)) (fun i _ => congrFun (e A) i) (fun i p _ hp => by
    have := (hn A i p (by omega) hp).1
    exact ⟨fun k _ => hJ p k (by omega), hI p 3 (by omega)⟩)
  refine ⟨NP_fx hn (fun A _ => e A), ⟨cn hg.1 (Or.inl rfl) (Or.inl rfl), fun i x hx => ?_⟩, cn hw (Or.inr rfl) (Or.inr rfl), CVr_fx hr EX_refl (fun a k ha => hI a k (by omega)) (fun k => hJ 1696 k (by decide)) (fun a k _ => hN a k) (fun a ha => hE a (by omega)) (fun a _ => e a) (fun d p hp => ?_)⟩
  · rw [e 141, ← hg.2 i x hx]
    refine hJ _ 7 ?_
    cases hq : eN τ 141 i with
    | none => decide
    | some p => have := (hn 141 i p (Or.inl rfl) hq).1; show p ≠ 146; omega
  · have := (hn 149 d p (Or.inr (Or.inr rfl)) hp).1
    exact ⟨hI p 5 (by omega), hN p 6⟩
theorem v_add (hc : KT c) (hF : 65540 < F) (h : CV sk L own τ fs gs ws n b a Y) (hfl : fs.length < 8) : ∃ τ', f_H_add F c 0 (cH sk L τ) = some (nI (eFil b n), cH sk L τ') ∧ CV sk L own τ' (if eFil b n = 0 then fs ++ [(n, b)] else fs) gs ws 0 (fun _ => 0) a Y ∧ K26 τ τ' := by
  obtain ⟨hS, hR, hn, hf, hg, hw, ht, hr, hz, hnd⟩ := id h
  obtain ⟨τ', e, g1, g2, g3, fD⟩ := k_add (F := F) (c := c) hc hS hR (by omega) ht hf hfl
  obtain ⟨f1, f2, f3, f4, f5, f6, f7⟩ := id fD
  have hX : CX sk L τ' fs a Y := CX_W hz EX_refl (frWx_g hn f6 (fun a k ha => f1 a k (by omega) (by omega) (by omega) (by omega)) (fun a k _ => f2 a k) f3 (f4 1703 (by omega) (by omega) (by omega) (by omega))) (frV_D hz fD)
  obtain ⟨x1, x2, x3, x4⟩ := CVx (τ' := τ') h f6 (fun a k ha => f1 a k (by omega) (by omega) (by omega) (by omega)) (fun a k _ => f2 a k) f3 (fun a ha => f4 a (by omega) (by omega) (by omega) (by omega))
  refine ⟨τ', e, ⟨hS, g1, x1, g3, x2, x3, g2, x4, by split <;> first | exact CX_add hX | exact hX, hnd.1, (f1 147 18 (by omega) (by omega) (by omega) (by omega)).trans hnd.2⟩, fun a h1 h2 => ⟨fun k => f1 a k (by omega) (by omega) (by omega) (by omega), fun k => f2 a k, fun k => f3 a k, f4 a (by omega) (by omega) (by omega) (by omega), f5 a, f6 a⟩⟩
theorem v_drop {x : Nat × (Nat → Nat)} (hF : 65540 < F) (h : CV sk L own τ (fs ++ [x]) gs ws n b a Y) : ∃ τ', f_H_drop F c 0 (cH sk L τ) = some (nI fs.length, cH sk L τ') ∧ CV sk L own τ' fs gs ws n b a (dropY fs.length Y) ∧ K26 τ τ' := by
  obtain ⟨hS, hR, hn, hf, hg, hw, ht, hr, hz, hnd⟩ := id h
  have hl : fs.length < 8 := by have := hf.2.1; rw [List.length_append, List.length_singleton] at this; omega
  obtain ⟨τ', e, g1, g2, g3, fD, hcl⟩ := k_drop (F := F) (c := c) hS hR (by omega) ht hf
  obtain ⟨f1, f2, f3, f4, f5, f6, f7⟩ := id fD
  have hX : CX sk L τ' fs a (dropY fs.length Y) := CX_drop hz fD (frWx_g hn f6 (fun a k ha => f1 a k (by omega) (by omega) (by omega) (by omega)) (fun a k _ => f2 a k) f3 (f4 1703 (by omega) (by omega) (by omega) (by omega))) hcl
  obtain ⟨x1, x2, x3, x4⟩ := CVx (τ' := τ') h f6 (fun a k ha => f1 a k (by omega) (by omega) (by omega) (by omega)) (fun a k _ => f2 a k) f3 (fun a ha => f4 a (by omega) (by omega) (by omega) (by omega))
  refine ⟨τ', e, ⟨hS, g1, x1, g3, x2, x3, g2, x4, hX, hnd.1, (f1 147 18 (by omega) (by omega) (by omega) (by omega)).trans hnd.2⟩, fun a h1 h2 => ⟨fun k => f1 a k (by omega) (by omega) (by omega) (by omega), fun k => f2 a k, fun k => f3 a k, f4 a (by omega) (by omega) (by omega) (by omega), f5 a, f6 a⟩⟩
theorem v_feed {v w : Nat} (hF : 65540 < F) (h : CV sk L own τ fs gs ws n b a Y) (hv : v < 2 ^ 64) (h1 : 1 ≤ w) (hw8 : w ≤ 8) (hnw : n + w ≤ 8192) : ∃ τ', f_H_feed F c 0 (nI w) (lN v) (cH sk L τ) = some (nI (n + w), cH sk L τ') ∧ CV sk L own τ' fs gs ws (n + w) (fdd b n v w) a Y ∧ K26 τ τ' := by
  obtain ⟨hS, hR, hn, hf, hg, hw, ht, hr, hz, hnd⟩ := id h
  obtain ⟨τ', e, g1, g2, f1, f2, f3, f4, f5, f6⟩ := k_feed (F := F) (c := c) hS hR (by omega) hv h1 hw8 hnw ht
  obtain ⟨x1, x2, x3, x4⟩ := CVx (τ' := τ') h f6 (fun a k ha => f1 a k (by omega)) (fun a k _ => f2 a k) f3 (fun a ha => f4 a (by omega))
  refine ⟨τ', e, ⟨hS, g1, x1, CF_mv hf EX_refl ⟨fun a k ha hk => f1 a k (by omega), fun a k _ => f3 a k, fun a ha => f4 a (by omega)⟩, x2, x3, g2, x4, CX_W hz EX_refl (frWx_g hn f6 (fun a k ha => f1 a k (by omega)) (fun a k _ => f2 a k) f3 (f4 1703 (by omega))) (fun q _ => ⟨f1 _ 15 (by omega), f1 _ 16 (by omega)⟩), hnd.1, (f1 147 18 (by omega)).trans hnd.2⟩, fun a h1 h2 => ⟨fun k => f1 a k (by omega), fun k => f2 a k, fun k => f3 a k, f4 a (by omega), f5 a, f6 a⟩⟩
theorem v_forget (h : CV sk L own τ fs gs ws n b a Y) : ∃ τ', f_H_forget F c 0 (cH sk L τ) = some ((), cH sk L τ') ∧ CV sk L own τ' fs [] [] n b a Y ∧ K26 τ τ' := by
  obtain ⟨hS, hR, hn, hf, hg, hw, ht, hr, hz, hnd⟩ := id h
  obtain ⟨τ', e, g1, g2, g3, f1, f2⟩ := k_forget (F := F) (c := c) hS hR hg hw
  have hJ : ∀ a k, fJ τ' a k = fJ τ a k := fun a k => by unfold fJ; rw [f2]
  have hN : ∀ a k, fN τ' a k = fN τ a k := fun a k => by unfold fN; rw [f2]
  have hE : ∀ a, eI τ' a = eI τ a := fun a => by unfold eI; rw [f2]
  have hn' : ∀ a, eN τ' a = eN τ a := fun a => by unfold eN; rw [f2]
  refine ⟨τ', e, ⟨hS, g1, NP_fx hn (fun A _ => hn' A), CF_mv hf EX_refl ⟨fun a k ha hk => f1 a k (by omega) (by omega), fun a k _ => hN a k, fun a ha => hE a⟩, g2, g3, CTp_SI ht (f1 1 1 (by omega) (by omega)) (hE 2), CVr_fx hr EX_refl (fun a k ha => f1 a k (by omega) (by omega)) (hJ 1696) (fun a k _ => hN a k) (fun a _ => hE a) (fun a _ => hn' a) (fun d p hp => ?_), CX_W hz EX_refl (frWx_g hn hn' (fun a k ha => f1 a k (by omega) (by omega)) (fun a k _ => hJ a k) hN (hE 1703)) (fun q _ => ⟨f1 _ 15 (by omega) (by omega), f1 _ 16 (by omega) (by omega)⟩), ⟨List.nodup_nil, fun w h => (by cases h), fun w h => (by cases h)⟩, (f1 147 18 (by omega) (by omega)).trans hnd.2⟩, fun a h1 h2 => ⟨fun k => f1 a k (by omega) (by omega), hJ a, hN a, hE a, by unfold eJ; rw [f2], hn' a⟩⟩
  have := (hn 149 d p (Or.inr (Or.inr rfl)) hp).1
  exact ⟨f1 p 5 (by omega) (by omega), hN p 6⟩
theorem v_address (hF : 65540 < F) (h : CV sk L own τ fs gs ws n b a Y) (ha : a = nI 0) : ∃ v τ', f_H_address F c 0 (cH sk L τ) = some (v, cH sk L τ') ∧ CV sk L own τ' fs gs ws 0 (fun _ => 0) a Y ∧ K26 τ τ' := by
  obtain ⟨hS, hR, hn, hf, hg, hw, ht, hr, hz, hnd⟩ := id h
  obtain ⟨v, τ', e, g1, g2, f1, f2, f3, f4, f5, f6⟩ := k_Haddress (F := F) (c := c) hF hS hR ht hr.2.2.2.2.1 (hnd.2.trans ha)
  obtain ⟨x1, x2, x3, x4⟩ := CVx (τ' := τ') h f6 (fun a k ha => f1 a k (by omega) (by omega)) (fun a k ha => f2 a k (by omega)) f3 (fun a _ => f4 a)
  refine ⟨v, τ', e, ⟨hS, g1, x1, CF_mv hf EX_refl ⟨fun a k ha hk => f1 a k (by omega) (by omega), fun a k _ => f3 a k, fun a ha => f4 a⟩, x2, x3, g2, x4, CX_W hz EX_refl (frWx_g hn f6 (fun a k ha => f1 a k (by omega) (by omega)) (fun a k _ => f2 a k (by omega)) f3 (f4 1703)) (fun q _ => ⟨f1 _ 15 (by omega) (by omega), f1 _ 16 (by omega) (by omega)⟩), hnd.1, (f1 147 18 (by omega) (by omega)).trans hnd.2⟩, fun a h1 h2 => ⟨fun k => f1 a k (by omega) (by omega), fun k => f2 a k (by omega), fun k => f3 a k, f4 a, f5 a, f6 a⟩⟩
end CVT
