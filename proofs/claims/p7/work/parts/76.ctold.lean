/-! give, wish, forget of the class -/
/-- a list of names, as the class has it -/
def CN (sk : Nat → Nat × Nat × Nat) (L : Nat) (τ : px_TT) (N A : Nat) (ws : List (List Nat)) : Prop := isNs sk L τ N A 16 ws (fun i => (eN τ A i).getD 0)
def CG (sk : Nat → Nat × Nat × Nat) (L : Nat) (τ : px_TT) (gs : List (List Nat × Int64)) : Prop := CN sk L τ 140 141 (gs.map Prod.fst) ∧ ∀ i x, gs[i]? = some x → fJ τ ((eN τ 141 i).getD 0) 7 = x.2
def CW (sk : Nat → Nat × Nat × Nat) (L : Nat) (τ : px_TT) (ws : List (List Nat)) : Prop := CN sk L τ 143 144 ws
/-- the told names' places as they were -/
def SH (τ τ' : px_TT) : Prop := (∀ a k, (a = 140 ∨ a = 143 ∨ 1815 ≤ a) → fI τ' a k = fI τ a k) ∧ (∀ a k, (a = 140 ∨ a = 143 ∨ 1815 ≤ a) → fJ τ' a k = fJ τ a k) ∧ (∀ a k, (a = 140 ∨ a = 143 ∨ 1815 ≤ a) → fN τ' a k = fN τ a k) ∧ (∀ a, (a = 141 ∨ a = 144 ∨ a = 149) → eN τ' a = eN τ a)
/-- nothing has changed but the tape's length and the probe -/
def frT (τ τ' : px_TT) : Prop := (∀ a k, a ≠ 1 → (a ≠ 146 ∨ k ≠ 3) → fI τ' a k = fI τ a k) ∧ (∀ a k, (a ≠ 146 ∨ 2 < k) → fJ τ' a k = fJ τ a k) ∧ (∀ a k, fN τ' a k = fN τ a k) ∧ (∀ a, eI τ' a = eI τ a) ∧ (∀ a, eJ τ' a = eJ τ a) ∧ (∀ a, eN τ' a = eN τ a)
section CTD
variable {F : Nat} {c : px_CT} {sk sk' : Nat → Nat × Nat × Nat} {L L' : Nat} {τ τ' : px_TT} {n : Nat} {b : Nat → Nat} {own : Nat → Nat × Nat} {ws : List (List Nat)} {gs : List (List Nat × Int64)}
theorem NP_sh (h : NP sk L τ own) (s : SH τ τ') : NP sk L τ' own := by
  intro A i p hA hp
  rw [s.2.2.2 A hA] at hp
  exact h A i p hA hp
theorem isNm_mv {a : Nat} {w : List Nat} (h : isNm τ a w) (hJ : ∀ k, k < 3 → fJ τ' a k = fJ τ a k) (hI : fI τ' a 3 = fI τ a 3) : isNm τ' a w := ⟨(hJ 0 (by decide)).trans h.1, (hJ 1 (by decide)).trans h.2.1, (hJ 2 (by decide)).trans h.2.2.1, hI.trans h.2.2.2⟩
/-- a list of names stays, whatever else is entered -/
theorem CN_mv {N A : Nat} (h : CN sk L τ N A ws) (e : EX sk L sk' L') (hN0 : fN τ' N 0 = fN τ N 0) (hN2 : fI τ' N 2 = fI τ N 2) (hE : ∀ i, i < ws.length → eN τ' A i = eN τ A i) (hx : ∀ i p, i < ws.length → eN τ A i = some p → (∀ k, k < 3 → fJ τ' p k = fJ τ p k) ∧ fI τ' p 3 = fI τ p 3) : CN sk' L' τ' N A ws := by
  obtain ⟨s1, s2, s3, s4, s5, s6, s7⟩ := h
  refine ⟨ob_ex s1 e, hN0.trans s2, ar_ex s3 e, s4, s5, hN2.trans s6, fun i w hw => ?_⟩
  have hi : i < ws.length := (List.getElem?_eq_some_iff.mp hw).1
  obtain ⟨a1, a2, a3, a4⟩ := s7 i w hw
  have := hx i _ hi a2
  show okN w ∧ eN τ' A i = some ((eN τ' A i).getD 0) ∧ ob sk' L' 5 ((eN τ' A i).getD 0) ∧ isNm τ' ((eN τ' A i).getD 0) w
  rw [hE i hi]
  exact ⟨a1, a2, ob_ex a3 e, isNm_mv a4 this.1 this.2⟩
theorem CN_sh {N A : Nat} (h : CN sk L τ N A ws) (s : SH τ τ') (hn : NP sk L τ own) (hN : N = 140 ∨ N = 143) (hA : A = 141 ∨ A = 144) : CN sk L τ' N A ws := by
  have hA3 : A = 141 ∨ A = 144 ∨ A = 149 := by omega
  refine CN_mv h EX_refl (s.2.2.1 N 0 (by omega)) (s.1 N 2 (by omega)) (fun i _ => by rw [s.2.2.2 A hA3]) (fun i p _ hp => ?_)
  have := (hn A i p hA3 hp).1
  exact ⟨fun k _ => s.2.1 p k (by omega), s.1 p 3 (by omega)⟩
theorem CG_sh (h : CG sk L τ gs) (s : SH τ τ') (hn : NP sk L τ own) : CG sk L τ' gs := by
  refine ⟨CN_sh h.1 s hn (Or.inl rfl) (Or.inl rfl), fun i x hx => ?_⟩
  have hi : i < (gs.map Prod.fst).length := by rw [List.length_map]; exact (List.getElem?_eq_some_iff.mp hx).1
  have hm : (gs.map Prod.fst)[i]? = some x.1 := by rw [List.getElem?_map, hx]; rfl
  have hp : eN τ 141 i = some ((eN τ 141 i).getD 0) := (h.1.2.2.2.2.2.2 i _ hm).2.1
  have := (hn 141 i _ (by omega) hp).1
  rw [s.2.2.2 141 (by omega), s.2.1 _ 7 (by omega)]
  exact h.2 i x hx
theorem CW_sh (h : CW sk L τ ws) (s : SH τ τ') (hn : NP sk L τ own) : CW sk L τ' ws := CN_sh h s hn (Or.inr rfl) (Or.inr rfl)
theorem k_rTN_38 (hS : GS sk L) (hn : n ≤ 20) : ∀ (d k f : Nat) (τ : px_TT), k + d = n → d < f → GR τ → CTp τ n b → isNm τ 146 (tk b 0 k) → ∃ τ', f_H_readTapeName_38 F c f 0 (bI true) (nI k) (cH sk L τ) = f_H_readTapeName_86 F c 0 (bI (nzf b k d)) (cH sk L τ') ∧ frN 146 τ τ' ∧ (nzf b k d = true → isNm τ' 146 (tk b 0 n)) := by
  intro d
  induction d with
  | zero =>
    intro k f τ hk hf hR ht hw
    obtain ⟨f, rfl⟩ : ∃ x, f = x + 1 := ⟨f - 1, by omega⟩
    refine ⟨τ, ?_, frN_refl _ _, fun _ => by rw [show n = k by omega]; exact hw⟩
    unfold f_H_readTapeName_38
    rw [if_neg (show ¬ bI true = 0 by decide), C0r0 (G0 hS) (R0_0 hR), bs, C10g1 (G1 hS), bs, ht.1, if_pos (nI_le (by omega) (by omega))]
    rfl
  | succ d ih =>
    intro k f τ hk hf hR ht hw
    obtain ⟨f, rfl⟩ : ∃ x, f = x + 1 := ⟨f - 1, by omega⟩
    have hb : ∀ i, b i < 256 := fun i => by rw [← ht.2.2.2]; exact cb_lt _ _ _ _
    obtain ⟨τ1, g1, g2, g3⟩ := k_append (F := F) (c := c) (x := b k) (G146 hS) hw (by rw [tk_len]; omega) (tk_lt hb 0 k) (hb k)
    have hR1 : GR τ1 := GR_mv hR (fun a k _ => g2.2.2.1 a k) (fun a k h _ => g2.1 a k (Or.inl (by omega))) (g2.2.2.2.2.2 9) (g2.2.2.2.2.2 151)
    have ht1 : CTp τ1 n b := by
      unfold CTp
      rw [g2.1 1 1 (Or.inl (by decide)), g2.2.2.2.1 2]
      exact ht
    unfold f_H_readTapeName_38 f_H_readTapeName_79
    rw [if_neg (show ¬ bI true = 0 by decide), C0r0 (G0 hS) (R0_0 hR), bs, C10g1 (G1 hS), bs, ht.1, if_neg (nI_ge (by omega) (by omega)), bs, c_o (G1 hS), bs, k_tapeAt hS hR ht (by omega), xb_mk, C0r10 (G0 hS) (R0_10 hR), bs, c_o (G146 hS), bs, g1, xb_mk, nI_add]
    unfold nzf
    by_cases e : b k = 0
    · obtain ⟨f, rfl⟩ : ∃ x, f = x + 1 := ⟨f - 1, by omega⟩
      rw [if_pos (by rw [e]; rfl), decide_eq_false (fun q => q e), Bool.false_and]
      unfold f_H_readTapeName_38
      rw [if_pos (show nI 0 = 0 from rfl)]
      exact ⟨τ1, rfl, g2, fun q => nomatch q⟩
    · rw [if_neg (show ¬ nI (b k) = 0 from fun q => e ((nI_eq (b := 0) (by have := hb k; omega) (by decide)).mp q)), decide_eq_true e, Bool.true_and, show nI 1 = bI true from rfl]
      obtain ⟨τ', i1, i2, i3⟩ := ih (k + 1) f τ1 (by omega) (by omega) hR1 ht1 (by
        show isNm τ1 146 (tk b 0 k ++ [b (0 + k)])
        rw [Nat.zero_add]
        exact g3)
      exact ⟨τ', i1, frN_trans g2 i2, i3⟩
theorem k_readTapeName (hS : GS sk L) (hR : GR τ) (hF : 20 < F) (ht : CTp τ n b) : ∃ τ', f_H_readTapeName F c 0 (cH sk L τ) = some (bI (tnm b n), cH sk L τ') ∧ GR τ' ∧ CTp τ' 0 (fun _ => 0) ∧ frT τ τ' ∧ (tnm b n = true → isNm τ' 146 (tk b 0 n)) := by
  obtain ⟨τ1, g1, g2, g3⟩ := k_wipe (F := F) (c := c) (τ := τ) (G146 hS)
  have hR1 : GR τ1 := GR_mv hR (fun a k _ => g2.2.2.1 a k) (fun a k h _ => g2.1 a k (Or.inl (by omega))) (g2.2.2.2.2.2 9) (g2.2.2.2.2.2 151)
  have ht1 : CTp τ1 n b := by
    unfold CTp
    rw [g2.1 1 1 (Or.inl (by decide)), g2.2.2.2.1 2]
    exact ht
  have fin : ∀ (τ2 : px_TT) (z : Bool), frN 146 τ1 τ2 → (f_H_readTapeName_86 F c 0 (bI z) (cH sk L τ2) = some (bI z, cH sk L (tI (tI τ2 1 1 (nI 0)) 1 2 (bI false))) ∧ GR (tI (tI τ2 1 1 (nI 0)) 1 2 (bI false)) ∧ CTp (tI (tI τ2 1 1 (nI 0)) 1 2 (bI false)) 0 (fun _ => 0) ∧ frT τ (tI (tI τ2 1 1 (nI 0)) 1 2 (bI false))) := by
    intro τ2 z h
    have hR2 : GR τ2 := GR_mv hR1 (fun a k _ => h.2.2.1 a k) (fun a k q _ => h.1 a k (Or.inl (by omega))) (h.2.2.2.2.2 9) (h.2.2.2.2.2 151)
    refine ⟨?_, GR_I (GR_I hR2 (by omega)) (by omega), clr_T (by rw [h.2.2.2.1 2]; exact ht1.2.2.1), ⟨?_, ?_, ?_, ?_, ?_, ?_⟩⟩
    · unfold f_H_readTapeName_86
      rw [C0r0 (G0 hS) (R0_0 hR2), bs, c_o (G1 hS), bs, k_clear hS, xb_mk, xz_b]
    · intro a k h1 h2
      rw [tI_ne (Or.inl h1), tI_ne (Or.inl h1), h.1 a k h2, g2.1 a k h2]
    · intro a k h1; exact (h.2.1 a k h1).trans (g2.2.1 a k h1)
    · intro a k; exact (h.2.2.1 a k).trans (g2.2.2.1 a k)
    · intro a; exact (h.2.2.2.1 a).trans (g2.2.2.2.1 a)
    · intro a; exact (h.2.2.2.2.1 a).trans (g2.2.2.2.2.1 a)
    · intro a; exact (h.2.2.2.2.2 a).trans (g2.2.2.2.2.2 a)
  have bad : ∀ (z : Int32), f_H_readTapeName_28 F c 0 (nI 0) (cH sk L τ) = f_H_readTapeName_86 F c 0 (bI false) (cH sk L τ1) := by
    intro _
    obtain ⟨f, hf⟩ : ∃ x, F = x + 1 := ⟨F - 1, by omega⟩
    have e : ∀ g, f_H_readTapeName_38 F c (g + 1) 0 (nI 0) (nI 0) (cH sk L τ1) = f_H_readTapeName_86 F c 0 (nI 0) (cH sk L τ1) := by
      intro g
      unfold f_H_readTapeName_38
      rw [if_pos (show nI 0 = 0 from rfl)]
    unfold f_H_readTapeName_28
    rw [C0r10 (G0 hS) (R0_10 hR), bs, c_o (G146 hS), bs, g1, xb_mk]
    have := e f
    rw [← hf] at this
    exact this
  have t1 := ht.1
  have t2 := ht.2.1
  unfold f_H_readTapeName f_H_readTapeName_27 tnm
  rw [C0r0 (G0 hS) (R0_0 hR), bs, C10g1 (G1 hS), bs, t1]
  by_cases c1 : 1 ≤ n
  · rw [if_neg (nI_nlt c1 (by omega)), bs, C10g1 (G1 hS), bs, t1, decide_eq_true c1, Bool.true_and]
    by_cases c2 : n ≤ 20
    · rw [if_neg (nI_nlt c2 (by omega)), decide_eq_true c2, Bool.true_and]
      obtain ⟨τ2, i1, i2, i3⟩ := k_rTN_38 (F := F) (c := c) hS c2 n 0 F τ1 (by omega) (by omega) hR1 ht1 g3
      obtain ⟨j1, j2, j3, j4⟩ := fin τ2 (nzf b 0 n) i2
      refine ⟨_, ?_, j2, j3, j4, fun q => isNm_mv (i3 q) (fun _ _ => rfl) ((tI_ne (Or.inl (by decide))).trans (tI_ne (Or.inl (by decide))))⟩
      unfold f_H_readTapeName_28
      rw [C0r10 (G0 hS) (R0_10 hR), bs, c_o (G146 hS), bs, g1, xb_mk, show nI 1 = bI true from rfl, i1, j1]
    · rw [if_pos (nI_lt (by omega) (by omega)), decide_eq_false c2, Bool.false_and, bad 0]
      obtain ⟨j1, j2, j3, j4⟩ := fin τ1 false (frN_refl _ _)
      exact ⟨_, j1, j2, j3, j4, fun q => nomatch q⟩
  · rw [if_pos (nI_lt (by omega) (by omega)), decide_eq_false c1, Bool.false_and, Bool.false_and, bad 0]
    obtain ⟨j1, j2, j3, j4⟩ := fin τ1 false (frN_refl _ _)
    exact ⟨_, j1, j2, j3, j4, fun q => nomatch q⟩
end CTD
