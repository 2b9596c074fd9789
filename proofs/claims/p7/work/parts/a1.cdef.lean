/-! define of the class -/
/-- a name's cell p has got a definition -/
def frDf (p : Nat) (τ τ' : px_TT) : Prop := (∀ a k, (a ≠ p ∨ (k ≠ 4 ∧ k ≠ 5 ∧ k ≠ 9 ∧ k ≠ 13)) → (a ≠ 147 ∨ k ≠ 15) → fI τ' a k = fI τ a k) ∧ (∀ a k, (a ≠ p ∨ (k ≠ 7 ∧ k ≠ 8)) → fJ τ' a k = fJ τ a k) ∧ (∀ a k, (a ≠ p ∨ k ≠ 6) → fN τ' a k = fN τ a k) ∧ (∀ a, eI τ' a = eI τ a) ∧ (∀ a, eJ τ' a = eJ τ a) ∧ (∀ a, a ≠ 1693 → eN τ' a = eN τ a)
def isDf (τ : px_TT) (p : Nat) (s hm : Int32) (pt : Option Nat) (v z : Int64) : Prop := fI τ p 4 = s ∧ fI τ p 5 = hm ∧ fN τ p 6 = pt ∧ fJ τ p 7 = v ∧ fJ τ p 8 = z ∧ fI τ p 13 = bI true
section CDF
variable {F : Nat} {c : px_CT} {sk : Nat → Nat × Nat × Nat} {L : Nat} {τ : px_TT} {p : Nat} {s hm inf : Int32} {pt : Option Nat} {v z : Int64}
theorem k_def39 (hp : ob sk L 5 p) : ∃ τ', f_Link_define_39 F c (some p) s hm pt v z inf (cH sk L τ) = some ((), cH sk L τ') ∧ isDf τ' p s hm pt v z ∧ frDf p τ τ' ∧ (∀ k, p ≠ 147 → fI τ' 147 k = fI τ 147 k) ∧ eN τ' 1693 = eN τ 1693 := by
  unfold f_Link_define_39
  rw [bs, C5p4 hp, bs, C5p5 hp, bs, C5w6 hp, bs, C5p7 hp, bs, C5p8 hp, bs, C5p9 hp, bs, show xpZ _ 5 13 p (nI 1) = _ from C5z13 hp true, bs]
  refine ⟨_, rfl, ⟨?_, ?_, ?_, ?_, ?_, ?_⟩, ⟨?_, ?_, ?_, fun _ => rfl, fun _ => rfl, fun _ _ => rfl⟩, ?_, rfl⟩
  · simp [fI_tI, fI_tJ, fI_tN]
  · simp [fI_tI, fI_tJ, fI_tN]
  · simp [fN_tI, fN_tJ, fN_tN]
  · simp [fJ_tI, fJ_tJ, fJ_tN]
  · simp [fJ_tI, fJ_tJ, fJ_tN]
  · simp [fI_tI, fI_tJ, fI_tN]
  · intro a k h _
    rcases h with h | h
    · simp only [fI_tI, fI_tJ, fI_tN, h, false_and, if_false]
    · simp only [fI_tI, fI_tJ, fI_tN, h.1, h.2.1, h.2.2.1, h.2.2.2, and_false, if_false]
  · intro a k h
    rcases h with h | h
    · simp only [fJ_tI, fJ_tJ, fJ_tN, h, false_and, if_false]
    · simp only [fJ_tI, fJ_tJ, fJ_tN, h.1, h.2, and_false, if_false]
  · intro a k h
    rcases h with h | h
    · simp only [fN_tI, fN_tJ, fN_tN, h, false_and, if_false]
    · simp only [fN_tI, fN_tJ, fN_tN, h, and_false, if_false]
  · intro k h
    have h : ¬ (147 = p) := fun e => h e.symm
    simp only [fI_tI, fI_tJ, fI_tN, h, false_and, if_false]
theorem k_define {n : Nat} (hS : GS sk L) (hR : fN τ 147 9 = some 1693) (hp : ob sk L 5 p) (hpl : 1815 ≤ p) (hn : n < 4128) (h15 : fI τ 147 15 = nI n) : ∃ τ', f_Link_define F c 147 (some p) s hm pt v z inf (cH sk L τ) = some ((), cH sk L τ') ∧ isDf τ' p s hm pt v z ∧ frDf p τ τ' ∧ (fI τ p 4 = nI 0 → fI τ' 147 15 = nI (n + 1) ∧ eN τ' 1693 = va_up (eN τ 1693) n (some p)) ∧ (fI τ p 4 ≠ nI 0 → fI τ' 147 15 = nI n ∧ eN τ' 1693 = eN τ 1693) := by
  have o147 := G147 hS
  have a1693 := G1693 hS
  unfold f_Link_define
  rw [bs, C5g4 hp, bs]
  by_cases c1 : fI τ p 4 = nI 0
  · rw [if_pos (show fI τ p 4 = 0 from c1), C3g15 o147, bs, C3r9 o147 hR, bs, c_l a1693 (by decide), bs, h15, if_neg (nI_ge (by omega) (by omega)), bs, bs, c_sO a1693 (by decide) (by omega) hn hp, bs]
    obtain ⟨τ1, hτ1⟩ : ∃ x, x = vN τ 1693 (va_up (eN τ 1693) n (some p)) := ⟨_, rfl⟩
    rw [← hτ1]
    have e15 : fI τ1 147 15 = nI n := by rw [hτ1]; exact h15
    rw [C3g15 o147, bs, e15, show (nI n) + (nI 1) = nI (n + 1) from nI_add .., C3p15 o147, bs]
    obtain ⟨τ', g1, g2, g3, g4, g5⟩ := k_def39 (F := F) (c := c) (τ := tI τ1 147 15 (nI (n + 1))) (s := s) (hm := hm) (inf := inf) (pt := pt) (v := v) (z := z) hp
    refine ⟨τ', g1, g2, ⟨fun a k h h2 => ?_, fun a k h => ?_, fun a k h => ?_, fun a => ?_, fun a => ?_, fun a h => ?_⟩, fun _ => ⟨?_, ?_⟩, fun q => absurd c1 q⟩
    · rw [g3.1 a k h h2, fI_tI, if_neg (fun q => h2.elim (fun e => e q.1) (fun e => e q.2)), hτ1]; rfl
    · rw [g3.2.1 a k h, fJ_tI, hτ1]; rfl
    · rw [g3.2.2.1 a k h, fN_tI, hτ1]; rfl
    · rw [g3.2.2.2.1 a, hτ1]; rfl
    · rw [g3.2.2.2.2.1 a, hτ1]; rfl
    · rw [g3.2.2.2.2.2 a h, hτ1]; exact u1_ne h
    · rw [g4 15 (by omega), fI_tI, if_pos ⟨rfl, rfl⟩]
    · rw [g5, hτ1]; exact (u1_eq : u1 τ.2.2.2.2.2 1693 (va_up (eN τ 1693) n (some p)) 1693 = _)
  · rw [if_neg (show ¬ fI τ p 4 = 0 from c1)]
    obtain ⟨τ', g1, g2, g3, g4, g5⟩ := k_def39 (F := F) (c := c) (τ := τ) (s := s) (hm := hm) (inf := inf) (pt := pt) (v := v) (z := z) hp
    exact ⟨τ', g1, g2, g3, fun q => absurd q c1, fun _ => ⟨(g4 15 (by omega)).trans h15, g5⟩⟩
end CDF
