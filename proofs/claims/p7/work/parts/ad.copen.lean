/-! openParts of the class: one section -/
def kpB (b : Nat → Nat) (s : Nat) : Bool := decide (s < oS b) && oK b s
def isPt (τ : px_TT) (p t s : Nat) (b : Nat → Nat) (base u : Nat) : Prop := (fI τ p 0 = nI t ∧ fI τ p 1 = nI (u / 8) ∧ fI τ p 2 = nI (u % 8)) ∧ fI τ p 3 = nI s ∧ fI τ p 4 = (if kpB b s = true then nI (oG b s) else Int32.ofInt (-1)) ∧ fI τ p 8 = nI (if kpB b s = true then 1 else 0) ∧ fI τ p 9 = bI (kpB b s) ∧ (kpB b s = true → fI τ p 5 = nI (oZ b s) ∧ fI τ p 6 = nI (if oA b s < 1 then 1 else oA b s) ∧ fI τ p 7 = nI (base + oP b s)) ∧ fI τ p 10 = bI (kpB b s && oStr b s)
def frPt (p : Nat) (τ τ' : px_TT) : Prop := (∀ a k, a ≠ p → fI τ' a k = fI τ a k) ∧ (∀ a k, a ≠ p → fJ τ' a k = fJ τ a k) ∧ (∀ a k, fN τ' a k = fN τ a k) ∧ (∀ a, eI τ' a = eI τ a) ∧ (∀ a, eJ τ' a = eJ τ a) ∧ ∀ a, eN τ' a = eN τ a
section COP
variable {F : Nat} {c : px_CT} {sk : Nat → Nat × Nat × Nat} {L : Nat} {τ τ' : px_TT} {q g base n t s p : Nat} {S : Nat → Int32}
theorem cD_P {k : Nat} {v : Int32} (h : cD sk L τ q g base n S) (hq : q < 138) (hp : 152 ≤ p) : cD sk L (tI τ p k v) q g base n S := by
  have hI : ∀ j, fI (tI τ p k v) q j = fI τ q j := fun j => tI_ne (Or.inl (by omega))
  unfold cD cS cG cR cO cY at h ⊢
  rw [hI, hI, hI, hI, hI, hI, hI, hI, hI, hI]
  exact h
theorem k_op0 {k2 : Nat → Int32 → Option Nat → Int32 → px_H → Option (Unit × px_H)} (hp : ob sk L 8 p) (hk : kpB (cb S base n) s = false) {u : Nat} (hp1 : fI τ p 0 = nI t ∧ fI τ p 1 = nI (u / 8) ∧ fI τ p 2 = nI (u % 8)) (hp3 : fI τ p 3 = nI s) (hp4 : fI τ p 4 = Int32.ofInt (-1)) : ∃ τ', f_Link_openParts_73 F c k2 147 (nI t) (some q) (nI s) (some p) (Int32.ofInt (-1)) (some p) (nI 0) (cH sk L τ) = k2 147 (nI t) (some q) (nI (s + 1)) (cH sk L τ') ∧ isPt τ' p t s (cb S base n) base u ∧ frPt p τ τ' := by
  unfold f_Link_openParts_73 f_Link_openParts_88 f_Link_openParts_108 f_Link_openParts_132 f_Link_openParts_157 f_Link_openParts_179 f_Link_openParts_180
  rw [bs, C8p8 hp, bs, if_pos (show Int32.ofInt (-1) < 0 by decide), bs, show xpZ _ 8 9 p (nI 0) = _ from C8z9 hp false, bs, if_neg (show ¬ 0 ≤ Int32.ofInt (-1) by decide), bs, C8p5 hp, bs, if_neg (show ¬ 0 ≤ Int32.ofInt (-1) by decide), bs, C8p6 hp, bs, if_neg (show ¬ 0 ≤ Int32.ofInt (-1) by decide), bs, C8p7 hp, bs, if_pos (show Int32.ofInt (-1) < 0 by decide), bs, show xpZ _ 8 10 p (nI 0) = _ from C8z10 hp false, bs, bs, C8p11 hp, bs, C8p12 hp, bs, nI_add]
  refine ⟨_, rfl, ?_, ⟨fun a k h => ?_, fun a k h => ?_, fun _ _ => rfl, fun _ => rfl, fun _ => rfl, fun _ => rfl⟩⟩
  · unfold isPt
    rw [hk]
    simp [fI_tI, fI_tJ, hp1.1, hp1.2.1, hp1.2.2, hp3, hp4]
  · simp only [fI_tI, fI_tJ, h, false_and, if_false]
  · simp only [fJ_tI, fJ_tJ, h, false_and, if_false]
end COP
