/-! openParts of the class -/
def frOp (t : Nat) (τ τ' : px_TT) : Prop := (∀ a k, (a < 152 + 24 * t ∨ 152 + 24 * t + 24 ≤ a) → fI τ' a k = fI τ a k) ∧ (∀ a k, (a < 152 + 24 * t ∨ 152 + 24 * t + 24 ≤ a) → fJ τ' a k = fJ τ a k) ∧ (∀ a k, fN τ' a k = fN τ a k) ∧ (∀ a, eI τ' a = eI τ a) ∧ (∀ a, eJ τ' a = eJ τ a) ∧ ∀ a, eN τ' a = eN τ a
theorem frOp_refl {t : Nat} {τ : px_TT} : frOp t τ τ := ⟨fun _ _ _ => rfl, fun _ _ _ => rfl, fun _ _ => rfl, fun _ => rfl, fun _ => rfl, fun _ => rfl⟩
theorem frOp_trans {t : Nat} {τ τ1 τ2 : px_TT} (h : frOp t τ τ1) (g : frOp t τ1 τ2) : frOp t τ τ2 := ⟨fun a k z => (g.1 a k z).trans (h.1 a k z), fun a k z => (g.2.1 a k z).trans (h.2.1 a k z), fun a k => (g.2.2.1 a k).trans (h.2.2.1 a k), fun a => (g.2.2.2.1 a).trans (h.2.2.2.1 a), fun a => (g.2.2.2.2.1 a).trans (h.2.2.2.2.1 a), fun a => (g.2.2.2.2.2 a).trans (h.2.2.2.2.2 a)⟩
theorem frPt_Op {t s : Nat} {τ τ' : px_TT} (h : frPt (152 + (24 * t + s)) τ τ') (hs : s < 24) : frOp t τ τ' := ⟨fun a k z => h.1 a k (by omega), fun a k z => h.2.1 a k (by omega), h.2.2.1, h.2.2.2.1, h.2.2.2.2.1, h.2.2.2.2.2⟩
theorem isPt_fr {p t s base u : Nat} {b : Nat → Nat} {τ τ' : px_TT} (h : isPt τ p t s b base u) (hI : ∀ k, fI τ' p k = fI τ p k) : isPt τ' p t s b base u := by
  unfold isPt
  rw [hI, hI, hI, hI, hI, hI, hI, hI, hI, hI, hI]
  exact h
section COR
variable {F : Nat} {c : px_CT} {sk : Nat → Nat × Nat × Nat} {L : Nat} {q g base n t : Nat} {S : Nat → Int32}
theorem cD_Op {τ τ' : px_TT} (h : cD sk L τ q g base n S) (f : frOp t τ τ') (hq : q < 138) : cD sk L τ' q g base n S := by
  have hI : ∀ j, fI τ' q j = fI τ q j := fun j => f.1 q j (by omega)
  unfold cD cS cG cR cO cY at h ⊢
  rw [hI, hI, hI, hI, hI, hI, hI, hI, hI, hI, f.2.2.1, f.2.2.1, f.2.2.1, f.2.2.2.1, f.2.2.2.1]
  exact h
theorem GR_Op {τ τ' : px_TT} (h : GR τ) (f : frOp t τ τ') : GR τ' := GR_mv h (fun a k _ => f.2.2.1 a k) (fun a k ha _ => f.1 a k (by omega)) (f.2.2.2.2.2 9) (f.2.2.2.2.2 151)
theorem k_op_2 {u : Nat} (hS : GS sk L) (hF : 24 < F) (hq : q < 138) (ht : t < 64) : ∀ (d s f : Nat) (τ : px_TT), s + d = 24 → d < f → GR τ → cD sk L τ q g base n S → (fI τ q 1 = nI (u / 8) ∧ fI τ q 2 = nI (u % 8)) → (∀ i, i < s → isPt τ (152 + (24 * t + i)) t i (cb S base n) base u) → ∃ τ', f_Link_openParts_2 F c f 147 (nI t) (some q) (nI s) (cH sk L τ) = some ((), cH sk L τ') ∧ (∀ i, i < 24 → isPt τ' (152 + (24 * t + i)) t i (cb S base n) base u) ∧ frOp t τ τ' := by
  intro d
  induction d with
  | zero =>
    intro s f τ hs hf hR hD hu hp
    obtain ⟨f, rfl⟩ : ∃ x, f = x + 1 := ⟨f - 1, by omega⟩
    refine ⟨τ, ?_, fun i hi => hp i (by omega), frOp_refl⟩
    unfold f_Link_openParts_2 f_Link_openParts_201
    rw [if_pos (nI_le (by omega) (by omega))]
  | succ d ih =>
    intro s f τ hs hf hR hD hu hp
    obtain ⟨f, rfl⟩ : ∃ x, f = x + 1 := ⟨f - 1, by omega⟩
    have hs24 : s < 24 := by omega
    have o := hD.1.1.1.1.1
    have oP := G_part hS (show 24 * t + s < 1536 by omega)
    obtain ⟨p, hpe⟩ : ∃ p, p = 152 + (24 * t + s) := ⟨_, rfl⟩
    rw [← hpe] at oP
    obtain ⟨G, hG⟩ : ∃ G : Int32, G = if kpB (cb S base n) s = true then nI (oG (cb S base n) s) else Int32.ofInt (-1) := ⟨_, rfl⟩
    have eG : (if s < oS (cb S base n) then gv (cb S base n) s else Int32.ofInt (-1)) = G := by
      rw [hG]
      unfold gv kpB
      by_cases e : s < oS (cb S base n)
      · rw [if_pos e, decide_eq_true e, Bool.true_and]
      · rw [if_neg e, decide_eq_false e, Bool.false_and, if_neg (by decide)]
    obtain ⟨τ1, hτ1⟩ : ∃ x, x = tI (tI (tI (tI (tI τ p 0 (nI t)) p 1 (fI τ q 1)) p 2 (fI τ q 2)) p 3 (nI s)) p 4 G := ⟨_, rfl⟩
    have D1 : cD sk L τ1 q g base n S := by rw [hτ1]; exact cD_P (cD_P (cD_P (cD_P (cD_P hD hq (by omega)) hq (by omega)) hq (by omega)) hq (by omega)) hq (by omega)
    have f1 : frPt p τ τ1 := by
      rw [hτ1]
      exact ⟨fun a k h => by simp only [fI_tI, h, false_and, if_false], fun _ _ _ => rfl, fun _ _ => rfl, fun _ => rfl, fun _ => rfl, fun _ => rfl⟩
    have a0 : fI τ1 p 0 = nI t ∧ fI τ1 p 1 = nI (u / 8) ∧ fI τ1 p 2 = nI (u % 8) := by rw [hτ1]; simp [fI_tI, hu.1, hu.2]
    have a3 : fI τ1 p 3 = nI s := by rw [hτ1]; simp [fI_tI]
    have a4 : fI τ1 p 4 = G := by rw [hτ1]; simp [fI_tI]
    have q1 : fI (tI τ p 0 (nI t)) q 1 = fI τ q 1 := tI_ne (Or.inl (by omega))
    have q2 : fI (tI (tI τ p 0 (nI t)) p 1 (fI τ q 1)) q 2 = fI τ q 2 := (tI_ne (Or.inl (by omega))).trans (tI_ne (Or.inl (by omega)))
    have eq : f_Link_openParts_2 F c (f + 1) 147 (nI t) (some q) (nI s) (cH sk L τ) = if 0 ≤ G then f_Link_openParts_73 F c (f_Link_openParts_2 F c f) 147 (nI t) (some q) (nI s) (some p) G (some p) (nI 1) (cH sk L τ1) else f_Link_openParts_73 F c (f_Link_openParts_2 F c f) 147 (nI t) (some q) (nI s) (some p) G (some p) (nI 0) (cH sk L τ1) := by
      conv => lhs; unfold f_Link_openParts_2
      rw [if_neg (nI_ge hs24 (by omega)), c_o (G147 hS), bs, k_part hS hR ht hs24, ← hpe, xb_mk, bs, c_o o, bs, nI_l (by omega), k_groupOf hD.1.1 (by omega), eG, xb_mk, bs, C8p0 oP, bs, C7g1 o, bs, q1, C8p1 oP, bs, C7g2 o, bs, q2, C8p2 oP, bs, C8p3 oP, bs, C8p4 oP, bs, ← hτ1]
    have fin : ∀ τ2, isPt τ2 p t s (cb S base n) base u → frPt p τ1 τ2 → ∃ τ', f_Link_openParts_2 F c f 147 (nI t) (some q) (nI (s + 1)) (cH sk L τ2) = some ((), cH sk L τ') ∧ (∀ i, i < 24 → isPt τ' (152 + (24 * t + i)) t i (cb S base n) base u) ∧ frOp t τ τ' := fun τ2 h1 h2 => by
      rw [hpe] at f1 h1 h2
      have g1 := frOp_trans (frPt_Op f1 hs24) (frPt_Op h2 hs24)
      obtain ⟨τ', j1, j2, j3⟩ := ih (s + 1) f τ2 (by omega) (by omega) (GR_Op hR g1) (cD_Op hD g1 hq) ⟨(g1.1 q 1 (by omega)).trans hu.1, (g1.1 q 2 (by omega)).trans hu.2⟩ (fun i hi => by
        by_cases ci : i = s
        · rw [ci]; exact h1
        · exact isPt_fr (hp i (by omega)) (fun k => (h2.1 _ k (by omega)).trans (f1.1 _ k (by omega))))
      exact ⟨τ', j1, j2, frOp_trans g1 j3⟩
    rw [eq]
    by_cases ck : kpB (cb S base n) s = true
    · rw [if_pos ck] at hG
      have hG5 : oG (cb S base n) s ≤ 5 := by unfold oG; repeat (first | omega | split)
      rw [hG] at a4 ⊢
      rw [if_pos (show 0 ≤ nI (oG (cb S base n) s) from nI_le (a := 0) (Nat.zero_le _) (by omega))]
      obtain ⟨τ2, b1, b2, b3⟩ := k_op1 (F := F) (c := c) (k2 := f_Link_openParts_2 F c f) (t := t) (by omega) oP (by omega) hq D1 hs24 ck a0 a3 a4
      rw [b1]
      exact fin τ2 b2 b3
    · rw [if_neg ck] at hG
      rw [hG] at a4 ⊢
      rw [if_neg (show ¬ 0 ≤ Int32.ofInt (-1) by decide)]
      obtain ⟨τ2, b1, b2, b3⟩ := k_op0 (F := F) (c := c) (q := q) (base := base) (n := n) (S := S) (k2 := f_Link_openParts_2 F c f) (t := t) oP (Bool.eq_false_iff.mpr ck) a0 a3 a4
      rw [b1]
      exact fin τ2 b2 b3
end COR
