/-! dropParts of the class -/
def isPd (τ : px_TT) (p t s : Nat) (b : Nat → Nat) (base u : Nat) (dr : Bool) : Prop := (fI τ p 0 = nI t ∧ fI τ p 1 = nI (u / 8) ∧ fI τ p 2 = nI (u % 8)) ∧ fI τ p 3 = nI s ∧ fI τ p 4 = (if kpB b s = true then nI (oG b s) else Int32.ofInt (-1)) ∧ fI τ p 8 = nI (if dr = true then 2 else if kpB b s = true then 1 else 0) ∧ fI τ p 9 = bI (kpB b s && !dr) ∧ (kpB b s = true → fI τ p 5 = nI (oZ b s) ∧ fI τ p 6 = nI (if oA b s < 1 then 1 else oA b s) ∧ fI τ p 7 = nI (base + oP b s)) ∧ fI τ p 10 = bI ((kpB b s && oStr b s) && !dr)
theorem isPd_0 {p t s base u : Nat} {b : Nat → Nat} {τ : px_TT} (h : isPt τ p t s b base u) : isPd τ p t s b base u false := by
  unfold isPd
  rw [if_neg (show ¬ (false = true) by decide), Bool.not_false, Bool.and_true, Bool.and_true]
  exact h
theorem isPd_fr {p t s base u : Nat} {b : Nat → Nat} {dr : Bool} {τ τ' : px_TT} (h : isPd τ p t s b base u dr) (hI : ∀ k, fI τ' p k = fI τ p k) : isPd τ' p t s b base u dr := by
  unfold isPd
  rw [hI, hI, hI, hI, hI, hI, hI, hI, hI, hI, hI]
  exact h
/-- the parts of object t -/
def RPd (τ : px_TT) (t : Nat) (b : Nat → Nat) (base u : Nat) (dr : Nat → Bool) : Prop := ∀ i, i < 24 → isPd τ (152 + (24 * t + i)) t i b base u (dr (24 * t + i))
section CDP
variable {F : Nat} {c : px_CT} {sk : Nat → Nat × Nat × Nat} {L : Nat} {q g base n t i : Nat} {S : Nat → Int32}
theorem k_dp_3 {u : Nat} (hS : GS sk L) (hF : 24 < F) (hq : q < 138) (ht : t < 64) (hZ : oZ (cb S base n) i % 4 = 0) (hP : oP (cb S base n) i + oZ (cb S base n) i ≤ n) (hG : ∀ j, 1 ≤ j → j < oZ (cb S base n) i / 4 → gN (cb S base n) i j < 24) : ∀ (d j f : Nat) (τ : px_TT) (dr : Nat → Bool), j + d = oZ (cb S base n) i / 4 → 1 ≤ j → d < f → GR τ → cD sk L τ q g base n S → RPd τ t (cb S base n) base u dr → ∃ τ', f_Link_dropParts_3 F c f 147 (nI t) (some q) (nI (oP (cb S base n) i)) (nI (oZ (cb S base n) i)) (nI (4 * j)) (cH sk L τ) = some ((), cH sk L τ') ∧ RPd τ' t (cb S base n) base u (mkD t (cb S base n) i j d dr) ∧ frOp t τ τ' := by
  intro d
  induction d with
  | zero =>
    intro j f τ dr hj h1 hf hR hD hp
    obtain ⟨f, rfl⟩ : ∃ x, f = x + 1 := ⟨f - 1, by omega⟩
    have hn : base + n ≤ 65536 := hD.1.1.1.1.2.2.2.2.2.2.2.2.1
    refine ⟨τ, ?_, hp, frOp_refl⟩
    unfold f_Link_dropParts_3 f_Link_dropParts_51
    rw [if_pos (nI_le (by omega) (by omega))]
  | succ d ih =>
    intro j f τ dr hj h1 hf hR hD hp
    obtain ⟨f, rfl⟩ : ∃ x, f = x + 1 := ⟨f - 1, by omega⟩
    have hO := hD.1.1.1.1
    have hn : base + n ≤ 65536 := hO.2.2.2.2.2.2.2.2.1
    have o := hO.1
    have hg := hG j h1 (by omega)
    have opt := G_part hS (show 24 * t + gN (cb S base n) i j < 1536 by omega)
    obtain ⟨G, eG⟩ : ∃ G, G = gN (cb S base n) i j := ⟨_, rfl⟩
    have hnum := k_num (F := F) (c := c) (x := oP (cb S base n) i + 4 * j) (k := 4) hO (by omega) (by decide) (by omega)
    rw [nm_in (by omega), show le (cb S base n) (oP (cb S base n) i + 4 * j) 4 = G from eG.symm] at hnum
    rw [← eG] at hg opt
    obtain ⟨p, hpe⟩ : ∃ p, p = 152 + (24 * t + G) := ⟨_, rfl⟩
    rw [← hpe] at opt
    obtain ⟨τ1, hτ1⟩ : ∃ x, x = tI (tI (tI τ p 8 (nI 2)) p 9 (bI false)) p 10 (bI false) := ⟨_, rfl⟩
    have f1 : frPt p τ τ1 := by
      rw [hτ1]
      exact ⟨fun a k h => by simp only [fI_tI, h, false_and, if_false], fun _ _ _ => rfl, fun _ _ => rfl, fun _ => rfl, fun _ => rfl, fun _ => rfl⟩
    have fo : frOp t τ τ1 := frPt_Op (s := G) (by rw [← hpe]; exact f1) hg
    have hp1 : RPd τ1 t (cb S base n) base u (fun x => if x = 24 * t + gN (cb S base n) i j then true else dr x) := by
      intro i' hi'
      rw [← eG]
      by_cases ci : i' = G
      · show isPd τ1 _ t i' _ base u (if 24 * t + i' = 24 * t + G then true else dr (24 * t + i'))
        rw [if_pos (by omega), ci, ← hpe]
        obtain ⟨a1, a2, a3, a4, a5, a6, a7⟩ := hp G hg
        rw [← hpe] at a1 a2 a3 a6
        have hI : ∀ k, k ≠ 8 → k ≠ 9 → k ≠ 10 → fI τ1 p k = fI τ p k := fun k h8 h9 h10 => by rw [hτ1]; simp [fI_tI, h8, h9, h10]
        refine ⟨⟨(hI 0 (by decide) (by decide) (by decide)).trans a1.1, (hI 1 (by decide) (by decide) (by decide)).trans a1.2.1, (hI 2 (by decide) (by decide) (by decide)).trans a1.2.2⟩, (hI 3 (by decide) (by decide) (by decide)).trans a2, (hI 4 (by decide) (by decide) (by decide)).trans a3, ?_, ?_, fun hk => ?_, ?_⟩
        · rw [if_pos rfl, hτ1]; simp [fI_tI]
        · rw [Bool.not_true, Bool.and_false, hτ1]; simp [fI_tI]
        · rw [hI 5 (by decide) (by decide) (by decide), hI 6 (by decide) (by decide) (by decide), hI 7 (by decide) (by decide) (by decide)]; exact a6 hk
        · rw [Bool.not_true, Bool.and_false, hτ1]; simp [fI_tI]
      · show isPd τ1 _ t i' _ base u (if 24 * t + i' = 24 * t + G then true else dr (24 * t + i'))
        rw [if_neg (by omega)]
        exact isPd_fr (hp i' hi') (fun k => f1.1 _ k (by omega))
    obtain ⟨τ', j1, j2, j3⟩ := ih (j + 1) f τ1 _ (by omega) (by omega) (by omega) (GR_Op hR fo) (cD_Op hD fo hq) hp1
    refine ⟨τ', ?_, j2, frOp_trans fo j3⟩
    unfold f_Link_dropParts_3
    rw [if_neg (nI_ge (by omega) (by omega)), bs, c_o o, bs, nI_add, hnum, xb_mk, c_o (G147 hS), bs, lN_i, k_part hS hR ht hg, ← hpe, xb_mk, bs, C8p8 opt, bs, show xpZ _ 8 9 p (nI 0) = _ from C8z9 opt false, bs, show xpZ _ 8 10 p (nI 0) = _ from C8z10 opt false, bs, nI_add, ← hτ1]
    exact j1
end CDP
