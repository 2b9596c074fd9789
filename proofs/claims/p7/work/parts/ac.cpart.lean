/-! part of the class; firstWanted, enterNames whole -/
section CPT
variable {F : Nat} {c : px_CT} {sk : Nat → Nat × Nat × Nat} {L : Nat} {τ : px_TT} {tb : Nat → Nat → Nat} {q g base n ss t i : Nat} {S : Nat → Int32} {xs : px_NL} {od : List Nat} {sg : List (List Nat)} {own : Nat → Nat × Nat} {b : Nat → Nat}
theorem k_part (hS : GS sk L) (hR : GR τ) (ht : t < 64) (hi : i < 24) : f_Link_part F c 147 (nI t) (nI i) (cH sk L τ) = some (some (152 + (24 * t + i)), cH sk L τ) := by
  unfold f_Link_part f_Link_part_33
  rw [pk_mul, nI_add, show t * 24 + i = 24 * t + i by omega, if_neg (show ¬ nI (24 * t + i) < 0 from nI_nlt (b := 0) (Nat.zero_le _) (by omega)), C3r4 (G147 hS) (GR_r (v := 151) hR (by decide)), bs, c_l (G151 hS) (by decide), bs, if_neg (nI_ge (by omega) (by omega)), bs, c_aN (G151 hS) (by decide) (by decide) (by omega), bs, hR.2.2 _ (by omega)]
theorem k_firstWanted (hS : GS sk L) (hF : 4128 < F) (hq : q < 138) (hss : base + n ≤ ss) (hs2 : ss ≤ 65536) (hok : okL xs) (hy : ∀ k, 1 ≤ k → k < oM (cb S base n) → yOK (cb S base n) k = true) (hB : ∀ k, yB (cb S base n) k < 16 ∧ yW (cb S base n) k < 65536) (hR : GR τ) (hn : NP sk L τ own) (hC : CLn sk L τ tb xs od sg) (hs : cS sk L τ q g base n S) (h71 : fI τ 7 1 = nI ss) : ∃ τ', f_Link_firstWanted F c 147 (some q) (cH sk L τ) = some (nI (fwJ (hp1 (cb S base n) xs) 1 (oM (cb S base n) - 1)), cH sk L τ') ∧ frN 1695 τ τ' := by
  have hM := w2_M hs.2.2
  unfold f_Link_firstWanted
  by_cases c0 : oM (cb S base n) = 0
  · refine ⟨τ, ?_, frN_refl _ _⟩
    obtain ⟨f, rfl⟩ : ∃ x, F = x + 1 := ⟨F - 1, by omega⟩
    unfold f_Link_firstWanted_2 f_Link_firstWanted_65
    rw [bs, C7g11 hs.1.1.1.1, bs, hs.2.1.2.1, c0, if_pos (nI_le (by decide) (by decide))]
    rfl
  · exact k_fw_2 hS hF (by omega) hss hs2 hok hy hB (oM (cb S base n) - 1) 1 F τ (by omega) (Nat.le_refl _) (by omega) hR hn hC hs h71
theorem k_enterNames {k : Nat} (hS : GS sk L) (hF : 4128 < F) (hq : q < 138) (ht : t < 64) (hb : b = cb S base n) (hss : base + n ≤ ss) (hs2 : ss ≤ 65536) (hy : ∀ k, 1 ≤ k → k < oM b → yOK b k = true) (hB : ∀ k, yB b k < 16) (hR : GR τ) (hn : NP sk L τ own) (hC : CLn sk L τ tb xs od sg) (hs : cS sk L τ q g base n S) (h71 : fI τ 7 1 = nI ss) (hx : xs.length + 64 ≤ 4128) (hm : RMk sk L (k + oM b)) : ∃ sk' L' τ' own', f_Link_enterNames F c 147 (nI t) (some q) (cH sk L τ) = some ((), cH sk' L' τ') ∧ EX sk L sk' L' ∧ RMk sk' L' k ∧ NP sk' L' τ' own' ∧ CLn sk' L' τ' tb (itr (ec1 b) 0 64 xs) od sg ∧ RSy τ' t b (itr (ec1 b) 0 64 xs) 64 ∧ frSy t xs.length τ τ' := by
  unfold f_Link_enterNames
  exact k_en_2 hF hq ht hb hss hs2 hy hB 64 0 F k sk L τ own xs rfl (by omega) hS hR hn hC hs h71 (fun k hk => by omega) hx hm
end CPT
