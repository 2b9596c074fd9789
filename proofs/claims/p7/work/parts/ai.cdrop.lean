/-! dropParts of the class, whole -/
section CDQ
variable {F : Nat} {c : px_CT} {sk : Nat → Nat × Nat × Nat} {L : Nat} {q g base n t i : Nat} {S : Nat → Int32} {τ : px_TT} {dr : Nat → Bool}
theorem k_dropParts {u : Nat} (hS : GS sk L) (hF : 65536 < F) (hq : q < 138) (ht : t < 64) (h1 : 1 ≤ i) (hi : i < oS (cb S base n)) (hT : oT (cb S base n) i = 17) (hR : GR τ) (hD : cD sk L τ q g base n S) (hp : RPd τ t (cb S base n) base u dr) : ∃ τ', f_Link_dropParts F c 147 (nI t) (some q) (nI (oP (cb S base n) i)) (nI (oZ (cb S base n) i)) (cH sk L τ) = some ((), cH sk L τ') ∧ RPd τ' t (cb S base n) base u (mkD t (cb S base n) i 1 (oZ (cb S base n) i / 4 - 1) dr) ∧ frOp t τ τ' := by
  obtain ⟨⟨z1, z2, z3, z4⟩, z5, z6⟩ := (eObj_0 hD.2.2).2.2 i h1 hi hT
  have hn : base + n ≤ 65536 := hD.1.1.1.1.2.2.2.2.2.2.2.2.1
  unfold f_Link_dropParts
  exact k_dp_3 hS (by omega) hq ht z2 z5 z6 (oZ (cb S base n) i / 4 - 1) 1 F τ dr (by omega) (Nat.le_refl _) (by omega) hR hD hp
end CDQ
