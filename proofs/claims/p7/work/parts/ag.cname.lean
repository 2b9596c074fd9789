/-! nameOf, openParts of the class -/
section CNO
variable {F : Nat} {c : px_CT} {sk : Nat → Nat × Nat × Nat} {L : Nat} {τ : px_TT} {q g base n t j : Nat} {S : Nat → Int32}
theorem k_nameOf (hS : GS sk L) (hR : GR τ) (ht : t < 64) (hj : j < 64) : f_Link_nameOf F c 147 (nI t) (nI j) (cH sk L τ) = some (eN τ 1692 (64 * t + j), cH sk L τ) := by
  unfold f_Link_nameOf f_Link_nameOf_35 f_Link_nameOf_52
  rw [if_neg (show ¬ nI j < 0 from nI_nlt (b := 0) (Nat.zero_le _) (by omega)), if_neg (nI_ge hj (by omega)), pk_mul, nI_add, show t * 64 + j = 64 * t + j by omega, if_neg (show ¬ nI (64 * t + j) < 0 from nI_nlt (b := 0) (Nat.zero_le _) (by omega)), C3r8 (G147 hS) (GR_r (v := 1692) hR (by decide)), bs, c_l (G1692 hS) (by decide), bs, if_neg (nI_ge (by omega) (by omega)), if_neg (show ¬ nI 1 = 0 by decide), bs, c_aN (G1692 hS) (by decide) (by decide) (by omega), bs]
theorem k_openParts {u : Nat} (hS : GS sk L) (hF : 24 < F) (hq : q < 138) (ht : t < 64) (hR : GR τ) (hD : cD sk L τ q g base n S) (hu : fI τ q 1 = nI (u / 8) ∧ fI τ q 2 = nI (u % 8)) : ∃ τ', f_Link_openParts F c 147 (nI t) (some q) (cH sk L τ) = some ((), cH sk L τ') ∧ (∀ i, i < 24 → isPt τ' (152 + (24 * t + i)) t i (cb S base n) base u) ∧ frOp t τ τ' := by
  unfold f_Link_openParts
  exact k_op_2 hS hF hq ht 24 0 F τ rfl hF hR hD hu (fun i hi => by omega)
end CNO
