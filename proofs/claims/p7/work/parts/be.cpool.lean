/-! collect of the class's pool -/
def cl1 (C : Nat → Nat) (A j : Nat) (l : List Nat) : List Nat := if C (A + j) = 0 then adm C l (frm C A j) else l
section CPC
variable {F : Nat} {c : px_CT} {sk : Nat → Nat × Nat × Nat} {L : Nat} {τ : px_TT} {C : Nat → Nat} {A Z ss : Nat}
theorem k_at8 {i : Nat} (hS : GS sk L) (hR : GR τ) (hb : CB τ C) (h71 : fI τ 7 1 = nI ss) (hss : ss ≤ 65536) (hi : i < ss) : f_Row_at F c 7 (nI i) (cH sk L τ) = some (nI (C i), cH sk L τ) := by
  rw [k_rowAt (G7 hS) (R7_0 hR) (G8 hS) rfl h71 hss (by decide) (by omega), if_pos hi, hb.2 i]
theorem CB_lt (hb : CB τ C) (x : Nat) : C x < 256 := by rw [hb.2 x]; exact b8_lt _
theorem frm_st {j : Nat} (h : A + j < 65536) (h0 : C (A + j) = 0) : isSt C (frm C A j) (A + j) := by
  obtain ⟨h1, h2, h3⟩ := frm_le (B := C) (p := A) j
  exact ⟨h, h2, h0, h3⟩
theorem k_collect_21 (hS : GS sk L) (hF : 65536 < F) (hA : A + Z ≤ ss) (hss : ss ≤ 32768) : ∀ (d j n : Nat) (τ : px_TT) (l : List Nat), j + d = Z → d < n → GR τ → CB τ C → fI τ 7 1 = nI ss → CPl τ C l → ∃ τ', f_Pool_collect_21 F c n 1697 (nI (frm C A j)) (nI (A + Z)) (nI (A + j)) (cH sk L τ) = some ((), cH sk L τ') ∧ CPl τ' C (itr (cl1 C A) j d l) ∧ frPo τ τ' := by
  intro d
  induction d with
  | zero =>
    intro j n τ l hj hd hR hb h71 hp
    obtain ⟨n, rfl⟩ : ∃ x, n = x + 1 := ⟨n - 1, by omega⟩
    refine ⟨τ, ?_, hp, frPo_refl⟩
    unfold f_Pool_collect_21 f_Pool_collect_61
    rw [if_pos (nI_le (by omega) (by omega))]
  | succ d ih =>
    intro j n τ l hj hd hR hb h71 hp
    obtain ⟨n, rfl⟩ : ∃ x, n = x + 1 := ⟨n - 1, by omega⟩
    have o := G1697 hS
    have hC := CB_lt hb (A + j)
    obtain ⟨m1, m2, m3⟩ := frm_le (B := C) (p := A) j
    unfold f_Pool_collect_21 f_Pool_collect_55
    rw [if_neg (nI_ge (by omega) (by omega)), C9r0 o (GR_r (v := 7) hR (by decide)), bs, c_o (G7 hS), bs, k_at8 hS hR hb h71 (by omega) (by omega), xb_mk, itr_s]
    by_cases c0 : C (A + j) = 0
    · have hst := frm_st (C := C) (A := A) (j := j) (by omega) c0
      obtain ⟨τ1, a1, a2, a3⟩ := k_admit (F := F) (c := c) hS hR hF hb hp hst (by omega)
      obtain ⟨τ', j1, j2, j3⟩ := ih (j + 1) n τ1 (adm C l (frm C A j)) (by omega) (by omega) (GR_Po hR a3) (CB_Po hb a3) (by rw [a3.1 7 1 (by omega)]; exact h71) a2
      rw [frm_s, if_pos c0] at j1
      refine ⟨τ', ?_, by unfold cl1; rw [if_pos c0]; exact j2, frPo_trans a3 j3⟩
      rw [if_pos (show nI (C (A + j)) = 0 by rw [c0]; rfl), c_o o, bs, nI_add, pk_sub (by omega), a1, xb_mk]
      exact j1
    · obtain ⟨τ', j1, j2, j3⟩ := ih (j + 1) n τ l (by omega) (by omega) hR hb h71 hp
      rw [frm_s, if_neg c0] at j1
      refine ⟨τ', ?_, by unfold cl1; rw [if_neg c0]; exact j2, j3⟩
      rw [if_neg (show ¬ nI (C (A + j)) = 0 from fun q => c0 ((nI_eq (b := 0) (by omega) (by decide)).mp q)), nI_add]
      exact j1
theorem k_collect {p : Nat} {l : List Nat} (hS : GS sk L) (hF : 65536 < F) (hA : A + Z ≤ ss) (hss : ss ≤ 32768) (hp : ob sk L 8 p) (h7 : fI τ p 7 = nI A) (h5 : fI τ p 5 = nI Z) (hR : GR τ) (hb : CB τ C) (h71 : fI τ 7 1 = nI ss) (hc : CPl τ C l) : ∃ τ', f_Pool_collect F c 1697 (some p) (cH sk L τ) = some ((), cH sk L τ') ∧ CPl τ' C (itr (cl1 C A) 0 Z l) ∧ frPo τ τ' := by
  obtain ⟨τ', j1, j2, j3⟩ := k_collect_21 (F := F) (c := c) hS hF hA hss Z 0 F τ l (by omega) (by omega) hR hb h71 hc
  refine ⟨τ', ?_, j2, j3⟩
  unfold f_Pool_collect
  rw [bs, C8g7 hp, bs, h7, bs, C8g5 hp, bs, h5, bs, nI_add]
  exact j1
end CPC
