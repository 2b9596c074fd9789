/-! link of the reference: the start -/
abbrev liI : List Nat := [0, 13, 14, 20, 48, 50, 15, 69, 70, 74, 68, 88]
abbrev liJ : List Nat := [16, 87]
/-- a link begins -/
def LB (σ : px_S) : Prop := gI σ 13 = nI 0 ∧ gI σ 14 = nI 0 ∧ gI σ 20 = nI 0 ∧ gI σ 48 = nI 0 ∧ gI σ 69 = nI 0 ∧ gI σ 70 = nI 0 ∧ gI σ 74 = nI 0 ∧ gI σ 68 = nI 0 ∧ gI σ 0 = nI 0
section MLN
variable {F m : Nat} {h : px_H} {a : Int32}
theorem q_ln_72 (hm : m ≤ h.length) : ∀ (c k g : Nat) (σ : px_S), k + c = 1536 → c < g → (∀ i, i < k → gA σ 65 i = bI false) → ∃ σ', f_M_link_72 F g m a (nI k) (mh m h σ) = f_M_link_92 F m a (mh m h σ') ∧ RDr σ' (fun _ => false) ∧ FR [] [] [65] [] σ σ' := by
  intro c
  induction c with
  | zero =>
    intro k g σ hk hg h0
    obtain ⟨g, rfl⟩ : ∃ x, g = x + 1 := ⟨g - 1, by omega⟩
    unfold f_M_link_72
    rw [if_pos (nI_le (by omega) (by omega))]
    exact ⟨σ, rfl, fun i hi => h0 i (by omega), FR_refl σ⟩
  | succ c ih =>
    intro k g σ hk hg h0
    obtain ⟨g, rfl⟩ : ∃ x, g = x + 1 := ⟨g - 1, by omega⟩
    unfold f_M_link_72
    rw [if_neg (nI_ge (by omega) (by omega)), Mr65 hm, bs, Ms65 hm (by omega), bs, nI_add]
    have e1 : ∀ i, i < k + 1 → gA (sA σ 65 (upd (gA σ 65) k (nI 0 &&& 1))) 65 i = bI false := fun i hi => by
      rw [gA_sA, if_pos rfl]
      unfold upd
      by_cases c1 : i = k
      · rw [if_pos c1]; rfl
      · rw [if_neg c1]; exact h0 i (by omega)
    have e2 := FR_A σ 65 (upd (gA σ 65) k (nI 0 &&& 1))
    generalize sA σ 65 (upd (gA σ 65) k (nI 0 &&& 1)) = σ1 at *
    obtain ⟨σ', j1, j2, j3⟩ := ih (k + 1) g σ1 (by omega) (by omega) e1
    exact ⟨σ', j1, j2, FR_trans e2 j3⟩
theorem q_ln_0 {σ : px_S} (hm : m ≤ h.length) (hF : 65536 < F) : ∃ σ', f_M_link F m a (mh m h σ) = f_M_link_92 F m a (mh m h σ') ∧ LB σ' ∧ RDr σ' (fun _ => false) ∧ FR liI liJ [65] [] σ σ' := by
  unfold f_M_link
  have hz : ∀ σ : px_S, xpZ (mh m h σ) 12 68 m (nI 0) = some (mh m h (sI σ 68 (nI 0))) := fun σ => Mz68 hm false
  rw [Mp0 hm, bs, Mp13 hm, bs, Mp14 hm, bs, Mp20 hm, bs, Mp48 hm, bs, Mp50 hm, bs, Mp15 hm, bs, Mp16 hm, bs, Mp69 hm, bs, Mp70 hm, bs, Mp74 hm, bs, hz, bs, Mp88 hm, bs, Mp87 hm, bs]
  obtain ⟨σ1, hσ⟩ : ∃ x, x = sJ (sI (sI (sI (sI (sI (sJ (sI (sI (sI (sI (sI (sI (sI σ 0 (nI 0)) 13 (nI 0)) 14 (nI 0)) 20 (nI 0)) 48 (nI 0)) 50 (nI 0)) 15 (nI 0)) 16 (lN 0)) 69 (nI 0)) 70 (nI 0)) 74 (nI 0)) 68 (nI 0)) 88 (nI 0)) 87 (lN 0) := ⟨_, rfl⟩
  rw [← hσ]
  have hB : LB σ1 := by rw [hσ]; exact ⟨rfl, rfl, rfl, rfl, rfl, rfl, rfl, rfl, rfl⟩
  have hf : FR liI liJ [65] [] σ σ1 := by
    rw [hσ]
    have hI : ∀ (σ : px_S) k v, k ∈ liI → FR liI liJ [65] [] σ (sI σ k v) := fun σ k v hk => FR_mono (FR_I σ k v) (fun x hx => by rw [List.mem_singleton.mp hx]; exact hk) (fun _ q => nomatch q) (fun _ q => nomatch q) (fun _ q => nomatch q)
    have hJ : ∀ (σ : px_S) k v, k ∈ liJ → FR liI liJ [65] [] σ (sJ σ k v) := fun σ k v hk => FR_mono (FR_J σ k v) (fun _ q => nomatch q) (fun x hx => by rw [List.mem_singleton.mp hx]; exact hk) (fun _ q => nomatch q) (fun _ q => nomatch q)
    exact FR_trans (FR_trans (FR_trans (FR_trans (FR_trans (FR_trans (FR_trans (FR_trans (FR_trans (FR_trans (FR_trans (FR_trans (FR_trans (hI _ 0 _ (by decide)) (hI _ 13 _ (by decide))) (hI _ 14 _ (by decide))) (hI _ 20 _ (by decide))) (hI _ 48 _ (by decide))) (hI _ 50 _ (by decide))) (hI _ 15 _ (by decide))) (hJ _ 16 _ (by decide))) (hI _ 69 _ (by decide))) (hI _ 70 _ (by decide))) (hI _ 74 _ (by decide))) (hI _ 68 _ (by decide))) (hI _ 88 _ (by decide))) (hJ _ 87 _ (by decide))
  clear hσ
  obtain ⟨σ', j1, j2, j3⟩ := q_ln_72 (F := F) (a := a) (h := h) hm 1536 0 F σ1 rfl (by omega) (fun i hi => by omega)
  refine ⟨σ', j1, ?_, j2, FR_trans hf (FR_mono j3 (fun _ q => nomatch q) (fun _ q => nomatch q) (fun _ q => q) (fun _ q => nomatch q))⟩
  unfold LB
  rw [j3.1 13 (by decide), j3.1 14 (by decide), j3.1 20 (by decide), j3.1 48 (by decide), j3.1 69 (by decide), j3.1 70 (by decide), j3.1 74 (by decide), j3.1 68 (by decide), j3.1 0 (by decide)]
  exact hB
end MLN
