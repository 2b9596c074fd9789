/-! put, fillSite of the reference; a step that writes OUT alone -/
def WRo (σ σ' : px_S) : Prop := FR [] [] [3] [] σ σ' ∧ ∀ k, isB (gA σ' 3 k)
theorem WRo_tr {σ σ1 σ2 : px_S} (h : WRo σ σ1) (g : WRo σ1 σ2) : WRo σ σ2 := ⟨FR_trans h.1 g.1, g.2⟩
theorem WRo_set {σ : px_S} {i : Nat} {v : Int32} (h3 : ∀ k, isB (gA σ 3 k)) (hv : isB v) : WRo σ (sA σ 3 (upd (gA σ 3) i v)) := ⟨FR_A σ 3 _, fun q => by
  show isB (upd (gA σ 3) i v q)
  by_cases c : q = i
  · rw [c, upd_eq]; exact hv
  · rw [upd_ne c]; exact h3 q⟩
section MPU
variable {F m : Nat} {h : px_H}
theorem q_put_3 {at0 n : Nat} {v : Int64} (hm : m ≤ h.length) (ha : at0 + n ≤ 65536) : ∀ (c k g : Nat) (σ : px_S), k + c = n → c < g → (∀ k, isB (gA σ 3 k)) → ∃ σ', f_M_put_3 F g m (nI at0) v (nI n) (nI k) (mh m h σ) = some ((), mh m h σ') ∧ WRo σ σ' := by
  intro c
  induction c with
  | zero =>
    intro k g σ hk hg h3
    obtain ⟨g, rfl⟩ : ∃ x, g = x + 1 := ⟨g - 1, by omega⟩
    unfold f_M_put_3 f_M_put_34
    rw [if_pos (nI_le (by omega) (by omega))]
    exact ⟨σ, rfl, FR_refl σ, h3⟩
  | succ c ih =>
    intro k g σ hk hg h3
    obtain ⟨g, rfl⟩ : ∃ x, g = x + 1 := ⟨g - 1, by omega⟩
    unfold f_M_put_3
    rw [if_neg (nI_ge (by omega) (by omega)), Mr3 hm, bs, nI_add, Ms3 hm (by omega), bs, nI_add]
    have w := WRo_set (i := at0 + k) h3 (isB_8 ((v >>> ((nI 8 * nI k).toInt64 &&& 63)).toInt32.toInt8.toInt32))
    obtain ⟨σ2, j1, j2⟩ := ih (k + 1) g _ (by omega) (by omega) w.2
    exact ⟨σ2, j1, WRo_tr w j2⟩
theorem q_put {σ : px_S} {at0 n : Nat} {v : Int64} (hm : m ≤ h.length) (hF : 65536 < F) (ha : at0 + n ≤ 65536) (h3 : ∀ k, isB (gA σ 3 k)) : ∃ σ', f_M_put F m (nI at0) v (nI n) (mh m h σ) = some ((), mh m h σ') ∧ WRo σ σ' :=
  q_put_3 hm ha n 0 F σ (by omega) (by omega) h3
theorem q_fillSite {σ : px_S} {at0 n sk : Nat} {v : Int64} (hm : m ≤ h.length) (hF : 65536 < F) (ha : at0 + n ≤ 65536) (hsk : sk ≤ 3) (h2 : 0 < sk → 2 ≤ at0 ∧ at0 + 4 ≤ 65536) (h3 : ∀ k, isB (gA σ 3 k)) : ∃ σ', f_M_fillSite F m (nI at0) v (nI n) (nI sk) (mh m h σ) = some ((), mh m h σ') ∧ WRo σ σ' := by
  have e14 : ∀ a1, a1 + n ≤ 65536 → ∃ σ', f_M_fillSite_14 F m (nI at0) v (nI n) (nI sk) m (nI a1) (mh m h σ) = some ((), mh m h σ') ∧ WRo σ σ' := by
    intro a1 ha1
    obtain ⟨σ1, p1, p2⟩ := q_put (F := F) (h := h) (v := v) hm hF ha1 h3
    have e53 : ∀ σ2, (∀ k, isB (gA σ2 3 k)) → ∃ σ', f_M_fillSite_53 F m (nI at0) (nI sk) (mh m h σ2) = some ((), mh m h σ') ∧ WRo σ2 σ' := by
      intro σ2 h32
      unfold f_M_fillSite_53
      by_cases c3 : sk = 3
      · have := h2 (by omega)
        rw [if_pos (by rw [c3]), Mr3 hm, bs, pk_sub (by omega), Ms3 hm (by omega), bs]
        have w1 := WRo_set (i := at0 - 2) h32 (isB_8 ((Int8.ofInt (-23)).toInt32))
        rw [Mr3 hm, bs, nI_add, Ms3 hm (by omega), bs]
        have w2 := WRo_set (i := at0 + 3) w1.2 (isB_8 ((Int8.ofInt (-112)).toInt32))
        exact ⟨_, rfl, WRo_tr w1 w2⟩
      · rw [if_neg (fun q => c3 ((nI_eq (by omega) (by decide)).mp q))]
        exact ⟨σ2, rfl, FR_refl σ2, h32⟩
    have e36 : ∀ σ2, (∀ k, isB (gA σ2 3 k)) → ∃ σ', f_M_fillSite_36 F m (nI at0) (nI sk) (mh m h σ2) = some ((), mh m h σ') ∧ WRo σ2 σ' := by
      intro σ2 h32
      unfold f_M_fillSite_36
      by_cases c2 : sk = 2
      · have := h2 (by omega)
        obtain ⟨σ3, q1, q2⟩ := q_put (F := F) (h := h) (σ := σ2) (at0 := at0 - 2) (n := 2) (v := (59495 : Int64)) hm hF (by omega) h32
        obtain ⟨σ4, r1, r2⟩ := e53 σ3 q2.2
        rw [if_pos (by rw [c2]), e_o hm, bs, pk_sub (by omega), q1, xb_mk]
        exact ⟨σ4, r1, WRo_tr q2 r2⟩
      · rw [if_neg (fun q => c2 ((nI_eq (by omega) (by decide)).mp q))]
        exact e53 σ2 h32
    unfold f_M_fillSite_14
    rw [e_o hm, bs, p1, xb_mk]
    by_cases c1 : sk = 1
    · have := h2 (by omega)
      have w1 := WRo_set (σ := σ1) (i := at0 - 2) p2.2 (isB_8 ((Int8.ofInt (-115)).toInt32))
      obtain ⟨σ4, r1, r2⟩ := e36 _ w1.2
      rw [if_pos (by rw [c1]), Mr3 hm, bs, pk_sub (by omega), Ms3 hm (by omega), bs]
      exact ⟨σ4, r1, WRo_tr p2 (WRo_tr w1 r2)⟩
    · obtain ⟨σ4, r1, r2⟩ := e36 σ1 p2.2
      rw [if_neg (fun q => c1 ((nI_eq (by omega) (by decide)).mp q))]
      exact ⟨σ4, r1, WRo_tr p2 r2⟩
  unfold f_M_fillSite
  by_cases c3 : sk = 3
  · have := h2 (by omega)
    rw [if_pos (by rw [c3]), pk_sub (by omega)]
    exact e14 (at0 - 1) (by omega)
  · rw [if_neg (fun q => c3 ((nI_eq (by omega) (by decide)).mp q))]
    exact e14 at0 ha
end MPU
