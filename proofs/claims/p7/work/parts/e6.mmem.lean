/-! the reference boots: the memory's names (steps spelled out by sf/pp.py) -/
/-- c names were found -/
def MNi (σ0 σ : px_S) (c : Nat) : Prop := FR [44] [] [45, 46] [47] σ0 σ ∧ gI σ 44 = nI c ∧ ∀ i, i < c → ∃ p l, gA σ 45 i = nI p ∧ gA σ 46 i = nI l ∧ l ≤ 20 ∧ p + l ≤ 65536
section MMN
variable {F m : Nat} {h : px_H} {σ0 σ : px_S} {c : Nat}
theorem sm_ms_94 {P np ns x j : Nat} (hm : m ≤ h.length) (hF : 8 < F) (hP : P + 24 ≤ 65536) (hc : c < 2800) (hx : x < 2 ^ 32) (hj : j ≤ 21) (hnp : np + ns ≤ 65536) (hI : MNi σ0 σ c) : Sm m h (fun σ' => ∃ c', c' ≤ c + 1 ∧ MNi σ0 σ' c') Any (f_M_memorySymbol_94 F m (nI P) (lN np) (lN ns) (lN x) (nI j) (mh m h σ)) := by
  have fin : Sm m h (fun σ' => ∃ c', c' ≤ c + 1 ∧ MNi σ0 σ' c') Any (some ((), mh m h σ)) := sm_r any ⟨c, by omega, hI⟩
  obtain ⟨hf, ec, hn⟩ := id hI
  unfold f_M_memorySymbol_94 f_M_memorySymbol_118
  refine sm_i (fun _ => fin) (fun c1 => sm_i (fun _ => fin) (fun c2 => sm_i (fun c3 => ?_) (fun _ => fin)))
  rw [nI_l (by omega), lN_add, pk_lLE (by omega) (by omega)] at c1
  have hj20 : j ≤ 20 := Nat.le_of_not_lt (fun w => absurd c3 (nI_ge w (by omega)))
  rw [lN_add, lN_i, Mr45 hm, bs, Mg44 hm, bs, ec, Ms45 hm hc, bs, Mr46 hm, bs, Mg44 hm, bs, gI_sA, ec, Ms46 hm hc, bs, Mr47 hm, bs, Mg44 hm, bs, gI_sA, gI_sA, ec, nI_add]
  refine sm_o hm (fun _ => sm_tn hm hF (by decide) (by omega) (fun y hy => ?_))
  rw [Ms47 hm hc, bs, Mg44 hm, bs, gI_sB, gI_sA, gI_sA, ec, nI_add, Mp44 hm, bs]
  refine sm_r any ⟨c + 1, Nat.le_refl _, FR_trans (FR_trans (FR_trans (FR_trans hf (FR_mono (FR_A _ _ _) (by decide) (by decide) (by decide) (by decide))) (FR_mono (FR_A _ _ _) (by decide) (by decide) (by decide) (by decide))) (FR_mono (FR_B _ _ _) (by decide) (by decide) (by decide) (by decide))) (FR_mono (FR_I _ _ _) (by decide) (by decide) (by decide) (by decide)), by rw [gI_sI, if_pos rfl], fun i hi => ?_⟩
  simp only [gA_sI, gA_sB, gA_sA]
  by_cases e : i = c
  · subst e
    exact ⟨np + x, j, by simp [upd], by simp [upd], hj20, by omega⟩
  · obtain ⟨p, l, e1, e2, e3, e4⟩ := hn i (by omega)
    exact ⟨p, l, by simp [upd, e, e1], by simp [upd, e, e2], e3, e4⟩
theorem sm_ms_53 {P np ns x : Nat} (hm : m ≤ h.length) (hF : 65540 < F) (hP : P + 24 ≤ 65536) (hc : c < 2800) (hx : x < 2 ^ 32) (hnp : np + ns ≤ 65536) (hI : MNi σ0 σ c) : ∀ (d j f : Nat), j + d = 21 → d < f → Sm m h (fun σ' => ∃ c', c' ≤ c + 1 ∧ MNi σ0 σ' c') Any (f_M_memorySymbol_53 F f m (nI P) (lN np) (lN ns) (lN x) (nI j) (mh m h σ)) := by
  intro d
  induction d with
  | zero =>
    intro j f hj hf
    obtain ⟨f, rfl⟩ : ∃ y, f = y + 1 := ⟨f - 1, by omega⟩
    unfold f_M_memorySymbol_53
    refine sm_i (fun _ => sm_ms_94 hm (by omega) hP hc hx (by omega) hnp hI) (fun _ => ?_)
    rw [if_pos (nI_lt (by omega) (by omega))]
    exact sm_ms_94 hm (by omega) hP hc hx (by omega) hnp hI
  | succ d ih =>
    intro j f hj hf
    obtain ⟨f, rfl⟩ : ∃ y, f = y + 1 := ⟨f - 1, by omega⟩
    have h94 := sm_ms_94 (F := F) (j := j) hm (by omega) hP hc hx (by omega) hnp hI
    have go := ih (j + 1) f (by omega) (by omega)
    unfold f_M_memorySymbol_53
    refine sm_i (fun _ => h94) (fun c1 => ?_)
    rw [nI_l (by omega), lN_add, pk_lLE (by omega) (by omega)] at c1
    rw [if_neg (nI_nlt (by omega) (by omega)), Mr99 hm, bs, lN_add, lN_i, nI_add, Ma99 hm (by omega), bs, nI_add]
    exact sm_i (fun _ => h94) (fun _ => go)
theorem sm_msym {P np ns : Nat} (hm : m ≤ h.length) (hF : 65540 < F) (hP : P + 24 ≤ 65536) (hc : c < 2800) (hnp : np + ns ≤ 65536) (hI : MNi σ0 σ c) : Sm m h (fun σ' => ∃ c', c' ≤ c + 1 ∧ MNi σ0 σ' c') Any (f_M_memorySymbol F m (nI P) (lN np) (lN ns) (mh m h σ)) := by
  have fin : Sm m h (fun σ' => ∃ c', c' ≤ c + 1 ∧ MNi σ0 σ' c') Any (some ((), mh m h σ)) := sm_r any ⟨c, by omega, hI⟩
  unfold f_M_memorySymbol f_M_memorySymbol_35 f_M_memorySymbol_49
  rw [Mr99 hm, bs, nI_add, Ma99 hm (by omega), bs, nI_add]
  refine sm_o hm (fun _ => sm_tn hm (by omega) (by decide) (by omega) (fun x hx => ?_))
  have h53 := sm_ms_53 (F := F) (x := x) hm hF hP hc (by omega) hnp hI 21 0 F rfl (by omega)
  have t35 : Sm m h (fun σ' => ∃ c', c' ≤ c + 1 ∧ MNi σ0 σ' c') Any ((xo (mh m h σ) 12 m).bind fun _ => xb (f_M_triedNum F m (nI (P + 6)) (nI 2) (mh m h σ)) fun t1 ph2 => if t1 = lN 0 then some ((), ph2) else f_M_memorySymbol_53 F F m (nI P) (lN np) (lN ns) (lN x) (nI 0) ph2) := sm_o hm (fun _ => sm_tn hm (by omega) (by decide) (by omega) (fun y hy => sm_i (fun _ => fin) (fun _ => h53)))
  exact sm_i (fun _ => t35) (fun _ => sm_i (fun _ => t35) (fun _ => fin))
theorem sm_fm_273 {sp z np ns : Nat} (hm : m ≤ h.length) (hF : 65540 < F) (hsp : sp + z ≤ 65536) (hnp : np + ns ≤ 65536) : ∀ (d j f : Nat) (σ : px_S), j + d = 2731 → 1 ≤ j → d < f → (∃ c, c ≤ j ∧ MNi σ0 σ c) → Sm m h (fun σ' => ∃ c, c ≤ 2800 ∧ MNi σ0 σ' c) Any (f_M_findMemoryNames_273 F f m (lN sp) (lN z) (lN np) (lN ns) (nI j) (mh m h σ)) := by
  have ez : (lN z / (24 : Int64)).toInt32 = nI (z / 24) := by rw [lk, pk_lDiv (by omega) (by decide) (by decide), lN_i]
  intro d
  induction d with
  | zero =>
    intro j f σ hj hj1 hf hI
    obtain ⟨f, rfl⟩ : ∃ y, f = y + 1 := ⟨f - 1, by omega⟩
    obtain ⟨c, hc, hI⟩ := hI
    unfold f_M_findMemoryNames_273 f_M_findMemoryNames_308
    rw [ez, if_pos (nI_le (by omega) (by omega))]
    exact sm_r any ⟨c, by omega, hI⟩
  | succ d ih =>
    intro j f σ hj hj1 hf hI
    obtain ⟨f, rfl⟩ : ∃ y, f = y + 1 := ⟨f - 1, by omega⟩
    obtain ⟨c, hc, hI⟩ := hI
    unfold f_M_findMemoryNames_273 f_M_findMemoryNames_308
    rw [ez, lN_i, show nI 24 * nI j = nI (24 * j) from (Int32.ofNat_mul 24 j).symm, nI_add, nI_add]
    by_cases hz : z / 24 ≤ j
    · rw [if_pos (nI_le hz (by omega))]
      exact sm_r any ⟨c, by omega, hI⟩
    · rw [if_neg (nI_ge (by omega) (by omega))]
      refine sm_o hm (fun _ => sm_x (sm_msym (P := sp + 24 * j) hm hF (by omega) (by omega) hnp hI) (fun v σ hv hi => ?_))
      obtain ⟨c', hc', hI'⟩ := hi
      exact ih _ _ _ (by omega) (by omega) (by omega) ⟨c', by omega, hI'⟩
end MMN
