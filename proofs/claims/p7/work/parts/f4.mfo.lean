/-! the reference packs: the objects that are there (steps spelled out by sf/pp.py) -/
/-- c objects were found -/
def FOi (fs : px_FS) (σ0 σ : px_S) (c : Nat) : Prop := FR [0, 127] [] [128, 129] [] σ0 σ ∧ gI σ 127 = nI c ∧ ∀ i, i < c → ∃ q o n b, obAt fs q = some (o, n, b, false) ∧ gA σ 128 i = nI o ∧ gA σ 129 i = nI n
section MFO
variable {F m : Nat} {h : px_H} {σ0 σ : px_S} {fs : px_FS} {c : Nat}
theorem FOi_R (hr : RF σ0 fs) (hI : FOi fs σ0 σ c) : RF σ fs := RF_FR hr hI.1 (by decide) (by decide)
theorem FOi_1 {o n q : Nat} {b : Nat → Nat} (hI : FOi fs σ0 σ c) (hob : obAt fs q = some (o, n, b, false)) : FOi fs σ0 (sI (sA (sA σ 128 (upd (gA σ 128) c (nI o))) 129 (upd (gA σ 129) c (nI n))) 127 (nI (c + 1))) (c + 1) := by
  obtain ⟨hf, ec, ht⟩ := hI
  refine ⟨FR_trans (FR_trans (FR_trans hf (FR_mono (FR_A _ _ _) (by decide) (by decide) (by decide) (by decide))) (FR_mono (FR_A _ _ _) (by decide) (by decide) (by decide) (by decide))) (FR_mono (FR_I _ _ _) (by decide) (by decide) (by decide) (by decide)), by rw [gI_sI, if_pos rfl], fun i hi => ?_⟩
  simp only [gA_sI, gA_sA]
  by_cases e : i = c
  · subst e
    exact ⟨q, o, n, b, hob, by simp [upd], by simp [upd]⟩
  · obtain ⟨q', o', n', b', e1, e2, e3⟩ := ht i (by omega)
    exact ⟨q', o', n', b', e1, by simp [upd, e, e2], by simp [upd, e, e3]⟩
theorem sm_fo_17 {k7 : Nat → Int32 → px_H → Option (Unit × px_H)} {i l : Nat} (hm : m ≤ h.length) (hr : RF σ0 fs) (hi : i < fs.length) (hl : l ≤ 8) (el : gA σ0 8 i = nI l) (hK : ∀ σ c, c ≤ 8 * (i + 1) → FOi fs σ0 σ c → Sm m h (fun σ' => ∃ c, c ≤ 64 ∧ FOi fs σ0 σ' c) Any (k7 m (nI (i + 1)) (mh m h σ))) : ∀ (d k f c : Nat) (σ : px_S), k + d = l → d < f → c ≤ 8 * i + k → FOi fs σ0 σ c → Sm m h (fun σ' => ∃ c, c ≤ 64 ∧ FOi fs σ0 σ' c) Any (f_M_findObjects_17 F k7 f m (nI i) (nI k) (mh m h σ)) := by
  have h8 := hr.2.1
  have i8 : i < 8 := by omega
  intro d
  induction d with
  | zero =>
    intro k f c σ hk hf hc hI
    obtain ⟨f, rfl⟩ : ∃ y, f = y + 1 := ⟨f - 1, by omega⟩
    have g8 : gA σ 8 = gA σ0 8 := hI.1.2.2.1 8 (by decide)
    unfold f_M_findObjects_17 f_M_findObjects_100
    rw [Mr8 hm, bs, Ma8 hm i8, bs, g8, el, if_pos (nI_le (by omega) (by omega)), nI_add]
    exact hK σ c (by omega) hI
  | succ d ih =>
    intro k f c σ hk hf hc hI
    obtain ⟨f, rfl⟩ : ∃ y, f = y + 1 := ⟨f - 1, by omega⟩
    have g8 : gA σ 8 = gA σ0 8 := hI.1.2.2.1 8 (by decide)
    have hq : 8 * i + k < 64 := by omega
    have hR := FOi_R hr hI
    obtain ⟨o, n, b, sk, hob⟩ := mem_ob (k := k) hR hi ⟨l, by rw [g8]; exact el, hl, by omega⟩
    obtain ⟨q1, q2, q3, q4, q5, q6, q7⟩ := RF_ob hR hob
    unfold f_M_findObjects_17 f_M_findObjects_94
    rw [Mr8 hm, bs, Ma8 hm i8, bs, g8, el, if_neg (nI_ge (by omega) (by omega)), Mr12 hm, bs, ix8, Ma12 hm hq, bs, q4, nI_add]
    cases sk with
    | true =>
      rw [if_neg (show ¬ bI true = 0 by decide)]
      exact ih _ _ _ _ (by omega) (by omega) (by omega) hI
    | false =>
      rw [if_pos (show bI false = 0 from rfl), Mr128 hm, bs, Mg127 hm, bs, hI.2.1, Mr9 hm, bs, Ma9 hm hq, bs, q2, Ms128 hm (by omega), bs, Mr129 hm, bs, Mg127 hm, bs, gI_sA, hI.2.1, Mr10 hm, bs, Ma10 hm hq, bs, gA_sA, if_neg (show ¬ 10 = 128 by decide), q3, Ms129 hm (by omega), bs, Mg127 hm, bs, gI_sA, gI_sA, hI.2.1, nI_add, Mp127 hm, bs]
      exact ih _ _ (c + 1) _ (by omega) (by omega) (by omega) (FOi_1 hI hob)
theorem sm_fo_7 (hm : m ≤ h.length) (hF : 65540 < F) (hr : RF σ0 fs) : ∀ (d i f c : Nat) (σ : px_S), i + d = fs.length → d < f → c ≤ 8 * i → FOi fs σ0 σ c → Sm m h (fun σ' => ∃ c, c ≤ 64 ∧ FOi fs σ0 σ' c) Any (f_M_findObjects_7 F f m (nI i) (mh m h σ)) := by
  have h8 := hr.2.1
  intro d
  induction d with
  | zero =>
    intro i f c σ hi hf hc hI
    obtain ⟨f, rfl⟩ : ∃ y, f = y + 1 := ⟨f - 1, by omega⟩
    unfold f_M_findObjects_7 f_M_findObjects_106
    rw [Mg5 hm, bs, (FOi_R hr hI).1, if_pos (nI_le (by omega) (by omega))]
    exact sm_r any ⟨c, by omega, hI⟩
  | succ d ih =>
    intro i f c σ hi hf hc hI
    obtain ⟨f, rfl⟩ : ∃ y, f = y + 1 := ⟨f - 1, by omega⟩
    obtain ⟨l, hl, el⟩ := RF_8 hr (show i < fs.length by omega)
    unfold f_M_findObjects_7
    rw [Mg5 hm, bs, (FOi_R hr hI).1, if_neg (nI_ge (by omega) (by omega))]
    exact sm_fo_17 hm hr (by omega) hl el (fun σ c hc hI => ih _ _ _ _ (by omega) (by omega) hc hI) l 0 F c σ (Nat.zero_add _) (by omega) (by omega) hI
theorem sm_fo (hm : m ≤ h.length) (hF : 65540 < F) (hr : RF σ0 fs) : Sm m h (fun σ' => ∃ c, c ≤ 64 ∧ FOi fs σ0 σ' c) Any (f_M_findObjects F m (mh m h σ0)) := by
  unfold f_M_findObjects
  rw [Mp127 hm, bs]
  exact sm_fo_7 hm hF hr fs.length 0 F 0 _ (Nat.zero_add _) (by have := hr.2.1; omega) (by omega) ⟨FR_mono (FR_I _ _ _) (by decide) (by decide) (by decide) (by decide), by rw [gI_sI, if_pos rfl], fun i hi => absurd hi (Nat.not_lt_zero i)⟩
end MFO
