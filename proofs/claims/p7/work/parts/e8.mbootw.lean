/-! the reference boots: all of it (steps spelled out by sf/pp.py) -/
def BFr (σ0 σ : px_S) : Prop := FR [0, 2, 44, 101, 102, 103, 115] [104] [45, 46, 99, 100] [47, 105, 106, 107, 108, 109, 110, 111, 112, 113, 114] σ0 σ
/-- rows are taken over: j of them -/
def B8i (σa σ : px_S) (j : Nat) : Prop := FR [] [] [] [105, 106, 107, 108, 109] σa σ ∧ ∀ i, i < j → gB σ 106 i = gB σa 111 i ∧ gB σ 107 i = gB σa 112 i ∧ gB σ 108 i = gB σa 113 i
section MBX
variable {F m : Nat} {h : px_H} {σ0 σa σ : px_S} {s r : Nat}
theorem B8_1 {j : Nat} (hI : B8i σa σ j) : B8i σa (sB (sB (sB (sB (sB σ 105 (vp_updL (gB σ 105) j (gB σa 110 j))) 106 (vp_updL (gB σ 106) j (gB σa 111 j))) 107 (vp_updL (gB σ 107) j (gB σa 112 j))) 108 (vp_updL (gB σ 108) j (gB σa 113 j))) 109 (vp_updL (gB σ 109) j (gB σa 114 j))) (j + 1) := by
  obtain ⟨hf, ht⟩ := hI
  have fB : ∀ (τ : px_S) (k : Nat) (g : Nat → Int64), k ∈ [105, 106, 107, 108, 109] → FR [] [] [] [105, 106, 107, 108, 109] σa τ → FR [] [] [] [105, 106, 107, 108, 109] σa (sB τ k g) := fun τ k g hk w => FR_trans w (FR_mono (FR_B _ _ _) (by simp) (by simp) (by simp) (fun i hi => by rw [List.mem_singleton.mp hi]; exact hk))
  refine ⟨fB _ _ _ (by decide) (fB _ _ _ (by decide) (fB _ _ _ (by decide) (fB _ _ _ (by decide) (fB _ _ _ (by decide) hf)))), fun i hi => ?_⟩
  simp only [gB_sB]
  by_cases e : i = j
  · subst e
    exact ⟨by simp [vp_eq], by simp [vp_eq], by simp [vp_eq]⟩
  · obtain ⟨e1, e2, e3⟩ := ht i (by omega)
    exact ⟨by simp [vp_ne e, e1], by simp [vp_ne e, e2], by simp [vp_ne e, e3]⟩
theorem sm_b_148 (hm : m ≤ h.length) (hr : r ≤ 8) (er : gI σa 102 = nI r) : ∀ (d j f : Nat) (σ : px_S), j + d = r → d < f → B8i σa σ j → Sm m h (fun σ' => B8i σa σ' r) Any (f_M_boot_148 F f m (nI j) (mh m h σ)) := by
  intro d
  induction d with
  | zero =>
    intro j f σ hj hf hI
    obtain ⟨f, rfl⟩ : ∃ y, f = y + 1 := ⟨f - 1, by omega⟩
    obtain rfl : j = r := by omega
    unfold f_M_boot_148 f_M_boot_222
    rw [Mg102 hm, bs, hI.1.1 102 List.not_mem_nil, er, if_pos (nI_le (by omega) (by omega))]
    exact sm_r any hI
  | succ d ih =>
    intro j f σ hj hf hI
    obtain ⟨f, rfl⟩ : ∃ y, f = y + 1 := ⟨f - 1, by omega⟩
    have hj8 : j < 8 := by omega
    have e110 : gB σ 110 = gB σa 110 := hI.1.2.2.2 110 (by decide)
    have e111 : gB σ 111 = gB σa 111 := hI.1.2.2.2 111 (by decide)
    have e112 : gB σ 112 = gB σa 112 := hI.1.2.2.2 112 (by decide)
    have e113 : gB σ 113 = gB σa 113 := hI.1.2.2.2 113 (by decide)
    have e114 : gB σ 114 = gB σa 114 := hI.1.2.2.2 114 (by decide)
    unfold f_M_boot_148 f_M_boot_222
    rw [Mg102 hm, bs, hI.1.1 102 List.not_mem_nil, er, if_neg (nI_ge (by omega) (by omega)), nI_add]
    rw [Mr105 hm, bs, Mr110 hm, bs, Ma110 hm hj8, bs, Ms105 hm hj8, bs, Mr106 hm, bs, Mr111 hm, bs, Ma111 hm hj8, bs, Ms106 hm hj8, bs, Mr107 hm, bs, Mr112 hm, bs, Ma112 hm hj8, bs, Ms107 hm hj8, bs, Mr108 hm, bs, Mr113 hm, bs, Ma113 hm hj8, bs, Ms108 hm hj8, bs, Mr109 hm, bs, Mr114 hm, bs, Ma114 hm hj8, bs, Ms109 hm hj8, bs]
    refine ih _ _ _ (by omega) (by omega) ?_
    have w := B8_1 hI
    rw [← e110, ← e111, ← e112, ← e113, ← e114] at w
    exact w
theorem sm_b_116 (hm : m ≤ h.length) (hF : 65540 < F) (hs : s ≤ 65536) (hr : r ≤ 8) : ∀ (d j f : Nat) (σ : px_S), j + d = s → d < f → gI σ 101 = nI s → gI σ 102 = nI r → Sm m h (fun σ' => ∃ σ1 σ2 c, FR [] [] [100] [] σ σ1 ∧ c ≤ 2800 ∧ MNi σ1 σ2 c ∧ B8i σ2 σ' r) Any (f_M_boot_116 F f m (nI j) (mh m h σ)) := by
  intro d
  induction d with
  | zero =>
    intro j f σ hj hf es er
    obtain ⟨f, rfl⟩ : ∃ y, f = y + 1 := ⟨f - 1, by omega⟩
    unfold f_M_boot_116 f_M_boot_142
    rw [Mg101 hm, bs, es, if_pos (nI_le (by omega) (by omega))]
    refine sm_o hm (fun _ => sm_x (sm_fm hm hF hs es) (fun v σ2 hv hi => ?_))
    obtain ⟨c, hc, hI⟩ := hi
    exact sm_wI (sm_b_148 (F := F) (σa := σ2) hm hr ((hI.1.1 102 (by decide)).trans er) r 0 F σ2 (Nat.zero_add _) (by omega) ⟨FR_refl _, fun i hi => absurd hi (Nat.not_lt_zero i)⟩) (fun σ' w => ⟨σ, σ2, c, FR_refl _, hc, hI, w⟩)
  | succ d ih =>
    intro j f σ hj hf es er
    obtain ⟨f, rfl⟩ : ∃ y, f = y + 1 := ⟨f - 1, by omega⟩
    unfold f_M_boot_116
    rw [Mg101 hm, bs, es, if_neg (nI_ge (by omega) (by omega)), Mr100 hm, bs, Mr99 hm, bs, Ma99 hm (by omega), bs, Ms100 hm (by omega), bs, nI_add]
    refine sm_wI (ih (j + 1) f _ (by omega) (by omega) es er) (fun σ' w => ?_)
    obtain ⟨σ1, σ2, c, w1, w2, w3, w4⟩ := w
    exact ⟨σ1, σ2, c, FR_trans (FR_A _ _ _) w1, w2, w3, w4⟩
end MBX
