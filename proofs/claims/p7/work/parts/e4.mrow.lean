/-! the reference boots: the rows that are tried (steps spelled out by sf/pp.py) -/
/-- r rows were tried and found good -/
def TRi (σ0 σ : px_S) (r : Nat) : Prop := FR [0, 115] [] [] [110, 111, 112, 113, 114] σ0 σ ∧ gI σ 115 = nI r ∧ ∀ i, i < r → ∃ s p fz, gB σ 112 i = lN s ∧ s ≤ 2 ^ 48 ∧ gB σ 111 i = lN p ∧ gB σ 113 i = lN fz ∧ p + fz ≤ 65536
section MRW
variable {F m : Nat} {h : px_H} {σ0 σ : px_S} {r : Nat}
theorem st_47 {x : Nat} (hx : x < 2 ^ 64) (h1 : ¬ lN x < lN 0) (h2 : ¬ (140737488355328 : Int64) < lN x) : x ≤ 2 ^ 48 := by
  by_cases c : x < 2 ^ 63
  · have : ¬ (140737488355328 : Int64).toInt < (lN x).toInt := fun w => h2 (Int64.lt_iff_toInt_lt.mpr w)
    rw [lN_T3 c] at this
    have e : (140737488355328 : Int64).toInt = 140737488355328 := by decide
    rw [e] at this
    omega
  · exfalso
    apply h1
    apply Int64.lt_iff_toInt_lt.mpr
    rw [lN_Tn (by omega) hx, lN_T3 (show 0 < 2 ^ 63 by decide)]
    omega
theorem sm_re_195 {P x1 x3 x5 : Nat} {a8 : Int64} (hm : m ≤ h.length) (hF : 8 < F) (hP : P + 56 ≤ 65536) (hr : r < 8) (h3 : x3 ≤ 2 ^ 48) (h15 : x1 + x5 ≤ 65536) (hI : TRi σ0 σ r) : Sm m h (fun σ' => TRi σ0 σ' (r + 1)) Any (f_M_rowError_195 F m (nI P) (lN x1) (lN x3) (lN x5) a8 (mh m h σ)) := by
  obtain ⟨hf, er, ht⟩ := hI
  unfold f_M_rowError_195
  rw [Mr110 hm, bs, Mg115 hm, bs, er, e_o hm, bs, nI_add]
  refine sm_tn hm hF (by decide) (by omega) (fun x hx => ?_)
  rw [Ms110 hm hr, bs, Mr111 hm, bs, Mg115 hm, bs, gI_sB, er, Ms111 hm hr, bs, Mr112 hm, bs, Mg115 hm, bs, gI_sB, gI_sB, er, Ms112 hm hr, bs, Mr113 hm, bs, Mg115 hm, bs, gI_sB, gI_sB, gI_sB, er, Ms113 hm hr, bs, Mr114 hm, bs, Mg115 hm, bs, gI_sB, gI_sB, gI_sB, gI_sB, er, Ms114 hm hr, bs, Mg115 hm, bs, gI_sB, gI_sB, gI_sB, gI_sB, gI_sB, er, nI_add, Mp115 hm, bs]
  have fB : ∀ (τ : px_S) (k : Nat) (g : Nat → Int64), k ∈ [110, 111, 112, 113, 114] → FR [0, 115] [] [] [110, 111, 112, 113, 114] σ0 τ → FR [0, 115] [] [] [110, 111, 112, 113, 114] σ0 (sB τ k g) := fun τ k g hk w => FR_trans w (FR_mono (FR_B _ _ _) (by simp) (by simp) (by simp) (fun i hi => by rw [List.mem_singleton.mp hi]; exact hk))
  refine sm_r any ⟨FR_trans (fB _ _ _ (by decide) (fB _ _ _ (by decide) (fB _ _ _ (by decide) (fB _ _ _ (by decide) (fB _ _ _ (by decide) hf))))) (FR_mono (FR_I _ _ _) (by decide) (by decide) (by decide) (by decide)), by rw [gI_sI, if_pos rfl], fun i hi => ?_⟩
  simp only [gB_sI, gB_sB]
  by_cases c : i = r
  · subst c
    exact ⟨x3, x1, x5, by simp [vp_eq], h3, by simp [vp_eq], by simp [vp_eq], h15⟩
  · obtain ⟨s, p, fz, e1, e2, e3, e4, e5⟩ := ht i (by omega)
    exact ⟨s, p, fz, by simp [vp_ne c, e1], e2, by simp [vp_ne c, e3], by simp [vp_ne c, e4], e5⟩
theorem sm_rowErr {P s : Nat} (hm : m ≤ h.length) (hF : 8 < F) (hs : s ≤ 65536) (es : gI σ0 101 = nI s) (hP : P + 56 ≤ s) (hr : r < 8) (hI : TRi σ0 σ r) : Sm m h (fun σ' => ∃ r', r' ≤ r + 1 ∧ TRi σ0 σ' r') Any (f_M_rowError F m (nI P) (mh m h σ)) := by
  have e101 : gI σ 101 = nI s := (hI.1.1 101 (by decide)).trans es
  have fin : ∀ {v : Int32}, Sm m h (fun σ' => ∃ r', r' ≤ r + 1 ∧ TRi σ0 σ' r') Any (some (v, mh m h σ)) := sm_r any ⟨r, by omega, hI⟩
  unfold f_M_rowError
  rw [nI_add, nI_add, nI_add, nI_add, nI_add]
  refine sm_o hm (fun _ => sm_tn hm hF (by decide) (by omega) (fun x1 hx1 => sm_o hm (fun _ => sm_tn hm hF (by decide) (by omega) (fun x3 hx3 => ?_))))
  refine sm_o hm (fun _ => sm_tn hm hF (by decide) (by omega) (fun x5 hx5 => sm_o hm (fun _ => sm_tn hm hF (by decide) (by omega) (fun x7 hx7 => ?_))))
  refine sm_o hm (fun _ => sm_tn hm hF (by decide) (by omega) (fun x9 hx9 => sm_gI hm rfl ?_))
  rw [e101, nI_l (by omega), q_lies (by omega) (by omega) (by omega), xb_mk]
  refine sm_i (fun _ => fin) (fun hl => ?_)
  have h15 : x1 + x5 ≤ s := by
    by_cases c : x1 + x5 ≤ s
    · exact c
    · rw [decide_eq_false c] at hl; exact absurd rfl hl
  have go : ¬ lN x3 < lN 0 → ¬ (140737488355328 : Int64) < lN x3 → Sm m h (fun σ' => ∃ r', r' ≤ r + 1 ∧ TRi σ0 σ' r') Any (f_M_rowError_157 F m (nI P) (lN x1) (lN x3) (lN x5) (lN x7) (mh m h σ)) := fun c1 c2 => by
    have h195 : Sm m h (fun σ' => ∃ r', r' ≤ r + 1 ∧ TRi σ0 σ' r') Any (f_M_rowError_195 F m (nI P) (lN x1) (lN x3) (lN x5) (lN x7) (mh m h σ)) := sm_wI (sm_re_195 hm hF (by omega) hr (st_47 (by omega) c1 c2) (by omega) hI) (fun σ' w => ⟨r + 1, by omega, w⟩)
    unfold f_M_rowError_157
    rw [Mg115 hm, bs, hI.2.1]
    refine sm_i (fun _ => h195) (fun hc => ?_)
    have h1r : 1 ≤ r := by
      apply Nat.pos_of_ne_zero
      intro e
      rw [e] at hc
      exact hc (by decide)
    rw [Mr112 hm, bs, bs, pk_sub h1r, Ma112 hm (by omega), bs, Mr114 hm, bs, bs, pk_sub h1r, Ma114 hm (by omega), bs]
    exact sm_i (fun _ => h195) (fun _ => fin)
  unfold f_M_rowError_92 f_M_rowError_132
  repeat' (first | (exact fin) | (exact go (by assumption) (by assumption)) | exact absurd (show nI 0 = 0 from rfl) (by assumption) | exact absurd (show nI 1 = 0 by assumption) (by decide) | ((with_reducible refine sm_i (fun hc => ?_) (fun hc => ?_))) | ((with_reducible refine sm_gI hm (by with_unfolding_all exact rfl) ?_)) | ((with_reducible refine sm_gJ hm (by with_unfolding_all exact rfl) ?_)) | ((with_reducible refine sm_gR hm (by with_unfolding_all exact rfl) ?_)) | ((with_reducible refine sm_o hm (fun l => ?_))) | ((with_reducible refine sm_r ?_ ?_); (first | exact any | assumption | first | exact ⟨false, rfl⟩ | exact ⟨true, rfl⟩ | assumption); assumption) | ((with_reducible refine sm_z ?_ ?_ ?_); (first | exact ⟨false, rfl⟩ | exact ⟨true, rfl⟩ | assumption); (first | exact any | exact ⟨false, rfl⟩ | exact ⟨true, rfl⟩ | assumption); assumption))
end MRW
