/-! the reference boots: the executable that is tried (steps spelled out by sf/pp.py) -/
section MTR
variable {F m : Nat} {h : px_H} {σ0 σ : px_S} {r : Nat}
def TRx (σ0 σ : px_S) : Prop := ∃ r, r ≤ 8 ∧ TRi σ0 σ r
theorem sm_te_128 {x : Int64} (hm : m ≤ h.length) (hr : r ≤ 8) (hI : TRi σ0 σ r) : ∀ (d j f : Nat), j + d = r → d < f → Sm m h (TRx σ0) Any (f_M_triedError_128 F f m x (nI j) (mh m h σ)) := by
  have fin : ∀ {v : Int32}, Sm m h (TRx σ0) Any (some (v, mh m h σ)) := sm_r any ⟨r, hr, hI⟩
  intro d
  induction d with
  | zero =>
    intro j f hj hf
    obtain ⟨f, rfl⟩ : ∃ y, f = y + 1 := ⟨f - 1, by omega⟩
    unfold f_M_triedError_128 f_M_triedError_193
    rw [Mg115 hm, bs, hI.2.1, if_pos (nI_le (by omega) (by omega))]
    exact fin
  | succ d ih =>
    intro j f hj hf
    obtain ⟨f, rfl⟩ : ∃ y, f = y + 1 := ⟨f - 1, by omega⟩
    have go := ih (j + 1) f (by omega) (by omega)
    unfold f_M_triedError_128 f_M_triedError_193 f_M_triedError_187 f_M_triedError_185
    rw [Mg115 hm, bs, hI.2.1, if_neg (nI_ge (by omega) (by omega)), Mr110 hm, bs, Ma110 hm (by omega), bs, nI_add]
    refine sm_i (fun _ => ?_) (fun _ => go)
    rw [Mr112 hm, bs, Ma112 hm (by omega), bs]
    refine sm_i (fun _ => go) (fun _ => ?_)
    rw [bs, Ma112 hm (by omega), bs, Mr114 hm, bs, Ma114 hm (by omega), bs]
    exact sm_i (fun _ => go) (fun _ => fin)
theorem sm_te_61 {x s N : Nat} (hm : m ≤ h.length) (hF : 65540 < F) (hs : s ≤ 65536) (h64 : 64 ≤ s) (es : gI σ0 101 = nI s) (hN : N ≤ 8) (hx : x + 56 * N ≤ s) : ∀ (d j f : Nat) (σ : px_S), j + d = N → d < f → (∃ r, r ≤ j ∧ TRi σ0 σ r) → Sm m h (TRx σ0) Any (f_M_triedError_61 F f m (nI N) (lN x) (nI j) (mh m h σ)) := by
  intro d
  induction d with
  | zero =>
    intro j f σ hj hf hI
    obtain ⟨f, rfl⟩ : ∃ y, f = y + 1 := ⟨f - 1, by omega⟩
    obtain ⟨r, hr, hI⟩ := hI
    unfold f_M_triedError_61 f_M_triedError_115
    rw [if_pos (nI_le (by omega) (by omega))]
    exact sm_o hm (fun _ => sm_tn hm (by omega) (by decide) (by decide) (fun x hx => sm_te_128 hm (by omega) hI r 0 F (Nat.zero_add _) (by omega)))
  | succ d ih =>
    intro j f σ hj hf hI
    obtain ⟨f, rfl⟩ : ∃ y, f = y + 1 := ⟨f - 1, by omega⟩
    obtain ⟨r, hr, hI⟩ := hI
    unfold f_M_triedError_61 f_M_triedError_99 f_M_triedError_106
    rw [if_neg (nI_ge (by omega) (by omega)), lN_i, show nI 56 * nI j = nI (56 * j) from (Int32.ofNat_mul 56 j).symm, nI_add, nI_add]
    refine sm_o hm (fun _ => sm_tn hm (by omega) (by decide) (by omega) (fun x1 hx1 => sm_i (fun _ => ?_) (fun _ => ?_)))
    · refine sm_o hm (fun _ => sm_x (sm_rowErr (P := x + 56 * j) hm (by omega) hs es (by omega) (by omega) hI) (fun v σ hv hi => ?_))
      obtain ⟨r', hr', hI'⟩ := hi
      exact sm_i (fun _ => ih _ _ _ (by omega) (by omega) ⟨r', by omega, hI'⟩) (fun _ => sm_r any ⟨r', by omega, hI'⟩)
    · exact sm_i (fun _ => ih _ _ _ (by omega) (by omega) ⟨r, by omega, hI⟩) (fun hc => absurd (show nI 0 ≤ 0 by decide) hc)
theorem sm_triedErr {s : Nat} (hm : m ≤ h.length) (hF : 65540 < F) (hs : s ≤ 65536) (es : gI σ0 101 = nI s) : Sm m h (TRx σ0) (fun v => v ≤ 0 → 64 ≤ s) (f_M_triedError F m (mh m h σ0)) := by
  have hI0 : TRi σ0 (sI σ0 115 (nI 0)) 0 := ⟨FR_mono (FR_I _ _ _) (by decide) (by decide) (by decide) (by decide), by rw [gI_sI, if_pos rfl], fun i hi => absurd hi (Nat.not_lt_zero i)⟩
  have fin : ∀ {v : Int32}, (¬ v ≤ 0 ∨ 64 ≤ s) → Sm m h (TRx σ0) (fun v => v ≤ 0 → 64 ≤ s) (some (v, mh m h (sI σ0 115 (nI 0)))) := fun {v} hv => sm_r (fun w => hv.elim (fun x => absurd w x) id) ⟨0, by decide, hI0⟩
  unfold f_M_triedError f_M_triedError_56
  rw [Mp115 hm, bs]
  refine sm_o hm (fun _ => sm_x (sm_isExe (s := s) hm (by omega) (by rw [gI_sI, if_neg (by decide)]; exact es) hs) ?_)
  rintro v _ hv rfl
  refine sm_i (fun _ => fin (Or.inl (by decide))) (fun hc => ?_)
  rcases hv with rfl | ⟨rfl, h64⟩
  · exact absurd rfl hc
  · refine sm_o hm (fun _ => sm_tn hm (by omega) (by decide) (by decide) (fun x1 hx1 => sm_o hm (fun _ => sm_tn hm (by omega) (by decide) (by decide) (fun x2 hx2 => ?_))))
    rw [lN_i]
    refine sm_i (fun _ => fin (Or.inl (by decide))) (fun hc => sm_gI hm rfl ?_)
    have h8 : x1 ≤ 8 := Nat.le_of_not_lt (fun w => hc (nI_lt w (by omega)))
    rw [gI_sI, if_neg (by decide), es, nI_l (by omega), nI_l (by omega), show (56 : Int64) * lN x1 = lN (56 * x1) from (Int64.ofNat_mul 56 x1).symm, q_lies (by omega) (by omega) (by omega), xb_mk]
    refine sm_i (fun _ => fin (Or.inl (by decide))) (fun hl => ?_)
    have hx : x2 + 56 * x1 ≤ s := by
      by_cases c : x2 + 56 * x1 ≤ s
      · exact c
      · rw [decide_eq_false c] at hl; exact absurd rfl hl
    obtain ⟨v, σ, e, _, hI⟩ := sm_te_61 (F := F) (σ0 := σ0) (x := x2) (s := s) (N := x1) hm hF hs h64 es h8 hx x1 0 F _ (Nat.zero_add _) (by omega) ⟨0, Nat.le_refl _, hI0⟩
    exact ⟨v, σ, e, fun _ => h64, hI⟩
end MTR
