/-! the reference boots, whole (steps spelled out by sf/pp.py) -/
section MBW
variable {F m : Nat} {h : px_H} {σ0 σ : px_S} {s : Nat}
theorem sm_fm_104 {x n j : Nat} (hm : m ≤ h.length) (hF : 65540 < F) (hs : s ≤ 65536) (es : gI σ0 101 = nI s) (hn : n ≤ 24) (hx : x + 64 * n ≤ s) (hj : j ≤ n) (hI : MNi σ0 σ 0) : Sm m h (fun σ' => ∃ c, c ≤ 2800 ∧ MNi σ0 σ' c) Any (f_M_findMemoryNames_104 F m (nI n) (lN x) (nI j) (mh m h σ)) := by
  have fin : Sm m h (fun σ' => ∃ c, c ≤ 2800 ∧ MNi σ0 σ' c) Any (some ((), mh m h σ)) := sm_r any ⟨0, by decide, hI⟩
  have e101 : gI σ 101 = nI s := (hI.1.1 101 (by decide)).trans es
  unfold f_M_findMemoryNames_104 f_M_findMemoryNames_200 f_M_findMemoryNames_269
  refine sm_i (fun _ => fin) (fun hne => ?_)
  have hjn : j < n := by
    apply Nat.lt_of_le_of_ne hj
    intro e
    exact hne (by rw [e])
  rw [lN_i, show nI 64 * nI j = nI (64 * j) from (Int32.ofNat_mul 64 j).symm, nI_add, nI_add, nI_add, nI_add]
  refine sm_o hm (fun _ => sm_tn hm (by omega) (by decide) (by omega) (fun sp hsp => sm_o hm (fun _ => sm_tn hm (by omega) (by decide) (by omega) (fun z hz => ?_))))
  refine sm_o hm (fun _ => sm_tn hm (by omega) (by decide) (by omega) (fun l hl => sm_i (fun _ => fin) (fun _ => sm_i (fun _ => ?_) (fun _ => fin))))
  refine sm_i (fun _ => fin) (fun hln => sm_gI hm rfl ?_)
  rw [nI_l (by omega), pk_lLE (by omega) (by omega)] at hln
  rw [e101, nI_l (by omega), q_lies (by omega) (by omega) (by omega), xb_mk]
  refine sm_i (fun _ => fin) (fun hl1 => ?_)
  have h1 : sp + z ≤ s := by
    by_cases c : sp + z ≤ s
    · exact c
    · rw [decide_eq_false c] at hl1; exact absurd rfl hl1
  rw [lN_i, show nI 64 * nI l = nI (64 * l) from (Int32.ofNat_mul 64 l).symm, nI_add, nI_add, nI_add, nI_add]
  refine sm_o hm (fun _ => sm_tn hm (by omega) (by decide) (by omega) (fun np hnp => sm_o hm (fun _ => sm_tn hm (by omega) (by decide) (by omega) (fun ns hns => ?_))))
  refine sm_o hm (fun _ => sm_tn hm (by omega) (by decide) (by omega) (fun t ht => sm_i (fun _ => sm_gI hm rfl ?_) (fun _ => fin)))
  rw [e101, nI_l (by omega), q_lies (by omega) (by omega) (by omega), xb_mk]
  refine sm_i (fun _ => fin) (fun hl2 => ?_)
  have h2 : np + ns ≤ s := by
    by_cases c : np + ns ≤ s
    · exact c
    · rw [decide_eq_false c] at hl2; exact absurd rfl hl2
  exact sm_fm_273 hm hF (by omega) (by omega) 2730 1 F σ rfl (by omega) (by omega) ⟨0, by omega, hI⟩
theorem sm_fm_70 {x n : Nat} (hm : m ≤ h.length) (hF : 65540 < F) (hs : s ≤ 65536) (es : gI σ0 101 = nI s) (hn : n ≤ 24) (hx : x + 64 * n ≤ s) (hI : MNi σ0 σ 0) : ∀ (d j f : Nat), j + d = n → d < f → Sm m h (fun σ' => ∃ c, c ≤ 2800 ∧ MNi σ0 σ' c) Any (f_M_findMemoryNames_70 F f m (nI n) (lN x) (nI j) (mh m h σ)) := by
  intro d
  induction d with
  | zero =>
    intro j f hj hf
    obtain ⟨f, rfl⟩ : ∃ y, f = y + 1 := ⟨f - 1, by omega⟩
    unfold f_M_findMemoryNames_70
    rw [if_pos (nI_le (by omega) (by omega))]
    exact sm_fm_104 hm hF hs es hn hx (by omega) hI
  | succ d ih =>
    intro j f hj hf
    obtain ⟨f, rfl⟩ : ∃ y, f = y + 1 := ⟨f - 1, by omega⟩
    have go := ih (j + 1) f (by omega) (by omega)
    have h104 := sm_fm_104 (F := F) (j := j) hm hF hs es hn hx (by omega) hI
    unfold f_M_findMemoryNames_70
    rw [if_neg (nI_ge (by omega) (by omega)), lN_i, show nI 64 * nI j = nI (64 * j) from (Int32.ofNat_mul 64 j).symm, nI_add, nI_add, nI_add]
    exact sm_o hm (fun _ => sm_tn hm (by omega) (by decide) (by omega) (fun t ht => sm_i (fun _ => h104) (fun _ => go)))
theorem sm_fm (hm : m ≤ h.length) (hF : 65540 < F) (hs : s ≤ 65536) (es : gI σ0 101 = nI s) : Sm m h (fun σ' => ∃ c, c ≤ 2800 ∧ MNi σ0 σ' c) Any (f_M_findMemoryNames F m (mh m h σ0)) := by
  have hI : MNi σ0 (sI σ0 44 (nI 0)) 0 := ⟨FR_mono (FR_I _ _ _) (by decide) (by decide) (by decide) (by decide), by rw [gI_sI, if_pos rfl], fun i hi => absurd hi (Nat.not_lt_zero i)⟩
  have fin : Sm m h (fun σ' => ∃ c, c ≤ 2800 ∧ MNi σ0 σ' c) Any (some ((), mh m h (sI σ0 44 (nI 0)))) := sm_r any ⟨0, by decide, hI⟩
  unfold f_M_findMemoryNames f_M_findMemoryNames_66
  rw [Mp44 hm, bs]
  refine sm_o hm (fun _ => sm_tn hm (by omega) (by decide) (by decide) (fun n hn => sm_o hm (fun _ => sm_tn hm (by omega) (by decide) (by decide) (fun x hx => ?_))))
  refine sm_o hm (fun _ => sm_tn hm (by omega) (by decide) (by decide) (fun t ht => sm_i (fun _ => ?_) (fun _ => fin)))
  rw [lN_i]
  refine sm_i (fun _ => fin) (fun _ => sm_i (fun _ => fin) (fun hc => sm_gI hm rfl ?_))
  have h24 : n ≤ 24 := Nat.le_of_not_lt (fun w => hc (nI_lt w (by omega)))
  rw [gI_sI, if_neg (by decide), es, nI_l (by omega), nI_l (by omega), show (64 : Int64) * lN n = lN (64 * n) from (Int64.ofNat_mul 64 n).symm, q_lies (by omega) (by omega) (by omega), xb_mk]
  refine sm_i (fun _ => fin) (fun hl => ?_)
  have h1 : x + 64 * n ≤ s := by
    by_cases c : x + 64 * n ≤ s
    · exact c
    · rw [decide_eq_false c] at hl; exact absurd rfl hl
  exact sm_fm_70 hm hF hs es h24 h1 hI n 0 F (Nat.zero_add _) (by omega)
end MBW
