/-! the reference boots: all of it, put together (steps spelled out by sf/pp.py) -/
def BF2 (σ0 σ : px_S) : Prop := FR [0, 44, 102, 103, 115] [104] [45, 46, 100] [47, 105, 106, 107, 108, 109, 110, 111, 112, 113, 114] σ0 σ
/-- what a boot leaves -/
def BEn (a1 : Int32) (σ σ' : px_S) : Prop := BFr σ σ' ∧ gI σ' 2 = (if a1 = 0 then gI σ 2 else nI 0) ∧ MV σ' ∧ MNa σ'
section MBY
variable {F m : Nat} {h : px_H} {σ0 σ : px_S} {s : Nat}
theorem sm_b_74 (hm : m ≤ h.length) (hF : 65540 < F) (hs : s ≤ 65536) (es : gI σ 101 = nI s) (hv : MV σ) (hn : MNa σ) : Sm m h (fun σ' => BF2 σ σ' ∧ MV σ' ∧ MNa σ') Any (f_M_boot_74 F m (mh m h σ)) := by
  unfold f_M_boot_74
  refine sm_o hm (fun _ => sm_x (sm_triedErr hm hF hs es) (fun v σ2 hv2 hi => ?_))
  obtain ⟨r, hr, hf, er, ht⟩ := hi
  rw [Mp103 hm, bs, Mg103 hm, bs, gI_sI, if_pos rfl]
  refine sm_i (fun _ => ?_) (fun _ => ?_)
  · rw [Mg115 hm, bs, gI_sI, if_neg (by decide), er, Mp102 hm, bs]
    refine sm_o hm (fun _ => sm_tn hm (by omega) (by decide) (by decide) (fun y hy => ?_))
    rw [Mp104 hm, bs]
    have e101 : gI σ2 101 = nI s := (hf.1 101 (by decide)).trans es
    refine sm_wI (sm_b_116 (F := F) (s := s) (r := r) hm hF hs hr s 0 F _ (Nat.zero_add _) (by omega) (by rw [gI_sJ, gI_sI, if_neg (by decide), gI_sI, if_neg (by decide)]; exact e101) (by rw [gI_sJ, gI_sI, if_pos rfl])) (fun σ' w => ?_)
    obtain ⟨σa, σb, c, w1, hc, ⟨w2, ec, hnm⟩, w3, w4⟩ := w
    refine ⟨?_, ⟨r, hr, ?_, fun i hi => ?_⟩, ⟨c, hc, ?_, fun i hi => ?_⟩⟩
    · refine FR_trans (FR_trans (FR_trans (FR_trans (FR_trans (FR_trans (FR_mono hf ?_ ?_ ?_ ?_) (FR_mono (FR_I σ2 103 v) ?_ ?_ ?_ ?_)) (FR_mono (FR_I _ 102 (nI r)) ?_ ?_ ?_ ?_)) (FR_mono (FR_J _ 104 _) ?_ ?_ ?_ ?_)) (FR_mono w1 ?_ ?_ ?_ ?_)) (FR_mono w2 ?_ ?_ ?_ ?_)) (FR_mono w3 ?_ ?_ ?_ ?_)
      all_goals decide
    · rw [w3.1 102 List.not_mem_nil, w2.1 102 (by decide), w1.1 102 List.not_mem_nil, gI_sJ, gI_sI, if_pos rfl]
    · obtain ⟨e1, e2, e3⟩ := w4 i hi
      rw [e1, e2, e3, w2.2.2.2 111 (by decide), w2.2.2.2 112 (by decide), w2.2.2.2 113 (by decide), w1.2.2.2 111 List.not_mem_nil, w1.2.2.2 112 List.not_mem_nil, w1.2.2.2 113 List.not_mem_nil]
      exact ht i hi
    · rw [w3.1 44 List.not_mem_nil]; exact ec
    · rw [w3.2.2.1 45 List.not_mem_nil, w3.2.2.1 46 List.not_mem_nil]; exact hnm i hi
  · rw [bs]
    obtain ⟨r0, hr0, er0, h0⟩ := hv
    obtain ⟨c0, hc0, ec0, hn0⟩ := hn
    refine sm_r any ⟨?_, ⟨r0, hr0, ?_, fun i hi => ?_⟩, ⟨c0, hc0, ?_, fun i hi => ?_⟩⟩
    · refine FR_trans (FR_mono hf ?_ ?_ ?_ ?_) (FR_mono (FR_I σ2 103 v) ?_ ?_ ?_ ?_)
      all_goals decide
    · rw [gI_sI, if_neg (by decide), hf.1 102 (by decide)]; exact er0
    · rw [gB_sI, gB_sI, gB_sI, hf.2.2.2 106 (by decide), hf.2.2.2 107 (by decide), hf.2.2.2 108 (by decide)]; exact h0 i hi
    · rw [gI_sI, if_neg (by decide), hf.1 44 (by decide)]; exact ec0
    · rw [gA_sI, gA_sI, hf.2.2.1 45 List.not_mem_nil, hf.2.2.1 46 List.not_mem_nil]; exact hn0 i hi
/-- the bytes are taken over to be tried, from the tape or from OUT -/
theorem sm_b_26 {a1 : Int32} (hm : m ≤ h.length) (hF : 65540 < F) (hs : s ≤ 65536) (hs1 : ¬ a1 = 0 → s ≤ 8192) : ∀ (d j f : Nat) (σ : px_S), j + d = s → d < f → gI σ 101 = nI s → MV σ → MNa σ → Sm m h (BEn a1 σ) Any (f_M_boot_26 F f m a1 (nI j) (mh m h σ)) := by
  have up : ∀ {τ τ' : px_S}, BF2 τ τ' → BFr τ τ' := fun w => FR_mono w (by decide) (by decide) (by decide) (by decide)
  intro d
  induction d with
  | zero =>
    intro j f σ hj hf es hv hn
    obtain ⟨f, rfl⟩ : ∃ y, f = y + 1 := ⟨f - 1, by omega⟩
    unfold f_M_boot_26 f_M_boot_65
    rw [Mg101 hm, bs, es, if_pos (nI_le (by omega) (by omega))]
    by_cases c : a1 = 0
    · rw [if_pos c]
      refine sm_wI (sm_b_74 hm hF hs es hv hn) (fun σ' w => ⟨up w.1, ?_, w.2.1, w.2.2⟩)
      rw [if_pos c]
      exact w.1.1 2 (by decide)
    · rw [if_neg c, Mp2 hm, bs]
      refine sm_wI (sm_b_74 (σ := sI σ 2 (nI 0)) hm hF hs es hv hn) (fun σ' w => ⟨FR_trans (FR_mono (FR_I _ _ _) (by decide) (by decide) (by decide) (by decide)) (up w.1), ?_, w.2.1, w.2.2⟩)
      rw [if_neg c, w.1.1 2 (by decide), gI_sI, if_pos rfl]
  | succ d ih =>
    intro j f σ hj hf es hv hn
    obtain ⟨f, rfl⟩ : ∃ y, f = y + 1 := ⟨f - 1, by omega⟩
    have go : ∀ v, Sm m h (BEn a1 σ) Any (f_M_boot_26 F f m a1 (nI (j + 1)) (mh m h (sA σ 99 (upd (gA σ 99) j v)))) := fun v => sm_wI (ih (j + 1) f (sA σ 99 (upd (gA σ 99) j v)) (by omega) (by omega) es hv hn) (fun σ' w => ⟨FR_trans (FR_mono (FR_A _ _ _) (by decide) (by decide) (by decide) (by decide)) w.1, w.2.1, w.2.2.1, w.2.2.2⟩)
    unfold f_M_boot_26 f_M_boot_58
    rw [Mg101 hm, bs, es, if_neg (nI_ge (by omega) (by omega)), Mr99 hm, bs]
    by_cases c : a1 = 0
    · rw [if_pos c, Mr3 hm, bs, Ma3 hm (by omega), bs, Ms99 hm (by omega), bs, nI_add]
      exact go _
    · have h8 := hs1 c
      rw [if_neg c, Mr1 hm, bs, Ma1 hm (by omega), bs, Ms99 hm (by omega), bs, nI_add]
      exact go _
theorem sm_boot {a1 : Int32} {n : Nat} {b : Nat → Nat} (hm : m ≤ h.length) (hF : 65540 < F) (ht : RT σ n b) (ho : OUo σ) (hv : MV σ) (hn : MNa σ) : Sm m h (BEn a1 σ) Any (f_M_boot F m a1 (mh m h σ)) := by
  obtain ⟨⟨c, hc, ec⟩, _⟩ := ho
  unfold f_M_boot f_M_boot_21
  rw [Mp0 hm, bs]
  have fin : ∀ k : Nat, k ≤ 65536 → (¬ a1 = 0 → k ≤ 8192) → Sm m h (BEn a1 σ) Any (f_M_boot_26 F F m a1 (nI 0) (mh m h (sI (sI σ 0 (nI 0)) 101 (nI k)))) := fun k hk hk1 => sm_wI (sm_b_26 (s := k) (σ := sI (sI σ 0 (nI 0)) 101 (nI k)) hm hF hk hk1 k 0 F (Nat.zero_add _) (by omega) (by rw [gI_sI, if_pos rfl]) hv hn) (fun σ' w => ⟨FR_trans (FR_trans (FR_mono (FR_I _ _ _) (by decide) (by decide) (by decide) (by decide)) (FR_mono (FR_I _ _ _) (by decide) (by decide) (by decide) (by decide))) w.1, w.2.1, w.2.2.1, w.2.2.2⟩)
  by_cases c0 : a1 = 0
  · rw [if_pos c0, Mg4 hm, bs, gI_sI, if_neg (by decide), ec, Mp101 hm, bs]
    exact fin c hc (fun w => absurd c0 w)
  · rw [if_neg c0, Mg2 hm, bs, gI_sI, if_neg (by decide), ht.1, Mp101 hm, bs]
    exact fin n (by have := ht.2.1; omega) (fun _ => ht.2.1)
end MBY
