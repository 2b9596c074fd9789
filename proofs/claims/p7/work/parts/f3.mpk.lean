/-! the reference packs: its small parts (steps spelled out by sf/pp.py) -/
section MPK
variable {F m : Nat} {h : px_H} {σ0 σ : px_S} {c : Nat}
theorem sm_high {p : Nat} {v : Int32} (hm : m ≤ h.length) (hp : p + 4 ≤ 65536) : ∀ (d j f : Nat) (σ : px_S), j + d = 4 → d < f → OWi σ0 σ c → Sm m h (fun σ' => OWi σ0 σ' c) Any (f_M_highFirst_2 F f m (nI p) v (nI j) (mh m h σ)) := by
  intro d
  induction d with
  | zero =>
    intro j f σ hj hf hI
    obtain ⟨f, rfl⟩ : ∃ y, f = y + 1 := ⟨f - 1, by omega⟩
    unfold f_M_highFirst_2 f_M_highFirst_31
    rw [if_pos (nI_le (by omega) (by omega))]
    exact sm_r any hI
  | succ d ih =>
    intro j f σ hj hf hI
    obtain ⟨f, rfl⟩ : ∃ y, f = y + 1 := ⟨f - 1, by omega⟩
    unfold f_M_highFirst_2
    rw [if_neg (nI_ge (by omega) (by omega)), Mr3 hm, bs, nI_add, nI_add]
    exact sm_w3 hm hI (by omega) (fun σ hi => ih _ _ _ (by omega) (by omega) hi)
theorem sm_ahead_2 {p v : Nat} (hm : m ≤ h.length) (hF : 65540 < F) (hv : v ≤ 99999) (hp : p + 60 ≤ 65536) : ∀ (d j f : Nat) (σ : px_S), j + d = 58 → d < f → OWi σ0 σ c → Sm m h (fun σ' => OWi σ0 σ' c) Any (f_M_ahead_2 F f m (nI p) (nI v) (nI j) (mh m h σ)) := by
  have hw := wdN_b v
  intro d
  induction d with
  | zero =>
    intro j f σ hj hf hI
    obtain ⟨f, rfl⟩ : ∃ y, f = y + 1 := ⟨f - 1, by omega⟩
    unfold f_M_ahead_2 f_M_ahead_24 f_M_digits
    rw [if_pos (nI_le (by omega) (by omega)), nI_add, nI_add, nI_add]
    refine sm_o hm (fun _ => sm_x (sm_dg_2 (F := F) (p := p + 48) (v := v) hm hF hv (by omega) hI 4 0 F rfl (by omega) (Or.inr rfl)) (fun _ σ _ hi => ?_))
    rw [Mr3 hm, bs]
    refine sm_w3 hm hi (by omega) (fun σ hi => ?_)
    rw [Mr3 hm, bs]
    exact sm_w3 hm hi (by omega) (fun σ hi => sm_r any hi)
  | succ d ih =>
    intro j f σ hj hf hI
    obtain ⟨f, rfl⟩ : ∃ y, f = y + 1 := ⟨f - 1, by omega⟩
    unfold f_M_ahead_2
    rw [if_neg (nI_ge (by omega) (by omega)), Mr3 hm, bs, nI_add, nI_add]
    exact sm_w3 hm hI (by omega) (fun σ hi => ih _ _ _ (by omega) (by omega) hi)
end MPK
