/-! the reference's near: safe (steps spelled out by sf/pp.py) -/
/-- the memory's names -/
def MNa (σ : px_S) : Prop := ∃ c, c ≤ 2800 ∧ gI σ 44 = nI c ∧ ∀ i, i < c → ∃ p l, gA σ 45 i = nI p ∧ gA σ 46 i = nI l ∧ l ≤ 20 ∧ p + l ≤ 65536
section MNR
variable {F m : Nat} {h : px_H} {σ0 σ : px_S}
theorem OWe_w {j : Nat} {v : Int32} (hI : OWe σ0 σ) : OWe σ0 (sA σ 3 (upd (gA σ 3) j v.toInt8.toInt32)) := by
  obtain ⟨c, hc, w⟩ := hI
  exact ⟨c, hc, OWi_w w⟩
theorem sm_say100_3 {p l : Nat} (hm : m ≤ h.length) (hl : l ≤ 20) (hp : p + l ≤ 65536) : ∀ (d j f : Nat) (σ : px_S), j + d = l → d < f → OWe σ0 σ → Sm m h (OWe σ0) Any (f_M_say_3 F f m (m + 68) (nI p) (nI l) (nI j) (mh m h σ)) := by
  intro d
  induction d with
  | zero =>
    intro j f σ hj hf hI
    obtain ⟨f, rfl⟩ : ∃ y, f = y + 1 := ⟨f - 1, by omega⟩
    unfold f_M_say_3 f_M_say_28
    rw [if_pos (nI_le (by omega) (by omega)), Mp4 hm, bs]
    obtain ⟨c, hc, w⟩ := hI
    exact sm_r any ⟨l, by omega, OWi_p w⟩
  | succ d ih =>
    intro j f σ hj hf hI
    obtain ⟨f, rfl⟩ : ∃ y, f = y + 1 := ⟨f - 1, by omega⟩
    unfold f_M_say_3
    rw [if_neg (nI_ge (by omega) (by omega)), Mr3 hm, bs, nI_add, Ma100 hm (by omega), bs, Ms3 hm (by omega), bs, nI_add]
    exact ih _ _ _ (by omega) (by omega) (OWe_w hI)
theorem near_89 {x : Int64} {a3 : Int32} {c : Nat} (hm : m ≤ h.length) (hF : 65540 < F) (hv : MV σ) (h3 : a3 = Int32.ofInt (-1) ∨ ∃ i, i < c ∧ a3 = nI i) (hc : c ≤ 2800) (hn : ∀ i, i < c → ∃ p l, gA σ 45 i = nI p ∧ gA σ 46 i = nI l ∧ l ≤ 20 ∧ p + l ≤ 65536) (hI : OWe σ0 σ) : Sm m h (OWe σ0) Any (f_M_near_89 F m x a3 (mh m h σ)) := by
  obtain ⟨r, hr, er, _⟩ := hv
  unfold f_M_near_89 f_M_near_101
  refine sm_o hm (fun _ => sm_x (sm_row_2 hm hr er r 0 F (Nat.zero_add _) (by omega)) ?_)
  rintro v _ _ rfl
  refine sm_i (fun _ => sm_r any hI) (fun _ => sm_i (fun h0 => ?_) (fun _ => sm_r any hI))
  rcases h3 with rfl | ⟨i, hi, rfl⟩
  · exact absurd h0 (by decide)
  · obtain ⟨p, l, e1, e2, hl, hp⟩ := hn i hi
    rw [Mr100 hm, bs, Mr45 hm, bs, Ma45 hm (by omega), bs, e1, Mr46 hm, bs, Ma46 hm (by omega), bs, e2]
    refine sm_o hm (fun _ => sm_x (sm_say100_3 (F := F) hm hl hp l 0 F _ (Nat.zero_add _) (by omega) hI) (fun v σ hv hi' => ?_))
    rw [Mr47 hm, bs, Ma47 hm (by omega), bs]
    exact sm_r any hi'
theorem near_10 {x : Int64} {c : Nat} (hm : m ≤ h.length) (hF : 65540 < F) (hv : MV σ) (hc : c ≤ 2800) (ec : gI σ 44 = nI c) (hn : ∀ i, i < c → ∃ p l, gA σ 45 i = nI p ∧ gA σ 46 i = nI l ∧ l ≤ 20 ∧ p + l ≤ 65536) (hI : OWe σ0 σ) : ∀ (d j f : Nat) (a3 : Int32), j + d = c → d < f → (a3 = Int32.ofInt (-1) ∨ ∃ i, i < c ∧ a3 = nI i) → Sm m h (OWe σ0) Any (f_M_near_10 F f m x a3 (nI j) (mh m h σ)) := by
  intro d
  induction d with
  | zero =>
    intro j f a3 hj hf h3
    obtain ⟨f, rfl⟩ : ∃ y, f = y + 1 := ⟨f - 1, by omega⟩
    unfold f_M_near_10
    rw [Mg44 hm, bs, ec, if_pos (nI_le (by omega) (by omega))]
    exact near_89 hm hF hv h3 hc hn hI
  | succ d ih =>
    intro j f a3 hj hf h3
    obtain ⟨f, rfl⟩ : ∃ y, f = y + 1 := ⟨f - 1, by omega⟩
    have go1 := ih (j + 1) f a3 (by omega) (by omega) h3
    have go2 := ih (j + 1) f (nI j) (by omega) (by omega) (Or.inr ⟨j, by omega, rfl⟩)
    unfold f_M_near_10 f_M_near_47 f_M_near_48 f_M_near_76 f_M_near_81 f_M_near_82
    rw [Mg44 hm, bs, ec, if_neg (nI_ge (by omega) (by omega)), Mr47 hm, bs, Ma47 hm (by omega), bs, nI_add]
    refine sm_i (fun _ => sm_i (fun _ => go1) (fun hc => absurd rfl hc)) (fun _ => ?_)
    rw [bs, Ma47 hm (by omega), bs]
    refine sm_i (fun _ => sm_i (fun _ => go1) (fun hc => absurd rfl hc)) (fun _ => ?_)
    refine sm_i (fun hc => absurd hc (by decide)) (fun _ => sm_i (fun _ => go2) (fun h0 => ?_))
    rcases h3 with rfl | ⟨i, hi, rfl⟩
    · exact absurd (show (Int32.ofInt (-1)) < 0 by decide) h0
    · rw [bs, Ma47 hm (by omega), bs, bs, Ma47 hm (by omega), bs]
      exact sm_i (fun _ => go1) (fun _ => go2)
theorem sm_near {x : Int64} (hm : m ≤ h.length) (hF : 65540 < F) (hv : MV σ0) (hn : MNa σ0) (ho : OUo σ0) : Sm m h (OWe σ0) Any (f_M_near F m x (mh m h σ0)) := by
  obtain ⟨c, hc, ec, hn⟩ := hn
  unfold f_M_near
  rw [Mp0 hm, bs]
  have hf : FR [0] [] [] [] σ0 (sI σ0 0 (nI 0)) := FR_I _ _ _
  exact near_10 hm hF (MV_0 hv hf) hc ec hn (OWe_0 ho hf) c 0 F _ (Nat.zero_add _) (by omega) (Or.inl rfl)
end MNR
