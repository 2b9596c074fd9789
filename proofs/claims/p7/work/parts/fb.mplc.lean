/-! the reference merges: where its parts stand (steps spelled out by sf/pp.py) -/
def wiN (x : Nat) : Nat := (x + 7) / 8 * 8
theorem wiN_b (x : Nat) : x ≤ wiN x ∧ wiN x ≤ x + 7 := by unfold wiN; omega
theorem wiN_m {x y : Nat} (h : x ≤ y) : wiN x ≤ wiN y := by unfold wiN; omega
theorem q_wider8 {F m x : Nat} {h : px_H} (hx : x < 2 ^ 29) : f_M_wider F m (nI x) h = some (nI (wiN x), h) := by
  unfold f_M_wider wiN
  rw [nI_add, nI_divG (by omega) (by decide), show nI ((x + 7) / 8) * nI 8 = nI ((x + 7) / 8 * 8) from (Int32.ofNat_mul _ _).symm]
def plA (sz : Nat → Nat) : Nat → Nat
  | 0 => 64
  | k + 1 => wiN (plA sz k) + sz (k + 1)
theorem plA_s (sz : Nat → Nat) (k : Nat) : plA sz (k + 1) = wiN (plA sz k) + sz (k + 1) := rfl
theorem plA_b {sz : Nat → Nat} (h : ∀ j, sz j ≤ 65536) : ∀ k, plA sz k ≤ 64 + 65543 * k
  | 0 => Nat.le_refl _
  | k + 1 => by
    have h1 := plA_b h k
    have h2 := (wiN_b (plA sz k)).2
    have h3 := h (k + 1)
    rw [plA_s]
    omega
theorem plA_m {sz : Nat → Nat} {a : Nat} : ∀ {b : Nat}, a ≤ b → plA sz a ≤ plA sz b
  | 0, h => by rw [Nat.le_zero.mp h]; exact Nat.le_refl _
  | b + 1, h => by
    by_cases e : a = b + 1
    · rw [e]; exact Nat.le_refl _
    · have h1 := plA_m (sz := sz) (a := a) (b := b) (by omega)
      have h2 := (wiN_b (plA sz b)).1
      rw [plA_s]
      omega
def plN (sz : Nat → Nat) (J : Nat) : Nat := wiN (plA sz (J - 1))
theorem plN_m {sz : Nat → Nat} {a b : Nat} (h : a ≤ b) : plN sz a ≤ plN sz b := wiN_m (plA_m (by omega))
theorem plN_in {sz : Nat → Nat} {j : Nat} (h : 1 ≤ j) : plN sz j + sz j ≤ plN sz (j + 1) := by
  obtain ⟨k, rfl⟩ : ∃ k, j = k + 1 := ⟨j - 1, by omega⟩
  unfold plN
  rw [Nat.add_sub_cancel, Nat.add_sub_cancel, plA_s]
  exact (wiN_b _).1
def szF (p a : Nat) (zf : Nat → Nat) (j : Nat) : Nat := if j < p then zf j else 24 * a
/-- what places are made of -/
def MGs (F m : Nat) (h : px_H) (σ0 : px_S) (p a N : Nat) (zf lf : Nat → Nat) : Prop := (1 ≤ p ∧ p ≤ 22 ∧ a ≤ 64 ∧ N ≤ 4096) ∧ gI σ0 123 = nI p ∧ gI σ0 125 = nI a ∧ gI σ0 20 = nI N ∧ (∀ k, k < N → gA σ0 22 k = nI (lf k) ∧ lf k ≤ 20) ∧ (∀ j, zf j ≤ 65536) ∧ ∀ σ c j, OWi σ0 σ c → 1 ≤ j → j < p → f_M_partSize F m (nI j) (mh m h σ) = some (nI (zf j), mh m h σ)
def rwN (p a N : Nat) (zf lf : Nat → Nat) : Nat := wiN (plN (szF p a zf) (p + 1) + (1 + sumT (fun k => lf k + 1) N))
section MPL
variable {F m : Nat} {h : px_H} {σ0 σ : px_S} {p a N c : Nat} {zf lf : Nat → Nat} {I : px_S → Prop}
theorem szF_b (hS : MGs F m h σ0 p a N zf lf) (j : Nat) : szF p a zf j ≤ 65536 := by
  unfold szF
  have := hS.1
  split
  · exact hS.2.2.2.2.2.1 j
  · omega
theorem plN_b (hS : MGs F m h σ0 p a N zf lf) {J : Nat} (hJ : J ≤ 24) : plN (szF p a zf) J < 2 ^ 22 := by
  have h1 := plA_b (szF_b hS) (J - 1)
  have h2 := (wiN_b (plA (szF p a zf) (J - 1))).2
  unfold plN
  omega
theorem q_pl5 (hm : m ≤ h.length) (hS : MGs F m h σ0 p a N zf lf) (hI : OWi σ0 σ c) {J : Nat} (hJ : J ≤ 24) : ∀ (d k f : Nat), k + 1 + d = J → d < f → f_M_placeOf_5 F f m (nI J) (nI (plA (szF p a zf) k)) (nI (k + 1)) (mh m h σ) = some (nI (plN (szF p a zf) J), mh m h σ) := by
  have hS' := hS
  obtain ⟨⟨p1, p2, a1, n1⟩, e123, e125, -, -, hzb, hps⟩ := hS'
  have hb := plA_b (szF_b hS)
  intro d
  induction d with
  | zero =>
    intro k f hk hf
    obtain ⟨f, rfl⟩ : ∃ y, f = y + 1 := ⟨f - 1, by omega⟩
    obtain rfl : J = k + 1 := by omega
    have hbk := hb k
    unfold f_M_placeOf_5 f_M_placeOf_46 plN
    rw [if_pos (nI_le (by omega) (by omega)), e_o hm, bs, q_wider8 (by omega), xb_mk, Nat.add_sub_cancel]
  | succ d ih =>
    intro k f hk hf
    obtain ⟨f, rfl⟩ : ∃ y, f = y + 1 := ⟨f - 1, by omega⟩
    have hbk := hb k
    have go := ih (k + 1) f (by omega) (by omega)
    unfold f_M_placeOf_5 f_M_placeOf_38
    rw [if_neg (nI_ge (by omega) (by omega)), e_o hm, bs, q_wider8 (by omega), xb_mk, Mg123 hm, bs, hI.1.1 123 (by decide), e123]
    by_cases cc : p ≤ k + 1
    · rw [if_pos (nI_le cc (by omega)), Mg125 hm, bs, hI.1.1 125 (by decide), e125, show nI 24 * nI a = nI (24 * a) from (Int32.ofNat_mul _ _).symm, nI_add, nI_add]
      rw [plA_s, show szF p a zf (k + 1) = 24 * a from if_neg (by omega)] at go
      exact go
    · rw [if_neg (nI_ge (by omega) (by omega)), e_o hm, bs, hps σ c (k + 1) hI (by omega) (by omega), xb_mk, nI_add, nI_add]
      rw [plA_s, show szF p a zf (k + 1) = zf (k + 1) from if_pos (by omega)] at go
      exact go
theorem q_pl (hm : m ≤ h.length) (hF : 65540 < F) (hS : MGs F m h σ0 p a N zf lf) (hI : OWi σ0 σ c) {J : Nat} (h1 : 1 ≤ J) (hJ : J ≤ 24) : f_M_placeOf F m (nI J) (mh m h σ) = some (nI (plN (szF p a zf) J), mh m h σ) := by
  unfold f_M_placeOf
  exact q_pl5 hm hS hI hJ (J - 1) 0 F (by omega) (by omega)
theorem q_tx4 (hm : m ≤ h.length) (hS : MGs F m h σ0 p a N zf lf) (hI : OWi σ0 σ c) : ∀ (d k f : Nat), k + d = N → d < f → f_M_textMany_4 F f m (nI (1 + sumT (fun k => lf k + 1) k)) (nI k) (mh m h σ) = some (nI (1 + sumT (fun k => lf k + 1) N), mh m h σ) := by
  obtain ⟨⟨p1, p2, a1, n1⟩, e123, e125, e20, e22, -, -⟩ := hS
  intro d
  induction d with
  | zero =>
    intro k f hk hf
    obtain ⟨f, rfl⟩ : ∃ y, f = y + 1 := ⟨f - 1, by omega⟩
    obtain rfl : k = N := by omega
    unfold f_M_textMany_4 f_M_textMany_29
    rw [Mg20 hm, bs, hI.1.1 20 (by decide), e20, if_pos (nI_le (by omega) (by omega))]
  | succ d ih =>
    intro k f hk hf
    obtain ⟨f, rfl⟩ : ∃ y, f = y + 1 := ⟨f - 1, by omega⟩
    have es : sumT (fun k => lf k + 1) (k + 1) = sumT (fun k => lf k + 1) k + (lf k + 1) := rfl
    have go := ih (k + 1) f (by omega) (by omega)
    rw [es, ← Nat.add_assoc] at go
    unfold f_M_textMany_4
    rw [Mg20 hm, bs, hI.1.1 20 (by decide), e20, if_neg (nI_ge (by omega) (by omega)), Mr22 hm, bs, Ma22 hm (by omega), bs, hI.1.2.2.1 22 (by decide), (e22 k (by omega)).1, nI_add, nI_add, nI_add]
    exact go
theorem tx_b (hS : MGs F m h σ0 p a N zf lf) : sumT (fun k => lf k + 1) N ≤ 86016 := by
  obtain ⟨⟨p1, p2, a1, n1⟩, e123, e125, e20, e22, -, -⟩ := hS
  have := sumT_b' (f := fun k => lf k + 1) (k := 21) (n := N) (fun i hi => by have := (e22 i hi).2; show lf i + 1 ≤ 21; omega)
  omega
theorem q_tx (hm : m ≤ h.length) (hF : 65540 < F) (hS : MGs F m h σ0 p a N zf lf) (hI : OWi σ0 σ c) : f_M_textMany F m (mh m h σ) = some (nI (1 + sumT (fun k => lf k + 1) N), mh m h σ) := by
  have hn := hS.1.2.2.2
  unfold f_M_textMany
  exact q_tx4 hm hS hI N 0 F (Nat.zero_add _) (by omega)
theorem q_row8 (hm : m ≤ h.length) (hF : 65540 < F) (hS : MGs F m h σ0 p a N zf lf) (hI : OWi σ0 σ c) {j : Nat} : f_M_mergedRow F m (nI j) (mh m h σ) = some (nI (rwN p a N zf lf + 64 * j), mh m h σ) := by
  have hp := hS.1
  have b1 := plN_b hS (J := p + 1) (by omega)
  have b2 := tx_b hS
  unfold f_M_mergedRow
  rw [Mg123 hm, bs, hI.1.1 123 (by decide), hS.2.1, nI_add, e_o hm, bs, q_pl hm hF hS hI (by omega) (by omega), xb_mk, e_o hm, bs, q_tx hm hF hS hI, xb_mk, nI_add, e_o hm, bs, q_wider8 (by omega), xb_mk, show nI 64 * nI j = nI (64 * j) from (Int32.ofNat_mul _ _).symm, nI_add]
  rfl
theorem rwN_b (hS : MGs F m h σ0 p a N zf lf) : plN (szF p a zf) (p + 1) ≤ rwN p a N zf lf ∧ rwN p a N zf lf < 2 ^ 24 := by
  have hp := hS.1
  have b1 := plN_b hS (J := p + 1) (by omega)
  have b2 := tx_b hS
  have b3 := wiN_b (plN (szF p a zf) (p + 1) + (1 + sumT (fun k => lf k + 1) N))
  unfold rwN
  omega
theorem sm_put {α : Type} {V : α → Prop} {f : Unit → px_H → Option (α × px_H)} {q n : Nat} {v : Int64} (hm : m ≤ h.length) (hF : 65540 < F) (hI : OWi σ0 σ c) (hq : q + n ≤ 65536) (g : ∀ σ, OWi σ0 σ c → Sm m h I V (f () (mh m h σ))) : Sm m h I V ((xo (mh m h σ) 12 m).bind fun _ => xb (f_M_put F m (nI q) v (nI n) (mh m h σ)) f) := by
  obtain ⟨σ', e, w1, w2⟩ := q_put (F := F) (σ := σ) (at0 := q) (n := n) (v := v) hm (by omega) hq hI.2.2
  rw [e_o hm, bs, e, xb_mk]
  exact g σ' ⟨FR_trans hI.1 (FR_mono w1 (by decide) (by decide) (by decide) (by decide)), (w1.1 4 List.not_mem_nil).trans hI.2.1, w2⟩
theorem sm_rows {j : Nat} {x1 x2 x5 x6 : Int64} {x3 x4 : Int32} (hm : m ≤ h.length) (hF : 65540 < F) (hS : MGs F m h σ0 p a N zf lf) (hA : rwN p a N zf lf + 64 * (p + 2) ≤ 8192) (h1 : 1 ≤ j) (hj : j ≤ p + 1) (hI : OWi σ0 σ c) : Sm m h (fun σ' => OWi σ0 σ' c) Any (f_M_mergedRows F m (nI j) x1 x2 x3 x4 x5 x6 (mh m h σ)) := by
  have hp := hS.1
  unfold f_M_mergedRows
  rw [e_o hm, bs, q_row8 hm hF hS hI, xb_mk]
  generalize rwN p a N zf lf = W at *
  rw [nI_add]
  refine sm_put hm hF hI (by omega) (fun σ hi => ?_)
  rw [e_o hm, bs, q_pl hm hF hS hi h1 (by omega), xb_mk, nI_add]
  refine sm_put hm hF hi (by omega) (fun σ hi => ?_)
  rw [nI_add]
  refine sm_put hm hF hi (by omega) (fun σ hi => ?_)
  rw [nI_add]
  refine sm_put hm hF hi (by omega) (fun σ hi => ?_)
  rw [nI_add]
  refine sm_put hm hF hi (by omega) (fun σ hi => ?_)
  rw [nI_add]
  refine sm_put hm hF hi (by omega) (fun σ hi => ?_)
  rw [nI_add]
  exact sm_put hm hF hi (by omega) (fun σ hi => sm_r any hi)
theorem sm_mgsy {k : Nat} {x1 x2 : Int32} {x3 x4 : Int64} (hm : m ≤ h.length) (hF : 65540 < F) (hS : MGs F m h σ0 p a N zf lf) (hA : rwN p a N zf lf + 64 * (p + 2) ≤ 8192) (hk : k ≤ 64) (hI : OWi σ0 σ c) : Sm m h (fun σ' => OWi σ0 σ' c) Any (f_M_mergedSymbol F m (nI k) x1 x2 x3 x4 (mh m h σ)) := by
  have hp := hS.1
  have b1 := (rwN_b hS).1
  have b2 := plN_m (sz := szF p a zf) (show p ≤ p + 1 by omega)
  unfold f_M_mergedSymbol
  rw [Mg123 hm, bs, hI.1.1 123 (by decide), hS.2.1, e_o hm, bs, q_pl hm hF hS hI hp.1 (by omega), xb_mk, show nI 24 * nI k = nI (24 * k) from (Int32.ofNat_mul _ _).symm, nI_add]
  generalize plN (szF p a zf) (p + 1) = W1 at *
  generalize plN (szF p a zf) p = W at *
  generalize rwN p a N zf lf = W2 at *
  rw [nI_add]
  refine sm_put hm hF hI (by omega) (fun σ hi => ?_)
  rw [nI_add]
  refine sm_put hm hF hi (by omega) (fun σ hi => ?_)
  rw [nI_add]
  refine sm_put hm hF hi (by omega) (fun σ hi => ?_)
  rw [nI_add]
  exact sm_put hm hF hi (by omega) (fun σ hi => sm_r any hi)
end MPL
