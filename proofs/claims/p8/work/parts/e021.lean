section
/-! the reference merges: where its parts stand (steps spelled out by sf/pp.py) -/
def wiN (x : Nat) : Nat := (x + 7) / 8 * 8
theorem wiN_b (x : Nat) : x ≤ wiN x ∧ wiN x ≤ x + 7 := by unfold wiN; omega
theorem wiN_m {x y : Nat} (h : x ≤ y) : wiN x ≤ wiN y := by unfold wiN; omega
theorem q_wider8 {F m x : Nat} {h : px_H} (hx : x < 2 ^ 29) : f_M_wider F m (nI x) h = some (nI (wiN x), h) := by
  unfold f_M_wider wiN
  rw [nI_add, nI_divG (by omega) (by decide), show nI ((x + 7) / 8) * nI 8 = nI ((x + 7) / 8 * 8) from (Int32.ofNat_mul _ _).symm]
def plA (sz : Nat → Nat) : Nat → Nat
  | 0 => 64
  | k + 1 => wiN (plA sz k) + sz (k + 1)
theorem plA_s (sz : Nat → Nat) (k : Nat) : plA sz (k + 1) = wiN (plA sz k) + sz (k + 1) := rfl
theorem plA_b {sz : Nat → Nat} (h : ∀ j, sz j ≤ 65536) : ∀ k, plA sz k ≤ 64 + 65543 * k
  | 0 => Nat.le_refl _
  | k + 1 => by
    have h1 := plA_b h k
    have h2 := (wiN_b (plA sz k)).2
    have h3 := h (k + 1)
    rw [plA_s]
    omega
theorem plA_m {sz : Nat → Nat} {a : Nat} : ∀ {b : Nat}, a ≤ b → plA sz a ≤ plA sz b
  | 0, h => by rw [Nat.le_zero.mp h]; exact Nat.le_refl _
  | b + 1, h => by
    by_cases e : a = b + 1
    · rw [e]; exact Nat.le_refl _
    · have h1 := plA_m (sz := sz) (a := a) (b := b) (by omega)
      have h2 := (wiN_b (plA sz b)).1
      rw [plA_s]
      omega
def plN (sz : Nat → Nat) (J : Nat) : Nat := wiN (plA sz (J - 1))
theorem plN_m {sz : Nat → Nat} {a b : Nat} (h : a ≤ b) : plN sz a ≤ plN sz b := wiN_m (plA_m (by omega))
theorem plN_in {sz : Nat → Nat} {j : Nat} (h : 1 ≤ j) : plN sz j + sz j ≤ plN sz (j + 1) := by
  obtain ⟨k, rfl⟩ : ∃ k, j = k + 1 := ⟨j - 1, by omega⟩
  unfold plN
  rw [Nat.add_sub_cancel, Nat.add_sub_cancel, plA_s]
  exact (wiN_b _).1
def szF (p a : Nat) (zf : Nat → Nat) (j : Nat) : Nat := if j < p then zf j else 24 * a
/-- what places are made of -/
def MGs (F m : Nat) (h : px_H) (σ0 : px_S) (p a N : Nat) (zf lf : Nat → Nat) : Prop := (1 ≤ p ∧ p ≤ 22 ∧ a ≤ 64 ∧ N ≤ 4096) ∧ gI σ0 123 = nI p ∧ gI σ0 125 = nI a ∧ gI σ0 20 = nI N ∧ (∀ k, k < N → gA σ0 22 k = nI (lf k) ∧ lf k ≤ 20) ∧ (∀ j, zf j ≤ 65536) ∧ ∀ σ c j, OWi σ0 σ c → 1 ≤ j → j < p → f_M_partSize F m (nI j) (mh m h σ) = some (nI (zf j), mh m h σ)
def rwN (p a N : Nat) (zf lf : Nat → Nat) : Nat := wiN (plN (szF p a zf) (p + 1) + (1 + sumT (fun k => lf k + 1) N))
section MPL
variable {F m : Nat} {h : px_H} {σ0 σ : px_S} {p a N c : Nat} {zf lf : Nat → Nat} {I : px_S → Prop}
theorem szF_b (hS : MGs F m h σ0 p a N zf lf) (j : Nat) : szF p a zf j ≤ 65536 := by
  unfold szF
  have := hS.1
  split
  · exact hS.2.2.2.2.2.1 j
  · omega
theorem plN_b (hS : MGs F m h σ0 p a N zf lf) {J : Nat} (hJ : J ≤ 24) : plN (szF p a zf) J < 2 ^ 22 := by
  have h1 := plA_b (szF_b hS) (J - 1)
  have h2 := (wiN_b (plA (szF p a zf) (J - 1))).2
  unfold plN
  omega
theorem q_pl5 (hm : m ≤ h.length) (hS : MGs F m h σ0 p a N zf lf) (hI : OWi σ0 σ c) {J : Nat} (hJ : J ≤ 24) : ∀ (d k f : Nat), k + 1 + d = J → d < f → f_M_placeOf_5 F f m (nI J) (nI (plA (szF p a zf) k)) (nI (k + 1)) (mh m h σ) = some (nI (plN (szF p a zf) J), mh m h σ) := by
  have hS' := hS
  obtain ⟨⟨p1, p2, a1, n1⟩, e123, e125, -, -, hzb, hps⟩ := hS'
  have hb := plA_b (szF_b hS)
  intro d
  induction d with
  | zero =>
    intro k f hk hf
    obtain ⟨f, rfl⟩ : ∃ y, f = y + 1 := ⟨f - 1, by omega⟩
    obtain rfl : J = k + 1 := by omega
    have hbk := hb k
    unfold f_M_placeOf_5 f_M_placeOf_46 plN
    rw [if_pos (nI_le (by omega) (by omega)), e_o hm, bs, q_wider8 (by omega), xb_mk, Nat.add_sub_cancel]
  | succ d ih =>
    intro k f hk hf
    obtain ⟨f, rfl⟩ : ∃ y, f = y + 1 := ⟨f - 1, by omega⟩
    have hbk := hb k
    have go := ih (k + 1) f (by omega) (by omega)
    unfold f_M_placeOf_5 f_M_placeOf_38
    rw [if_neg (nI_ge (by omega) (by omega)), e_o hm, bs, q_wider8 (by omega), xb_mk, Mg123 hm, bs, hI.1.1 123 (by decide), e123]
    by_cases cc : p ≤ k + 1
    · rw [if_pos (nI_le cc (by omega)), Mg125 hm, bs, hI.1.1 125 (by decide), e125, show nI 24 * nI a = nI (24 * a) from (Int32.ofNat_mul _ _).symm, nI_add, nI_add]
      rw [plA_s, show szF p a zf (k + 1) = 24 * a from if_neg (by omega)] at go
      exact go
    · rw [if_neg (nI_ge (by omega) (by omega)), e_o hm, bs, hps σ c (k + 1) hI (by omega) (by omega), xb_mk, nI_add, nI_add]
      rw [plA_s, show szF p a zf (k + 1) = zf (k + 1) from if_pos (by omega)] at go
      exact go
theorem q_pl (hm : m ≤ h.length) (hF : 65540 < F) (hS : MGs F m h σ0 p a N zf lf) (hI : OWi σ0 σ c) {J : Nat} (h1 : 1 ≤ J) (hJ : J ≤ 24) : f_M_placeOf F m (nI J) (mh m h σ) = some (nI (plN (szF p a zf) J), mh m h σ) := by
  unfold f_M_placeOf
  exact q_pl5 hm hS hI hJ (J - 1) 0 F (by omega) (by omega)
theorem q_tx4 (hm : m ≤ h.length) (hS : MGs F m h σ0 p a N zf lf) (hI : OWi σ0 σ c) : ∀ (d k f : Nat), k + d = N → d < f → f_M_textMany_4 F f m (nI (1 + sumT (fun k => lf k + 1) k)) (nI k) (mh m h σ) = some (nI (1 + sumT (fun k => lf k + 1) N), mh m h σ) := by
  obtain ⟨⟨p1, p2, a1, n1⟩, e123, e125, e20, e22, -, -⟩ := hS
  intro d
  induction d with
  | zero =>
    intro k f hk hf
    obtain ⟨f, rfl⟩ : ∃ y, f = y + 1 := ⟨f - 1, by omega⟩
    obtain rfl : k = N := by omega
    unfold f_M_textMany_4 f_M_textMany_29
    rw [Mg20 hm, bs, hI.1.1 20 (by decide), e20, if_pos (nI_le (by omega) (by omega))]
  | succ d ih =>
    intro k f hk hf
    obtain ⟨f, rfl⟩ : ∃ y, f = y + 1 := ⟨f - 1, by omega⟩
    have es : sumT (fun k => lf k + 1) (k + 1) = sumT (fun k => lf k + 1) k + (lf k + 1) := rfl
    have go := ih (k + 1) f (by omega) (by omega)
    rw [es, ← Nat.add_assoc] at go
    unfold f_M_textMany_4
    rw [Mg20 hm, bs, hI.1.1 20 (by decide), e20, if_neg (nI_ge (by omega) (by omega)), Mr22 hm, bs, Ma22 hm (by omega), bs, hI.1.2.2.1 22 (by decide), (e22 k (by omega)).1, nI_add, nI_add, nI_add]
    exact go
theorem tx_b (hS : MGs F m h σ0 p a N zf lf) : sumT (fun k => lf k + 1) N ≤ 86016 := by
  obtain ⟨⟨p1, p2, a1, n1⟩, e123, e125, e20, e22, -, -⟩ := hS
  have := sumT_b' (f := fun k => lf k + 1) (k := 21) (n := N) (fun i hi => by have := (e22 i hi).2; show lf i + 1 ≤ 21; omega)
  omega
theorem q_tx (hm : m ≤ h.length) (hF : 65540 < F) (hS : MGs F m h σ0 p a N zf lf) (hI : OWi σ0 σ c) : f_M_textMany F m (mh m h σ) = some (nI (1 + sumT (fun k => lf k + 1) N), mh m h σ) := by
  have hn := hS.1.2.2.2
  unfold f_M_textMany
  exact q_tx4 hm hS hI N 0 F (Nat.zero_add _) (by omega)
theorem q_row8 (hm : m ≤ h.length) (hF : 65540 < F) (hS : MGs F m h σ0 p a N zf lf) (hI : OWi σ0 σ c) {j : Nat} : f_M_mergedRow F m (nI j) (mh m h σ) = some (nI (rwN p a N zf lf + 64 * j), mh m h σ) := by
  have hp := hS.1
  have b1 := plN_b hS (J := p + 1) (by omega)
  have b2 := tx_b hS
  unfold f_M_mergedRow
  rw [Mg123 hm, bs, hI.1.1 123 (by decide), hS.2.1, nI_add, e_o hm, bs, q_pl hm hF hS hI (by omega) (by omega), xb_mk, e_o hm, bs, q_tx hm hF hS hI, xb_mk, nI_add, e_o hm, bs, q_wider8 (by omega), xb_mk, show nI 64 * nI j = nI (64 * j) from (Int32.ofNat_mul _ _).symm, nI_add]
  rfl
theorem rwN_b (hS : MGs F m h σ0 p a N zf lf) : plN (szF p a zf) (p + 1) ≤ rwN p a N zf lf ∧ rwN p a N zf lf < 2 ^ 24 := by
  have hp := hS.1
  have b1 := plN_b hS (J := p + 1) (by omega)
  have b2 := tx_b hS
  have b3 := wiN_b (plN (szF p a zf) (p + 1) + (1 + sumT (fun k => lf k + 1) N))
  unfold rwN
  omega
theorem sm_put {α : Type} {V : α → Prop} {f : Unit → px_H → Option (α × px_H)} {q n : Nat} {v : Int64} (hm : m ≤ h.length) (hF : 65540 < F) (hI : OWi σ0 σ c) (hq : q + n ≤ 65536) (g : ∀ σ, OWi σ0 σ c → Sm m h I V (f () (mh m h σ))) : Sm m h I V ((xo (mh m h σ) 12 m).bind fun _ => xb (f_M_put F m (nI q) v (nI n) (mh m h σ)) f) := by
  obtain ⟨σ', e, w1, w2⟩ := q_put (F := F) (σ := σ) (at0 := q) (n := n) (v := v) hm (by omega) hq hI.2.2
  rw [e_o hm, bs, e, xb_mk]
  exact g σ' ⟨FR_trans hI.1 (FR_mono w1 (by decide) (by decide) (by decide) (by decide)), (w1.1 4 List.not_mem_nil).trans hI.2.1, w2⟩
theorem sm_rows {j : Nat} {x1 x2 x5 x6 : Int64} {x3 x4 : Int32} (hm : m ≤ h.length) (hF : 65540 < F) (hS : MGs F m h σ0 p a N zf lf) (hA : rwN p a N zf lf + 64 * (p + 2) ≤ 8192) (h1 : 1 ≤ j) (hj : j ≤ p + 1) (hI : OWi σ0 σ c) : Sm m h (fun σ' => OWi σ0 σ' c) Any (f_M_mergedRows F m (nI j) x1 x2 x3 x4 x5 x6 (mh m h σ)) := by
  have hp := hS.1
  unfold f_M_mergedRows
  rw [e_o hm, bs, q_row8 hm hF hS hI, xb_mk]
  generalize rwN p a N zf lf = W at *
  rw [nI_add]
  refine sm_put hm hF hI (by omega) (fun σ hi => ?_)
  rw [e_o hm, bs, q_pl hm hF hS hi h1 (by omega), xb_mk, nI_add]
  refine sm_put hm hF hi (by omega) (fun σ hi => ?_)
  rw [nI_add]
  refine sm_put hm hF hi (by omega) (fun σ hi => ?_)
  rw [nI_add]
  refine sm_put hm hF hi (by omega) (fun σ hi => ?_)
  rw [nI_add]
  refine sm_put hm hF hi (by omega) (fun σ hi => ?_)
  rw [nI_add]
  refine sm_put hm hF hi (by omega) (fun σ hi => ?_)
  rw [nI_add]
  exact sm_put hm hF hi (by omega) (fun σ hi => sm_r any hi)
theorem sm_mgsy {k : Nat} {x1 x2 : Int32} {x3 x4 : Int64} (hm : m ≤ h.length) (hF : 65540 < F) (hS : MGs F m h σ0 p a N zf lf) (hA : rwN p a N zf lf + 64 * (p + 2) ≤ 8192) (hk : k ≤ 64) (hI : OWi σ0 σ c) : Sm m h (fun σ' => OWi σ0 σ' c) Any (f_M_mergedSymbol F m (nI k) x1 x2 x3 x4 (mh m h σ)) := by
  have hp := hS.1
  have b1 := (rwN_b hS).1
  have b2 := plN_m (sz := szF p a zf) (show p ≤ p + 1 by omega)
  unfold f_M_mergedSymbol
  rw [Mg123 hm, bs, hI.1.1 123 (by decide), hS.2.1, e_o hm, bs, q_pl hm hF hS hI hp.1 (by omega), xb_mk, show nI 24 * nI k = nI (24 * k) from (Int32.ofNat_mul _ _).symm, nI_add]
  generalize plN (szF p a zf) (p + 1) = W1 at *
  generalize plN (szF p a zf) p = W at *
  generalize rwN p a N zf lf = W2 at *
  rw [nI_add]
  refine sm_put hm hF hI (by omega) (fun σ hi => ?_)
  rw [nI_add]
  refine sm_put hm hF hi (by omega) (fun σ hi => ?_)
  rw [nI_add]
  refine sm_put hm hF hi (by omega) (fun σ hi => ?_)
  rw [nI_add]
  exact sm_put hm hF hi (by omega) (fun σ hi => sm_r any hi)
end MPL
end
section
/-! the reference merges: sections and sites (steps spelled out by sf/pp.py) -/
/-- a part's bytes -/
def ptZ (b : Nat → Nat) (i : Nat) : Nat := if oT b i = 8 then 0 else oZ b i
section MSE
variable {F m T : Nat} {h : px_H} {σ0 σ : px_S} {tO tn : Nat → Nat} {tb : Nat → Nat → Nat} {dr : Nat → Bool} {xs : px_NL} {od : List Nat} {on : Bool} {R : Nat → Bool} {p a N c j t i : Nat} {zf lf : Nat → Nat}
theorem MGk_w (hk : MGk σ0 T tO tn tb dr xs od on R) (hI : OWi σ0 σ c) : MGk σ T tO tn tb dr xs od on R := MGk_FR hk hI.1 (by decide) (by decide) (by decide) (by decide)
theorem MPj_w (hP : MPj σ0 T tb j t i) (hI : OWi σ0 σ c) : MPj σ T tb j t i := by
  obtain ⟨h1, h2, h3, h4, h5, h6⟩ := hP
  exact ⟨h1, h2, h3, by rw [hI.1.2.2.1 120 (by decide)]; exact h4, by rw [hI.1.2.2.1 121 (by decide)]; exact h5, h6⟩
theorem MPj_in (hk : MGk σ T tO tn tb dr xs od on R) (hP : MPj σ T tb j t i) : oT (tb t) i = 8 ∨ oP (tb t) i + oZ (tb t) i ≤ tn t := by
  obtain ⟨h1, h2, h3, h4, h5, h6⟩ := hP
  have hb := MGk_o hk h1
  rcases h6 with h6 | h6
  · unfold oK at h6
    rcases (of_decide_eq_true h6).1 with e | e
    · exact Or.inr ((OB_w hb).1.2.2.2.1 i h3 (by rw [e]; decide) (by rw [e]; decide))
    · exact Or.inl e
  · exact Or.inr (eSit_0 hb.2.2.2.1 h2 h3 h6).2.2.2.1
theorem ptZ_b (hk : MGk σ T tO tn tb dr xs od on R) (hP : MPj σ T tb j t i) : ptZ (tb t) i ≤ 65536 ∧ (0 < ptZ (tb t) i → tO t + oP (tb t) i + ptZ (tb t) i ≤ 65536) := by
  have hb := MGk_o hk hP.1
  have hn := hb.2.2.1
  have hin := MPj_in hk hP
  unfold ptZ
  by_cases e : oT (tb t) i = 8
  · rw [if_pos e]; exact ⟨by omega, fun q => absurd q (by omega)⟩
  · rw [if_neg e]
    rcases hin with w | w
    · exact absurd w e
    · generalize oP (tb t) i = x1 at *
      generalize oZ (tb t) i = x2 at *
      exact ⟨by omega, fun _ => by omega⟩
theorem q_isPart {y : Nat} (hm : m ≤ h.length) (hF : 24 < F) (hk : MGk σ T tO tn tb dr xs od on R) (hj : j < 24) (hy : y < 2 ^ 32) (hP : MPj σ T tb j t i) : f_M_isPart F m (nI j) (lN y) (mh m h σ) = some (bI (decide (oT (tb t) i = y)), mh m h σ) := by
  obtain ⟨h1, h2, h3, h4, h5, h6⟩ := hP
  have hb := MGk_o hk h1
  have hT := oT_lt (OB_lt hb) i
  unfold f_M_isPart f_M_isPart_30
  rw [Mr120 hm, bs, Ma120 hm hj, bs, h4, e_o hm, bs, O_obj hm hb, xb_mk, Mr121 hm, bs, Ma121 hm hj, bs, h5, e_o hm, bs, O_type hm hF hb h3, xb_mk]
  by_cases e : oT (tb t) i = y
  · rw [if_pos (by rw [e]), decide_eq_true e]
    exact xz_b true _
  · rw [if_neg (fun q => e ((lEQ (by omega) (by omega)).mp q)), decide_eq_false e]
    exact xz_b false _
theorem q_partSize (hm : m ≤ h.length) (hF : 24 < F) (hk : MGk σ T tO tn tb dr xs od on R) (hj : j < 24) (hP : MPj σ T tb j t i) : f_M_partSize F m (nI j) (mh m h σ) = some (nI (ptZ (tb t) i), mh m h σ) := by
  have q := q_isPart (F := F) (y := 8) hm hF hk hj (by decide) hP
  obtain ⟨h1, h2, h3, h4, h5, h6⟩ := hP
  have hb := MGk_o hk h1
  unfold f_M_partSize f_M_partSize_36 ptZ
  rw [e_o hm, bs, show (8 : Int64) = lN 8 from rfl, q, xb_mk]
  by_cases e : oT (tb t) i = 8
  · rw [decide_eq_true e, if_neg (show ¬ bI true = 0 by decide), if_pos e]
  · rw [decide_eq_false e, if_pos (show bI false = 0 from rfl), if_neg e, Mr120 hm, bs, Ma120 hm hj, bs, h4, e_o hm, bs, O_obj hm hb, xb_mk, Mr121 hm, bs, Ma121 hm hj, bs, h5, e_o hm, bs, O_size hm hF hb h3, xb_mk, lN_i]
theorem sm_ms67 {o P : Nat} (hm : m ≤ h.length) (hF : 65540 < F) (hS : MGs F m h σ0 p a N zf lf) (hA : rwN p a N zf lf + 64 * (p + 2) ≤ 8192) (h1 : 1 ≤ j) (hj : j < p) (eb : ∀ σ, OWi σ0 σ c → f_M_beginning F m (nI o) (nI i) (mh m h σ) = some (lN P, mh m h σ)) (hP : 0 < zf j → o + P + zf j ≤ 65536) : ∀ (d k f : Nat) (σ : px_S), k + d = zf j → d < f → OWi σ0 σ c → Sm m h (fun σ' => OWi σ0 σ' c) Any (f_M_mergedSection_67 F f m (nI j) (nI o) (nI i) (nI k) (mh m h σ)) := by
  have hp := hS.1
  have b1 := (rwN_b hS).1
  have b2 := plN_m (sz := szF p a zf) (show j + 1 ≤ p + 1 by omega)
  have b3 := plN_in (sz := szF p a zf) h1
  rw [show szF p a zf j = zf j from if_pos hj] at b3
  intro d
  induction d with
  | zero =>
    intro k f σ hk hf hI
    obtain ⟨f, rfl⟩ : ∃ y, f = y + 1 := ⟨f - 1, by omega⟩
    unfold f_M_mergedSection_67 f_M_mergedSection_113
    rw [e_o hm, bs, hS.2.2.2.2.2.2 σ c j hI h1 hj, xb_mk, if_pos (nI_le (by omega) (by omega))]
    exact sm_r any hI
  | succ d ih =>
    intro k f σ hk hf hI
    obtain ⟨f, rfl⟩ : ∃ y, f = y + 1 := ⟨f - 1, by omega⟩
    have hP' := hP (by omega)
    unfold f_M_mergedSection_67
    rw [e_o hm, bs, hS.2.2.2.2.2.2 σ c j hI h1 hj, xb_mk, if_neg (nI_ge (by omega) (by omega)), Mr3 hm, bs, e_o hm, bs, q_pl hm hF hS hI h1 (by omega), xb_mk, Mr6 hm, bs, e_o hm, bs, eb σ hI, xb_mk, lN_i, nI_add, nI_add, Ma6 hm (by omega), bs, nI_add, nI_add]
    exact sm_w3 hm hI (by omega) (fun σ hi => ih _ _ _ (by omega) (by omega) hi)
theorem sm_msec (hm : m ≤ h.length) (hF : 65540 < F) (hk : MGk σ0 T tO tn tb dr xs od on R) (hS : MGs F m h σ0 p a N zf lf) (hA : rwN p a N zf lf + 64 * (p + 2) ≤ 8192) (h1 : 1 ≤ j) (hj : j < p) (hP : MPj σ0 T tb j t i) (ez : zf j = ptZ (tb t) i) (hI : OWi σ0 σ c) : Sm m h (fun σ' => OWi σ0 σ' c) Any (f_M_mergedSection F m (nI j) (mh m h σ)) := by
  have hp := hS.1
  have hpz := ptZ_b hk hP
  have b1 := (rwN_b hS).1
  obtain ⟨p1, p2, p3, p4, p5, p6⟩ := MPj_w hP hI
  have hb := MGk_o (MGk_w hk hI) p1
  unfold f_M_mergedSection
  rw [Mr120 hm, bs, Ma120 hm (by omega), bs, p4, e_o hm, bs, O_obj hm hb, xb_mk, Mr121 hm, bs, Ma121 hm (by omega), bs, p5, e_o hm, bs, O_type hm (by omega) hb p3, xb_mk, e_o hm, bs, O_size hm (by omega) hb p3, xb_mk, e_o hm, bs, O_align hm (by omega) hb p3, xb_mk]
  refine sm_o hm (fun _ => sm_x (sm_rows hm hF hS hA h1 (by omega) hI) (fun _ σ _ hi => ?_))
  have hb := MGk_o (MGk_w hk hi) p1
  rw [e_o hm, bs, q_row8 hm hF hS hi, xb_mk, e_o hm, bs, O_flags hm (by omega) hb p3, xb_mk, nI_add]
  have hle : rwN p a N zf lf + 64 * j + 8 + 8 ≤ 65536 := by omega
  refine sm_put hm hF hi hle (fun σ hi => ?_)
  exact sm_ms67 hm hF hS hA h1 hj (fun σ hi => O_beg hm (by omega) (MGk_o (MGk_w hk hi) p1) p3) (by rw [ez]; exact hpz.2) (zf j) 0 F σ (Nat.zero_add _) (by have := hS.2.2.2.2.2.1 j; omega) hi
theorem sm_mt117 (hm : m ≤ h.length) (hF : 65540 < F) (hW : WP T tb dr xs) (hk : MGk σ0 T tO tn tb dr xs od on R) (hS : MGs F m h σ0 p a N zf lf) (hA : rwN p a N zf lf + 64 * (p + 2) ≤ 8192) (h1 : 1 ≤ j) (hj : j < p) (ht : t < T) (i1 : 1 ≤ i) (iS : i < oS (tb t)) (hs : isS (tb t) i = true) (ez : 24 * sN (tb t) i ≤ zf j) : ∀ (d k f : Nat) (σ : px_S), k + d = sN (tb t) i → d < f → OWi σ0 σ c → Sm m h (fun σ' => OWi σ0 σ' c) Any (f_M_mergedSites_117 F f m (nI j) (nI t) (nI (tO t)) (nI i) (nI k) (mh m h σ)) := by
  have hp := hS.1
  have b1 := (rwN_b hS).1
  have b2 := plN_m (sz := szF p a zf) (show j + 1 ≤ p + 1 by omega)
  have b3 := plN_in (sz := szF p a zf) h1
  rw [show szF p a zf j = zf j from if_pos hj] at b3
  have hzb := hS.2.2.2.2.2.1 j
  have hT := hW.1
  intro d
  induction d with
  | zero =>
    intro k f σ hkk hf hI
    obtain ⟨f, rfl⟩ : ∃ y, f = y + 1 := ⟨f - 1, by omega⟩
    have hb := MGk_o (MGk_w hk hI) ht
    unfold f_M_mergedSites_117 f_M_mergedSites_222
    rw [e_o hm, bs, O_sN hm (by omega) hb i1 iS hs, xb_mk, if_pos (nI_le (by omega) (by omega))]
    exact sm_r any hI
  | succ d ih =>
    intro k f σ hkk hf hI
    obtain ⟨f, rfl⟩ : ∃ y, f = y + 1 := ⟨f - 1, by omega⟩
    have hk1 := MGk_w hk hI
    have hb := MGk_o hk1 ht
    have hkN : k < sN (tb t) i := by omega
    have hsp := OB_sP hb i1 iS hs hkN
    have hok := (sOK_0w ((eSit_0 hb.2.2.2.1 i1 iS hs).2.2.2.2.2 k hkN)).2.1
    have hM := w2_M (OB_w hb)
    have fin : ∀ {v : Int64}, Sm m h (fun σ' => OWi σ0 σ' c) Any (f_M_mergedSites_212 F (f_M_mergedSites_117 F f) m (nI j) (nI t) (nI (tO t)) (nI i) (nI k) m (nI (plN (szF p a zf) j + 24 * k + 12)) v (mh m h σ)) := fun {v} => by
      unfold f_M_mergedSites_212
      rw [nI_add]
      have hle : plN (szF p a zf) j + 24 * k + 12 + 4 ≤ 65536 := by
        generalize plN (szF p a zf) j = x1 at *
        generalize plN (szF p a zf) (j + 1) = x2 at *
        generalize plN (szF p a zf) (p + 1) = x3 at *
        generalize sN (tb t) i = x4 at *
        omega
      exact sm_put hm hF hI hle (fun σ hi => ih _ _ _ (by omega) (by omega) hi)
    unfold f_M_mergedSites_117
    rw [e_o hm, bs, O_sN hm (by omega) hb i1 iS hs, xb_mk, if_neg (nI_ge (by omega) (by omega)), e_o hm, bs, O_site hm (by omega) hb iS, xb_mk, e_o hm, bs, nI_add, O_sY hm (by omega) hb hsp, xb_mk, lN_i, e_o hm, bs, q_pl hm hF hS hI h1 (by omega), xb_mk, show nI 24 * nI k = nI (24 * k) from (Int32.ofNat_mul _ _).symm, nI_add, nI_add]
    by_cases c0 : sY (tb t) i k = 0
    · rw [if_pos (by rw [c0]; rfl)]
      exact fin
    · rw [if_neg (nI_nz (by omega) c0), e_o hm, bs, O_bind hm (by omega) hb hok, xb_mk]
      by_cases c1 : yB (tb t) (sY (tb t) i k) = 0
      · rw [if_pos (by rw [c1]; rfl), Mr118 hm, bs, show nI 64 * nI t = nI (64 * t) from (Int32.ofNat_mul _ _).symm, nI_add, Ma118 hm (by omega), bs]
        exact fin
      · have hyB : yB (tb t) (sY (tb t) i k) < 2 ^ 31 := by
          have := OB_y hb (by omega) hok
          unfold yOK at this
          have := (of_decide_eq_true this).1
          omega
        rw [if_neg (nI_nz hyB c1), Mr119 hm, bs, e_o hm, bs, O_name hm (by omega) hb hk1.1.2.2 (by omega) hok c1, xb_mk]
        have hmem := hW.2.2.2.1 t _ ht (show 1 ≤ sY (tb t) i k by omega) hok c1
        have hx : xs.length ≤ 4096 := by have := hk1.1.2.2.1.2.1; rw [List.length_map] at this; exact this
        cases e : idx (yT (tb t) (sY (tb t) i k)) 0 (xs.map Prod.fst) with
        | none =>
          have := idx_iff.mpr hmem
          rw [e] at this
          cases this
        | some q =>
          have hq := (idx_lt e).2
          rw [List.length_map, Nat.zero_add] at hq
          rw [show tdA (some q) = nI q from rfl, Ma119 hm (by omega), bs]
          exact fin
theorem sm_mt67 {o P t1 : Nat} (hm : m ≤ h.length) (hF : 65540 < F) (hS : MGs F m h σ0 p a N zf lf) (hA : rwN p a N zf lf + 64 * (p + 2) ≤ 8192) (h1 : 1 ≤ j) (hj : j < p) (eb : ∀ σ, OWi σ0 σ c → f_M_beginning F m (nI o) (nI i) (mh m h σ) = some (lN P, mh m h σ)) (hP : 0 < zf j → o + P + zf j ≤ 65536) (hK : ∀ σ, OWi σ0 σ c → Sm m h (fun σ' => OWi σ0 σ' c) Any (f_M_mergedSites_114 F m (nI j) (nI t1) (nI o) (nI i) (mh m h σ))) : ∀ (d k f : Nat) (σ : px_S), k + d = zf j → d < f → OWi σ0 σ c → Sm m h (fun σ' => OWi σ0 σ' c) Any (f_M_mergedSites_67 F f m (nI j) (nI t1) (nI o) (nI i) (nI k) (mh m h σ)) := by
  have hp := hS.1
  have b1 := (rwN_b hS).1
  have b2 := plN_m (sz := szF p a zf) (show j + 1 ≤ p + 1 by omega)
  have b3 := plN_in (sz := szF p a zf) h1
  rw [show szF p a zf j = zf j from if_pos hj] at b3
  intro d
  induction d with
  | zero =>
    intro k f σ hk hf hI
    obtain ⟨f, rfl⟩ : ∃ y, f = y + 1 := ⟨f - 1, by omega⟩
    unfold f_M_mergedSites_67
    rw [e_o hm, bs, hS.2.2.2.2.2.2 σ c j hI h1 hj, xb_mk, if_pos (nI_le (by omega) (by omega))]
    exact hK σ hI
  | succ d ih =>
    intro k f σ hk hf hI
    obtain ⟨f, rfl⟩ : ∃ y, f = y + 1 := ⟨f - 1, by omega⟩
    have hP' := hP (by omega)
    unfold f_M_mergedSites_67
    rw [e_o hm, bs, hS.2.2.2.2.2.2 σ c j hI h1 hj, xb_mk, if_neg (nI_ge (by omega) (by omega)), Mr3 hm, bs, e_o hm, bs, q_pl hm hF hS hI h1 (by omega), xb_mk, Mr6 hm, bs, e_o hm, bs, eb σ hI, xb_mk, lN_i, nI_add, nI_add, Ma6 hm (by omega), bs, nI_add, nI_add]
    exact sm_w3 hm hI (by omega) (fun σ hi => ih _ _ _ (by omega) (by omega) hi)
theorem sm_msit (hm : m ≤ h.length) (hF : 65540 < F) (hW : WP T tb dr xs) (hk : MGk σ0 T tO tn tb dr xs od on R) (hS : MGs F m h σ0 p a N zf lf) (hA : rwN p a N zf lf + 64 * (p + 2) ≤ 8192) (h1 : 1 ≤ j) (hj : j < p) (hP : MPj σ0 T tb j t i) (ez : zf j = ptZ (tb t) i) (h4 : oT (tb t) i = 4) (hI : OWi σ0 σ c) : Sm m h (fun σ' => OWi σ0 σ' c) Any (f_M_mergedSites F m (nI j) (mh m h σ)) := by
  have hp := hS.1
  have hpz := ptZ_b hk hP
  have hT := hW.1
  obtain ⟨p1, p2, p3, p4, p5, p6⟩ := MPj_w hP hI
  have hs : isS (tb t) i = true := by
    rcases p6 with p6 | p6
    · unfold oK at p6
      rcases (of_decide_eq_true p6).1 with e | e <;> (rw [h4] at e; cases e)
    · exact p6
  have hb := MGk_o (MGk_w hk hI) p1
  have hIs := (eSit_0 hb.2.2.2.1 p2 p3 hs).1
  have h24 := (OB_w hb).1.2.1.2
  have hzN : ptZ (tb t) i = oZ (tb t) i := by unfold ptZ; rw [if_neg (by rw [h4]; decide)]
  have hsn : 24 * sN (tb t) i ≤ zf j := by rw [ez, hzN]; unfold sN; omega
  have hi24 : 24 * t + oI (tb t) i < 1536 := by omega
  unfold f_M_mergedSites
  rw [Mr120 hm, bs, Ma120 hm (by omega), bs, p4, e_o hm, bs, O_obj hm hb, xb_mk, Mr121 hm, bs, Ma121 hm (by omega), bs, p5, e_o hm, bs, O_size hm (by omega) hb p3, xb_mk, Mg123 hm, bs, Mr117 hm, bs, e_o hm, bs, O_info hm (by omega) hb p3, xb_mk, lN_i, show nI 24 * nI t = nI (24 * t) from (Int32.ofNat_mul _ _).symm, nI_add, Ma117 hm hi24, bs]
  refine sm_o hm (fun _ => sm_x (sm_rows hm hF hS hA h1 (by omega) hI) (fun _ σ _ hi => ?_))
  refine sm_mt67 hm hF hS hA h1 hj (fun σ hi => O_beg hm (by omega) (MGk_o (MGk_w hk hi) p1) p3) (by rw [ez]; exact hpz.2) (fun σ hi => ?_) (zf j) 0 F σ (Nat.zero_add _) (by have := hS.2.2.2.2.2.1 j; omega) hi
  unfold f_M_mergedSites_114
  have hzb := hS.2.2.2.2.2.1 j
  exact sm_mt117 hm hF hW hk hS hA h1 hj p1 p2 p3 hs hsn (sN (tb t) i) 0 F σ (Nat.zero_add _) (by omega) hi
end MSE
end
section
/-! the reference merges: symbols and names (steps spelled out by sf/pp.py) -/
section MMS
variable {F m T : Nat} {h : px_H} {σ0 σ : px_S} {tO tn : Nat → Nat} {tb : Nat → Nat → Nat} {dr : Nat → Bool} {xs : px_NL} {od : List Nat} {on : Bool} {R : Nat → Bool} {p a N c j t i : Nat} {zf lf : Nat → Nat}
theorem sm_ml18 {k2 : Nat → Int32 → px_H → Option (Unit × px_H)} (hm : m ≤ h.length) (hF : 65540 < F) (hT : T ≤ 64) (hk : MGk σ0 T tO tn tb dr xs od on R) (hS : MGs F m h σ0 p a N zf lf) (hA : rwN p a N zf lf + 64 * (p + 2) ≤ 8192) (hL : MLo σ0 tb T 0 a) (ht : t < T) (hK : ∀ σ, OWi σ0 σ c → Sm m h (fun σ' => OWi σ0 σ' c) Any (k2 m (nI (t + 1)) (mh m h σ))) : ∀ (d k f : Nat) (σ : px_S), k + d = pkM (oM (tb t)) → 1 ≤ k → d < f → OWi σ0 σ c → Sm m h (fun σ' => OWi σ0 σ' c) Any (f_M_mergedLocals_18 F k2 f m (nI t) (nI (tO t)) (nI k) (mh m h σ)) := by
  have ha := hS.1.2.2.1
  have hM := w2_M (OB_w (MGk_o hk ht))
  obtain ⟨m1, m2, m3⟩ := pkM_1 (oM (tb t))
  have hMx : pkM (oM (tb t)) ≤ 64 := by unfold pkM; split <;> omega
  intro d
  induction d with
  | zero =>
    intro k f σ hkk h1 hf hI
    obtain ⟨f, rfl⟩ : ∃ y, f = y + 1 := ⟨f - 1, by omega⟩
    have hb := MGk_o (MGk_w hk hI) ht
    unfold f_M_mergedLocals_18 f_M_mergedLocals_195
    rw [e_o hm, bs, O_many hm (by omega) hb, xb_mk, if_pos (nI_le (by omega) (by omega)), nI_add]
    exact hK σ hI
  | succ d ih =>
    intro k f σ hkk h1 hf hI
    obtain ⟨f, rfl⟩ : ∃ y, f = y + 1 := ⟨f - 1, by omega⟩
    have hk1 := MGk_w hk hI
    have hb := MGk_o hk1 ht
    have hkM := m3 k h1 (by omega)
    have hyo := OB_y hb h1 hkM
    unfold yOK at hyo
    have hyo := of_decide_eq_true hyo
    have hyB : yB (tb t) k < 2 ^ 31 := by omega
    have h24 := (OB_w hb).1.2.1.2
    have hyW : yW (tb t) k < 2 ^ 31 := by rcases hyo.2.1 with e | e | e | e <;> omega
    have hn := hb.2.2.1
    have hyP := w2_y (OB_w hb) hkM
    have go := fun σ hi => ih (k + 1) f σ (by omega) (by omega) (by omega) hi
    unfold f_M_mergedLocals_18 f_M_mergedLocals_189
    rw [e_o hm, bs, O_many hm (by omega) hb, xb_mk, if_neg (nI_ge (by omega) (by omega)), e_o hm, bs, O_bind hm (by omega) hb hkM, xb_mk, nI_add]
    by_cases c0 : yB (tb t) k = 0
    · obtain ⟨v, v1, v2⟩ := hL t k (Or.inl ht) h1 hkM c0
      have e118 : gA σ 118 (64 * t + k) = nI v := by rw [hI.1.2.2.1 118 (by decide)]; exact v2
      have f180 : ∀ {s2 s3 : Int32} {s4 : Int64}, Sm m h (fun σ' => OWi σ0 σ' c) Any (f_M_mergedLocals_180 F k2 (f_M_mergedLocals_18 F k2 f) m (nI t) (nI (tO t)) (nI k) m (nI v) s2 s3 s4 (mh m h σ)) := fun {s2 s3 s4} => by
        unfold f_M_mergedLocals_180 f_M_mergedLocals_189
        rw [e_o hm, bs, O_ysize hm (by omega) hb hkM, xb_mk, nI_add]
        exact sm_o hm (fun _ => sm_x (sm_mgsy hm hF hS hA (by omega) hI) (fun _ σ _ hi => go σ hi))
      have f174 : ∀ {s2 s3 : Int32}, Sm m h (fun σ' => OWi σ0 σ' c) Any (f_M_mergedLocals_174 F k2 (f_M_mergedLocals_18 F k2 f) m (nI t) (nI (tO t)) (nI k) m (nI v) s2 s3 (mh m h σ)) := fun {s2 s3} => by
        unfold f_M_mergedLocals_174
        rw [e_o hm, bs, O_value hm (by omega) hb hkM, xb_mk]
        exact f180
      have f86 : ∀ {a5 s0 : Int32}, (a5 = 0 ∧ s0 = 0) ∨ yW (tb t) k < 24 → Sm m h (fun σ' => OWi σ0 σ' c) Any (f_M_mergedLocals_86 F k2 (f_M_mergedLocals_18 F k2 f) m (nI t) (nI (tO t)) (nI k) (nI (yW (tb t) k)) a5 s0 (mh m h σ)) := fun {a5 s0} hw => by
        unfold f_M_mergedLocals_86 f_M_mergedLocals_150
        rw [Mr118 hm, bs, show nI 64 * nI t = nI (64 * t) from (Int32.ofNat_mul _ _).symm, nI_add, Ma118 hm (by omega), bs, e118, Mr6 hm, bs, e_o hm, bs, O_sym hm (by omega) hb, xb_mk, nI_add, Ma6 hm (by omega), bs, show nI 24 * nI t = nI (24 * t) from (Int32.ofNat_mul _ _).symm, nI_add]
        rcases hw with ⟨w1, w2⟩ | w
        · rw [if_pos w2, if_pos w1, if_pos w2]
          exact f174
        · have hix : 24 * t + yW (tb t) k < 1536 := by omega
          refine sm_i (fun c1 => ?_) (fun c1 => ?_)
          · refine sm_i (fun _ => ?_) (fun _ => ?_)
            · rw [if_pos c1]
              exact f174
            · rw [Mr117 hm, bs, Ma117 hm hix, bs, if_pos c1]
              exact f174
          · rw [if_neg c1, Mr65 hm, bs, Ma65 hm hix, bs]
            exact sm_i (fun _ => f174) (fun _ => f180)
      have f63 : Sm m h (fun σ' => OWi σ0 σ' c) Any (f_M_mergedLocals_63 F k2 (f_M_mergedLocals_18 F k2 f) m (nI t) (nI (tO t)) (nI k) (nI (yW (tb t) k)) (mh m h σ)) := by
        unfold f_M_mergedLocals_63 f_M_mergedLocals_64 f_M_mergedLocals_85
        rw [if_pos (show nI 0 = 0 from rfl)]
        exact f86 (Or.inl ⟨rfl, rfl⟩)
      rw [if_pos (by rw [c0]; rfl), e_o hm, bs, O_where hm (by omega) hb hkM, xb_mk]
      refine sm_i (fun _ => f63) (fun w0 => sm_i (fun _ => f63) (fun w1 => ?_))
      have w24 : yW (tb t) k < 24 := Nat.lt_of_not_le (fun q => w1 (nI_le q hyW))
      have w1' : 0 < yW (tb t) k := by
        apply Nat.pos_of_ne_zero
        intro q
        apply w0
        rw [q]
        decide
      have wS : yW (tb t) k < oS (tb t) := by rcases hyo.2.1 with e | e | e | e <;> omega
      unfold f_M_mergedLocals_64 f_M_mergedLocals_85
      rw [if_neg (show ¬ nI 1 = 0 by decide), e_o hm, bs, q_stays hm (by omega) hb hk1.1.2.1 hk1.2.1 wS, xb_mk]
      exact sm_i (fun _ => f86 (Or.inr w24)) (fun _ => f86 (Or.inr w24))
    · rw [if_neg (nI_nz hyB c0)]
      exact go σ hI
theorem sm_ml2 (hm : m ≤ h.length) (hF : 65540 < F) (hT : T ≤ 64) (hk : MGk σ0 T tO tn tb dr xs od on R) (hS : MGs F m h σ0 p a N zf lf) (hA : rwN p a N zf lf + 64 * (p + 2) ≤ 8192) (hL : MLo σ0 tb T 0 a) : ∀ (d t f : Nat) (σ : px_S), t + d = T → d < f → OWi σ0 σ c → Sm m h (fun σ' => OWi σ0 σ' c) Any (f_M_mergedLocals_2 F f m (nI t) (mh m h σ)) := by
  intro d
  induction d with
  | zero =>
    intro t f σ ht hf hI
    obtain ⟨f, rfl⟩ : ∃ y, f = y + 1 := ⟨f - 1, by omega⟩
    unfold f_M_mergedLocals_2 f_M_mergedLocals_201
    rw [Mg14 hm, bs, (MGk_w hk hI).2.2.2, if_pos (nI_le (by omega) (by omega))]
    exact sm_r any hI
  | succ d ih =>
    intro t f σ ht hf hI
    obtain ⟨f, rfl⟩ : ∃ y, f = y + 1 := ⟨f - 1, by omega⟩
    have hk1 := MGk_w hk hI
    have hb := MGk_o hk1 (show t < T by omega)
    have hM := w2_M (OB_w hb)
    obtain ⟨m1, m2, m3⟩ := pkM_1 (oM (tb t))
    have hMx : pkM (oM (tb t)) ≤ 64 := by unfold pkM; split <;> omega
    unfold f_M_mergedLocals_2
    rw [Mg14 hm, bs, hk1.2.2.2, if_neg (nI_ge (by omega) (by omega)), e_o hm, bs, O_obj hm hb, xb_mk]
    exact sm_ml18 hm hF hT hk hS hA hL (by omega) (fun σ hi => ih _ _ _ (by omega) (by omega) hi) (pkM (oM (tb t)) - 1) 1 F σ (by omega) (Nat.le_refl _) (by omega) hI
theorem sm_mdef {k s : Nat} (hm : m ≤ h.length) (hF : 65540 < F) (hT : T ≤ 64) (hk : MGk σ0 T tO tn tb dr xs od on R) (hS : MGs F m h σ0 p a N zf lf) (hA : rwN p a N zf lf + 64 * (p + 2) ≤ 8192) (hk64 : k ≤ 64) (ht : t < T) (h1 : 1 ≤ s) (hs : s < oM (tb t)) (hw : yW (tb t) s ≠ 65522) (hI : OWi σ0 σ c) : Sm m h (fun σ' => OWi σ0 σ' c) Any (f_M_mergedDefinition F m (nI k) (nI t) (nI s) (mh m h σ)) := by
  have hb := MGk_o (MGk_w hk hI) ht
  have hyo := OB_y hb h1 hs
  unfold yOK at hyo
  have hyo := of_decide_eq_true hyo
  have h24 := (OB_w hb).1.2.1.2
  have hn := hb.2.2.1
  have hyP := w2_y (OB_w hb) hs
  have fin : ∀ {s2 s3 : Int32}, Sm m h (fun σ' => OWi σ0 σ' c) Any (f_M_mergedDefinition_62 F m (nI s) (nI (tO t)) m (nI k) s2 s3 (mh m h σ)) := fun {s2 s3} => by
    unfold f_M_mergedDefinition_62
    rw [e_o hm, bs, O_value hm (by omega) hb hs, xb_mk, e_o hm, bs, O_ysize hm (by omega) hb hs, xb_mk]
    exact sm_o hm (fun _ => sm_x (sm_mgsy hm hF hS hA hk64 hI) (fun _ σ _ hi => sm_r any hi))
  unfold f_M_mergedDefinition
  rw [e_o hm, bs, O_obj hm hb, xb_mk, e_o hm, bs, O_where hm (by omega) hb hs, xb_mk, Mr6 hm, bs, e_o hm, bs, O_sym hm (by omega) hb, xb_mk, nI_add, Ma6 hm (by omega), bs]
  refine sm_i (fun _ => fin) (fun c1 => ?_)
  have hix : 24 * t + yW (tb t) s < 1536 := by
    have : yW (tb t) s ≠ 65521 := fun q => c1 (by rw [q]; rfl)
    rcases hyo.2.1 with e | e | e | e <;> omega
  rw [Mr117 hm, bs, show nI 24 * nI t = nI (24 * t) from (Int32.ofNat_mul _ _).symm, nI_add, Ma117 hm hix, bs]
  exact fin
theorem sm_mn173 {k7 : Nat → Int32 → Int32 → px_H → Option (Unit × px_H)} {x k n : Nat} (hm : m ≤ h.length) (hF : 65540 < F) (hS : MGs F m h σ0 p a N zf lf) (hA : rwN p a N zf lf + 64 * (p + 2) ≤ 8192) (hn : n < N) (hx : x ≤ 2000) (hK : ∀ σ, OWi σ0 σ c → Sm m h (fun σ' => OWi σ0 σ' c) Any (k7 m (nI (x + (lf n + 1))) (nI (k + 1)) (mh m h σ))) : ∀ (d i f : Nat) (σ : px_S), i + d = lf n → d < f → OWi σ0 σ c → Sm m h (fun σ' => OWi σ0 σ' c) Any (f_M_mergedNames_173 F k7 f m (nI x) (nI k) (nI n) (nI i) (mh m h σ)) := by
  have hp := hS.1
  obtain ⟨e22, hl⟩ := hS.2.2.2.2.1 n hn
  have b1 := (rwN_b hS).1
  intro d
  induction d with
  | zero =>
    intro i f σ hi hf hI
    obtain ⟨f, rfl⟩ : ∃ y, f = y + 1 := ⟨f - 1, by omega⟩
    unfold f_M_mergedNames_173 f_M_mergedNames_222
    rw [Mr22 hm, bs, Ma22 hm (by omega), bs, hI.1.2.2.1 22 (by decide), e22, if_pos (nI_le (by omega) (by omega)), bs, Ma22 hm (by omega), bs, hI.1.2.2.1 22 (by decide), e22, nI_add, nI_add, nI_add]
    exact hK σ hI
  | succ d ih =>
    intro i f σ hi hf hI
    obtain ⟨f, rfl⟩ : ∃ y, f = y + 1 := ⟨f - 1, by omega⟩
    unfold f_M_mergedNames_173
    rw [Mr22 hm, bs, Ma22 hm (by omega), bs, hI.1.2.2.1 22 (by decide), e22, if_neg (nI_ge (by omega) (by omega)), Mr3 hm, bs, Mg123 hm, bs, hI.1.1 123 (by decide), hS.2.1, nI_add, e_o hm, bs, q_pl hm hF hS hI (by omega) (by omega), xb_mk, Mr21 hm, bs, show nI 20 * nI n = nI (20 * n) from (Int32.ofNat_mul _ _).symm, nI_add, Ma21 hm (by omega), bs, nI_add, nI_add, nI_add]
    exact sm_w3 hm hI (by omega) (fun σ hi => ih _ _ _ (by omega) (by omega) hi)
theorem sm_mn150 {k7 : Nat → Int32 → Int32 → px_H → Option (Unit × px_H)} {x k n : Nat} (hm : m ≤ h.length) (hF : 65540 < F) (hS : MGs F m h σ0 p a N zf lf) (hA : rwN p a N zf lf + 64 * (p + 2) ≤ 8192) (hn : n < N) (hx : x ≤ 2000) (hk : k ≤ 64) (hK : ∀ σ, OWi σ0 σ c → Sm m h (fun σ' => OWi σ0 σ' c) Any (k7 m (nI (x + (lf n + 1))) (nI (k + 1)) (mh m h σ))) (hI : OWi σ0 σ c) : Sm m h (fun σ' => OWi σ0 σ' c) Any (f_M_mergedNames_150 F k7 m (nI x) (nI k) (nI n) (mh m h σ)) := by
  have hp := hS.1
  have hl := (hS.2.2.2.2.1 n hn).2
  have b1 := (rwN_b hS).1
  have b2 := plN_m (sz := szF p a zf) (show p ≤ p + 1 by omega)
  unfold f_M_mergedNames_150
  rw [Mg123 hm, bs, hI.1.1 123 (by decide), hS.2.1, e_o hm, bs, q_pl hm hF hS hI hp.1 (by omega), xb_mk, show nI 24 * nI k = nI (24 * k) from (Int32.ofNat_mul _ _).symm, nI_add]
  refine sm_put hm hF hI (by omega) (fun σ hi => ?_)
  exact sm_mn173 hm hF hS hA hn hx hK (lf n) 0 F σ (Nat.zero_add _) (by omega) hi
theorem sm_mn7 {f0 : Nat} (hm : m ≤ h.length) (hF : 65540 < F) (hW : WP T tb dr xs) (hk : MGk σ0 T tO tn tb dr xs od on R) (hS : MGs F m h σ0 p a xs.length zf lf) (hA : rwN p a xs.length zf lf + 64 * (p + 2) ≤ 8192) (hN : MNl σ0 xs.length f0 a) : ∀ (d k f x : Nat) (σ : px_S), k + d = a → f0 ≤ k → d < f → x ≤ 1 + 21 * k → OWi σ0 σ c → Sm m h (fun σ' => OWi σ0 σ' c) Any (f_M_mergedNames_7 F f m (nI x) (nI k) (mh m h σ)) := by
  have hp := hS.1
  intro d
  induction d with
  | zero =>
    intro k f x σ hkk hf0 hf hx hI
    obtain ⟨f, rfl⟩ : ∃ y, f = y + 1 := ⟨f - 1, by omega⟩
    unfold f_M_mergedNames_7 f_M_mergedNames_239
    rw [Mg125 hm, bs, hI.1.1 125 (by decide), hS.2.2.1, if_pos (nI_le (by omega) (by omega))]
    exact sm_r any hI
  | succ d ih =>
    intro k f x σ hkk hf0 hf hx hI
    obtain ⟨f, rfl⟩ : ∃ y, f = y + 1 := ⟨f - 1, by omega⟩
    have hk1 := MGk_w hk hI
    obtain ⟨n, hn, e122⟩ := hN.2 k hf0 (by omega) (by omega)
    have hxn : xs[n]? = some xs[n] := List.getElem?_eq_getElem hn
    obtain ⟨y, ey⟩ : ∃ y, y = xs[n] := ⟨_, rfl⟩
    rw [← ey] at hxn
    have hrec := hk1.1.2.2.2 n y hxn
    have hst := (hW.2.1 n y hxn).1
    have hby := hW.2.2.1 n y hxn
    have e23 := hrec.1
    have hl := (hS.2.2.2.2.1 n hn).2
    have go : ∀ σ, OWi σ0 σ c → Sm m h (fun σ' => OWi σ0 σ' c) Any (f_M_mergedNames_7 F f m (nI (x + (lf n + 1))) (nI (k + 1)) (mh m h σ)) := fun σ hi => ih (k + 1) f _ σ (by omega) (by omega) (by omega) (by omega) hi
    have fin : ∀ σ, OWi σ0 σ c → Sm m h (fun σ' => OWi σ0 σ' c) Any (f_M_mergedNames_150 F (f_M_mergedNames_7 F f) m (nI x) (nI k) (nI n) (mh m h σ)) := fun σ hi => sm_mn150 hm hF hS hA hn (by omega) (by omega) go hi
    have f78 : Sm m h (fun σ' => OWi σ0 σ' c) Any (f_M_mergedNames_78 F (f_M_mergedNames_7 F f) m (nI x) (nI k) (nI n) (mh m h σ)) := by
      unfold f_M_mergedNames_78 f_M_mergedNames_96
      rw [Mr28 hm, bs, Ma28 hm (by omega), bs]
      refine sm_i (fun _ => ?_) (fun _ => ?_)
      · exact sm_o hm (fun _ => sm_x (sm_mgsy hm hF hS hA (by omega) hI) (fun _ σ _ hi => fin σ hi))
      · exact sm_o hm (fun _ => sm_x (sm_mgsy hm hF hS hA (by omega) hI) (fun _ σ _ hi => fin σ hi))
    unfold f_M_mergedNames_7
    rw [Mg125 hm, bs, hI.1.1 125 (by decide), hS.2.2.1, if_neg (nI_ge (by omega) (by omega)), Mr122 hm, bs, Ma122 hm (by omega), bs, hI.1.2.2.1 122 (by decide), e122, Mr23 hm, bs, Ma23 hm (by omega), bs, e23]
    refine sm_i (fun _ => ?_) (fun c2 => ?_)
    · rw [Mr27 hm, bs, Ma27 hm (by omega), bs, Mr26 hm, bs, Ma26 hm (by omega), bs]
      exact sm_o hm (fun _ => sm_x (sm_mgsy hm hF hS hA (by omega) hI) (fun _ σ _ hi => fin σ hi))
    · rw [bs, Ma23 hm (by omega), bs, e23]
      refine sm_i (fun _ => f78) (fun c0 => ?_)
      rw [bs, Ma23 hm (by omega), bs, e23]
      refine sm_i (fun _ => f78) (fun c4 => ?_)
      have s2 : y.2.1 ≠ 2 := fun q => c2 (by rw [q])
      have s0 : y.2.1 ≠ 0 := fun q => c0 (by rw [q]; rfl)
      have s4 : y.2.1 ≠ 4 := fun q => c4 (by rw [q])
      have q := q_isGiven (F := F) hm hk1.1.2.2 hW.2.1 hxn (fun q hq => by
        unfold byP at hby
        rw [hq] at hby
        have := hby.1
        have := hW.1
        omega)
      rw [e_o hm, bs, q, xb_mk]
      refine sm_i (fun c5 => ?_) (fun _ => ?_)
      · cases hq : y.2.2.2.2.1 with
        | none =>
          exfalso
          unfold byP at hby
          rw [hq] at hby
          rw [hq] at c5
          have : y.2.1 = 3 := by
            have hby' : y.2.1 = 0 ∨ y.2.1 = 3 ∨ y.2.1 = 4 := hby
            rcases hby' with w | w | w
            · exact absurd w s0
            · exact w
            · exact absurd w s4
          rw [this] at c5
          exact absurd c5 (by decide)
        | some z =>
          unfold byP at hby
          rw [hq] at hby
          obtain ⟨b1, ⟨b2, b3⟩, b4, b5, b6, b7⟩ := hby
          have hr4 := hrec.2.2.2.1
          rw [hq] at hr4
          rw [Mr24 hm, bs, Ma24 hm (by omega), bs, hr4.1, Mr25 hm, bs, Ma25 hm (by omega), bs, hr4.2]
          refine sm_o hm (fun _ => sm_x (sm_mdef hm hF hW.1 hk hS hA (by omega) b1 b2 b3 (fun w => ?_) hI) (fun _ σ _ hi => fin σ hi))
          apply s2
          rw [← b5]
          unfold sOf wNo
          rw [w]
          rfl
      · rw [Mr30 hm, bs, Ma30 hm (by omega), bs]
        exact sm_o hm (fun _ => sm_x (sm_mgsy hm hF hS hA (by omega) hI) (fun _ σ _ hi => fin σ hi))
end MMS
end
section
/-! the reference merges (steps spelled out by sf/pp.py) -/
/-- what a merge changes behind its link -/
abbrev mgE (σ0 σ : px_S) : Prop := FR [0, 4, 123, 124, 125, 126] [] [3, 117, 118, 119, 120, 121, 122] [] σ0 σ ∧ OUo σ
section MMG
variable {F m T : Nat} {h : px_H} {σ0 σ : px_S} {tO tn : Nat → Nat} {tb : Nat → Nat → Nat} {dr : Nat → Bool} {xs : px_NL} {od : List Nat} {on : Bool} {R : Nat → Bool} {p a N c j t i f0 : Nat} {zf lf pt pi : Nat → Nat}
theorem sm_mg209 (hm : m ≤ h.length) (hF : 65540 < F) (hW : WP T tb dr xs) (hk : MGk σ0 T tO tn tb dr xs od on R) (hS : MGs F m h σ0 p a xs.length zf lf) (hA : rwN p a xs.length zf lf + 64 * (p + 2) ≤ 8192) (hL : MLo σ0 tb T 0 a) (hN : MNl σ0 xs.length f0 a) (hfa : f0 ≤ a) (hc : c ≤ 65536) (hI : OWi σ0 σ c) : Sm m h (OWe σ0) Any (f_M_merges_209 F m (mh m h σ)) := by
  have hp := hS.1
  have hT := hW.1
  unfold f_M_merges_209
  rw [Mg123 hm, bs, hI.1.1 123 (by decide), hS.2.1, Mg125 hm, bs, bs, Mg124 hm, bs]
  refine sm_o hm (fun _ => sm_x (sm_rows hm hF hS hA hp.1 (by omega) hI) (fun _ σ _ hi => ?_))
  rw [Mg123 hm, bs, hi.1.1 123 (by decide), hS.2.1, nI_add, e_o hm, bs, q_tx hm hF hS hi, xb_mk]
  refine sm_o hm (fun _ => sm_x (sm_rows hm hF hS hA (by omega) (by omega) hi) (fun _ σ _ hi => ?_))
  unfold f_M_mergedLocals f_M_mergedNames
  refine sm_o hm (fun _ => sm_x (sm_ml2 hm hF hT hk hS hA hL T 0 F σ (Nat.zero_add _) (by omega) hi) (fun _ σ _ hi => ?_))
  rw [e_o hm, bs, Mg124 hm, bs, hi.1.1 124 (by decide), hN.1]
  exact sm_x (sm_mn7 hm hF hW hk hS hA hN (a - f0) f0 F 1 σ (by omega) (Nat.le_refl _) (by omega) (by omega) hi) (fun _ σ _ hi => sm_r any ⟨c, hc, hi⟩)
theorem sm_mg171 (hm : m ≤ h.length) (hF : 65540 < F) (hW : WP T tb dr xs) (hk : MGk σ0 T tO tn tb dr xs od on R) (hS : MGs F m h σ0 p a xs.length zf lf) (hA : rwN p a xs.length zf lf + 64 * (p + 2) ≤ 8192) (hL : MLo σ0 tb T 0 a) (hN : MNl σ0 xs.length f0 a) (hfa : f0 ≤ a) (hc : c ≤ 65536) (hP : ∀ j, 1 ≤ j → j < p → MPj σ0 T tb j (pt j) (pi j) ∧ zf j = ptZ (tb (pt j)) (pi j)) : ∀ (d j f : Nat) (σ : px_S), j + d = p → 1 ≤ j → d < f → OWi σ0 σ c → Sm m h (OWe σ0) Any (f_M_merges_171 F f m (nI j) (mh m h σ)) := by
  have hp := hS.1
  intro d
  induction d with
  | zero =>
    intro j f σ hj h1 hf hI
    obtain ⟨f, rfl⟩ : ∃ y, f = y + 1 := ⟨f - 1, by omega⟩
    unfold f_M_merges_171
    rw [Mg123 hm, bs, hI.1.1 123 (by decide), hS.2.1, if_pos (nI_le (by omega) (by omega))]
    exact sm_mg209 hm hF hW hk hS hA hL hN hfa hc hI
  | succ d ih =>
    intro j f σ hj h1 hf hI
    obtain ⟨f, rfl⟩ : ∃ y, f = y + 1 := ⟨f - 1, by omega⟩
    obtain ⟨hPj, ez⟩ := hP j h1 (by omega)
    have q := q_isPart (F := F) (y := 4) hm (by omega) (MGk_w hk hI) (show j < 24 by omega) (by decide) (MPj_w hPj hI)
    unfold f_M_merges_171 f_M_merges_203
    rw [Mg123 hm, bs, hI.1.1 123 (by decide), hS.2.1, if_neg (nI_ge (by omega) (by omega)), e_o hm, bs, show (4 : Int64) = lN 4 from rfl, q, xb_mk, nI_add]
    by_cases e : oT (tb (pt j)) (pi j) = 4
    · rw [decide_eq_true e, if_neg (show ¬ bI true = 0 by decide)]
      exact sm_o hm (fun _ => sm_x (sm_msit hm hF hW hk hS hA h1 (by omega) hPj ez e hI) (fun _ σ _ hi => ih _ _ _ (by omega) (by omega) (by omega) hi))
    · rw [decide_eq_false e, if_pos (show bI false = 0 from rfl)]
      exact sm_o hm (fun _ => sm_x (sm_msec hm hF hk hS hA h1 (by omega) hPj ez hI) (fun _ σ _ hi => ih _ _ _ (by omega) (by omega) (by omega) hi))
theorem sm_mg66 (hm : m ≤ h.length) (hF : 65540 < F) (hW : WP T tb dr xs) (hk : MGk σ0 T tO tn tb dr xs od on R) (hS : MGs F m h σ0 p a xs.length zf lf) (hA : rwN p a xs.length zf lf + 64 * (p + 2) ≤ 8192) (hL : MLo σ0 tb T 0 a) (hN : MNl σ0 xs.length f0 a) (hfa : f0 ≤ a) (hP : ∀ j, 1 ≤ j → j < p → MPj σ0 T tb j (pt j) (pi j) ∧ zf j = ptZ (tb (pt j)) (pi j)) (hc : c ≤ 65536) {c0 : Nat} (hI : OWi σ0 σ c0) : Sm m h (OWe σ0) Any (f_M_merges_66 F m (nI c) (mh m h σ)) := by
  have hp := hS.1
  unfold f_M_merges_66
  refine sm_p4 hm hI (fun σ hi => ?_)
  refine sm_put (σ0 := σ0) (c := c) (q := 0) (n := 8) hm hF hi (by decide) (fun σ hi => ?_)
  refine sm_put (σ0 := σ0) (c := c) (q := 16) (n := 2) hm hF hi (by decide) (fun σ hi => ?_)
  refine sm_put (σ0 := σ0) (c := c) (q := 18) (n := 2) hm hF hi (by decide) (fun σ hi => ?_)
  refine sm_put (σ0 := σ0) (c := c) (q := 20) (n := 4) hm hF hi (by decide) (fun σ hi => ?_)
  rw [e_o hm, bs, q_row8 hm hF hS hi, xb_mk]
  refine sm_put (σ0 := σ0) (c := c) (q := 40) (n := 8) hm hF hi (by decide) (fun σ hi => ?_)
  refine sm_put (σ0 := σ0) (c := c) (q := 52) (n := 2) hm hF hi (by decide) (fun σ hi => ?_)
  refine sm_put (σ0 := σ0) (c := c) (q := 58) (n := 2) hm hF hi (by decide) (fun σ hi => ?_)
  rw [Mg123 hm, bs]
  refine sm_put (σ0 := σ0) (c := c) (q := 60) (n := 2) hm hF hi (by decide) (fun σ hi => ?_)
  rw [Mg123 hm, bs]
  refine sm_put (σ0 := σ0) (c := c) (q := 62) (n := 2) hm hF hi (by decide) (fun σ hi => ?_)
  exact sm_mg171 hm hF hW hk hS hA hL hN hfa hc hP (p - 1) 1 F σ (by omega) (Nat.le_refl _) (by omega) hi
theorem sm_mg48 {L : Nat} (hm : m ≤ h.length) (hL : L ≤ 65536) {I : px_S → Prop} (hK : ∀ σ, OWi σ0 σ c → Sm m h I Any (f_M_merges_66 F m (nI L) (mh m h σ))) : ∀ (d k f : Nat) (σ : px_S), k + d = L → d < f → OWi σ0 σ c → Sm m h I Any (f_M_merges_48 F f m (nI L) (nI k) (mh m h σ)) := by
  intro d
  induction d with
  | zero =>
    intro k f σ hk hf hI
    obtain ⟨f, rfl⟩ : ∃ y, f = y + 1 := ⟨f - 1, by omega⟩
    unfold f_M_merges_48
    rw [if_pos (nI_le (by omega) (by omega))]
    exact hK σ hI
  | succ d ih =>
    intro k f σ hk hf hI
    obtain ⟨f, rfl⟩ : ∃ y, f = y + 1 := ⟨f - 1, by omega⟩
    unfold f_M_merges_48
    rw [if_neg (nI_ge (by omega) (by omega)), Mr3 hm, bs, nI_add]
    exact sm_w3 hm hI (by omega) (fun σ hi => ih _ _ _ (by omega) (by omega) hi)
theorem sm_merges (hm : m ≤ h.length) (hF : 65540 < F) (hW : WP T tb dr xs) (hod : ∀ d, d ∈ od → d < xs.length) (hk : MGk σ0 T tO tn tb dr xs od on R) (ho : OUo σ0) : Sm m h (mgE σ0) Any (f_M_merges F m (mh m h σ0)) := by
  have hT := hW.1
  unfold f_M_merges
  refine sm_o hm (fun _ => sm_x (sm_countParts hm hF hT hk) (fun _ σ1 _ hi1 => ?_))
  obtain ⟨f1, p, hPt⟩ := hi1
  have hk1 := MGk_g hk f1
  refine sm_o hm (fun _ => sm_x (sm_countSymbols hm hF hT hk1 hod) (fun _ σ2 _ hi2 => ?_))
  obtain ⟨f2, f0, a, hf1, hfa, ha, e125, hL, hN⟩ := hi2
  have hk2 := MGk_s hk1 f2
  have F2 : FR [0, 4, 123, 124, 125, 126] [] [3, 117, 118, 119, 120, 121, 122] [] σ0 σ2 := FR_trans (FR_mono f1 (by decide) (by decide) (by decide) (by decide)) (FR_mono f2 (by decide) (by decide) (by decide) (by decide))
  have ho2 : OUo σ2 := OUo_FR (OUo_FR ho f1 (by decide) (by decide)) f2 (by decide) (by decide)
  have non : ∀ {v : Int32}, Sm m h (mgE σ0) Any (some (v, mh m h σ2)) := sm_r any ⟨F2, ho2⟩
  obtain ⟨p1, p2, e123, ⟨z, e126⟩, hJ⟩ := hPt
  have g123 : gI σ2 123 = nI p := (f2.1 123 (by decide)).trans e123
  rw [Mg126 hm, bs, (f2.1 126 (by decide)).trans e126]
  unfold f_M_merges_24
  refine sm_i (fun _ => ?_) (fun _ => non)
  rw [Mg125 hm, bs, e125]
  refine sm_i (fun ca => ?_) (fun _ => non)
  have ha64 : a ≤ 64 := Nat.le_of_not_lt (fun q => nI_ge (a := 64) (by omega) (by omega) ca)
  have hJ2 : ∀ j, ∃ t i, (1 ≤ j → j < p → MPj σ2 T tb j t i) := fun j => by
    by_cases hc : 1 ≤ j ∧ j < p
    · obtain ⟨t, i, w1, w2, w3, w4, w5, w6⟩ := hJ j hc.1 hc.2
      exact ⟨t, i, fun _ _ => ⟨w1, w2, w3, by rw [f2.2.2.1 120 (by decide)]; exact w4, by rw [f2.2.2.1 121 (by decide)]; exact w5, w6⟩⟩
    · exact ⟨0, 0, fun q1 q2 => absurd ⟨q1, q2⟩ hc⟩
  obtain ⟨pt, hpt⟩ : ∃ pt : Nat → Nat, ∀ j, ∃ i, (1 ≤ j → j < p → MPj σ2 T tb j (pt j) i) := ⟨fun j => (hJ2 j).choose, fun j => (hJ2 j).choose_spec⟩
  obtain ⟨pi, hpi⟩ : ∃ pi : Nat → Nat, ∀ j, 1 ≤ j → j < p → MPj σ2 T tb j (pt j) (pi j) := ⟨fun j => (hpt j).choose, fun j => (hpt j).choose_spec⟩
  obtain ⟨zf, hz1, hz2⟩ : ∃ zf : Nat → Nat, (∀ j, zf j ≤ 65536) ∧ ∀ j, 1 ≤ j → j < p → zf j = ptZ (tb (pt j)) (pi j) := by
    refine ⟨fun j => if 1 ≤ j ∧ j < p then ptZ (tb (pt j)) (pi j) else 0, fun j => ?_, fun j j1 j2 => if_pos ⟨j1, j2⟩⟩
    show (if 1 ≤ j ∧ j < p then ptZ (tb (pt j)) (pi j) else 0) ≤ 65536
    by_cases hc : 1 ≤ j ∧ j < p
    · rw [if_pos hc]; exact (ptZ_b hk2 (hpi j hc.1 hc.2)).1
    · rw [if_neg hc]; exact Nat.zero_le _
  have hR := hk2.1.2.2.1
  have hx : xs.length ≤ 4096 := by have := hR.2.1; rw [List.length_map] at this; exact this
  have e20 : gI σ2 20 = nI xs.length := by have := hR.1; rw [List.length_map] at this; exact this
  have hS : MGs F m h σ2 p a xs.length zf (fun k => ((xs.map Prod.fst).getD k []).length) := by
    refine ⟨⟨p1, p2, ha64, hx⟩, g123, e125, e20, fun k hk => ?_, hz1, fun σ c j hI j1 j2 => ?_⟩
    · have hk' : k < (xs.map Prod.fst).length := by rw [List.length_map]; exact hk
      obtain ⟨z1, z2, _⟩ := hR.2.2 k _ (List.getElem?_eq_getElem hk')
      show gA σ2 22 k = nI ((xs.map Prod.fst).getD k []).length ∧ ((xs.map Prod.fst).getD k []).length ≤ 20
      rw [List.getD_eq_getElem?_getD, List.getElem?_eq_getElem hk']
      exact ⟨z2, z1.1⟩
    · rw [q_partSize hm (by omega) (MGk_w hk2 hI) (by omega) (MPj_w (hpi j j1 j2) hI), hz2 j j1 j2]
  obtain ⟨co, hco, hO⟩ := OWe_0 ho2 (FR_refl σ2)
  have hrb := (rwN_b hS).2
  rw [Mg123 hm, bs, g123, nI_add, e_o hm, bs, q_row8 hm hF hS hO, xb_mk]
  by_cases hA : rwN p a xs.length zf (fun k => ((xs.map Prod.fst).getD k []).length) + 64 * (p + 2) ≤ 8192
  · rw [if_pos (nI_le hA (by decide))]
    refine sm_wI (I1 := OWe σ2) ?_ (fun σ3 w => ?_)
    · exact sm_mg48 hm (by omega) (fun σ hi => sm_mg66 hm hF hW hk2 hS hA hL hN hfa (fun j j1 j2 => ⟨hpi j j1 j2, hz2 j j1 j2⟩) (by omega) hi) _ 0 F σ2 (Nat.zero_add _) (by omega) hO
    · obtain ⟨cc, hcc, hW'⟩ := w
      exact ⟨FR_trans F2 (FR_mono hW'.1 (by decide) (by decide) (by decide) (by decide)), ⟨cc, hcc, hW'.2.1⟩, hW'.2.2⟩
  · rw [if_neg (nI_ge (a := 8192) (by omega) (by omega))]
    exact non
theorem q_merge {fs : px_FS} {gs : List (List Nat × Int64)} {ws : List (List Nat)} {B : Nat → Nat} {σ : px_S} (hm : m ≤ h.length) (hF : 65540 < F) (hr : RF σ fs) (hg : RG σ gs) (hw : RW σ ws) (hv : LNV σ) (hB : RB σ B) (hsum : (fs.map Prod.fst).sum ≤ 4096) : ∃ (v : Int32) (σ1 σ2 : px_S) (a : Nat) (s : px_TK), f_M_merge F m (mh m h σ) = some (v, mh m h σ2) ∧ lnR fs gs ws false B s a ∧ gI σ1 13 = nI a ∧ LNP fs s σ1 ∧ LNV σ1 ∧ RF σ1 fs ∧ RG σ1 gs ∧ RW σ1 ws ∧ FR lnI lnJ lnA lnB σ σ1 ∧ (a = 0 → LKD σ1 s.1.2.2.1 ∧ LKY fs s false B σ1) ∧ mgE σ1 σ2 := by
  obtain ⟨σ1, a, s, e, q1, q2, q3, q4, q5, q6, q7, q8, q9⟩ := q_link (rc := false) (F := F) hm hF hr hg hw hv hB hsum
  have ho : OUo σ1 := ⟨q4.2.1, q4.1⟩
  have key : ∃ v σ2, f_M_merge F m (mh m h σ) = some (v, mh m h σ2) ∧ mgE σ1 σ2 := by
    unfold f_M_merge f_M_merge_27
    rw [e_o hm, bs, show nI 0 = bI false from rfl, e, xb_mk]
    by_cases c : nI a = nI 1
    · rw [if_pos c]
      exact ⟨_, σ1, rfl, FR_refl σ1, ho⟩
    · rw [if_neg c]
      obtain ⟨k1, k2, k3, k4, ⟨k5, k6⟩, on, R, rn, k7, k8, k9, k10⟩ := q3
      obtain ⟨l1, l2, l3, l4, l5, l6, l7, l8, l9⟩ := k1
      have hk : MGk σ1 s.2.2.1.length (tOf fs s.2.2.1) (tNf fs s.2.2.1) (tB fs s.2.2.1) s.2.1.1 (xsN s) s.1.2.2.1 on R := ⟨⟨OB_of l2 k2.1 l7, l5, l3⟩, k7, l4, l1⟩
      obtain ⟨v, σ2, e2, _, hI⟩ := sm_merges (F := F) hm hF k3 k5 hk ho
      rw [e_o hm, bs, e2, xb_mk]
      by_cases cv : v = 0
      · rw [if_pos cv]; exact ⟨_, σ2, rfl, hI⟩
      · rw [if_neg cv]; exact ⟨_, σ2, rfl, hI⟩
  obtain ⟨v, σ2, e2, hE⟩ := key
  exact ⟨v, σ1, σ2, a, s, e2, q1, q2, q3, q4, q5, q6, q7, q8, q9, hE⟩
end MMG
end
section
/-! the reference's named: safe (steps spelled out by sf/pp.py) -/
/-- what named reads: the file kept, the segments, the names in order -/
def NMs (σ : px_S) (e nD : Nat) (th : Nat → Bool) (lf df : Nat → Nat) : Prop := (e ≤ 65536 ∧ gI σ 43 = nI e) ∧ (gI σ 15 = nI (sgN th 3) ∧ ∀ j, j < 3 → gA σ 59 j = bI (th j)) ∧ nD ≤ 4096 ∧ gI σ 48 = nI nD ∧ ∀ i, i < nD → gA σ 49 i = nI (df i) ∧ df i < 4096 ∧ gA σ 22 (df i) = nI (lf i) ∧ lf i ≤ 20 ∧ okS (gA σ 39 (df i))
section MNM
variable {F m : Nat} {h : px_H} {σ0 σ : px_S} {c e nD : Nat} {th : Nat → Bool} {lf df : Nat → Nat} {I : px_S → Prop}
theorem NMs_O (hM : NMs σ0 e nD th lf df) (hI : OWi σ0 σ c) : NMs σ e nD th lf df := by
  obtain ⟨⟨h1, h2⟩, ⟨h3, h4⟩, h5, h6, h7⟩ := hM
  have a : ∀ k, k ≠ 3 → gA σ k = gA σ0 k := fun k hk => hI.1.2.2.1 k (by simpa using hk)
  refine ⟨⟨h1, (hI.1.1 43 (by decide)).trans h2⟩, ⟨(hI.1.1 15 (by decide)).trans h3, fun j hj => ?_⟩, h5, (hI.1.1 48 (by decide)).trans h6, fun i hi => ?_⟩
  · rw [a 59 (by decide)]; exact h4 j hj
  · rw [a 49 (by decide), a 22 (by decide), a 39 (by decide)]; exact h7 i hi
theorem q_no4 {i : Nat} (hm : m ≤ h.length) (h59 : ∀ j, j < 3 → gA σ 59 j = bI (th j)) (hi : i < 3) : ∀ (d k f : Nat), k + d = i + 1 → d < f → f_M_numberOf_4 F f m (nI i) (nI (sgN th k)) (nI k) (mh m h σ) = some (nI (sgN th (i + 1)), mh m h σ) := by
  intro d
  induction d with
  | zero =>
    intro k f hk hf
    obtain ⟨f, rfl⟩ : ∃ y, f = y + 1 := ⟨f - 1, by omega⟩
    obtain rfl : k = i + 1 := by omega
    unfold f_M_numberOf_4 f_M_numberOf_32
    rw [if_pos (Int32.not_le.mp (nI_ge (by omega) (by omega)))]
  | succ d ih =>
    intro k f hk hf
    obtain ⟨f, rfl⟩ : ∃ y, f = y + 1 := ⟨f - 1, by omega⟩
    have go := ih (k + 1) f (by omega) (by omega)
    have es : sgN th (k + 1) = sgN th k + (if th k = true then 1 else 0) := rfl
    rw [es] at go
    unfold f_M_numberOf_4 f_M_numberOf_24
    rw [if_neg (nI_nlt (by omega) (by omega)), Mr59 hm, bs, Ma59 hm (by omega), bs, h59 k (by omega), nI_add]
    cases hb : th k with
    | false =>
      rw [hb, if_neg (by decide)] at go
      rw [if_pos (show bI false = 0 from rfl), nI_add]
      exact go
    | true =>
      rw [hb, if_pos rfl] at go
      rw [if_neg (show ¬ bI true = 0 by decide), nI_add, nI_add]
      exact go
theorem q_no {i : Nat} (hm : m ≤ h.length) (hF : 8 < F) (h59 : ∀ j, j < 3 → gA σ 59 j = bI (th j)) (hi : i < 3) : f_M_numberOf F m (nI i) (mh m h σ) = some (nI (sgN th (i + 1)), mh m h σ) := by
  unfold f_M_numberOf
  exact q_no4 hm h59 hi (i + 1) 0 F (by omega) (by omega)
theorem sgN_m {a : Nat} : ∀ {b : Nat}, a ≤ b → sgN th a ≤ sgN th b
  | 0, h => by rw [Nat.le_zero.mp h]; exact Nat.le_refl _
  | b + 1, h => by
    by_cases q : a = b + 1
    · rw [q]; exact Nat.le_refl _
    · exact Nat.le_trans (sgN_m (by omega)) (Nat.le_add_right _ _)
theorem sm_nseg {q i : Nat} (hm : m ≤ h.length) (hF : 65540 < F) (hq : q + 64 ≤ 65536) (hi3 : i < 3) (hI : OWi σ0 σ c) : Sm m h (fun σ' => OWi σ0 σ' c) Any (f_M_namedSegment F m (nI q) (nI i) (mh m h σ)) := by
  have f38 : ∀ {v : Int64} (σ : px_S), OWi σ0 σ c → Sm m h (fun σ' => OWi σ0 σ' c) Any (f_M_namedSegment_38 F m (nI q) (nI i) m (nI (q + 8)) v (mh m h σ)) := fun {v} σ hi => by
    unfold f_M_namedSegment_38
    refine sm_put hm hF hi (by omega) (fun σ hi => ?_)
    rw [Mr61 hm, bs, Ma61 hm hi3, bs, nI_add]
    refine sm_put hm hF hi (by omega) (fun σ hi => ?_)
    rw [Mr60 hm, bs, Ma60 hm hi3, bs, nI_add]
    refine sm_put hm hF hi (by omega) (fun σ hi => ?_)
    rw [Mr62 hm, bs, Ma62 hm hi3, bs, nI_add]
    refine sm_put hm hF hi (by omega) (fun σ hi => ?_)
    rw [nI_add]
    exact sm_put hm hF hi (by omega) (fun σ hi => sm_r any hi)
  unfold f_M_namedSegment
  rw [nI_add]
  refine sm_put hm hF hI (by omega) (fun σ hi => ?_)
  rw [nI_add]
  exact sm_i (fun _ => f38 σ hi) (fun _ => sm_i (fun _ => f38 σ hi) (fun _ => f38 σ hi))
theorem sm_nm443 {x1 x2 x3 x5 : Int32} {q4 : Nat} (hm : m ≤ h.length) (hF : 65540 < F) (hM : NMs σ0 e nD th lf df) (hq : q4 + 64 * (sgN th 3 + 3) ≤ 65536) (hc : c ≤ 65536) (hI : OWi σ0 σ c) : Sm m h (OWe σ0) Any (f_M_named_443 F m x1 x2 x3 (nI q4) x5 (mh m h σ)) := by
  have h15 := (NMs_O hM hI).2.1.1
  generalize sgN th 3 = ns at *
  unfold f_M_named_443
  rw [Mg15 hm, bs, h15, nI_add, show nI 64 * nI (ns + 1) = nI (64 * (ns + 1)) from (Int32.ofNat_mul _ _).symm, nI_add]
  rw [nI_add]
  refine sm_put hm hF hI (by omega) (fun σ hi => ?_)
  rw [nI_add]
  refine sm_put hm hF hi (by omega) (fun σ hi => ?_)
  rw [Mg48 hm, bs, nI_add]
  refine sm_put hm hF hi (by omega) (fun σ hi => ?_)
  rw [Mg15 hm, bs, nI_add]
  refine sm_put hm hF hi (by omega) (fun σ hi => ?_)
  rw [nI_add]
  refine sm_put hm hF hi (by omega) (fun σ hi => ?_)
  rw [nI_add]
  refine sm_put hm hF hi (by omega) (fun σ hi => ?_)
  rw [nI_add]
  refine sm_put hm hF hi (by omega) (fun σ hi => ?_)
  rw [nI_add]
  refine sm_put hm hF hi (by omega) (fun σ hi => ?_)
  rw [nI_add]
  refine sm_put hm hF hi (by omega) (fun σ hi => ?_)
  rw [nI_add]
  refine sm_put hm hF hi (by omega) (fun σ hi => ?_)
  rw [nI_add]
  refine sm_put hm hF hi (by omega) (fun σ hi => ?_)
  refine sm_put (q := 40) (n := 8) hm hF hi (by decide) (fun σ hi => ?_)
  refine sm_put (q := 58) (n := 2) hm hF hi (by decide) (fun σ hi => ?_)
  rw [Mg15 hm, bs]
  refine sm_put (q := 60) (n := 2) hm hF hi (by decide) (fun σ hi => ?_)
  rw [Mg15 hm, bs]
  exact sm_put (q := 62) (n := 2) hm hF hi (by decide) (fun σ hi => sm_r any ⟨c, hc, hi⟩)
theorem sm_nm403 {x1 x2 x3 x5 : Int32} {q4 : Nat} (hm : m ≤ h.length) (hF : 65540 < F) (hM : NMs σ0 e nD th lf df) (hq : q4 + 64 * (sgN th 3 + 3) ≤ 65536) (hc : c ≤ 65536) : ∀ (d i f : Nat) (σ : px_S), i + d = 3 → d < f → OWi σ0 σ c → Sm m h (OWe σ0) Any (f_M_named_403 F f m x1 x2 x3 (nI q4) x5 (nI i) (mh m h σ)) := by
  intro d
  induction d with
  | zero =>
    intro i f σ hi hf hI
    obtain ⟨f, rfl⟩ : ∃ y, f = y + 1 := ⟨f - 1, by omega⟩
    unfold f_M_named_403
    rw [if_pos (nI_le (by omega) (by omega))]
    exact sm_nm443 hm hF hM hq hc hI
  | succ d ih =>
    intro i f σ hi hf hI
    obtain ⟨f, rfl⟩ : ∃ y, f = y + 1 := ⟨f - 1, by omega⟩
    have hm59 := (NMs_O hM hI).2.1.2
    have hle := sgN_m (th := th) (show i + 1 ≤ 3 by omega)
    unfold f_M_named_403 f_M_named_437
    rw [if_neg (nI_ge (by omega) (by omega)), Mr59 hm, bs, Ma59 hm (by omega), bs, nI_add]
    refine sm_i (fun _ => ih _ _ _ (by omega) (by omega) hI) (fun _ => ?_)
    rw [e_o hm, bs, q_no hm (by omega) hm59 (by omega), xb_mk, show nI 64 * nI (sgN th (i + 1)) = nI (64 * sgN th (i + 1)) from (Int32.ofNat_mul _ _).symm, nI_add]
    exact sm_o hm (fun _ => sm_x (sm_nseg hm hF (by omega) (by omega) hI) (fun _ σ _ hi => ih _ _ _ (by omega) (by omega) hi))
theorem sm_nm340 {k167 : Nat → Int32 → Int32 → Int32 → Int32 → Int32 → Int32 → px_H → Option (Int32 × px_H)} {x2 x4 x5 : Int32} {x q3 i d' l : Nat} (hm : m ≤ h.length) (hd : d' < 4096) (e22 : gA σ0 22 d' = nI l) (hl : l ≤ 20) (hq : q3 + x + l ≤ 65536) (hx : x < 2 ^ 20) (hK : ∀ σ, OWi σ0 σ c → Sm m h I Any (k167 m (nI (x + (l + 1))) x2 (nI q3) x4 x5 (nI (i + 1)) (mh m h σ))) : ∀ (d j f : Nat) (σ : px_S), j + d = l → d < f → OWi σ0 σ c → Sm m h I Any (f_M_named_340 F k167 f m (nI x) x2 (nI q3) x4 x5 (nI i) (nI d') (nI j) (mh m h σ)) := by
  intro d
  induction d with
  | zero =>
    intro j f σ hj hf hI
    obtain ⟨f, rfl⟩ : ∃ y, f = y + 1 := ⟨f - 1, by omega⟩
    have g22 : gA σ 22 d' = nI l := by rw [hI.1.2.2.1 22 (by decide)]; exact e22
    unfold f_M_named_340 f_M_named_382
    rw [Mr22 hm, bs, Ma22 hm hd, bs, g22, if_pos (nI_le (by omega) (by omega)), bs, Ma22 hm hd, bs, g22, nI_add, nI_add, nI_add]
    exact hK σ hI
  | succ d ih =>
    intro j f σ hj hf hI
    obtain ⟨f, rfl⟩ : ∃ y, f = y + 1 := ⟨f - 1, by omega⟩
    have g22 : gA σ 22 d' = nI l := by rw [hI.1.2.2.1 22 (by decide)]; exact e22
    unfold f_M_named_340
    rw [Mr22 hm, bs, Ma22 hm hd, bs, g22, if_neg (nI_ge (by omega) (by omega)), Mr3 hm, bs, Mr21 hm, bs, show nI 20 * nI d' = nI (20 * d') from (Int32.ofNat_mul _ _).symm, nI_add, Ma21 hm (by omega), bs, nI_add, nI_add, nI_add]
    exact sm_w3 hm hI (by omega) (fun σ hi => ih _ _ _ (by omega) (by omega) hi)
theorem sm_nm297 {k167 : Nat → Int32 → Int32 → Int32 → Int32 → Int32 → Int32 → px_H → Option (Int32 × px_H)} {x2 x4 x5 : Int32} {v : Int64} {x q3 q8 i d' l : Nat} (hm : m ≤ h.length) (hF : 65540 < F) (hd : d' < 4096) (e22 : gA σ0 22 d' = nI l) (hl : l ≤ 20) (hq : q3 + x + l ≤ 65536) (hx : x < 2 ^ 20) (hq8 : q8 + 24 ≤ 65536) (hK : ∀ σ, OWi σ0 σ c → Sm m h I Any (k167 m (nI (x + (l + 1))) x2 (nI q3) x4 x5 (nI (i + 1)) (mh m h σ))) (hI : OWi σ0 σ c) : Sm m h I Any (f_M_named_297 F k167 m (nI x) x2 (nI q3) x4 x5 (nI i) (nI d') (nI q8) m (nI (q8 + 6)) v (mh m h σ)) := by
  unfold f_M_named_297
  refine sm_put hm hF hI (by omega) (fun σ hi => ?_)
  rw [Mr29 hm, bs, Ma29 hm hd, bs, nI_add]
  refine sm_put hm hF hi (by omega) (fun σ hi => ?_)
  rw [Mr41 hm, bs, Ma41 hm hd, bs, nI_add]
  refine sm_put hm hF hi (by omega) (fun σ hi => ?_)
  exact sm_nm340 hm hd e22 hl hq hx hK l 0 F σ (Nat.zero_add _) (by omega) hi
theorem sm_nm167 {x5 : Int32} {q2 q3 q4 TX : Nat} (hm : m ≤ h.length) (hF : 65540 < F) (hM : NMs σ0 e nD th lf df) (eTX : TX = 1 + sumT (fun i => lf i + 1) nD) (h2 : q2 + 24 * (nD + 1) ≤ 65536) (h3 : q3 + TX ≤ 65536) (hq : q4 + 64 * (sgN th 3 + 3) ≤ 65536) (hc : c ≤ 65536) : ∀ (d i f : Nat) (σ : px_S), i + d = nD → d < f → OWi σ0 σ c → Sm m h (OWe σ0) Any (f_M_named_167 F f m (nI (1 + sumT (fun i => lf i + 1) i)) (nI q2) (nI q3) (nI q4) x5 (nI i) (mh m h σ)) := by
  have hN := hM.2.2.1
  intro d
  induction d with
  | zero =>
    intro i f σ hi hf hI
    obtain ⟨f, rfl⟩ : ∃ y, f = y + 1 := ⟨f - 1, by omega⟩
    unfold f_M_named_167 f_M_named_400
    rw [Mg48 hm, bs, (NMs_O hM hI).2.2.2.1, if_pos (nI_le (by omega) (by omega))]
    exact sm_nm403 hm hF hM hq hc 3 0 F σ rfl (by omega) hI
  | succ d ih =>
    intro i f σ hi hf hI
    obtain ⟨f, rfl⟩ : ∃ y, f = y + 1 := ⟨f - 1, by omega⟩
    have hMs := NMs_O hM hI
    obtain ⟨e49, hd, e22, hl, hok⟩ := hMs.2.2.2.2 i (by omega)
    have e22' := (hM.2.2.2.2 i (by omega)).2.2.1
    have hle := sumT_le (f := fun i => lf i + 1) (show i + 1 ≤ nD by omega)
    have es : sumT (fun i => lf i + 1) (i + 1) = sumT (fun i => lf i + 1) i + (lf i + 1) := rfl
    have go := fun σ hi => ih (i + 1) f σ (by omega) (by omega) hi
    rw [es, ← Nat.add_assoc] at go
    rw [es] at hle
    have h59 := hMs.2.1.2
    unfold f_M_named_167
    rw [Mg48 hm, bs, hMs.2.2.2.1, if_neg (nI_ge (by omega) (by omega)), Mr49 hm, bs, Ma49 hm (by omega), bs, e49, Mr39 hm, bs, Ma39 hm hd, bs, nI_add, show nI 24 * nI (i + 1) = nI (24 * (i + 1)) from (Int32.ofNat_mul _ _).symm, nI_add]
    generalize sumT (fun i => lf i + 1) i = S at *
    generalize sumT (fun i => lf i + 1) nD = SS at *
    have f240 : ∀ {s0 : Int32}, (s0 = 0 ∨ ∃ s, s < 3 ∧ gA σ 39 (df i) = nI s) → Sm m h (OWe σ0) Any (f_M_named_240 F (f_M_named_167 F f) m (nI (1 + S)) (nI q2) (nI q3) (nI q4) x5 (nI i) (nI (df i)) (nI (q2 + 24 * (i + 1))) s0 (mh m h σ)) := fun {s0} hs => by
      unfold f_M_named_240
      refine sm_put hm hF hI (by omega) (fun σ1 hi1 => ?_)
      rw [Mr38 hm, bs, Ma38 hm hd, bs, nI_add]
      refine sm_put hm hF hi1 (by omega) (fun σ2 hi2 => ?_)
      rw [nI_add]
      have fin : ∀ {v : Int64}, Sm m h (OWe σ0) Any (f_M_named_297 F (f_M_named_167 F f) m (nI (1 + S)) (nI q2) (nI q3) (nI q4) x5 (nI i) (nI (df i)) (nI (q2 + 24 * (i + 1))) m (nI (q2 + 24 * (i + 1) + 6)) v (mh m h σ2)) := fun {v} => sm_nm297 hm hF hd e22' hl (by omega) (by omega) (by omega) go hi2
      rcases hs with w | ⟨s, w1, w2⟩
      · rw [if_pos w]; exact fin
      · refine sm_i (fun _ => fin) (fun _ => ?_)
        have g39 : gA σ2 39 (df i) = nI s := by rw [hi2.1.2.2.1 39 (by decide), ← hI.1.2.2.1 39 (by decide)]; exact w2
        rw [Mr39 hm, bs, Ma39 hm hd, bs, g39, e_o hm, bs, q_no hm (by omega) (NMs_O hM hi2).2.1.2 w1, xb_mk]
        exact fin
    obtain ⟨o, eo, ho⟩ := hok
    cases o with
    | none =>
      rw [eo, if_pos (show tdA none < 0 by decide)]
      unfold f_M_named_239
      exact f240 (Or.inl rfl)
    | some s =>
      have hs3 := ho s rfl
      have eo' : gA σ 39 (df i) = nI s := eo
      rw [eo', if_neg (show ¬ nI s < 0 from fun w => absurd w (Int32.not_lt.mpr (nI_0le (by omega)))), Mr59 hm, bs, bs, Ma39 hm hd, bs, eo', if_pos (nI_0le (by omega)), bs, Ma39 hm hd, bs, eo']
      unfold f_M_named_231 f_M_named_239
      rw [Ma59 hm hs3, bs]
      exact sm_i (fun _ => f240 (Or.inl rfl)) (fun _ => f240 (Or.inr ⟨s, hs3, eo'⟩))
theorem sm_nm116 {q2 q3 q4 q5 TX : Nat} (hm : m ≤ h.length) (hF : 65540 < F) (hM : NMs σ0 e nD th lf df) (eTX : TX = 1 + sumT (fun i => lf i + 1) nD) (h2 : q2 + 24 * (nD + 1) ≤ 65536) (h3 : q3 + TX ≤ 65536) (hq : q4 + 64 * (sgN th 3 + 3) ≤ 65536) (h5 : q5 ≤ 65536) : ∀ (d j f : Nat) (σ : px_S), j + d = q5 → d < f → OWi σ0 σ c → Sm m h (OWe σ0) Any (f_M_named_116 F f m (nI q2) (nI q3) (nI q4) (nI q5) (nI j) (mh m h σ)) := by
  have hN := hM.2.2.1
  intro d
  induction d with
  | zero =>
    intro j f σ hj hf hI
    obtain ⟨f, rfl⟩ : ∃ y, f = y + 1 := ⟨f - 1, by omega⟩
    unfold f_M_named_116 f_M_named_156
    rw [if_pos (nI_le (by omega) (by omega))]
    refine sm_p4 hm hI (fun σ hi => ?_)
    exact sm_nm167 hm hF hM eTX h2 h3 hq h5 nD 0 F σ (Nat.zero_add _) (by omega) hi
  | succ d ih =>
    intro j f σ hj hf hI
    obtain ⟨f, rfl⟩ : ∃ y, f = y + 1 := ⟨f - 1, by omega⟩
    unfold f_M_named_116 f_M_named_149
    rw [if_neg (nI_ge (by omega) (by omega)), Mr3 hm, bs, Mg43 hm, bs, nI_add]
    refine sm_i (fun _ => ?_) (fun _ => ?_)
    · exact sm_w3 hm hI (by omega) (fun σ hi => ih _ _ _ (by omega) (by omega) hi)
    · rw [Mr42 hm, bs, Ma42 hm (by omega), bs]
      exact sm_w3 hm hI (by omega) (fun σ hi => ih _ _ _ (by omega) (by omega) hi)
theorem sm_nm26 (hm : m ≤ h.length) (hF : 65540 < F) (hM : NMs σ0 e nD th lf df) (hc : c ≤ 65536) (hI : OWi σ0 σ c) : ∀ (d i f : Nat), i + d = nD → d < f → Sm m h (OWe σ0) Any (f_M_named_26 F f m (nI (1 + sumT (fun i => lf i + 1) i)) (nI i) (mh m h σ)) := by
  have hMs := NMs_O hM hI
  have hN := hM.2.2.1
  have he := hM.1.1
  have hsg := sgN_le (th := th) 3
  intro d
  induction d with
  | zero =>
    intro i f hi hf
    obtain ⟨f, rfl⟩ : ∃ y, f = y + 1 := ⟨f - 1, by omega⟩
    obtain rfl : i = nD := by omega
    have hB := sumT_b' (f := fun i => lf i + 1) (k := 21) (n := i) (fun j hj => by have := (hM.2.2.2.2 j hj).2.2.2.1; show lf j + 1 ≤ 21; omega)
    obtain ⟨TX, eTX⟩ : ∃ TX, TX = 1 + sumT (fun i => lf i + 1) i := ⟨_, rfl⟩
    unfold f_M_named_26 f_M_named_56
    rw [Mg48 hm, bs, hMs.2.2.2.1, if_pos (nI_le (by omega) (by omega)), Mg43 hm, bs, hMs.1.2, e_o hm, bs, q_wider8 (by omega), xb_mk, Mg48 hm, bs, hMs.2.2.2.1, nI_add, show nI 24 * nI (i + 1) = nI (24 * (i + 1)) from (Int32.ofNat_mul _ _).symm, nI_add]
    have w1 := wiN_b e
    generalize wiN e = W1 at *
    rw [e_o hm, bs, q_wider8 (by omega), xb_mk]
    have w2 := wiN_b (W1 + 24 * (i + 1))
    generalize wiN (W1 + 24 * (i + 1)) = W2 at *
    rw [← eTX, nI_add, e_o hm, bs, q_wider8 (by omega), xb_mk]
    have w3 := wiN_b (W2 + TX)
    generalize wiN (W2 + TX) = W3 at *
    rw [Mg15 hm, bs, hMs.2.1.1, nI_add, show nI 64 * nI (sgN th 3 + 3) = nI (64 * (sgN th 3 + 3)) from (Int32.ofNat_mul _ _).symm, nI_add]
    by_cases hT : W3 + 64 * (sgN th 3 + 3) ≤ 65536
    · rw [if_pos (show nI (W3 + 64 * (sgN th 3 + 3)) ≤ (65536 : Int32) from nI_le hT (by decide))]
      exact sm_nm116 hm hF hM eTX (by omega) (by omega) hT hT _ 0 F σ (Nat.zero_add _) (by omega) hI
    · rw [if_neg (show ¬ nI (W3 + 64 * (sgN th 3 + 3)) ≤ (65536 : Int32) from nI_ge (a := 65536) (by omega) (by omega))]
      exact sm_r any ⟨c, hc, hI⟩
  | succ d ih =>
    intro i f hi hf
    obtain ⟨f, rfl⟩ : ∃ y, f = y + 1 := ⟨f - 1, by omega⟩
    obtain ⟨e49, hd, e22, hl, _⟩ := hMs.2.2.2.2 i (by omega)
    have es : sumT (fun i => lf i + 1) (i + 1) = sumT (fun i => lf i + 1) i + (lf i + 1) := rfl
    have go := ih (i + 1) f (by omega) (by omega)
    rw [es, ← Nat.add_assoc] at go
    unfold f_M_named_26
    rw [Mg48 hm, bs, hMs.2.2.2.1, if_neg (nI_ge (by omega) (by omega)), Mr22 hm, bs, Mr49 hm, bs, Ma49 hm (by omega), bs, e49, Ma22 hm hd, bs, e22, nI_add, nI_add, nI_add]
    exact go
theorem sm_named (hm : m ≤ h.length) (hF : 65540 < F) (ho : OUo σ0) (hM : gI σ0 13 = 0 → NMs σ0 e nD th lf df) : Sm m h (OWe σ0) Any (f_M_named F m (mh m h σ0)) := by
  unfold f_M_named f_M_named_13
  refine sm_gI hm rfl (sm_i (fun h13 => ?_) (fun _ => ?_))
  · refine sm_o hm (fun _ => sm_t0 (σ0 := σ0) hm (FR_refl _) (fun σ hi => sm_i (fun _ => ?_) (fun hc => absurd rfl hc)))
    obtain ⟨co, hco, hO⟩ := OWe_0 ho hi
    have hN := (hM h13).2.2.1
    exact sm_nm26 hm hF (hM h13) hco hO nD 0 F (Nat.zero_add _) (by omega)
  · exact sm_o hm (fun _ => sm_tA (σ0 := σ0) hm (FR_refl _) (fun σ hi => sm_i (fun hc => absurd hc (by decide)) (fun _ => sm_r any (OWe_0 ho hi))))
end MNM
end
section
/-! what holds of the reference between two calls (steps spelled out by sf/pp.py) -/
/-- whom members were taken for: names that are there -/
def CPs (s : px_TK) : Prop := ∀ q i, s.2.2.2 q = some i → i < s.1.2.1.length
theorem CPs_tk {s : px_TK} {b : Nat → Nat} {q : Nat} (h : CPs s) : CPs (tkM b q s) := fun q' i hi => Nat.lt_of_lt_of_le (h q' i hi) (tks_len _ _ _)
theorem CPs_tf1 {fs : px_FS} {f k : Nat} {p : px_TK × Bool} (h : CPs p.1) : CPs (tf1 fs f k p).1 := by
  unfold tf1
  split
  · exact h
  · split
    · exact h
    · rename_i y hy
      split
      · exact h
      · split
        · exact h
        · rename_i i hi
          refine CPs_tk (s := (p.1.1, p.1.2.1, p.1.2.2.1, fun x => if x = 8 * f + k then some i else p.1.2.2.2 x)) (fun q' i' he => ?_)
          have he : (if q' = 8 * f + k then some i else p.1.2.2.2 q') = some i' := he
          by_cases c : q' = 8 * f + k
          · rw [if_pos c] at he
            cases he
            exact hpf_lt hi
          · rw [if_neg c] at he
            exact h q' i' he
theorem CPs_tfL {fs : px_FS} {f c : Nat} {s : px_TK} (h : CPs s) : CPs (tfL fs f c s) := by
  unfold tfL
  refine whl_inv (st := tfS) (g := rdF fs f) (P := CPs) (fun s hs => ?_) c s h
  unfold rdF
  exact itr_inv (g := tf1 fs f) (P := fun p : px_TK × Bool => CPs p.1) (a := 0) (e := 8) (fun k p _ _ hp => CPs_tf1 hp) 8 0 (s, false) (Nat.le_refl _) (Nat.le_refl _) hs
theorem CPs_ta1 {fs : px_FS} {f : Nat} {s : px_TK} (h : CPs s) : CPs (ta1 fs f s) := by
  unfold ta1
  split
  · exact h
  · split
    · exact h
    · split
      · exact CPs_tfL h
      · exact CPs_tk h
theorem CPs_tas {fs : px_FS} : ∀ (c f : Nat) (s : px_TK), CPs s → CPs (itr (ta1 fs) f c s) := by
  intro c
  induction c with
  | zero => intro f s h; exact h
  | succ c ih =>
    intro f s h
    rw [itr_s]
    exact ih (f + 1) _ (CPs_ta1 h)
theorem CPs_taL {fs : px_FS} {xs : px_NL} {od : List Nat} : CPs (taL fs xs od) := CPs_tas 8 0 _ (fun q i h => by cases h)
/-- what the latest link left, as the reference has it -/
def RXo (σ : px_S) (fs : px_FS) (a : Int32) (Y : px_Y) : Prop := ((∀ q, q < 64 → isZ (gA σ 18 q)) ∧ ∃ nms, RNm σ nms ∧ ∀ q, q < 8 * fs.length → ∃ x y : Bool, gA σ 19 (q / 8) = bI x ∧ gA σ 18 q = bI y ∧ (x && y) = Y.1.1 q ∧ (Y.1.1 q = true → (Y.2.1 q = none ∧ gA σ 40 q = Int32.ofInt (-1)) ∨ ∃ i w, Y.2.1 q = some w ∧ nms[i]? = some w ∧ gA σ 40 q = nI i)) ∧ (a = 0 → (gI σ 50 = nI Y.2.2.1.length ∧ ∀ (i : Nat) (p : Nat × Nat × Nat × Nat × Nat × Nat), Y.2.2.1[i]? = some p → gA σ 52 i = nI p.1 ∧ gA σ 53 i = nI p.2.1 ∧ gA σ 54 i = nI p.2.2.1 ∧ gA σ 55 i = nI p.2.2.2.1 ∧ gA σ 56 i = nI p.2.2.2.2.1 ∧ gB σ 57 i = lN p.2.2.2.2.2) ∧ RNm σ (Y.2.2.2.1.map Prod.fst) ∧ (∀ (i : Nat) (x : List Nat × Int64), Y.2.2.2.1[i]? = some x → gB σ 29 i = x.2) ∧ RO σ Y.2.2.2.2)
theorem RXo_fr {σ σ' : px_S} {fs : px_FS} {a : Int32} {Y : px_Y} (h : RXo σ fs a Y) (g : ∀ k, k ∈ [20, 48, 50] → gI σ' k = gI σ k) (gA' : ∀ k, k ∈ [18, 19, 21, 22, 40, 49, 52, 53, 54, 55, 56] → gA σ' k = gA σ k) (gB' : ∀ k, k ∈ [29, 57] → gB σ' k = gB σ k) : RXo σ' fs a Y := by
  obtain ⟨⟨h0, nms, h1, h2⟩, h3⟩ := h
  refine ⟨⟨fun q hq => by rw [gA' 18 (by decide)]; exact h0 q hq, nms, RNm_eq h1 (g 20 (by decide)) (gA' 21 (by decide)) (gA' 22 (by decide)), fun q hq => by rw [gA' 19 (by decide), gA' 18 (by decide), gA' 40 (by decide)]; exact h2 q hq⟩, fun ha => ?_⟩
  obtain ⟨⟨k1, k2⟩, k3, k4, k5, k6, k7⟩ := h3 ha
  refine ⟨⟨(g 50 (by decide)).trans k1, fun i p hp => by rw [gA' 52 (by decide), gA' 53 (by decide), gA' 54 (by decide), gA' 55 (by decide), gA' 56 (by decide), gB' 57 (by decide)]; exact k2 i p hp⟩, RNm_eq k3 (g 20 (by decide)) (gA' 21 (by decide)) (gA' 22 (by decide)), fun i x hx => by rw [gB' 29 (by decide)]; exact k4 i x hx, (g 48 (by decide)).trans k5, k6, fun i d hd => by rw [gA' 49 (by decide)]; exact k7 i d hd⟩
theorem RXo_FR {σ σ' : px_S} {fs : px_FS} {a : Int32} {Y : px_Y} {I J A B : List Nat} (h : RXo σ fs a Y) (f : FR I J A B σ σ') (h1 : ∀ k, k ∈ [20, 48, 50] → k ∉ I) (h3 : ∀ k, k ∈ [18, 19, 21, 22, 40, 49, 52, 53, 54, 55, 56] → k ∉ A) (h4 : ∀ k, k ∈ [29, 57] → k ∉ B) : RXo σ' fs a Y := RXo_fr h (fun k hk => f.1 k (h1 k hk)) (fun k hk => f.2.2.1 k (h3 k hk)) (fun k hk => f.2.2.2 k (h4 k hk))
/-- a file is added: it was not taken -/
theorem RXo_add {σ σ' : px_S} {fs : px_FS} {x : Nat × (Nat → Nat)} {a : Int32} {Y : px_Y} {I J A B : List Nat} (h : RXo σ fs a Y) (hl : fs.length < 8) (hy : ∀ q, 8 * fs.length ≤ q → q < 64 → Y.1.1 q = false) (f : FR I J A B σ σ') (h1 : ∀ k, k ∈ [20, 48, 50] → k ∉ I) (h3 : ∀ k, k ∈ [18, 21, 22, 40, 49, 52, 53, 54, 55, 56] → k ∉ A) (h4 : ∀ k, k ∈ [29, 57] → k ∉ B) (e0 : gA σ' 19 fs.length = nI 0) (e1 : ∀ i, i ≠ fs.length → gA σ' 19 i = gA σ 19 i) : RXo σ' (fs ++ [x]) a Y := by
  have g : ∀ k, k ∈ [20, 48, 50] → gI σ' k = gI σ k := fun k hk => f.1 k (h1 k hk)
  have gA' : ∀ k, k ∈ [18, 21, 22, 40, 49, 52, 53, 54, 55, 56] → gA σ' k = gA σ k := fun k hk => f.2.2.1 k (h3 k hk)
  have gB' : ∀ k, k ∈ [29, 57] → gB σ' k = gB σ k := fun k hk => f.2.2.2 k (h4 k hk)
  obtain ⟨⟨h0, nms, h1, h2⟩, h3⟩ := h
  refine ⟨⟨fun q hq => by rw [gA' 18 (by decide)]; exact h0 q hq, nms, RNm_eq h1 (g 20 (by decide)) (gA' 21 (by decide)) (gA' 22 (by decide)), fun q hq => ?_⟩, fun ha => ?_⟩
  · rw [List.length_append, List.length_singleton] at hq
    rw [gA' 18 (by decide), gA' 40 (by decide)]
    by_cases c : q < 8 * fs.length
    · rw [e1 _ (by omega)]
      exact h2 q c
    · obtain ⟨y, hy'⟩ := h0 q (by omega)
      have hf := hy q (by omega) (by omega)
      rw [show q / 8 = fs.length by omega, e0, hf]
      exact ⟨false, y, rfl, hy', rfl, fun w => by cases w⟩
  · obtain ⟨⟨k1, k2⟩, k3, k4, k5, k6, k7⟩ := h3 ha
    refine ⟨⟨(g 50 (by decide)).trans k1, fun i p hp => by rw [gA' 52 (by decide), gA' 53 (by decide), gA' 54 (by decide), gA' 55 (by decide), gA' 56 (by decide), gB' 57 (by decide)]; exact k2 i p hp⟩, RNm_eq k3 (g 20 (by decide)) (gA' 21 (by decide)) (gA' 22 (by decide)), fun i x hx => by rw [gB' 29 (by decide)]; exact k4 i x hx, (g 48 (by decide)).trans k5, k6, fun i d hd => by rw [gA' 49 (by decide)]; exact k7 i d hd⟩
theorem RXo_drop {σ : px_S} {fs : px_FS} {x : Nat × (Nat → Nat)} {a : Int32} {Y : px_Y} (h : RXo σ (fs ++ [x]) a Y) : RXo σ fs a (dropY fs.length Y) := by
  obtain ⟨⟨h0, nms, h1, h2⟩, h3⟩ := h
  refine ⟨⟨h0, nms, h1, fun q hq => ?_⟩, h3⟩
  have w := h2 q (by rw [List.length_append]; omega)
  show ∃ x y : Bool, gA σ 19 (q / 8) = bI x ∧ gA σ 18 q = bI y ∧ (x && y) = (decide (q < 8 * fs.length) && Y.1.1 q) ∧ ((decide (q < 8 * fs.length) && Y.1.1 q) = true → ((if q < 8 * fs.length then Y.2.1 q else none) = none ∧ gA σ 40 q = Int32.ofInt (-1)) ∨ ∃ i w, (if q < 8 * fs.length then Y.2.1 q else none) = some w ∧ nms[i]? = some w ∧ gA σ 40 q = nI i)
  rw [decide_eq_true hq, Bool.true_and, if_pos hq]
  exact w
/-- what a link leaves -/
theorem RXo_link {σ : px_S} {fs : px_FS} {s : px_TK} {gs : List (List Nat × Int64)} {ws : List (List Nat)} {k : Nat} {ll : List Nat} {ad : Nat → Nat} {NA : px_NA} (es : s = taL fs (xs0 gs ws) (od0 gs)) (hL : LNP fs s σ) (hk : k ≤ 4) (h0 : k = 0 → RLa σ (tQf s.2.2.1) (tB fs s.2.2.1) ll ∧ (∀ (P x : Nat), ll[P]? = some x → gB σ 57 P = lN (ad x)) ∧ (∀ j, j < (xsN s).length → gB σ 29 j = NA.1 j) ∧ LKZ σ (vFe NA.2.2.2.2) NA.2.1) : RXo σ fs (nI k) (lnY fs s ll ad NA) := by
  obtain ⟨⟨l1, l2, l3, l4, l5, l6, l7, ⟨l8, l8'⟩, l9⟩, _⟩ := hL
  have hcp : CPs s := by rw [es]; exact CPs_taL
  have h8 := l2.2.1
  refine ⟨⟨fun q hq => ⟨_, l8 q hq⟩, (xsN s).map Prod.fst, l3.1, fun q hq => ?_⟩, fun ha => ?_⟩
  · refine ⟨true, decide (q ∈ s.2.2.1), l8' _ (by omega), l8 q (by omega), rfl, fun _ => ?_⟩
    rw [l9 q (by omega)]
    show ((s.2.2.2 q).bind (fun i => (s.1.2.1.map Prod.fst)[i]?) = none ∧ tdA (s.2.2.2 q) = Int32.ofInt (-1)) ∨ ∃ i w, (s.2.2.2 q).bind (fun i => (s.1.2.1.map Prod.fst)[i]?) = some w ∧ ((xsN s).map Prod.fst)[i]? = some w ∧ tdA (s.2.2.2 q) = nI i
    cases e : s.2.2.2 q with
    | none => exact Or.inl ⟨rfl, rfl⟩
    | some i =>
      have hi := hcp q i e
      obtain ⟨w, hw⟩ : ∃ w, (s.1.2.1.map Prod.fst)[i]? = some w := ⟨_, List.getElem?_eq_getElem (by rw [List.length_map]; exact hi)⟩
      exact Or.inr ⟨i, w, hw, by rw [xsN_fst]; exact hw, rfl⟩
  · have k0 : k = 0 := (nI_eq (b := 0) (by omega) (by decide)).mp ha
    obtain ⟨⟨r1, r2⟩, r3, r4, _⟩ := h0 k0
    refine ⟨⟨?_, fun i p hp => ?_⟩, ?_, fun i x hx => ?_, l4⟩
    · show gI σ 50 = nI (List.map _ ll).length
      rw [List.length_map]
      exact r1
    · have hp : (ll.map (fun x => (tQf s.2.2.1 (x / 24) / 8, tQf s.2.2.1 (x / 24) % 8, x % 24, oG (tB fs s.2.2.1 (x / 24)) (x % 24), oZ (tB fs s.2.2.1 (x / 24)) (x % 24), ad x)))[i]? = some p := hp
      rw [List.getElem?_map] at hp
      cases ex : ll[i]? with
      | none => rw [ex] at hp; cases hp
      | some x =>
        rw [ex] at hp
        have hp := Option.some.inj hp
        rw [← hp]
        obtain ⟨_, x2, x3, x4, x5, x6⟩ := r2 i x ex
        exact ⟨x2, x3, x4, x5, x6, r3 i x ex⟩
    · show RNm σ (((xsN s).mapIdx (fun j x => (x.1, NA.1 j))).map Prod.fst)
      rw [mI_fst]
      exact l3.1
    · have hx : ((xsN s).mapIdx (fun j x => (x.1, NA.1 j)))[i]? = some x := hx
      rw [List.getElem?_mapIdx] at hx
      cases ey : (xsN s)[i]? with
      | none => rw [ey] at hx; cases hx
      | some y =>
        rw [ey] at hx
        have hx := Option.some.inj hx
        rw [← hx]
        exact r4 i (List.getElem?_eq_some_iff.mp ey).1
def RX (σ : px_S) (fs : px_FS) (a : Int32) (Y : px_Y) : Prop := RXo σ fs a Y ∧ (a = 0 → LKZ σ Y.1.2.1 Y.1.2.2)
theorem LKZ_fr {σ σ' : px_S} {fe : Nat} {th : Nat → Bool} (h : LKZ σ fe th) (e1 : gI σ' 43 = gI σ 43) (e2 : gI σ' 15 = gI σ 15) (e3 : gA σ' 59 = gA σ 59) : LKZ σ' fe th := ⟨h.1, e1.trans h.2.1, e2.trans h.2.2.1, fun j hj => by rw [e3]; exact h.2.2.2 j hj⟩
theorem RX_fr {σ σ' : px_S} {fs : px_FS} {a : Int32} {Y : px_Y} (h : RX σ fs a Y) (g : ∀ k, k ∈ [15, 20, 43, 48, 50] → gI σ' k = gI σ k) (gA' : ∀ k, k ∈ [18, 19, 21, 22, 40, 49, 52, 53, 54, 55, 56, 59] → gA σ' k = gA σ k) (gB' : ∀ k, k ∈ [29, 57] → gB σ' k = gB σ k) : RX σ' fs a Y := ⟨RXo_fr h.1 (fun k hk => g k (by revert k; decide)) (fun k hk => gA' k (by revert k; decide)) gB', fun ha => LKZ_fr (h.2 ha) (g 43 (by decide)) (g 15 (by decide)) (gA' 59 (by decide))⟩
theorem RX_FR {σ σ' : px_S} {fs : px_FS} {a : Int32} {Y : px_Y} {I J A B : List Nat} (h : RX σ fs a Y) (f : FR I J A B σ σ') (h1 : ∀ k, k ∈ [15, 20, 43, 48, 50] → k ∉ I) (h3 : ∀ k, k ∈ [18, 19, 21, 22, 40, 49, 52, 53, 54, 55, 56, 59] → k ∉ A) (h4 : ∀ k, k ∈ [29, 57] → k ∉ B) : RX σ' fs a Y := RX_fr h (fun k hk => f.1 k (h1 k hk)) (fun k hk => f.2.2.1 k (h3 k hk)) (fun k hk => f.2.2.2 k (h4 k hk))
theorem RX_add {σ σ' : px_S} {fs : px_FS} {x : Nat × (Nat → Nat)} {a : Int32} {Y : px_Y} {I J A B : List Nat} (h : RX σ fs a Y) (hl : fs.length < 8) (hy : ∀ q, 8 * fs.length ≤ q → q < 64 → Y.1.1 q = false) (f : FR I J A B σ σ') (h1 : ∀ k, k ∈ [15, 20, 43, 48, 50] → k ∉ I) (h3 : ∀ k, k ∈ [18, 21, 22, 40, 49, 52, 53, 54, 55, 56, 59] → k ∉ A) (h4 : ∀ k, k ∈ [29, 57] → k ∉ B) (e0 : gA σ' 19 fs.length = nI 0) (e1 : ∀ i, i ≠ fs.length → gA σ' 19 i = gA σ 19 i) : RX σ' (fs ++ [x]) a Y := ⟨RXo_add h.1 hl hy f (fun k hk => h1 k (by revert k; decide)) (fun k hk => h3 k (by revert k; decide)) h4 e0 e1, fun ha => LKZ_fr (h.2 ha) (f.1 43 (h1 43 (by decide))) (f.1 15 (h1 15 (by decide))) (f.2.2.1 59 (h3 59 (by decide)))⟩
theorem RX_drop {σ : px_S} {fs : px_FS} {x : Nat × (Nat → Nat)} {a : Int32} {Y : px_Y} (h : RX σ (fs ++ [x]) a Y) : RX σ fs a (dropY fs.length Y) := ⟨RXo_drop h.1, h.2⟩
theorem RX_link {σ : px_S} {fs : px_FS} {s : px_TK} {gs : List (List Nat × Int64)} {ws : List (List Nat)} {k : Nat} {ll : List Nat} {ad : Nat → Nat} {NA : px_NA} (es : s = taL fs (xs0 gs ws) (od0 gs)) (hL : LNP fs s σ) (hk : k ≤ 4) (h0 : k = 0 → RLa σ (tQf s.2.2.1) (tB fs s.2.2.1) ll ∧ (∀ (P x : Nat), ll[P]? = some x → gB σ 57 P = lN (ad x)) ∧ (∀ j, j < (xsN s).length → gB σ 29 j = NA.1 j) ∧ LKZ σ (vFe NA.2.2.2.2) NA.2.1) : RX σ fs (nI k) (lnY fs s ll ad NA) := ⟨RXo_link es hL hk h0, fun ha => (h0 ((nI_eq (b := 0) (by omega) (by decide)).mp ha)).2.2.2⟩
/-- what hangs on the latest link -/
def RVm (σ : px_S) : Prop := (∃ nms, RNm σ nms ∧ CAu σ nms) ∧ (∃ n, n ≤ 1536 ∧ gI σ 50 = nI n) ∧ (gI σ 13 = 0 → (∃ nS nD zf uf gf ff mf lf df, MPs σ nS nD zf uf gf ff mf lf df) ∧ ∃ e nD th lf df, NMs σ e nD th lf df)
def RVl (σ : px_S) (fs : px_FS) (a : Int32) (Y : px_Y) : Prop := (∃ nms, RNm σ nms ∧ CAu σ nms) ∧ (∃ n, n ≤ 1536 ∧ gI σ 50 = nI n) ∧ (gI σ 13 = 0 → (∃ nS nD zf uf gf ff mf lf df, MPs σ nS nD zf uf gf ff mf lf df) ∧ ∃ e nD th lf df, NMs σ e nD th lf df) ∧ RX σ fs a Y
def RVc (σ : px_S) (fs : px_FS) (a : Int32) (Y : px_Y) : Prop := RVl σ fs a Y ∧ gI σ 13 = a ∧ (∀ k, isB (gA σ 42 k)) ∧ (∀ k, isB (gA σ 91 k)) ∧ (∃ ch, gI σ 98 = bI ch) ∧ RC σ
def RV (σ : px_S) (fs : px_FS) (gs : List (List Nat × Int64)) (ws : List (List Nat)) (n : Nat) (b : Nat → Nat) (a : Int32) (Y : px_Y) : Prop := RT σ n b ∧ RF σ fs ∧ RG σ gs ∧ RW σ ws ∧ OUo σ ∧ MV σ ∧ MNa σ ∧ RVc σ fs a Y
section MRV
variable {F m : Nat} {h : px_H} {σ0 σ σ' : px_S} {fs : px_FS} {gs : List (List Nat × Int64)} {ws : List (List Nat)} {n : Nat} {b : Nat → Nat} {a : Int32} {Y : px_Y} {I J A B : List Nat}
theorem RT_FR (ht : RT σ n b) (f : FR I J A B σ σ') (h2 : 2 ∉ I) (h1 : 1 ∉ A) : RT σ' n b := by
  have e := f.2.2.1 1 h1
  exact ⟨(f.1 2 h2).trans ht.1, ht.2.1, by rw [e]; exact ht.2.2.1, by rw [e]; exact ht.2.2.2⟩
theorem MV_FR (hv : MV σ) (f : FR I J A B σ σ') (h1 : 102 ∉ I) (h2 : 106 ∉ B ∧ 107 ∉ B ∧ 108 ∉ B) : MV σ' := by
  obtain ⟨r, hr, er, hx⟩ := hv
  exact ⟨r, hr, (f.1 102 h1).trans er, fun i hi => by rw [f.2.2.2 106 h2.1, f.2.2.2 107 h2.2.1, f.2.2.2 108 h2.2.2]; exact hx i hi⟩
theorem MNa_FR (hv : MNa σ) (f : FR I J A B σ σ') (h1 : 44 ∉ I) (h2 : 45 ∉ A ∧ 46 ∉ A) : MNa σ' := by
  obtain ⟨r, hr, er, hx⟩ := hv
  exact ⟨r, hr, (f.1 44 h1).trans er, fun i hi => by rw [f.2.2.1 45 h2.1, f.2.2.1 46 h2.2]; exact hx i hi⟩
theorem RVl_F0 (hv : RVm σ) (f : FR I J A B σ σ') (h1 : ∀ k, k ∈ [13, 15, 20, 43, 48, 50] → k ∉ I) (h3 : ∀ k, k ∈ [18, 21, 22, 39, 40, 49, 52, 53, 54, 55, 56, 59] → k ∉ A) : RVm σ' := by
  obtain ⟨⟨nms, hn, hc⟩, ⟨n, hn1, hn2⟩, hd⟩ := hv
  have g : ∀ k, k ∈ [13, 15, 20, 43, 48, 50] → gI σ' k = gI σ k := fun k hk => f.1 k (h1 k hk)
  have gA' : ∀ k, k ∈ [18, 21, 22, 39, 40, 49, 52, 53, 54, 55, 56, 59] → gA σ' k = gA σ k := fun k hk => f.2.2.1 k (h3 k hk)
  refine ⟨⟨nms, RNm_eq hn (g 20 (by decide)) (gA' 21 (by decide)) (gA' 22 (by decide)), fun q hq => ?_⟩, ⟨n, hn1, (g 50 (by decide)).trans hn2⟩, fun h0 => ?_⟩
  · rw [gA' 18 (by decide), gA' 40 (by decide)]; exact hc q hq
  · obtain ⟨⟨nS, nD, zf, uf, gf, ff, mf, lf, df, ⟨m1, m2, m3⟩, m4, m5, m6⟩, e, nD', th, lf', df', ⟨n1, n2⟩, ⟨n3, n4⟩, n5, n6, n7⟩ := hd ((g 13 (by decide)).symm.trans h0)
    refine ⟨⟨nS, nD, zf, uf, gf, ff, mf, lf, df, ⟨m1, (g 50 (by decide)).trans m2, fun p hp => ?_⟩, m4, (g 48 (by decide)).trans m5, fun i hi => ?_⟩, e, nD', th, lf', df', ⟨n1, (g 43 (by decide)).trans n2⟩, ⟨(g 15 (by decide)).trans n3, fun j hj => ?_⟩, n5, (g 48 (by decide)).trans n6, fun i hi => ?_⟩
    · rw [gA' 56 (by decide), gA' 54 (by decide), gA' 55 (by decide), gA' 52 (by decide), gA' 53 (by decide)]; exact m3 p hp
    · rw [gA' 49 (by decide), gA' 22 (by decide)]; exact m6 i hi
    · rw [gA' 59 (by decide)]; exact n4 j hj
    · rw [gA' 49 (by decide), gA' 22 (by decide), gA' 39 (by decide)]; exact n7 i hi
theorem RVl_FR (hv : RVl σ fs a Y) (f : FR I J A B σ σ') (h1 : ∀ k, k ∈ [13, 15, 20, 43, 48, 50] → k ∉ I) (h3 : ∀ k, k ∈ [18, 19, 21, 22, 39, 40, 49, 52, 53, 54, 55, 56, 59] → k ∉ A) (h4 : ∀ k, k ∈ [29, 57] → k ∉ B) : RVl σ' fs a Y := by
  obtain ⟨w1', w2', w3'⟩ := RVl_F0 ⟨hv.1, hv.2.1, hv.2.2.1⟩ f h1 (fun k hk => h3 k (by revert k; decide))
  exact ⟨w1', w2', w3', RX_FR hv.2.2.2 f (fun k hk => h1 k (by revert k; decide)) (fun k hk => h3 k (by revert k; decide)) h4⟩
theorem RVc_FR (hv : RVc σ fs a Y) (f : FR I J A B σ σ') (h1 : ∀ k, k ∈ [13, 15, 20, 43, 48, 50, 98] → k ∉ I) (h3 : ∀ k, k ∈ [18, 19, 21, 22, 39, 40, 42, 49, 52, 53, 54, 55, 56, 59, 91, 97, 116] → k ∉ A) (h4 : ∀ k, k ∈ [29, 57] → k ∉ B) : RVc σ' fs a Y := by
  obtain ⟨v1, v2, v3, v4, ⟨ch, v5⟩, v6⟩ := hv
  exact ⟨RVl_FR v1 f (fun k hk => h1 k (List.mem_append_left [98] hk)) (fun k hk => h3 k (by simp only [List.mem_cons, List.not_mem_nil, or_false] at hk ⊢; omega)) h4, (f.1 13 (h1 13 (by decide))).trans v2, fun k => by rw [f.2.2.1 42 (h3 42 (by decide))]; exact v3 k, fun k => by rw [f.2.2.1 91 (h3 91 (by decide))]; exact v4 k, ⟨ch, (f.1 98 (h1 98 (by decide))).trans v5⟩, RC_FR v6 f (h3 116 (by decide)) (h3 97 (by decide))⟩
/-- calls that only write OUT and what they work with -/
theorem RV_out (hv : RV σ fs gs ws n b a Y) (f : FR [0, 4, 123, 124, 125, 126, 127] [] [3, 117, 118, 119, 120, 121, 122, 128, 129] [] σ σ') (ho : OUo σ') : RV σ' fs gs ws n b a Y := by
  obtain ⟨v1, v2, v3, v4, v5, v6, v7, v8⟩ := hv
  exact ⟨RT_FR v1 f (by decide) (by decide), RF_FR v2 f (by decide) (by decide), RG_FR v3 f (by decide) (by decide) (by decide), RW_FR v4 f (by decide) (by decide), ho, MV_FR v6 f (by decide) (by decide), MNa_FR v7 f (by decide) (by decide), RVc_FR v8 f (by decide) (by decide) (by decide)⟩
theorem RV_0 (hv : RV σ fs gs ws n b a Y) (f : FR [0] [] [] [] σ σ') : RV σ' fs gs ws n b a Y := RV_out hv (FR_mono f (by decide) (by decide) (by decide) (by decide)) (OUo_FR hv.2.2.2.2.1 f (by decide) (by decide))
theorem RV_W (hv : RV σ fs gs ws n b a Y) (w : OWe σ σ') : RV σ' fs gs ws n b a Y := by
  obtain ⟨cc, hcc, hW⟩ := w
  exact RV_out hv (FR_mono hW.1 (by decide) (by decide) (by decide) (by decide)) ⟨⟨cc, hcc, hW.2.1⟩, hW.2.2⟩
/-- a call that is safe: what holds then -/
def UM (m : Nat) (h : px_H) (fs : px_FS) (gs : List (List Nat × Int64)) (ws : List (List Nat)) (n : Nat) (b : Nat → Nat) (a : Int32) (Y : px_Y) {α : Type} (o : Option (α × px_H)) : Prop := ∃ v σ', o = some (v, mh m h σ') ∧ RV σ' fs gs ws n b a Y
theorem UM_0 {α : Type} {o : Option (α × px_H)} (hv : RV σ fs gs ws n b a Y) (w : Sm m h (FR [0] [] [] [] σ) Any o) : UM m h fs gs ws n b a Y o := by
  obtain ⟨v, σ', e, _, f⟩ := w
  exact ⟨v, σ', e, RV_0 hv f⟩
theorem UM_W {α : Type} {o : Option (α × px_H)} (hv : RV σ fs gs ws n b a Y) (w : Sm m h (OWe σ) Any o) : UM m h fs gs ws n b a Y o := by
  obtain ⟨v, σ', e, _, f⟩ := w
  exact ⟨v, σ', e, RV_W hv f⟩
theorem u_look {x : Int32} (hm : m ≤ h.length) (hv : RV σ fs gs ws n b a Y) : UM m h fs gs ws n b a Y (f_M_look F m x (mh m h σ)) := UM_0 hv (sm_look hm (FR_refl σ))
theorem u_place {x : Int32} (hm : m ≤ h.length) (hv : RV σ fs gs ws n b a Y) : UM m h fs gs ws n b a Y (f_M_place F m x (mh m h σ)) := by
  obtain ⟨k, k1, k2⟩ := hv.2.2.2.2.2.2.2.1.2.1
  exact UM_0 hv (sm_place hm k1 k2 (FR_refl σ))
theorem u_section {x y : Int32} (hm : m ≤ h.length) (hv : RV σ fs gs ws n b a Y) : UM m h fs gs ws n b a Y (f_M_section F m x y (mh m h σ)) := by
  obtain ⟨k, k1, k2⟩ := hv.2.2.2.2.2.2.2.1.2.1
  exact UM_0 hv (sm_section hm k1 k2 (FR_refl σ))
theorem u_flags {x : Int64} (hm : m ≤ h.length) (hF : 65540 < F) (hv : RV σ fs gs ws n b a Y) : UM m h fs gs ws n b a Y (f_M_flags F m x (mh m h σ)) := UM_0 hv (sm_flags hm (by omega) hv.2.2.2.2.2.1 (FR_refl σ))
theorem u_peek {x : Int64} (hm : m ≤ h.length) (hF : 65540 < F) (hv : RV σ fs gs ws n b a Y) : UM m h fs gs ws n b a Y (f_M_peek F m x (mh m h σ)) := UM_0 hv (sm_peek hm (by omega) hv.2.2.2.2.2.1 (FR_refl σ))
theorem u_out {x : Int32} (hm : m ≤ h.length) (hF : 65540 < F) (hv : RV σ fs gs ws n b a Y) : UM m h fs gs ws n b a Y (f_M_out F m x (mh m h σ)) := by
  obtain ⟨k, k1, k2⟩ := hv.2.2.2.2.1.1
  exact UM_0 hv (sm_out hm (by omega) k1 k2 (FR_refl σ))
theorem u_taken {x y : Int32} (hm : m ≤ h.length) (hv : RV σ fs gs ws n b a Y) : UM m h fs gs ws n b a Y (f_M_taken F m x y (mh m h σ)) := UM_0 hv (sm_taken hm hv.2.1 (FR_refl σ))
theorem u_sum {x y z : Int32} (hm : m ≤ h.length) (hF : 65540 < F) (hv : RV σ fs gs ws n b a Y) : UM m h fs gs ws n b a Y (f_M_sum F m x y z (mh m h σ)) := UM_0 hv (sm_sum hm (by omega) hv.2.1 (FR_refl σ))
theorem u_list {x y : Int32} (hm : m ≤ h.length) (hF : 65540 < F) (hv : RV σ fs gs ws n b a Y) : UM m h fs gs ws n b a Y (f_M_list F m x y (mh m h σ)) := UM_W hv (sm_list hm hF hv.2.1 hv.2.2.2.2.1 (FR_refl σ))
theorem u_near {x : Int64} (hm : m ≤ h.length) (hF : 65540 < F) (hv : RV σ fs gs ws n b a Y) : UM m h fs gs ws n b a Y (f_M_near F m x (mh m h σ)) := UM_W hv (sm_near hm hF hv.2.2.2.2.2.1 hv.2.2.2.2.2.2.1 hv.2.2.2.2.1)
theorem u_map (hm : m ≤ h.length) (hF : 65540 < F) (hv : RV σ fs gs ws n b a Y) : UM m h fs gs ws n b a Y (f_M_map F m (mh m h σ)) := by
  have hl := hv.2.2.2.2.2.2.2.1.2.2.1
  by_cases c : gI σ 13 = 0
  · obtain ⟨nS, nD, zf, uf, gf, ff, mf, lf, df, hM⟩ := (hl c).1
    exact UM_W hv (sm_map hm hF hv.2.2.2.2.1 (fun _ => hM))
  · exact UM_W hv (sm_map (nS := 0) (nD := 0) (zf := id) (uf := id) (gf := id) (ff := id) (mf := id) (lf := id) (df := id) hm hF hv.2.2.2.2.1 (fun q => absurd q c))
theorem u_named (hm : m ≤ h.length) (hF : 65540 < F) (hv : RV σ fs gs ws n b a Y) : UM m h fs gs ws n b a Y (f_M_named F m (mh m h σ)) := by
  have hl := hv.2.2.2.2.2.2.2.1.2.2.1
  by_cases c : gI σ 13 = 0
  · obtain ⟨e, nD, th, lf, df, hM⟩ := (hl c).2
    exact UM_W hv (sm_named hm hF hv.2.2.2.2.1 (fun _ => hM))
  · exact UM_W hv (sm_named (e := 0) (nD := 0) (th := fun _ => false) (lf := id) (df := id) hm hF hv.2.2.2.2.1 (fun q => absurd q c))
theorem u_cause {x y : Int32} (hm : m ≤ h.length) (hF : 65540 < F) (hv : RV σ fs gs ws n b a Y) : UM m h fs gs ws n b a Y (f_M_cause F m x y (mh m h σ)) := by
  obtain ⟨nms, h1, h2⟩ := hv.2.2.2.2.2.2.2.1.1
  obtain ⟨v, σ', e, _, f, ho⟩ := sm_cause (F := F) (a1 := x) (a2 := y) hm (by omega) hv.2.1 h1 h2 hv.2.2.2.2.1 (FR_refl σ)
  exact ⟨v, σ', e, RV_out hv (FR_mono f (by decide) (by decide) (by decide) (by decide)) ho⟩
theorem u_pack (hm : m ≤ h.length) (hF : 65540 < F) (hv : RV σ fs gs ws n b a Y) : UM m h fs gs ws n b a Y (f_M_pack F m (mh m h σ)) := by
  obtain ⟨v, σ', e, _, f, ho⟩ := sm_pack (F := F) hm hF hv.2.1 hv.2.2.2.2.1
  exact ⟨v, σ', e, RV_out hv (FR_mono f (by decide) (by decide) (by decide) (by decide)) ho⟩
theorem u_boot {x : Int32} (hm : m ≤ h.length) (hF : 65540 < F) (hv : RV σ fs gs ws n b a Y) : UM m h fs gs ws (if x = 0 then n else 0) (if x = 0 then b else fun _ => 0) a Y (f_M_boot F m x (mh m h σ)) := by
  obtain ⟨v1, v2, v3, v4, v5, v6, v7, v8⟩ := hv
  obtain ⟨v, σ', e, _, f, e2, g1, g2⟩ := sm_boot (F := F) (a1 := x) hm hF v1 v5 v6 v7
  refine ⟨v, σ', e, ?_, RF_FR v2 f (by decide) (by decide), RG_FR v3 f (by decide) (by decide) (by decide), RW_FR v4 f (by decide) (by decide), OUo_FR v5 f (by decide) (by decide), g1, g2, RVc_FR v8 f (by decide) (by decide) (by decide)⟩
  have e1 : gA σ' 1 = gA σ 1 := f.2.2.1 1 (by decide)
  by_cases c : x = 0
  · rw [if_pos c] at e2
    rw [if_pos c, if_pos c]
    exact ⟨e2.trans v1.1, v1.2.1, by rw [e1]; exact v1.2.2.1, by rw [e1]; exact v1.2.2.2⟩
  · rw [if_neg c] at e2
    rw [if_neg c, if_neg c]
    refine ⟨e2, Nat.zero_le _, by rw [e1]; exact v1.2.2.1, ?_⟩
    funext y
    unfold cb
    rw [if_neg (Nat.not_lt_zero y)]
end MRV
end
section
/-! the reference's calls that change what it knows (steps spelled out by sf/pp.py) -/
section MRW
variable {F m : Nat} {h : px_H} {σ0 σ σ' : px_S} {fs : px_FS} {gs : List (List Nat × Int64)} {ws : List (List Nat)} {n : Nat} {b : Nat → Nat} {a : Int32} {Y : px_Y}
theorem u_feed {v w : Nat} (hm : m ≤ h.length) (hF : 65540 < F) (hv : RV σ fs gs ws n b a Y) (hvv : v < 2 ^ 64) (h1 : 1 ≤ w) (hw : w ≤ 8) (hn : n + w ≤ 8192) : ∃ σ', f_M_feed F m (nI w) (lN v) (mh m h σ) = some (nI (n + w), mh m h σ') ∧ gI σ' 0 = nI 0 ∧ RV σ' fs gs ws (n + w) (fdd b n v w) a Y := by
  obtain ⟨v1, v2, v3, v4, v5, v6, v7, v8⟩ := hv
  obtain ⟨σ', e, g1, g2, f1, f2, f3, f4⟩ := q_feed (F := F) hm (by omega) hvv h1 hw hn v1
  have f : FR [0, 2] [] [1] [] σ σ' := ⟨fun k hk => by simp only [List.mem_cons, List.not_mem_nil, or_false, not_or] at hk; exact f1 k hk.1 hk.2, fun k _ => f2 k, fun k hk => by simp only [List.mem_cons, List.not_mem_nil, or_false] at hk; exact f3 k hk, fun k _ => f4 k⟩
  exact ⟨σ', e, g2, g1, RF_FR v2 f (by decide) (by decide), RG_FR v3 f (by decide) (by decide) (by decide), RW_FR v4 f (by decide) (by decide), OUo_FR v5 f (by decide) (by decide), MV_FR v6 f (by decide) (by decide), MNa_FR v7 f (by decide) (by decide), RVc_FR v8 f (by decide) (by decide) (by decide)⟩
theorem u_feed_t {y : Int32} {z : Int64} (hv : RV σ fs gs ws n b a Y) (c : Int32) : RV (sI σ 0 c) fs gs ws n b a Y := RV_0 hv (FR_I _ _ _)
theorem u_add (hm : m ≤ h.length) (hF : 65540 < F) (hv : RV σ fs gs ws n b a Y) (hy : ∀ q, 8 * fs.length ≤ q → q < 64 → Y.1.1 q = false) : ∃ σ', f_M_add F m (mh m h σ) = some (nI (if fs.length = 8 then 0 else eFil b n), mh m h σ') ∧ gI σ' 0 = nI (if fs.length = 8 then 1 else 0) ∧ RV σ' (if fs.length = 8 then fs else if eFil b n = 0 then fs ++ [(n, b)] else fs) gs ws (if fs.length = 8 then n else 0) (if fs.length = 8 then b else fun _ => 0) a Y := by
  obtain ⟨v1, v2, v3, v4, v5, v6, v7, v8⟩ := hv
  obtain ⟨σ', e, ⟨f1, f2, f3, f4⟩, g1, g2⟩ := q_add (F := F) (by omega) hm v1 v2
  have f : FR [0, 2, 5] [] [6, 7, 8, 9, 10, 11, 12, 19, 96] [] σ σ' := ⟨fun k hk => by simp only [List.mem_cons, List.not_mem_nil, or_false, not_or] at hk; exact f1 k hk.1 hk.2.1 hk.2.2, fun k _ => f2 k, fun k hk => by simp only [List.mem_cons, List.not_mem_nil, or_false, not_or] at hk; obtain ⟨a1, a2, a3, a4, a5, a6, a7, a8, a9⟩ := hk; exact f4 k a1 a2 a3 a4 a5 a6 a7 a8 a9, fun k _ => f3 k⟩
  have h8 := v2.2.1
  obtain ⟨c1, c2, c3, c4, c5, c6⟩ := id v8
  obtain ⟨d1, d2, d3⟩ := RVl_F0 ⟨c1.1, c1.2.1, c1.2.2.1⟩ f (by decide) (by decide)
  have rvc : ∀ fs' : px_FS, RX σ' fs' a Y → RVc σ' fs' a Y := fun fs' hx => by
    obtain ⟨ch, c5⟩ := c5
    exact ⟨⟨d1, d2, d3, hx⟩, (f.1 13 (by decide)).trans c2, fun k => by rw [f.2.2.1 42 (by decide)]; exact c3 k, fun k => by rw [f.2.2.1 91 (by decide)]; exact c4 k, ⟨ch, (f.1 98 (by decide)).trans c5⟩, RC_FR c6 f (by decide) (by decide)⟩
  have same : (∀ i, gA σ' 19 i = gA σ 19 i) → RX σ' fs a Y := fun h19 => RX_fr c1.2.2.2 (fun k hk => f.1 k (by revert k; decide)) (fun k hk => by
    by_cases e : k = 19
    · rw [e]; funext i; exact h19 i
    · exact f.2.2.1 k (by revert k; decide)) (fun k hk => f.2.2.2 k (by revert k; decide))
  have rest : RG σ' gs ∧ RW σ' ws ∧ OUo σ' ∧ MV σ' ∧ MNa σ' := ⟨RG_FR v3 f (by decide) (by decide) (by decide), RW_FR v4 f (by decide) (by decide), OUo_FR v5 f (by decide) (by decide), MV_FR v6 f (by decide) (by decide), MNa_FR v7 f (by decide) (by decide)⟩
  obtain ⟨t1, t2, t3, t4, t5⟩ := rest
  refine ⟨σ', e, g1, ?_⟩
  by_cases c : fs.length = 8
  · rw [if_pos c] at g2
    rw [if_pos c, if_pos c, if_pos c]
    exact ⟨g2.1, g2.2.1, t1, t2, t3, t4, t5, rvc _ (same g2.2.2)⟩
  · rw [if_neg c] at g2
    rw [if_neg c, if_neg c, if_neg c]
    obtain ⟨g2, g3⟩ := g2
    by_cases c2 : eFil b n = 0
    · rw [if_pos c2] at g3
      rw [if_pos c2]
      exact ⟨g2, g3.1, t1, t2, t3, t4, t5, rvc _ (RX_add c1.2.2.2 (by omega) hy f (by decide) (by decide) (by decide) g3.2.1 g3.2.2)⟩
    · rw [if_neg c2] at g3
      rw [if_neg c2]
      exact ⟨g2, g3.1, t1, t2, t3, t4, t5, rvc _ (same g3.2)⟩
theorem RVc_dr {x : Nat × (Nat → Nat)} (h : RVc σ (fs ++ [x]) a Y) : RVc σ fs a (dropY fs.length Y) := ⟨⟨h.1.1, h.1.2.1, h.1.2.2.1, RX_drop h.1.2.2.2⟩, h.2⟩
theorem u_drop {x : Nat × (Nat → Nat)} (hm : m ≤ h.length) (hv : RV σ (fs ++ [x]) gs ws n b a Y) : ∃ σ', f_M_drop F m (mh m h σ) = some (nI fs.length, mh m h σ') ∧ gI σ' 0 = nI 0 ∧ RV σ' fs gs ws n b a (dropY fs.length Y) := by
  obtain ⟨v1, v2, v3, v4, v5, v6, v7, v8⟩ := hv
  obtain ⟨σ', e, g1, g2, f1, f2, f3, f4⟩ := q_drop (F := F) hm v2
  have f : FR [0, 5] [] [] [] σ σ' := ⟨fun k hk => by simp only [List.mem_cons, List.not_mem_nil, or_false, not_or] at hk; exact f1 k hk.1 hk.2, fun k _ => f2 k, fun k _ => f3 k, fun k _ => f4 k⟩
  exact ⟨σ', e, g2, RT_FR v1 f (by decide) (by decide), g1, RG_FR v3 f (by decide) (by decide) (by decide), RW_FR v4 f (by decide) (by decide), OUo_FR v5 f (by decide) (by decide), MV_FR v6 f (by decide) (by decide), MNa_FR v7 f (by decide) (by decide), RVc_dr (RVc_FR v8 f (by decide) (by decide) (by decide))⟩
theorem u_forget (hm : m ≤ h.length) (hv : RV σ fs gs ws n b a Y) : UM m h fs [] [] n b a Y (f_M_forget F m (mh m h σ)) := by
  obtain ⟨v1, v2, v3, v4, v5, v6, v7, v8⟩ := hv
  obtain ⟨σ', e, g0, g1, g2, f1, f2, f3, f4⟩ := q_forget (F := F) (σ := σ) hm
  have f : FR [0, 31, 32] [] [] [] σ σ' := ⟨fun k hk => by simp only [List.mem_cons, List.not_mem_nil, or_false, not_or] at hk; exact f1 k hk.1 hk.2.1 hk.2.2, fun k _ => f2 k, fun k _ => f3 k, fun k _ => f4 k⟩
  exact ⟨(), σ', e, RT_FR v1 f (by decide) (by decide), RF_FR v2 f (by decide) (by decide), g1, g2, OUo_FR v5 f (by decide) (by decide), MV_FR v6 f (by decide) (by decide), MNa_FR v7 f (by decide) (by decide), RVc_FR v8 f (by decide) (by decide) (by decide)⟩
theorem frG_FR (f : frG σ σ') : FR [0, 2, 31, 32] [] [33, 34, 35, 36] [37] σ σ' := ⟨fun k hk => by simp only [List.mem_cons, List.not_mem_nil, or_false, not_or] at hk; exact f.1 k hk.1 hk.2.1 hk.2.2.1 hk.2.2.2, fun k _ => f.2.1 k, fun k hk => by simp only [List.mem_cons, List.not_mem_nil, or_false, not_or] at hk; exact f.2.2.2 k hk.1 hk.2.1 hk.2.2.1 hk.2.2.2, fun k hk => by simp only [List.mem_cons, List.not_mem_nil, or_false] at hk; exact f.2.2.1 k hk⟩
theorem u_give {v : Int64} (hm : m ≤ h.length) (hF : 65540 < F) (hv : RV σ fs gs ws n b a Y) : ∃ σ', f_M_give F m v (mh m h σ) = some (nI (if gcd' b n (gs.map Prod.fst) = 0 then gs.length + 1 else 0), mh m h σ') ∧ gI σ' 0 = nI (gcd' b n (gs.map Prod.fst)) ∧ RV σ' fs (if gcd' b n (gs.map Prod.fst) = 0 then gs ++ [(tk b 0 n, v)] else gs) ws 0 (fun _ => 0) a Y := by
  obtain ⟨v1, v2, v3, v4, v5, v6, v7, v8⟩ := hv
  obtain ⟨σ', e, g0, f, g1, g2, g3⟩ := q_give (F := F) (v := v) hm (by omega) v1 v3 v4
  have f := frG_FR f
  exact ⟨σ', e, g0, g1, RF_FR v2 f (by decide) (by decide), g3, g2, OUo_FR v5 f (by decide) (by decide), MV_FR v6 f (by decide) (by decide), MNa_FR v7 f (by decide) (by decide), RVc_FR v8 f (by decide) (by decide) (by decide)⟩
theorem u_wish (hm : m ≤ h.length) (hF : 65540 < F) (hv : RV σ fs gs ws n b a Y) : ∃ σ', f_M_wish F m (mh m h σ) = some (nI (if gcd' b n ws = 0 then ws.length + 1 else 0), mh m h σ') ∧ gI σ' 0 = nI (gcd' b n ws) ∧ RV σ' fs gs (if gcd' b n ws = 0 then ws ++ [tk b 0 n] else ws) 0 (fun _ => 0) a Y := by
  obtain ⟨v1, v2, v3, v4, v5, v6, v7, v8⟩ := hv
  obtain ⟨σ', e, g0, f, g1, g2, g3⟩ := q_wish (F := F) hm (by omega) v1 v3 v4
  have f := frG_FR f
  exact ⟨σ', e, g0, g1, RF_FR v2 f (by decide) (by decide), g2, g3, OUo_FR v5 f (by decide) (by decide), MV_FR v6 f (by decide) (by decide), MNa_FR v7 f (by decide) (by decide), RVc_FR v8 f (by decide) (by decide) (by decide)⟩
theorem u_address (hm : m ≤ h.length) (hF : 65540 < F) (hv : RV σ fs gs ws n b a Y) : UM m h fs gs ws (if a = 0 then 0 else n) (if a = 0 then fun _ => 0 else b) a Y (f_M_address F m (mh m h σ)) := by
  obtain ⟨v1, v2, v3, v4, v5, v6, v7, v8⟩ := hv
  obtain ⟨nms, h1, _⟩ := v8.1.1
  obtain ⟨v, σ', e, _, g1, f, _⟩ := q_address (F := F) hm (by omega) v1 h1
  rw [v8.2.1] at g1
  exact ⟨v, σ', e, g1, RF_FR v2 f (by decide) (by decide), RG_FR v3 f (by decide) (by decide) (by decide), RW_FR v4 f (by decide) (by decide), OUo_FR v5 f (by decide) (by decide), MV_FR v6 f (by decide) (by decide), MNa_FR v7 f (by decide) (by decide), RVc_FR v8 f (by decide) (by decide) (by decide)⟩
theorem oG_lt (b : Nat → Nat) (i : Nat) : oG b i < 10 := by
  unfold oG
  repeat (first | omega | split)
/-- what a link leaves for the calls after it -/
theorem RVl_of {s : px_TK} {k : Nat} {ll : List Nat} {ad : Nat → Nat} {NA : px_NA} (es : s = taL fs (xs0 gs ws) (od0 gs)) (hL : LNP fs s σ) (h13 : gI σ 13 = nI k) (hk : k ≤ 4) (hd : k = 0 → LKD σ s.1.2.2.1) (hx : k = 0 → RLa σ (tQf s.2.2.1) (tB fs s.2.2.1) ll ∧ (∀ (P x : Nat), ll[P]? = some x → gB σ 57 P = lN (ad x)) ∧ (∀ j, j < (xsN s).length → gB σ 29 j = NA.1 j) ∧ LKZ σ (vFe NA.2.2.2.2) NA.2.1) : RVl σ fs (nI k) (lnY fs s ll ad NA) := by
  have hX := RX_link es hL hk hx
  obtain ⟨⟨l1, l2, l3, l4, l5, l6, l7, l8, l9⟩, k2, k3, k4, ⟨k5, k6⟩, on, R, rn, k7, k8, k9, k10⟩ := hL
  have hcp : CPs s := by rw [es]; exact CPs_taL
  have hlen : (xsN s).length = s.1.2.1.length := by
    have := congrArg List.length (xsN_fst (s := s))
    rw [List.length_map, List.length_map] at this
    exact this
  have hx : (xsN s).length ≤ 4096 := by have := l3.1.2.1; rw [List.length_map] at this; exact this
  have hnm : ∀ d, d < (xsN s).length → ∃ l, gA σ 22 d = nI l ∧ l ≤ 20 := fun d hd' => by
    have hk' : d < ((xsN s).map Prod.fst).length := by rw [List.length_map]; exact hd'
    obtain ⟨z1, z2, _⟩ := l3.1.2.2 d _ (List.getElem?_eq_getElem hk')
    exact ⟨_, z2, z1.1⟩
  refine ⟨⟨(xsN s).map Prod.fst, l3.1, fun q hq => ?_⟩, ⟨_, k10.2.1.1, k9.1⟩, fun h0 => ?_, hX⟩
  · rw [l8.1 q hq, l9 q hq]
    cases e : s.2.2.2 q with
    | none => exact Or.inr (Or.inl rfl)
    | some i => exact Or.inr (Or.inr ⟨i, by rw [List.length_map, hlen]; exact hcp q i e, rfl⟩)
  · have hk0 : k = 0 := (nI_eq (b := 0) (by omega) (by decide)).mp (h13.symm.trans h0)
    obtain ⟨⟨fe, fe1, fe2⟩, hok, th, th1, th2⟩ := hd hk0
    obtain ⟨o1, o2, o3⟩ := l4
    have hdx : ∀ i, i < s.1.2.2.1.length → s.1.2.2.1[i]? = some (s.1.2.2.1.getD i 0) := fun i hi => by rw [List.getD_eq_getElem?_getD, List.getElem?_eq_getElem hi]; rfl
    have hdl : ∀ i, i < s.1.2.2.1.length → s.1.2.2.1.getD i 0 < (xsN s).length := fun i hi => k5 _ (List.mem_of_getElem? (hdx i hi))
    obtain ⟨lf, hlf⟩ : ∃ lf : Nat → Nat, ∀ i, i < s.1.2.2.1.length → gA σ 22 (s.1.2.2.1.getD i 0) = nI (lf i) ∧ lf i ≤ 20 := by
      have key : ∀ i, ∃ l, i < s.1.2.2.1.length → gA σ 22 (s.1.2.2.1.getD i 0) = nI l ∧ l ≤ 20 := fun i => by
        by_cases hi : i < s.1.2.2.1.length
        · obtain ⟨l, w⟩ := hnm _ (hdl i hi)
          exact ⟨l, fun _ => w⟩
        · exact ⟨0, fun w => absurd w hi⟩
      exact ⟨fun i => (key i).choose, fun i => (key i).choose_spec⟩
    refine ⟨?_, fe, s.1.2.2.1.length, th, lf, fun i => s.1.2.2.1.getD i 0, ⟨fe1, fe2⟩, ⟨th1, th2⟩, o2, o1, fun i hi => ⟨o3 i _ (hdx i hi), (show s.1.2.2.1.getD i 0 < 4096 from Nat.lt_of_lt_of_le (hdl i hi) hx), (hlf i hi).1, (hlf i hi).2, hok i _ (hdx i hi)⟩⟩
    obtain ⟨ll, ell⟩ : ∃ ll, ll = layL s.2.2.1.length (tB fs s.2.2.1) (sta (tB fs s.2.2.1) s.2.1.1 on R) := ⟨_, rfl⟩
    rw [← ell] at k9 k10
    obtain ⟨tb, etb⟩ : ∃ tb, tb = tB fs s.2.2.1 := ⟨_, rfl⟩
    rw [← etb] at k9 k10
    have hxx : ∀ p, p < ll.length → ll[p]? = some (ll.getD p 0) := fun p hp => by rw [List.getD_eq_getElem?_getD, List.getElem?_eq_getElem hp]; rfl
    have hq : ∀ t, t < s.2.2.1.length → tQf s.2.2.1 t < 64 := fun t ht => by
      have w := RQ_of l2 k2.1 l7 t ht
      exact w.1
    refine ⟨ll.length, s.1.2.2.1.length, fun p => oZ (tb (ll.getD p 0 / 24)) (ll.getD p 0 % 24), fun p => ll.getD p 0 % 24, fun p => oG (tb (ll.getD p 0 / 24)) (ll.getD p 0 % 24), fun p => tQf s.2.2.1 (ll.getD p 0 / 24) / 8, fun p => tQf s.2.2.1 (ll.getD p 0 / 24) % 8, lf, fun i => s.1.2.2.1.getD i 0, ⟨k10.2.1.1, k9.1, fun p hp => ?_⟩, o2, o1, fun i hi => ⟨o3 i _ (hdx i hi), (show s.1.2.2.1.getD i 0 < 4096 from Nat.lt_of_lt_of_le (hdl i hi) hx), (hlf i hi).1, (hlf i hi).2⟩⟩
    obtain ⟨r1, r2, r3, r4, r5, r6⟩ := k9.2 p _ (hxx p hp)
    have hm := List.mem_of_getElem? (hxx p hp)
    have hz := (k10.2.2.2 _ hm).1
    have ht := (k10.2.1.2 _ hm).1
    have hq' := hq _ ht
    refine ⟨r6, ?_, r4, (show ll.getD p 0 % 24 ≤ 99999 by omega), r5, oG_lt _ _, r2, ?_, r3, ?_⟩
    · show oZ (tb (ll.getD p 0 / 24)) (ll.getD p 0 % 24) ≤ 99999
      have hz : oZ (tb (ll.getD p 0 / 24)) (ll.getD p 0 % 24) ≤ 16384 := hz
      exact Nat.le_trans hz (by decide)
    · show tQf s.2.2.1 (ll.getD p 0 / 24) / 8 < 10
      generalize tQf s.2.2.1 (ll.getD p 0 / 24) = x at *
      omega
    · show tQf s.2.2.1 (ll.getD p 0 / 24) % 8 < 10
      omega
theorem lnR_4 {rc : Bool} {B : Nat → Nat} {s : px_TK} {k : Nat} (hl : lnR fs gs ws rc B s k) (hs : s.1.1 ≤ 2) : k ≤ 4 := by
  have ha : anN fs ws s (xsN s) ≤ 2 := by unfold anN; repeat (first | omega | split)
  by_cases c : anN fs ws s (xsN s) = 0
  · obtain ⟨R, rn, _, fe0, bg0, G0, fe1, mem1, bg1, G1, fe2, mem2, bg2, G4, G5, G2, sp, G3, CM, fe3, _, e⟩ := hl.2.2 c
    rw [e]
    split
    · omega
    · split <;> omega
  · have := hl.2.1 c
    omega
theorem LKY_of {s : px_TK} {rc : Bool} {B : Nat → Nat} {k : Nat} {σ' : px_S} {P : Prop} (h : k = 0 → P ∧ LKY fs s rc B σ') : ∃ ll ad NA, (k = 0 → RLa σ' (tQf s.2.2.1) (tB fs s.2.2.1) ll ∧ (∀ (P x : Nat), ll[P]? = some x → gB σ' 57 P = lN (ad x)) ∧ (∀ j, j < (xsN s).length → gB σ' 29 j = NA.1 j) ∧ LKZ σ' (vFe NA.2.2.2.2) NA.2.1) ∧ (k = 0 → lnX fs s rc B ll ad NA) := by
  by_cases c : k = 0
  · obtain ⟨_, ll, ad, NA, x1, x2⟩ := h c
    exact ⟨ll, ad, NA, fun _ => x2, fun _ => x1⟩
  · exact ⟨[], fun _ => 0, na0, fun q => absurd q c, fun q => absurd q c⟩
theorem RV_Y {s : px_TK} {j : Nat} {ll ll' : List Nat} {ad ad' : Nat → Nat} {NA NA' : px_NA} (h : RV σ fs gs ws n b (nI j) (lnY fs s ll ad NA)) (hj : j ≤ 4) (hx : j = 0 → ll = ll' ∧ ad = ad' ∧ NA = NA') : RV σ fs gs ws n b (nI j) (lnY fs s ll' ad' NA') := by
  by_cases c : j = 0
  · obtain ⟨rfl, rfl, rfl⟩ := hx c
    exact h
  · obtain ⟨v1, v2, v3, v4, v5, v6, v7, ⟨c1, c2, c3, c4⟩, c5⟩ := h
    exact ⟨v1, v2, v3, v4, v5, v6, v7, ⟨c1, c2, c3, ⟨c4.1.1, fun ha => absurd ((nI_eq (b := 0) (by omega) (by decide)).mp ha) c⟩, fun ha => absurd ((nI_eq (b := 0) (by omega) (by decide)).mp ha) c⟩, c5⟩
theorem u_link {rc : Bool} {B : Nat → Nat} (hm : m ≤ h.length) (hF : 65540 < F) (hv : RV σ fs gs ws n b a Y) (hB : RB σ B) (hsum : (fs.map Prod.fst).sum ≤ 4096) : ∃ (σ' : px_S) (k : Nat) (s : px_TK) (ll : List Nat) (ad : Nat → Nat) (NA : px_NA), f_M_link F m (bI rc) (mh m h σ) = some (nI k, mh m h σ') ∧ k ≤ 4 ∧ lnR fs gs ws rc B s k ∧ RV σ' fs gs ws n b (nI k) (lnY fs s ll ad NA) ∧ (k = 0 → lnX fs s rc B ll ad NA) := by
  obtain ⟨v1, v2, v3, v4, v5, v6, v7, v8⟩ := hv
  obtain ⟨σ', k, s, e, q1, q2, q3, q4, q5, q6, q7, f, q9⟩ := q_link (rc := rc) (F := F) hm hF v2 v3 v4 ⟨v5.2, v5.1, v8.2.2.1, v8.2.2.2.1, v8.2.2.2.2.1, v8.2.2.2.2.2⟩ hB hsum
  have hk := lnR_4 q1 q3.2.1.1.1
  obtain ⟨ll, ad, NA, y1, y2⟩ := LKY_of q9
  exact ⟨σ', k, s, ll, ad, NA, e, hk, q1, ⟨ RT_FR v1 f (by decide) (by decide), q5, q6, q7, ⟨q4.2.1, q4.1⟩, MV_FR v6 f (by decide) (by decide), MNa_FR v7 f (by decide) (by decide), RVl_of q1.1 q3 q2 hk (fun q => (q9 q).1) y1, q2, q4.2.2.1, q4.2.2.2.1, q4.2.2.2.2.1, q4.2.2.2.2.2⟩, y2⟩
theorem u_merge {B : Nat → Nat} (hm : m ≤ h.length) (hF : 65540 < F) (hv : RV σ fs gs ws n b a Y) (hB : RB σ B) (hsum : (fs.map Prod.fst).sum ≤ 4096) : ∃ (v : Int32) (σ' : px_S) (k : Nat) (s : px_TK) (ll : List Nat) (ad : Nat → Nat) (NA : px_NA), f_M_merge F m (mh m h σ) = some (v, mh m h σ') ∧ k ≤ 4 ∧ lnR fs gs ws false B s k ∧ RV σ' fs gs ws n b (nI k) (lnY fs s ll ad NA) ∧ (k = 0 → lnX fs s false B ll ad NA) := by
  obtain ⟨v1, v2, v3, v4, v5, v6, v7, v8⟩ := hv
  obtain ⟨v, σ1, σ2, k, s, e, q1, q2, q3, q4, q5, q6, q7, f, q9, fE, hO⟩ := q_merge (F := F) hm hF v2 v3 v4 ⟨v5.2, v5.1, v8.2.2.1, v8.2.2.2.1, v8.2.2.2.2.1, v8.2.2.2.2.2⟩ hB hsum
  have hk := lnR_4 q1 q3.2.1.1.1
  obtain ⟨ll, ad, NA, y1, y2⟩ := LKY_of q9
  have h1 : RV σ1 fs gs ws n b (nI k) (lnY fs s ll ad NA) := ⟨RT_FR v1 f (by decide) (by decide), q5, q6, q7, ⟨q4.2.1, q4.1⟩, MV_FR v6 f (by decide) (by decide), MNa_FR v7 f (by decide) (by decide), RVl_of q1.1 q3 q2 hk (fun q => (q9 q).1) y1, q2, q4.2.2.1, q4.2.2.2.1, q4.2.2.2.2.1, q4.2.2.2.2.2⟩
  exact ⟨v, σ2, k, s, ll, ad, NA, e, hk, q1, RV_out h1 (FR_mono fE (by decide) (by decide) (by decide) (by decide)) hO, y2⟩
end MRW
end
section
/-! class and reference in one heap (steps spelled out by sf/pp.py) -/
/-- two states agree at cell a -/
def agr (τ τ' : px_TT) (a : Nat) : Prop := (∀ k, fI τ' a k = fI τ a k) ∧ (∀ k, fJ τ' a k = fJ τ a k) ∧ (∀ k, fN τ' a k = fN τ a k) ∧ eI τ' a = eI τ a ∧ eJ τ' a = eJ τ a ∧ eN τ' a = eN τ a
section BRG
variable {sk sk' : Nat → Nat × Nat × Nat} {L L' : Nat} {own : Nat → Nat × Nat} {τ τ' : px_TT} {σ σ' : px_S} {fs : List (Nat × (Nat → Nat))} {gs : List (List Nat × Int64)} {ws : List (List Nat)} {n : Nat} {b : Nat → Nat} {a : Int32} {Y : px_Y}
theorem cell_agr {x : Nat} (e : sk' x = sk x) (h : agr τ τ' x) : cell sk' τ' x = cell sk τ x := by
  obtain ⟨h1, h2, h3, h4, h5, h6⟩ := h
  have hc : ∀ ci, cv τ' ci x = cv τ ci x := fun ci => by
    funext k
    unfold cv
    rw [h1, h2, h3]
  unfold cell
  rw [e, hc, h4, h5, h6]
theorem CV_M (h : CV sk L own τ fs gs ws n b a Y) (e : EX sk L sk' L') (hA : ∀ x, (x < 1726 ∨ 1815 ≤ x) → agr τ τ' x) : CV sk' L' own τ' fs gs ws n b a Y := by
  obtain ⟨hS, hR, hn, hf, hg, hw, ht, hr, hz, hnd⟩ := h
  have hE : ∀ A, A < 1726 → eN τ' A = eN τ A := fun A hA' => (hA A (Or.inl hA')).2.2.2.2.2
  have cn : ∀ {N A : Nat} {vs : List (List Nat)}, CN sk L τ N A vs → (N = 140 ∨ N = 143) → (A = 141 ∨ A = 144) → CN sk' L' τ' N A vs := fun {N A vs} w hN' hA' => CN_mv w e ((hA N (by omega)).2.2.1 0) ((hA N (by omega)).1 2) (fun i _ => congrFun (hE A (by omega)) i) (fun i p _ hp => by
    have := (hn A i p (by omega) hp).1
    exact ⟨fun k _ => (hA p (by omega)).2.1 k, (hA p (by omega)).1 3⟩)
  refine ⟨⟨by have := e.1; have := hS.1; omega, fun x hx => (e.2 x (by have := hS.1; omega)).trans (hS.2 x hx)⟩, GR_mv hR (fun x k hx => (hA x (by omega)).2.2.1 k) (fun x k hx _ => (hA x (by omega)).1 k) (hE 9 (by decide)) (hE 151 (by decide)), fun A i p hA' hp => ?_, CF_mv hf e ⟨fun x k hx _ => (hA x (by omega)).1 k, fun x k hx => (hA x (by omega)).2.2.1 k, fun x hx => (hA x (by omega)).2.2.2.1⟩, ⟨cn hg.1 (Or.inl rfl) (Or.inl rfl), fun i x hx => ?_⟩, cn hw (Or.inr rfl) (Or.inr rfl), CTp_SI ht ((hA 1 (by omega)).1 1) (hA 2 (by omega)).2.2.2.1, CVr_fx hr e (fun x k hx => (hA x (by omega)).1 k) (fun k => (hA 1696 (by omega)).2.1 k) (fun x k hx => (hA x (by omega)).2.2.1 k) (fun x hx => (hA x (by omega)).2.2.2.1) (fun x hx => hE x (by omega)) (fun d p hp => ?_), CX_W hz e ⟨⟨(hA 1700 (by omega)).1 11, hE 1701 (by decide), fun x hx => ⟨fun k _ => (hA (152 + x) (by omega)).1 k, (hA (152 + x) (by omega)).2.1 11⟩⟩, ⟨hE 149 (by decide), (hA 148 (by omega)).2.2.1 0, (hA 148 (by omega)).1 2, fun i p hp => by
      have := (hn 149 i p (Or.inr (Or.inr rfl)) hp).1
      exact ⟨(hA p (by omega)).1 3, fun k => (hA p (by omega)).2.1 k⟩⟩, (hA 147 (by omega)).1 15, hE 1693 (by decide), (hA 1711 (by omega)).1 1, (hA 1703 (by omega)).2.2.2.1⟩ (fun q hq => ⟨(hA _ (by omega)).1 15, (hA _ (by omega)).1 16⟩), hnd.1, ((hA 147 (by omega)).1 18).trans hnd.2⟩
  · rw [hE A (by omega)] at hp
    obtain ⟨w1, w2, w3⟩ := hn A i p hA' hp
    exact ⟨w1, ob_ex w2 e, w3⟩
  · rw [hE 141 (by decide), ← hg.2 i x hx]
    refine (hA _ ?_).2.1 7
    cases hq : eN τ 141 i with
    | none => exact Or.inl (by decide)
    | some p => exact Or.inr (hn 141 i p (Or.inl rfl) hq).1
  · have := (hn 149 d p (Or.inr (Or.inr rfl)) hp).1
    exact ⟨(hA p (by omega)).1 5, (hA p (by omega)).2.2.1 6⟩
end BRG
/-- what stands at the reference's cells, and at the row of one long behind them -/
def kM (i : Nat) : Nat × Nat × Nat := if i = 0 then (0, 12, 0) else if i = 88 then (1, 2, 1) else (1, (mr (mA.getD (i - 1) 0)).2.2.1, (mr (mA.getD (i - 1) 0)).2.2.2)
def SKm (sk : Nat → Nat × Nat × Nat) : Prop := ∀ i, i < 89 → sk (1726 + i) = kM i
/-- the reference's cells hold the state σ -/
def MQs (τ : px_TT) (σ : px_S) : Prop := (∀ k, fI τ 1726 k = gI σ k) ∧ (∀ k, fJ τ 1726 k = gJ σ k) ∧ (∀ k, k < 130 → 2 ≤ (mr k).1 → fN τ 1726 k = some (1726 + (mr k).2.1)) ∧ ∀ i, i < 87 → eI τ (1727 + i) = gA σ (mA.getD i 0) ∧ eJ τ (1727 + i) = gB σ (mA.getD i 0)
theorem mr_kd : ∀ k, k < 130 → ((mr k).1 = 0 ∧ cF 12 k = 0) ∨ ((mr k).1 = 1 ∧ cF 12 k = 1) ∨ (2 ≤ (mr k).1 ∧ cF 12 k = 2) := by decide +kernel
theorem mA_kd : ∀ i, i < 87 → ((mr (mA.getD i 0)).1 = 2 ∧ (mr (mA.getD i 0)).2.2.1 ≠ 2 ∧ (mr (mA.getD i 0)).2.2.1 ≤ 3) ∨ ((mr (mA.getD i 0)).1 = 3 ∧ (mr (mA.getD i 0)).2.2.1 = 2) := by decide +kernel
theorem cN_12 : cN 12 = 130 := by decide +kernel
theorem mA_ln : mA.length = 87 := by decide +kernel
section BRH
variable {sk sk' : Nat → Nat × Nat × Nat} {L L' : Nat} {own : Nat → Nat × Nat} {τ τ' : px_TT} {σ σ' : px_S}
theorem cv_M (hq : MQs τ σ) {k : Nat} (hk : k < 130) : cv τ 12 1726 k = fv 1726 σ k := by
  obtain ⟨q1, q2, q3, _⟩ := hq
  unfold cv fv
  rcases mr_kd k hk with ⟨e1, e2⟩ | ⟨e1, e2⟩ | ⟨e1, e2⟩
  · rw [if_pos e2, if_pos e1, q1]
  · rw [if_neg (by rw [e2]; decide), if_pos e2, if_neg (by rw [e1]; decide), if_pos e1, q2]
  · rw [if_neg (by rw [e2]; decide), if_neg (by rw [e2]; decide), if_neg (by omega), if_neg (by omega), q3 k hk e1]
    rfl
theorem cell_M (hk : SKm sk) (hq : MQs τ σ) {i : Nat} (hi : i < 88) : (mcs 1726 σ)[i]? = some (cell sk τ (1726 + i)) := by
  have e := hk i (by omega)
  cases i with
  | zero =>
    have e : sk 1726 = (0, 12, 0) := e
    show some (Sum.inr (12, mfs 1726 σ)) = some (cell sk τ 1726)
    unfold cell
    rw [e, if_pos rfl]
    show _ = some (Sum.inr (12, (List.range (cN 12)).map (cv τ 12 1726)))
    rw [cN_12]
    unfold mfs
    congr 3
    apply List.map_congr_left
    intro k hk'
    exact (cv_M hq (List.mem_range.mp hk')).symm
  | succ j =>
    have hj : j < 87 := by omega
    have e1 : kM (j + 1) = (1, (mr (mA.getD j 0)).2.2.1, (mr (mA.getD j 0)).2.2.2) := by
      unfold kM
      rw [if_neg (by omega), if_neg (by omega), Nat.add_sub_cancel]
    rw [e1] at e
    have h4 := hq.2.2.2 j hj
    rw [show 1727 + j = 1726 + (j + 1) by omega] at h4
    show (mA.map (arr σ))[j]? = _
    rw [List.getElem?_map, List.getElem?_eq_getElem (by rw [mA_ln]; exact hj)]
    have eg : mA[j]'(by rw [mA_ln]; exact hj) = mA.getD j 0 := by rw [List.getD_eq_getElem?_getD, List.getElem?_eq_getElem (by rw [mA_ln]; exact hj)]; rfl
    rw [eg]
    show some (arr σ (mA.getD j 0)) = _
    have kd := mA_kd j hj
    generalize mA.getD j 0 = g at *
    unfold cell arr
    rw [e, h4.1, h4.2]
    dsimp only
    rw [if_neg (show ¬ (1 = 0) by decide)]
    rcases kd with ⟨d1, d2, d3⟩ | ⟨d1, d2⟩
    · rw [if_pos d1, if_neg d2, if_pos d3]
    · rw [if_neg (by rw [d1]; decide), if_pos d2, d2]
theorem cH_M (hk : SKm sk) (hq : MQs τ σ) (hL : 1815 ≤ L) : cH sk L τ = mh 1726 (cH sk L τ) σ := by
  have e : ((cH sk L τ).drop 1726).take 88 = mcs 1726 σ := by
    apply List.ext_getElem?
    intro i
    by_cases hi : i < 88
    · rw [List.getElem?_take_of_lt hi, List.getElem?_drop, cH_at (by omega), cell_M hk hq hi]
    · rw [List.getElem?_eq_none (by rw [List.length_take]; omega), List.getElem?_eq_none (by rw [mcs_len]; omega)]
  unfold mh
  rw [← e, show (cH sk L τ).drop (1726 + 88) = ((cH sk L τ).drop 1726).drop 88 from by rw [List.drop_drop], List.take_append_drop, List.take_append_drop]
/-- the state with other contents of the reference's cells -/
def tM (τ : px_TT) (σ : px_S) : px_TT := (fun x k => if x = 1726 then gI σ k else fI τ x k, fun x k => if x = 1726 then gJ σ k else fJ τ x k, τ.2.2.1, fun x => if 1727 ≤ x ∧ x < 1814 then gA σ (mA.getD (x - 1727) 0) else eI τ x, fun x => if 1727 ≤ x ∧ x < 1814 then gB σ (mA.getD (x - 1727) 0) else eJ τ x, τ.2.2.2.2.2)
theorem agr_tM {x : Nat} (h : x < 1726 ∨ 1814 ≤ x) : agr τ (tM τ σ) x := by
  refine ⟨fun k => ?_, fun k => ?_, fun k => rfl, ?_, ?_, rfl⟩
  · show (if x = 1726 then gI σ k else fI τ x k) = _
    rw [if_neg (by omega)]
  · show (if x = 1726 then gJ σ k else fJ τ x k) = _
    rw [if_neg (by omega)]
  · show (if 1727 ≤ x ∧ x < 1814 then gA σ (mA.getD (x - 1727) 0) else eI τ x) = _
    rw [if_neg (by omega)]
  · show (if 1727 ≤ x ∧ x < 1814 then gB σ (mA.getD (x - 1727) 0) else eJ τ x) = _
    rw [if_neg (by omega)]
theorem MQs_tM (hq : MQs τ σ) : MQs (tM τ σ') σ' := by
  refine ⟨fun k => ?_, fun k => ?_, hq.2.2.1, fun i hi => ⟨?_, ?_⟩⟩
  · show (if 1726 = 1726 then gI σ' k else fI τ 1726 k) = _
    rw [if_pos rfl]
  · show (if 1726 = 1726 then gJ σ' k else fJ τ 1726 k) = _
    rw [if_pos rfl]
  · show (if 1727 ≤ 1727 + i ∧ 1727 + i < 1814 then gA σ' (mA.getD (1727 + i - 1727) 0) else eI τ (1727 + i)) = _
    rw [if_pos (by omega), Nat.add_sub_cancel_left]
  · show (if 1727 ≤ 1727 + i ∧ 1727 + i < 1814 then gB σ' (mA.getD (1727 + i - 1727) 0) else eJ τ (1727 + i)) = _
    rw [if_pos (by omega), Nat.add_sub_cancel_left]
theorem cH_tM (hk : SKm sk) (hq : MQs τ σ) (hL : 1815 ≤ L) : mh 1726 (cH sk L τ) σ' = cH sk L (tM τ σ') := by
  rw [cH_M hk (MQs_tM (σ' := σ') hq) hL]
  have h1 : ∀ x, (x < 1726 ∨ 1814 ≤ x) → (cH sk L (tM τ σ'))[x]? = (cH sk L τ)[x]? := fun x hx => by
    by_cases hxl : x < L
    · rw [cH_at hxl, cH_at hxl, cell_agr rfl (agr_tM hx)]
    · rw [List.getElem?_eq_none (by rw [cH_len]; omega), List.getElem?_eq_none (by rw [cH_len]; omega)]
  have e1 : (cH sk L (tM τ σ')).take 1726 = (cH sk L τ).take 1726 := by
    apply List.ext_getElem?
    intro i
    by_cases hi : i < 1726
    · rw [List.getElem?_take_of_lt hi, List.getElem?_take_of_lt hi, h1 i (Or.inl hi)]
    · rw [List.getElem?_eq_none (by rw [List.length_take]; omega), List.getElem?_eq_none (by rw [List.length_take]; omega)]
  have e2 : (cH sk L (tM τ σ')).drop (1726 + 88) = (cH sk L τ).drop (1726 + 88) := by
    apply List.ext_getElem?
    intro i
    rw [List.getElem?_drop, List.getElem?_drop, h1 _ (Or.inr (by omega))]
  unfold mh
  rw [e1, e2]
theorem MQs_K (hq : MQs τ σ) (h : K26 τ τ') : MQs τ' σ := by
  obtain ⟨q1, q2, q3, q4⟩ := hq
  obtain ⟨a1, a2, a3, a4, a5, a6⟩ := h 1726 (by decide) (by decide)
  refine ⟨fun k => (a1 k).trans (q1 k), fun k => (a2 k).trans (q2 k), fun k hk h2 => (a3 k).trans (q3 k hk h2), fun i hi => ?_⟩
  obtain ⟨b1, b2, b3, b4, b5, b6⟩ := h (1727 + i) (by omega) (by omega)
  exact ⟨b4.trans (q4 i hi).1, b5.trans (q4 i hi).2⟩
theorem SKm_EX (hk : SKm sk) (e : EX sk L sk' L') (hL : 1815 ≤ L) : SKm sk' := fun i hi => (e.2 _ (by omega)).trans (hk i hi)
/-- an exception's cell -/
theorem cH_ex {ci : Nat} (hc : cN ci = 0) : cH sk L τ ++ [.inr (ci, [])] = cH (skN sk L ci) (L + 1) τ ∧ EX sk L (skN sk L ci) (L + 1) := by
  have hlt : ∀ x, x < L → skN sk L ci x = sk x := fun x hx => by unfold skN; rw [if_neg (by omega)]
  refine ⟨?_, by omega, hlt⟩
  apply List.ext_getElem?
  intro i
  by_cases hi : i < L
  · rw [List.getElem?_append_left (by rw [cH_len]; exact hi), cH_at hi, cH_at (by omega), cell_agr (hlt i hi) ⟨fun _ => rfl, fun _ => rfl, fun _ => rfl, rfl, rfl, rfl⟩]
  · by_cases e : i = L
    · subst e
      rw [List.getElem?_append_right (by rw [cH_len]; omega), cH_len, Nat.sub_self, cH_at (by omega)]
      unfold cell
      rw [show skN sk i ci i = (0, ci, 0) by unfold skN; rw [if_pos rfl]]
      dsimp only
      rw [if_pos rfl, hc]
      rfl
    · rw [List.getElem?_eq_none (by rw [List.length_append, cH_len]; simp; omega), List.getElem?_eq_none (by rw [cH_len]; omega)]
end BRH
/-- room for the names of one link -/
theorem rmT_b {fs : px_FS} (hf : FSo fs) (hs : (fs.map Prod.fst).sum ≤ 4096) : rmT fs [] ≤ 170 := by
  have h1 : ∀ q, 24 * omQ fs q ≤ szQ fs q := fun q => by
    unfold omQ szQ
    cases e : obAt fs q with
    | none => exact Nat.le_refl _
    | some y =>
      show 24 * (if y.2.2.2 = true then 0 else oM y.2.2.1) ≤ y.2.1
      by_cases c : y.2.2.2 = true
      · rw [if_pos c]; omega
      · rw [if_neg c]
        obtain ⟨o, n, b, z⟩ := y
        have hz : z = false := Bool.eq_false_iff.mpr c
        subst hz
        exact oM_n (hf q o n b e).2
  have h2 : ∀ N, 24 * smN (omQ fs) N ≤ smN (szQ fs) N := fun N => by
    induction N with
    | zero => exact Nat.le_refl _
    | succ N ih =>
      rw [smN_s, smN_s]
      have := h1 N
      omega
  have h3 := h2 64
  have h4 := szQ_all (fs := fs)
  unfold rmT
  omega
end
section
/-! a call of the class and the same call of the reference (steps spelled out by sf/pp.py) -/
/-- f: what the class answers, g: what it throws (the exception's class), q: what the reference answers -/
def BT {α β : Type} (Rn : α → β → px_S → Prop) (Rt : Nat → px_S → Prop) (sk : Nat → Nat × Nat × Nat) (L : Nat) (τ : px_TT) (k N : Nat) (f : Option (α × px_H)) (g : Option (Nat × px_H)) (q : px_H → Option (β × px_H)) : Prop := ∃ fs gs ws n b a Y, n + (List.map Prod.fst fs).sum ≤ N ∧ ((∃ v sk' L' τ' own', f = some (v, cH sk' L' τ') ∧ EX sk L sk' L' ∧ K26 τ τ' ∧ RMk sk' L' k ∧ CV sk' L' own' τ' fs gs ws n b a Y ∧ ∀ h : px_H, 1726 ≤ h.length → ∃ w σ', q h = some (w, mh 1726 h σ') ∧ RV σ' fs gs ws n b a Y ∧ Rn v w σ') ∨ ∃ ci τ' own', g = some (ci, cH sk L τ') ∧ K26 τ τ' ∧ RMk sk L (k + 1) ∧ CV sk L own' τ' fs gs ws n b a Y ∧ ∀ h : px_H, 1726 ≤ h.length → ∃ w σ', q h = some (w, mh 1726 h σ') ∧ RV σ' fs gs ws n b a Y ∧ Rt ci σ')
theorem BT_mono {α β : Type} {Rn Rn' : α → β → px_S → Prop} {Rt Rt' : Nat → px_S → Prop} {sk : Nat → Nat × Nat × Nat} {L : Nat} {τ : px_TT} {k N : Nat} {f : Option (α × px_H)} {g : Option (Nat × px_H)} {q : px_H → Option (β × px_H)} (h : BT Rn Rt sk L τ k N f g q) (h1 : ∀ v w σ, Rn v w σ → Rn' v w σ) (h2 : ∀ c σ, Rt c σ → Rt' c σ) : BT Rn' Rt' sk L τ k N f g q := by
  obtain ⟨fs, gs, ws, n, b, a, Y, hN, h⟩ := h
  refine ⟨fs, gs, ws, n, b, a, Y, hN, ?_⟩
  rcases h with ⟨v, sk', L', τ', own', e1, e2, e3, e4, e5, e6⟩ | ⟨ci, τ', own', e1, e2, e3, e4, e5⟩
  · refine Or.inl ⟨v, sk', L', τ', own', e1, e2, e3, e4, e5, fun h hl => ?_⟩
    obtain ⟨w, σ', a1, a2, a3⟩ := e6 h hl
    exact ⟨w, σ', a1, a2, h1 _ _ _ a3⟩
  · refine Or.inr ⟨ci, τ', own', e1, e2, e3, e4, fun h hl => ?_⟩
    obtain ⟨w, σ', a1, a2, a3⟩ := e5 h hl
    exact ⟨w, σ', a1, a2, h2 _ _ a3⟩
theorem RMk_le {sk : Nat → Nat × Nat × Nat} {L k k' : Nat} (h : RMk sk L k') (hk : k ≤ k') : RMk sk L k := by
  unfold RMk at *
  omega
theorem nI_18 {y : Int32} (h1 : ¬ y < nI 1) (h2 : y ≤ nI 8) : ∃ w, 1 ≤ w ∧ w ≤ 8 ∧ y = nI w := by
  rw [Int32.lt_iff_toInt_lt] at h1
  rw [Int32.le_iff_toInt_le] at h2
  have e1 : (nI 1).toInt = 1 := by decide
  have e8 : (nI 8).toInt = 8 := by decide
  rw [e1] at h1
  rw [e8] at h2
  have h0 : ¬ y < 0 := by
    rw [Int32.lt_iff_toInt_lt]
    have e0 : (0 : Int32).toInt = 0 := by decide
    omega
  obtain ⟨k, hk, rfl⟩ := nI_of h0
  rw [nI_toInt hk] at h1 h2
  exact ⟨k, by omega, by omega, rfl⟩
abbrev Rn0 {α β : Type} : α → β → px_S → Prop := fun _ _ _ => True
section BTH
variable {F : Nat} {c : px_CT} {sk sk' : Nat → Nat × Nat × Nat} {L L' : Nat} {own : Nat → Nat × Nat} {τ τ' : px_TT} {σ : px_S} {fs : List (Nat × (Nat → Nat))} {gs : List (List Nat × Int64)} {ws : List (List Nat)} {n : Nat} {b : Nat → Nat} {a : Int32} {Y : px_Y} {k N : Nat}
theorem BT_SI {α β : Type} {V : α → Prop} {Rt : Nat → px_S → Prop} {f : Option (α × px_H)} {g : Option (Nat × px_H)} {q : px_H → Option (β × px_H)} (hC : CV sk L own τ fs gs ws n b a Y) (hm : RMk sk L (k + 210)) (hN : n + (fs.map Prod.fst).sum ≤ N) (w : Sf sk L (SI none sk L τ) V f) (u : ∀ h : px_H, 1726 ≤ h.length → UM 1726 h fs gs ws n b a Y (q h)) : BT Rn0 Rt sk L τ k N f g q := by
  obtain ⟨v, τ', e, _, hI⟩ := w
  refine ⟨fs, gs, ws, n, b, a, Y, hN, Or.inl ⟨v, sk, L, τ', own, e, EX_refl, K26_Z hI.1, RMk_le hm (by omega), CV_SI hC hI, fun h hl => ?_⟩⟩
  obtain ⟨w, σ', e1, e2⟩ := u h hl
  exact ⟨w, σ', e1, e2, trivial⟩
theorem BT_T {α β : Type} {Rt : Nat → px_S → Prop} {Rn : α → β → px_S → Prop} {f : Option (α × px_H)} {g : Option (Nat × px_H)} {q : px_H → Option (β × px_H)} {ci : Nat} (hC : CV sk L own τ fs gs ws n b a Y) (hm : RMk sk L (k + 210)) (hN : n + (fs.map Prod.fst).sum ≤ N) (hg : g = some (ci, cH sk L τ)) (hR : ∀ σ, Rt ci σ) (u : ∀ h : px_H, 1726 ≤ h.length → UM 1726 h fs gs ws n b a Y (q h)) : BT Rn Rt sk L τ k N f g q := by
  refine ⟨fs, gs, ws, n, b, a, Y, hN, Or.inr ⟨ci, τ, own, hg, K26_refl τ, RMk_le hm (by omega), hC, fun h hl => ?_⟩⟩
  obtain ⟨w, σ', e1, e2⟩ := u h hl
  exact ⟨w, σ', e1, e2, hR _⟩
theorem B_look {x : Int32} (hF : 65540 < F) (hC : CV sk L own τ fs gs ws n b a Y) (hR : RV σ fs gs ws n b a Y) (hm : RMk sk L (k + 210)) (hN : n + (fs.map Prod.fst).sum ≤ N) : BT Rn0 (fun ci _ => ci = 13) sk L τ k N (f_H_look F c 0 x (cH sk L τ)) (g_H_look F c 0 x (cH sk L τ)) (fun h => f_M_look F 1726 x (mh 1726 h σ)) := by
  by_cases c1 : x < 0
  · exact BT_T hC hm hN (by unfold g_H_look g_H_look_10; rw [if_pos c1]) (fun _ => rfl) (fun h hl => u_look hl hR)
  · by_cases c2 : x ≤ nI 18
    · exact BT_SI hC hm hN (sf_Hlook (CV_S4 hC).1.1.1 hF (SI_self hC) c1 c2) (fun h hl => u_look hl hR)
    · exact BT_T hC hm hN (by unfold g_H_look g_H_look_10; rw [if_neg c1, if_neg c2]) (fun _ => rfl) (fun h hl => u_look hl hR)
theorem B_out {x : Int32} (hF : 65540 < F) (hC : CV sk L own τ fs gs ws n b a Y) (hR : RV σ fs gs ws n b a Y) (hm : RMk sk L (k + 210)) (hN : n + (fs.map Prod.fst).sum ≤ N) : BT Rn0 (fun ci _ => ci = 15) sk L τ k N (f_H_out F c 0 x (cH sk L τ)) (g_H_out F c 0 x (cH sk L τ)) (fun h => f_M_out F 1726 x (mh 1726 h σ)) := by
  rcases sf_Hout (F := F) (c := c) (i := x) (CV_S4 hC).1.1.1 hF (SI_self hC) with c1 | ⟨r, e1, e2, e3⟩ | w
  · exact BT_T hC hm hN (by unfold g_H_out g_H_out_15; rw [if_pos c1]) (fun _ => rfl) (fun h hl => u_out hl hF hR)
  · refine BT_T hC hm hN ?_ (fun _ => rfl) (fun h hl => u_out hl hF hR)
    unfold g_H_out g_H_out_15
    by_cases c1 : x < 0
    · rw [if_pos c1]
    · rw [if_neg c1, C0r1 (G0 hC.1) e1, bs, C10g1 e2, bs, if_neg e3]
  · exact BT_SI hC hm hN w (fun h hl => u_out hl hF hR)
theorem B_taken {x y : Int32} (hC : CV sk L own τ fs gs ws n b a Y) (hR : RV σ fs gs ws n b a Y) (hm : RMk sk L (k + 210)) (hN : n + (fs.map Prod.fst).sum ≤ N) : BT Rn0 (fun ci _ => ci = 15) sk L τ k N (f_H_taken F c 0 x y (cH sk L τ)) (g_H_taken F c 0 x y (cH sk L τ)) (fun h => f_M_taken F 1726 x y (mh 1726 h σ)) := by
  rcases sf_Htaken (F := F) (c := c) (i := x) (k := y) (CV_S4 hC) (SI_self hC) with e | w
  · exact BT_T hC hm hN (by unfold g_H_taken; rw [c_o (G0 hC.1), bs, e, xb_mk]) (fun _ => rfl) (fun h hl => u_taken hl hR)
  · exact BT_SI hC hm hN w (fun h hl => u_taken hl hR)
theorem B_cause {x y : Int32} (hF : 65540 < F) (hC : CV sk L own τ fs gs ws n b a Y) (hR : RV σ fs gs ws n b a Y) (hm : RMk sk L (k + 210)) (hN : n + (fs.map Prod.fst).sum ≤ N) : BT Rn0 (fun ci _ => ci = 15) sk L τ k N (f_H_cause F c 0 x y (cH sk L τ)) (g_H_cause F c 0 x y (cH sk L τ)) (fun h => f_M_cause F 1726 x y (mh 1726 h σ)) := by
  rcases sf_Hcause (F := F) (c := c) (i := x) (k := y) (CV_S4 hC) hF (SI_self hC) with e | w
  · exact BT_T hC hm hN (by unfold g_H_cause; rw [c_o (G0 hC.1), bs, e, xb_mk]) (fun _ => rfl) (fun h hl => u_cause hl hF hR)
  · exact BT_SI hC hm hN w (fun h hl => u_cause hl hF hR)
theorem B_list {x y : Int32} (hF : 65540 < F) (hC : CV sk L own τ fs gs ws n b a Y) (hR : RV σ fs gs ws n b a Y) (hm : RMk sk L (k + 210)) (hN : n + (fs.map Prod.fst).sum ≤ N) : BT Rn0 (fun ci _ => ci = 15) sk L τ k N (f_H_list F c 0 x y (cH sk L τ)) (g_H_list F c 0 x y (cH sk L τ)) (fun h => f_M_list F 1726 x y (mh 1726 h σ)) := by
  rcases sf_Hlist (F := F) (c := c) (i := x) (k := y) (CV_S4 hC) hF (SI_self hC) with e | w
  · exact BT_T hC hm hN (by unfold g_H_list; rw [c_o (G0 hC.1), bs, e, xb_mk]) (fun _ => rfl) (fun h hl => u_list hl hF hR)
  · exact BT_SI hC hm hN w (fun h hl => u_list hl hF hR)
theorem B_sum {x y z : Int32} (hF : 65540 < F) (hC : CV sk L own τ fs gs ws n b a Y) (hR : RV σ fs gs ws n b a Y) (hm : RMk sk L (k + 210)) (hN : n + (fs.map Prod.fst).sum ≤ N) : BT Rn0 (fun ci _ => ci = 15) sk L τ k N (f_H_sum F c 0 x y z (cH sk L τ)) (g_H_sum F c 0 x y z (cH sk L τ)) (fun h => f_M_sum F 1726 x y z (mh 1726 h σ)) := by
  rcases sf_Hsum (F := F) (c := c) (i := x) (k := y) (g := z) (CV_S4 hC) hF (SI_self hC) with e | ⟨q, e, hz⟩ | w
  · exact BT_T hC hm hN (by unfold g_H_sum g_H_sum_22; rw [c_o (G0 hC.1), bs, e, xb_mk]) (fun _ => rfl) (fun h hl => u_sum hl hF hR)
  · refine BT_T hC hm hN ?_ (fun _ => rfl) (fun h hl => u_sum hl hF hR)
    unfold g_H_sum g_H_sum_22
    rw [c_o (G0 hC.1), bs, e, xb_mk]
    dsimp only
    by_cases c1 : z < 0
    · rw [if_pos c1]
    · rw [if_neg c1, if_neg (hz.resolve_left c1)]
  · exact BT_SI hC hm hN w (fun h hl => u_sum hl hF hR)
theorem B_section {x y : Int32} (hC : CV sk L own τ fs gs ws n b a Y) (hR : RV σ fs gs ws n b a Y) (hm : RMk sk L (k + 210)) (hN : n + (fs.map Prod.fst).sum ≤ N) : BT Rn0 (fun ci _ => ci = 14 ∨ ci = 15) sk L τ k N (f_H_section F c 0 x y (cH sk L τ)) (g_H_section F c 0 x y (cH sk L τ)) (fun h => f_M_section F 1726 x y (mh 1726 h σ)) := by
  have u : ∀ h : px_H, 1726 ≤ h.length → UM 1726 h fs gs ws n b a Y (f_M_section F 1726 x y (mh 1726 h σ)) := fun h hl => u_section hl hR
  have o0 := G0 hC.1
  have r11 := C0r11 (τ := τ) o0 (GR_r (v := 147) hC.2.1 (by decide))
  have r13 := C0r13 (τ := τ) o0 (GR_r (v := 1700) hC.2.1 (by decide))
  have g11 := C2g11 (τ := τ) (a := 1700) (GS_o hC.1 (by decide) (by decide))
  have g18 := C3g18 (τ := τ) (G147 hC.1)
  by_cases c0 : fI τ 147 18 = 0
  · by_cases c1 : x < 0
    · exact BT_T hC hm hN (by unfold g_H_section g_H_section_44; rw [r11, bs, g18, bs, if_pos c0, if_pos c1]) (fun _ => Or.inr rfl) u
    · by_cases c2 : fI τ 1700 11 ≤ x
      · exact BT_T hC hm hN (by unfold g_H_section g_H_section_44; rw [r11, bs, g18, bs, if_pos c0, if_neg c1, r13, bs, g11, bs, if_pos c2]) (fun _ => Or.inr rfl) u
      · by_cases c3 : y < 0
        · exact BT_T hC hm hN (by unfold g_H_section g_H_section_44; rw [r11, bs, g18, bs, if_pos c0, if_neg c1, r13, bs, g11, bs, if_neg c2, if_pos c3]) (fun _ => Or.inr rfl) u
        · by_cases c4 : y ≤ nI 4
          · exact BT_SI hC hm hN (sf_Hsection (CV_S4 hC) (SI_self hC) c0 c1 c2 c3 c4) u
          · exact BT_T hC hm hN (by unfold g_H_section g_H_section_44; rw [r11, bs, g18, bs, if_pos c0, if_neg c1, r13, bs, g11, bs, if_neg c2, if_neg c3, if_neg c4]) (fun _ => Or.inr rfl) u
  · exact BT_T hC hm hN (by unfold g_H_section; rw [r11, bs, g18, bs, if_neg c0]) (fun _ => Or.inl rfl) u
theorem B_place {x : Int32} (hC : CV sk L own τ fs gs ws n b a Y) (hR : RV σ fs gs ws n b a Y) (hm : RMk sk L (k + 210)) (hN : n + (fs.map Prod.fst).sum ≤ N) : BT Rn0 (fun ci _ => ci = 14 ∨ ci = 15) sk L τ k N (f_H_place F c 0 x (cH sk L τ)) (g_H_place F c 0 x (cH sk L τ)) (fun h => f_M_place F 1726 x (mh 1726 h σ)) := by
  have u : ∀ h : px_H, 1726 ≤ h.length → UM 1726 h fs gs ws n b a Y (f_M_place F 1726 x (mh 1726 h σ)) := fun h hl => u_place hl hR
  have o0 := G0 hC.1
  have r11 := C0r11 (τ := τ) o0 (GR_r (v := 147) hC.2.1 (by decide))
  have r13 := C0r13 (τ := τ) o0 (GR_r (v := 1700) hC.2.1 (by decide))
  have g11 := C2g11 (τ := τ) (a := 1700) (GS_o hC.1 (by decide) (by decide))
  have g18 := C3g18 (τ := τ) (G147 hC.1)
  by_cases c0 : fI τ 147 18 = 0
  · by_cases c1 : x < 0
    · exact BT_T hC hm hN (by unfold g_H_place g_H_place_35; rw [r11, bs, g18, bs, if_pos c0, if_pos c1]) (fun _ => Or.inr rfl) u
    · by_cases c2 : x < fI τ 1700 11
      · exact BT_SI hC hm hN (sf_Hplace (CV_S4 hC) (SI_self hC) c0 c1 c2) u
      · exact BT_T hC hm hN (by unfold g_H_place g_H_place_35; rw [r11, bs, g18, bs, if_pos c0, if_neg c1, r13, bs, g11, bs, if_neg c2]) (fun _ => Or.inr rfl) u
  · exact BT_T hC hm hN (by unfold g_H_place; rw [r11, bs, g18, bs, if_neg c0]) (fun _ => Or.inl rfl) u
theorem B_named (hK : KT c) (hF : 65540 < F) (hC : CV sk L own τ fs gs ws n b a Y) (hR : RV σ fs gs ws n b a Y) (hm : RMk sk L (k + 210)) (hN : n + (fs.map Prod.fst).sum ≤ N) : BT Rn0 (fun ci _ => ci = 14) sk L τ k N (f_H_named F c 0 (cH sk L τ)) (g_H_named F c 0 (cH sk L τ)) (fun h => f_M_named F 1726 (mh 1726 h σ)) := by
  by_cases c0 : fI τ 147 18 = 0
  · exact BT_SI hC hm hN (sf_Hnamed (CV_S4 hC).1 hK hF (SI_self hC) c0) (fun h hl => u_named hl hF hR)
  · exact BT_T hC hm hN (by unfold g_H_named; rw [C0r11 (G0 hC.1) (GR_r (v := 147) hC.2.1 (by decide)), bs, C3g18 (G147 hC.1), bs, if_neg c0]) (fun _ => rfl) (fun h hl => u_named hl hF hR)
theorem B_map (hF : 65540 < F) (hC : CV sk L own τ fs gs ws n b a Y) (hR : RV σ fs gs ws n b a Y) (hm : RMk sk L (k + 210)) (hN : n + (fs.map Prod.fst).sum ≤ N) : BT Rn0 (fun ci _ => ci = 14) sk L τ k N (f_H_map F c 0 (cH sk L τ)) (g_H_map F c 0 (cH sk L τ)) (fun h => f_M_map F 1726 (mh 1726 h σ)) := by
  by_cases c0 : fI τ 147 18 = 0
  · exact BT_SI hC hm hN (sf_Hmap (CV_S4 hC).1 hF (SI_self hC) c0) (fun h hl => u_map hl hF hR)
  · exact BT_T hC hm hN (by unfold g_H_map; rw [C0r11 (G0 hC.1) (GR_r (v := 147) hC.2.1 (by decide)), bs, C3g18 (G147 hC.1), bs, if_neg c0]) (fun _ => rfl) (fun h hl => u_map hl hF hR)
theorem B_near {x : Int64} (hF : 65540 < F) (hC : CV sk L own τ fs gs ws n b a Y) (hR : RV σ fs gs ws n b a Y) (hm : RMk sk L (k + 210)) (hN : n + (fs.map Prod.fst).sum ≤ N) : BT Rn0 (fun _ _ => False) sk L τ k N (f_H_near F c 0 x (cH sk L τ)) none (fun h => f_M_near F 1726 x (mh 1726 h σ)) := BT_SI hC hm hN (sf_Hnear (CV_S4 hC).1.1.1 hF (SI_self hC)) (fun h hl => u_near hl hF hR)
theorem B_peek {x : Int64} (hF : 65540 < F) (hC : CV sk L own τ fs gs ws n b a Y) (hR : RV σ fs gs ws n b a Y) (hm : RMk sk L (k + 210)) (hN : n + (fs.map Prod.fst).sum ≤ N) : BT Rn0 (fun _ _ => False) sk L τ k N (f_H_peek F c 0 x (cH sk L τ)) none (fun h => f_M_peek F 1726 x (mh 1726 h σ)) := BT_SI hC hm hN (sf_Hpeek (CV_S4 hC).1.1.1 hF (SI_self hC)) (fun h hl => u_peek hl hF hR)
theorem B_flags {x : Int64} (hF : 65540 < F) (hC : CV sk L own τ fs gs ws n b a Y) (hR : RV σ fs gs ws n b a Y) (hm : RMk sk L (k + 210)) (hN : n + (fs.map Prod.fst).sum ≤ N) : BT Rn0 (fun _ _ => False) sk L τ k N (f_H_flags F c 0 x (cH sk L τ)) none (fun h => f_M_flags F 1726 x (mh 1726 h σ)) := BT_SI hC hm hN (sf_Hflags (CV_S4 hC).1.1.1 hF (SI_self hC)) (fun h hl => u_flags hl hF hR)
theorem B_pack (hK : KT c) (hF : 65540 < F) (hC : CV sk L own τ fs gs ws n b a Y) (hR : RV σ fs gs ws n b a Y) (hm : RMk sk L (k + 210)) (hN : n + (fs.map Prod.fst).sum ≤ N) : BT Rn0 (fun _ _ => False) sk L τ k N (f_H_pack F c 0 (cH sk L τ)) none (fun h => f_M_pack F 1726 (mh 1726 h σ)) := BT_SI hC hm hN (sf_Hpack (CV_S4 hC).1.1 hK hF (SI_self hC)) (fun h hl => u_pack hl hF hR)
theorem B_boot {x : Int32} (hK : KT c) (hF : 65540 < F) (hC : CV sk L own τ fs gs ws n b a Y) (hR : RV σ fs gs ws n b a Y) (hm : RMk sk L (k + 210)) (hN : n + (fs.map Prod.fst).sum ≤ N) : BT Rn0 (fun _ _ => False) sk L τ k N (f_H_boot F c 0 x (cH sk L τ)) none (fun h => f_M_boot F 1726 x (mh 1726 h σ)) := by
  have u : ∀ h : px_H, 1726 ≤ h.length → UM 1726 h fs gs ws (if x = 0 then n else 0) (if x = 0 then b else fun _ => 0) a Y (f_M_boot F 1726 x (mh 1726 h σ)) := fun h hl => u_boot hl hF hR
  obtain ⟨v, τ', e, _, hI⟩ := sf_Hboot (F := F) (c := c) (a1 := x) (CV_S4 hC) hK hF (SI_self hC)
  refine ⟨fs, gs, ws, if x = 0 then n else 0, if x = 0 then b else fun _ => 0, a, Y, by split <;> omega, Or.inl ⟨v, sk, L, τ', own, e, EX_refl, ?_, RMk_le hm (by omega), ?_, fun h hl => ?_⟩⟩
  · rcases hI with ⟨_, hI⟩ | ⟨_, τ1, hI, rfl⟩
    · exact K26_Z hI.1
    · refine K26_trans (K26_Z hI.1) (fun y h1 h2 => ⟨fun k => (tI_ne (Or.inl (by omega))).trans (tI_ne (Or.inl (by omega))), fun _ => rfl, fun _ => rfl, rfl, rfl, rfl⟩)
  · rcases hI with ⟨e0, hI⟩ | ⟨e0, τ1, hI, rfl⟩
    · rw [if_pos e0, if_pos e0]; exact CV_SI hC hI
    · rw [if_neg e0, if_neg e0]; exact CV_clr (CV_SI hC hI)
  · obtain ⟨w, σ', e1, e2⟩ := u h hl
    exact ⟨w, σ', e1, e2, trivial⟩
theorem B_forget (hC : CV sk L own τ fs gs ws n b a Y) (hR : RV σ fs gs ws n b a Y) (hm : RMk sk L (k + 210)) (hN : n + (fs.map Prod.fst).sum ≤ N) : BT Rn0 (fun _ _ => False) sk L τ k N (f_H_forget F c 0 (cH sk L τ)) none (fun h => f_M_forget F 1726 (mh 1726 h σ)) := by
  obtain ⟨τ', e, h1, h2⟩ := v_forget (F := F) (c := c) hC
  refine ⟨fs, [], [], n, b, a, Y, hN, Or.inl ⟨(), sk, L, τ', own, e, EX_refl, h2, RMk_le hm (by omega), h1, fun h hl => ?_⟩⟩
  obtain ⟨w, σ', e1, e2⟩ := u_forget (F := F) hl hR
  exact ⟨w, σ', e1, e2, trivial⟩
theorem B_address (hF : 65540 < F) (hC : CV sk L own τ fs gs ws n b a Y) (hR : RV σ fs gs ws n b a Y) (hm : RMk sk L (k + 210)) (hN : n + (fs.map Prod.fst).sum ≤ N) : BT Rn0 (fun ci _ => ci = 14) sk L τ k N (f_H_address F c 0 (cH sk L τ)) (g_H_address F c 0 (cH sk L τ)) (fun h => f_M_address F 1726 (mh 1726 h σ)) := by
  have u : ∀ h : px_H, 1726 ≤ h.length → UM 1726 h fs gs ws (if a = 0 then 0 else n) (if a = 0 then fun _ => 0 else b) a Y (f_M_address F 1726 (mh 1726 h σ)) := fun h hl => u_address hl hF hR
  have ea : fI τ 147 18 = a := hC.2.2.2.2.2.2.2.2.2.2
  by_cases c0 : a = 0
  · obtain ⟨v, τ', e, h1, h2⟩ := v_address (F := F) (c := c) hF hC c0
    refine ⟨fs, gs, ws, 0, fun _ => 0, a, Y, by omega, Or.inl ⟨v, sk, L, τ', own, e, EX_refl, h2, RMk_le hm (by omega), h1, fun h hl => ?_⟩⟩
    obtain ⟨w, σ', e1, e2⟩ := u h hl
    rw [if_pos c0, if_pos c0] at e2
    exact ⟨w, σ', e1, e2, trivial⟩
  · refine BT_T hC hm hN (ci := 14) ?_ (fun _ => rfl) (fun h hl => ?_)
    · unfold g_H_address
      rw [C0r11 (G0 hC.1) (GR_r (v := 147) hC.2.1 (by decide)), bs, C3g18 (G147 hC.1), bs, if_neg (by rw [ea]; exact c0)]
    · have w := u h hl
      rw [if_neg c0, if_neg c0] at w
      exact w
end BTH
end
section
/-! a call of the class and the same call of the reference: what they answer (steps spelled out by sf/pp.py) -/
abbrev RnI (v w : Int32) (σ : px_S) : Prop := v = w ∧ gI σ 0 = nI 0
section BTI
variable {F : Nat} {c : px_CT} {sk sk' : Nat → Nat × Nat × Nat} {L L' : Nat} {own : Nat → Nat × Nat} {τ τ' : px_TT} {σ : px_S} {fs : List (Nat × (Nat → Nat))} {gs : List (List Nat × Int64)} {ws : List (List Nat)} {n : Nat} {b : Nat → Nat} {a : Int32} {Y : px_Y} {k N : Nat}
theorem B_feed {y : Int32} {z : Int64} (hF : 65540 < F) (hC : CV sk L own τ fs gs ws n b a Y) (hR : RV σ fs gs ws n b a Y) (hm : RMk sk L (k + 210)) (hN : n + (fs.map Prod.fst).sum + 8 ≤ N) : BT RnI (fun ci σ => (ci = 13 ∧ gI σ 0 = nI 1) ∨ (ci = 14 ∧ gI σ 0 = nI 2)) sk L τ k N (f_H_feed F c 0 y z (cH sk L τ)) (g_H_feed F c 0 y z (cH sk L τ)) (fun h => f_M_feed F 1726 y z (mh 1726 h σ)) := by
  have bad : (y < nI 1 ∨ ¬ y ≤ nI 8) → g_H_feed F c 0 y z (cH sk L τ) = some (13, cH sk L τ) → BT RnI (fun ci σ => (ci = 13 ∧ gI σ 0 = nI 1) ∨ (ci = 14 ∧ gI σ 0 = nI 2)) sk L τ k N (f_H_feed F c 0 y z (cH sk L τ)) (g_H_feed F c 0 y z (cH sk L τ)) (fun h => f_M_feed F 1726 y z (mh 1726 h σ)) := fun hy hg =>
    ⟨fs, gs, ws, n, b, a, Y, by omega, Or.inr ⟨13, τ, own, hg, K26_refl τ, RMk_le hm (by omega), hC, fun h hl => ⟨_, _, q_feed_w hl hy, RV_0 hR (FR_I _ _ _), Or.inl ⟨rfl, rfl⟩⟩⟩⟩
  by_cases c1 : y < nI 1
  · exact bad (Or.inl c1) (by unfold g_H_feed g_H_feed_11; rw [if_pos c1])
  · by_cases c2 : y ≤ nI 8
    · obtain ⟨w, w1, w8, rfl⟩ := nI_18 c1 c2
      obtain ⟨v, hv, rfl⟩ := wb_of z
      by_cases c3 : n + w ≤ 8192
      · obtain ⟨τ', e, h1, h2⟩ := v_feed (F := F) (c := c) hF hC hv w1 w8 c3
        refine ⟨fs, gs, ws, n + w, fdd b n v w, a, Y, by omega, Or.inl ⟨_, sk, L, τ', own, e, EX_refl, h2, RMk_le hm (by omega), h1, fun h hl => ?_⟩⟩
        obtain ⟨σ', e1, e2, e3⟩ := u_feed (F := F) hl hF hR hv w1 w8 c3
        exact ⟨_, σ', e1, e3, rfl, e2⟩
      · have ht := hC.2.2.2.2.2.2.1
        refine ⟨fs, gs, ws, n, b, a, Y, by omega, Or.inr ⟨14, τ, own, ?_, K26_refl τ, RMk_le hm (by omega), hC, fun h hl => ⟨_, _, q_feed_n hl w1 w8 c3 hR.1, RV_0 hR (FR_I _ _ _), Or.inr ⟨rfl, rfl⟩⟩⟩⟩
        have hn := ht.2.1
        unfold g_H_feed
        rw [if_neg c1, if_pos c2, C0r0 (G0 hC.1) (R0_0 hC.2.1), bs, C10g1 (G1 hC.1), bs, ht.1, nI_add, if_neg (nI_ge (a := 8192) (by omega) (by omega))]
    · exact bad (Or.inr c2) (by unfold g_H_feed g_H_feed_11; rw [if_neg c1, if_neg c2])
theorem sum_app (fs : List (Nat × (Nat → Nat))) (x : Nat × (Nat → Nat)) : ((fs ++ [x]).map Prod.fst).sum = (fs.map Prod.fst).sum + x.1 := by
  rw [List.map_append, List.sum_append]
  show _ + (x.1 + 0) = _
  rw [Nat.add_zero]
theorem B_add (hK : KT c) (hF : 65540 < F) (hC : CV sk L own τ fs gs ws n b a Y) (hR : RV σ fs gs ws n b a Y) (hm : RMk sk L (k + 210)) (hN : n + (fs.map Prod.fst).sum ≤ N) : BT RnI (fun ci σ => ci = 14 ∧ gI σ 0 = nI 1) sk L τ k N (f_H_add F c 0 (cH sk L τ)) (g_H_add F c 0 (cH sk L τ)) (fun h => f_M_add F 1726 (mh 1726 h σ)) := by
  have h8 := hR.2.1.2.1
  have e6 := hC.2.2.2.1.1
  by_cases c8 : fs.length = 8
  · refine ⟨fs, gs, ws, n, b, a, Y, hN, Or.inr ⟨14, τ, own, ?_, K26_refl τ, RMk_le hm (by omega), hC, fun h hl => ?_⟩⟩
    · unfold g_H_add
      rw [C0g6 (G0 hC.1), bs, e6, c8, if_neg (by decide)]
    · obtain ⟨σ', e1, e2, e3⟩ := u_add (F := F) hl hF hR (fun q h1 h2 => (hC.2.2.2.2.2.2.2.2.1.1.1 q h2).2.2.2 h1)
      rw [if_pos c8] at e2
      rw [if_pos c8, if_pos c8, if_pos c8] at e3
      exact ⟨_, σ', e1, e3, rfl, e2⟩
  · obtain ⟨τ', e, h1, h2⟩ := v_add (F := F) (c := c) hK hF hC (by omega)
    refine ⟨if eFil b n = 0 then fs ++ [(n, b)] else fs, gs, ws, 0, fun _ => 0, a, Y, ?_, Or.inl ⟨_, sk, L, τ', own, e, EX_refl, h2, RMk_le hm (by omega), h1, fun h hl => ?_⟩⟩
    · split
      · rw [sum_app]; omega
      · omega
    · obtain ⟨σ', e1, e2, e3⟩ := u_add (F := F) hl hF hR (fun q h1 h2 => (hC.2.2.2.2.2.2.2.2.1.1.1 q h2).2.2.2 h1)
      rw [if_neg c8] at e1 e2
      rw [if_neg c8, if_neg c8, if_neg c8] at e3
      exact ⟨_, σ', e1, e3, rfl, e2⟩
theorem B_drop (hF : 65540 < F) (hC : CV sk L own τ fs gs ws n b a Y) (hR : RV σ fs gs ws n b a Y) (hm : RMk sk L (k + 210)) (hN : n + (fs.map Prod.fst).sum ≤ N) : BT RnI (fun ci σ => ci = 14 ∧ gI σ 0 = nI 1) sk L τ k N (f_H_drop F c 0 (cH sk L τ)) (g_H_drop F c 0 (cH sk L τ)) (fun h => f_M_drop F 1726 (mh 1726 h σ)) := by
  rcases List.eq_nil_or_concat fs with e0 | ⟨fi, x, e0⟩
  · subst e0
    have e6 : fI τ 0 6 = nI 0 := hC.2.2.2.1.1
    refine ⟨[], gs, ws, n, b, a, Y, hN, Or.inr ⟨14, τ, own, ?_, K26_refl τ, RMk_le hm (by omega), hC, fun h hl => ⟨_, _, q_drop_n hl hR.2.1, RV_0 hR (FR_I _ _ _), rfl, rfl⟩⟩⟩
    unfold g_H_drop
    rw [C0g6 (G0 hC.1), bs, e6, if_neg (show ¬ (0 : Int32) < nI 0 by decide)]
  · rw [List.concat_eq_append] at e0
    subst e0
    rw [sum_app] at hN
    obtain ⟨τ', e, h1, h2⟩ := v_drop (F := F) (c := c) hF hC
    refine ⟨fi, gs, ws, n, b, a, dropY fi.length Y, by omega, Or.inl ⟨_, sk, L, τ', own, e, EX_refl, h2, RMk_le hm (by omega), h1, fun h hl => ?_⟩⟩
    obtain ⟨σ', e1, e2, e3⟩ := u_drop (F := F) hl hR
    exact ⟨_, σ', e1, e3, rfl, e2⟩
theorem gcd_1 {vs : List (List Nat)} (h : tnm b n = false) : gcd' b n vs = 1 := by
  unfold gcd'
  rw [if_neg (by rw [h]; decide)]
theorem gcd_2 {vs : List (List Nat)} (h : tnm b n = true) (h0 : ¬ gcd' b n vs = 0) : gcd' b n vs = 2 ∧ (vs.length = 16 ∨ (idx (tk b 0 n) 0 vs).isSome = true) := by
  unfold gcd' at *
  rw [if_pos h] at h0 ⊢
  by_cases cc : vs.length = 16 ∨ (idx (tk b 0 n) 0 vs).isSome = true
  · rw [if_pos cc]; exact ⟨rfl, cc⟩
  · rw [if_neg cc] at h0; exact absurd rfl h0
theorem B_give {v : Int64} (hF : 65540 < F) (hC : CV sk L own τ fs gs ws n b a Y) (hR : RV σ fs gs ws n b a Y) (hm : RMk sk L (k + 210)) (hN : n + (fs.map Prod.fst).sum ≤ N) : BT RnI (fun ci σ => (ci = 13 ∧ gI σ 0 = nI 1) ∨ (ci = 14 ∧ gI σ 0 = nI 2)) sk L τ k N (f_H_give F c 0 v (cH sk L τ)) (g_H_give F c 0 v (cH sk L τ)) (fun h => f_M_give F 1726 v (mh 1726 h σ)) := by
  have u := fun (h : px_H) (hl : 1726 ≤ h.length) => u_give (F := F) (v := v) hl hF hR
  by_cases c0 : gcd' b n (gs.map Prod.fst) = 0
  · obtain ⟨sk', L', τ', own', e, h1, h2, h3, h4⟩ := v_give (F := F) (c := c) (v := v) (k := k) hF hC (RMk_le hm (by omega)) c0
    refine ⟨fs, gs ++ [(tk b 0 n, v)], ws, 0, fun _ => 0, a, Y, by omega, Or.inl ⟨_, sk', L', τ', own', e, h1, h4, h2, h3, fun h hl => ?_⟩⟩
    obtain ⟨σ', e1, e2, e3⟩ := u h hl
    rw [if_pos c0] at e1 e3
    rw [c0] at e2
    exact ⟨_, σ', e1, e3, rfl, e2⟩
  · obtain ⟨τ1, e1, h1, h2, h3⟩ := v_readTapeName (F := F) (c := c) hF hC
    have u' : ∀ h : px_H, 1726 ≤ h.length → ∃ w σ', f_M_give F 1726 v (mh 1726 h σ) = some (w, mh 1726 h σ') ∧ gI σ' 0 = nI (gcd' b n (gs.map Prod.fst)) ∧ RV σ' fs gs ws 0 (fun _ => 0) a Y := fun h hl => by
      obtain ⟨σ', a1, a2, a3⟩ := u h hl
      rw [if_neg c0] at a3
      exact ⟨_, σ', a1, a2, a3⟩
    cases ht : tnm b n with
    | false =>
      rw [gcd_1 ht] at u'
      refine ⟨fs, gs, ws, 0, fun _ => 0, a, Y, by omega, Or.inr ⟨13, τ1, own, ?_, h3, RMk_le hm (by omega), h1, fun h hl => ?_⟩⟩
      · unfold g_H_give
        rw [c_o (G0 hC.1), bs, e1, xb_mk, ht, if_pos (show bI false = 0 from rfl)]
      · obtain ⟨w, σ', a1, a2, a3⟩ := u' h hl
        exact ⟨w, σ', a1, a3, Or.inl ⟨rfl, a2⟩⟩
    | true =>
      obtain ⟨g2, g3⟩ := gcd_2 ht c0
      rw [g2] at u'
      refine ⟨fs, gs, ws, 0, fun _ => 0, a, Y, by omega, Or.inr ⟨14, τ1, own, ?_, h3, RMk_le hm (by omega), h1, fun h hl => ?_⟩⟩
      · have hg1 := h1.2.2.2.2.1
        have hl16 : (gs.map Prod.fst).length ≤ 16 := hg1.1.2.2.2.1
        unfold g_H_give g_H_give_45
        rw [c_o (G0 hC.1), bs, e1, xb_mk, ht, if_neg (show ¬ bI true = 0 by decide), C0r8 (G0 hC.1) (R0_8 h1.2.1), bs, C0r10 (G0 hC.1) (R0_10 h1.2.1), bs, c_o (G140 hC.1), bs, k_find hg1.1 (G146 hC.1) (h2 ht) (tk_ok hC.2.2.2.2.2.2.1 ht) (by omega), xb_mk]
        cases hi : idx (tk b 0 n) 0 (gs.map Prod.fst) with
        | some i => rfl
        | none =>
          have hl : (gs.map Prod.fst).length = 16 := g3.resolve_right (by rw [hi]; decide)
          show ((xgR (cH sk L τ1) 0 8 0).bind _) = _
          rw [C0r8 (G0 hC.1) (R0_8 h1.2.1), bs, C6g2 (G140 hC.1), bs, hg1.1.2.2.2.2.2.1, hl, if_neg (by decide)]
      · obtain ⟨w, σ', a1, a2, a3⟩ := u' h hl
        exact ⟨w, σ', a1, a3, Or.inr ⟨rfl, a2⟩⟩
theorem B_wish (hF : 65540 < F) (hC : CV sk L own τ fs gs ws n b a Y) (hR : RV σ fs gs ws n b a Y) (hm : RMk sk L (k + 210)) (hN : n + (fs.map Prod.fst).sum ≤ N) : BT RnI (fun ci σ => (ci = 13 ∧ gI σ 0 = nI 1) ∨ (ci = 14 ∧ gI σ 0 = nI 2)) sk L τ k N (f_H_wish F c 0 (cH sk L τ)) (g_H_wish F c 0 (cH sk L τ)) (fun h => f_M_wish F 1726 (mh 1726 h σ)) := by
  have u := fun (h : px_H) (hl : 1726 ≤ h.length) => u_wish (F := F) hl hF hR
  by_cases c0 : gcd' b n ws = 0
  · obtain ⟨sk', L', τ', own', e, h1, h2, h3, h4⟩ := v_wish (F := F) (c := c) (k := k) hF hC (RMk_le hm (by omega)) c0
    refine ⟨fs, gs, ws ++ [tk b 0 n], 0, fun _ => 0, a, Y, by omega, Or.inl ⟨_, sk', L', τ', own', e, h1, h4, h2, h3, fun h hl => ?_⟩⟩
    obtain ⟨σ', e1, e2, e3⟩ := u h hl
    rw [if_pos c0] at e1 e3
    rw [c0] at e2
    exact ⟨_, σ', e1, e3, rfl, e2⟩
  · obtain ⟨τ1, e1, h1, h2, h3⟩ := v_readTapeName (F := F) (c := c) hF hC
    have u' : ∀ h : px_H, 1726 ≤ h.length → ∃ w σ', f_M_wish F 1726 (mh 1726 h σ) = some (w, mh 1726 h σ') ∧ gI σ' 0 = nI (gcd' b n ws) ∧ RV σ' fs gs ws 0 (fun _ => 0) a Y := fun h hl => by
      obtain ⟨σ', a1, a2, a3⟩ := u h hl
      rw [if_neg c0] at a3
      exact ⟨_, σ', a1, a2, a3⟩
    cases ht : tnm b n with
    | false =>
      rw [gcd_1 ht] at u'
      refine ⟨fs, gs, ws, 0, fun _ => 0, a, Y, by omega, Or.inr ⟨13, τ1, own, ?_, h3, RMk_le hm (by omega), h1, fun h hl => ?_⟩⟩
      · unfold g_H_wish
        rw [c_o (G0 hC.1), bs, e1, xb_mk, ht, if_pos (show bI false = 0 from rfl)]
      · obtain ⟨w, σ', a1, a2, a3⟩ := u' h hl
        exact ⟨w, σ', a1, a3, Or.inl ⟨rfl, a2⟩⟩
    | true =>
      obtain ⟨g2, g3⟩ := gcd_2 ht c0
      rw [g2] at u'
      refine ⟨fs, gs, ws, 0, fun _ => 0, a, Y, by omega, Or.inr ⟨14, τ1, own, ?_, h3, RMk_le hm (by omega), h1, fun h hl => ?_⟩⟩
      · have hg1 := h1.2.2.2.2.2.1
        have hl16 : ws.length ≤ 16 := hg1.2.2.2.1
        unfold g_H_wish g_H_wish_45
        rw [c_o (G0 hC.1), bs, e1, xb_mk, ht, if_neg (show ¬ bI true = 0 by decide), C0r9 (G0 hC.1) (R0_9 h1.2.1), bs, C0r10 (G0 hC.1) (R0_10 h1.2.1), bs, c_o (G143 hC.1), bs, k_find hg1 (G146 hC.1) (h2 ht) (tk_ok hC.2.2.2.2.2.2.1 ht) (by omega), xb_mk]
        cases hi : idx (tk b 0 n) 0 ws with
        | some i => rfl
        | none =>
          have hl : ws.length = 16 := g3.resolve_right (by rw [hi]; decide)
          show ((xgR (cH sk L τ1) 0 9 0).bind _) = _
          rw [C0r9 (G0 hC.1) (R0_9 h1.2.1), bs, C6g2 (G143 hC.1), bs, hg1.2.2.2.2.2.1, hl, if_neg (by decide)]
      · obtain ⟨w, σ', a1, a2, a3⟩ := u' h hl
        exact ⟨w, σ', a1, a3, Or.inr ⟨rfl, a2⟩⟩
/-- the bytes of the files, as the link reads them -/
theorem BFs_RF (hr : RF σ fs) : BFs fs (fun x => b8 (gA σ 6 x)) := fun q o n b hq => by
  obtain ⟨_, _, _, _, q5, q6, _⟩ := RF_ob hr hq
  refine ⟨q6, fun x hx => ?_⟩
  rw [← q5]
  unfold cb
  rw [if_pos hx]
theorem B_link {rc : Bool} (hK : KT c) (hF : 65540 < F) (hC : CV sk L own τ fs gs ws n b a Y) (hR : RV σ fs gs ws n b a Y) (hm : RMk sk L (k + 210)) (hN : n + (fs.map Prod.fst).sum ≤ N) (hs : (fs.map Prod.fst).sum ≤ 4096) : BT (fun (v w : Int32) _ => v = w) (fun _ _ => False) sk L τ k N (f_H_link F c 0 (bI rc) (cH sk L τ)) none (fun h => f_M_link F 1726 (bI rc) (mh 1726 h σ)) := by
  have hr := hR.2.1
  have hB : RB σ (fun x => b8 (gA σ 6 x)) := ⟨hr.2.2.1, fun _ => rfl⟩
  have hBF := BFs_RF hr
  have hrm := rmT_b (RF_FSo hr) hs
  have hm' : RMk sk L (k + rmT fs [] + 32) := RMk_le hm (by omega)
  have hL : 1815 ≤ L := hC.1.1
  obtain ⟨σ1, j, s, ll1, ad1, NA1, e1, hj, hl1, _⟩ := u_link (rc := rc) (F := F) (m := 1726) (h := cH sk L τ) (by rw [cH_len]; omega) hF hR hB hs
  obtain ⟨sk', L', τ', own', ll, ad, NA, e, h1, h2, h3, h4, lx⟩ := v_link (F := F) (c := c) (k := k) hF hK hC hm' hs hBF hl1
  refine ⟨fs, gs, ws, n, b, nI j, lnY fs s ll ad NA, hN, Or.inl ⟨_, sk', L', τ', own', e, h1, h4, h2, h3, fun h hl => ?_⟩⟩
  obtain ⟨σ2, j2, s2, ll2, ad2, NA2, e2, hj2, hl2, hv2, lx2⟩ := u_link (rc := rc) (F := F) (m := 1726) (h := h) hl hF hR hB hs
  obtain ⟨sk2, L2, τ2, own2, _, _, _, e3, _⟩ := v_link (F := F) (c := c) (k := k) hF hK hC hm' hs hBF hl2
  have ej : nI j = nI j2 := by
    rw [e] at e3
    exact (Prod.mk.inj (Option.some.inj e3)).1
  have ejn : j = j2 := (nI_eq (by omega) (by omega)).mp ej
  have es : s2 = s := hl2.1.trans hl1.1.symm
  subst ejn
  subst es
  exact ⟨_, σ2, e2, RV_Y hv2 hj (fun c0 => lnX_u (lx2 c0) (lx c0)), rfl⟩
theorem B_merge (hK : KT c) (hF : 65540 < F) (hC : CV sk L own τ fs gs ws n b a Y) (hR : RV σ fs gs ws n b a Y) (hm : RMk sk L (k + 210)) (hN : n + (fs.map Prod.fst).sum ≤ N) (hs : (fs.map Prod.fst).sum ≤ 4096) : BT Rn0 (fun _ _ => False) sk L τ k N (f_H_merge F c 0 (cH sk L τ)) none (fun h => f_M_merge F 1726 (mh 1726 h σ)) := by
  have hr := hR.2.1
  have hB : RB σ (fun x => b8 (gA σ 6 x)) := ⟨hr.2.2.1, fun _ => rfl⟩
  have hBF := BFs_RF hr
  have hrm := rmT_b (RF_FSo hr) hs
  have hm' : RMk sk L (k + rmT fs [] + 32) := RMk_le hm (by omega)
  have hL : 1815 ≤ L := hC.1.1
  obtain ⟨v1, σ1, j, s, ll1, ad1, NA1, e1, hj, hl1, _⟩ := u_merge (F := F) (m := 1726) (h := cH sk L τ) (by rw [cH_len]; omega) hF hR hB hs
  obtain ⟨v, sk', L', τ', own', ll, ad, NA, e, h1, h2, h3, h4, lx⟩ := v_merge (F := F) (c := c) (k := k) hF hK hC hm' hs hBF hl1
  obtain ⟨_, _, _, _, _, _, _, e0, _⟩ := v_link (F := F) (c := c) (k := k) hF hK hC hm' hs hBF hl1
  refine ⟨fs, gs, ws, n, b, nI j, lnY fs s ll ad NA, hN, Or.inl ⟨_, sk', L', τ', own', e, h1, h4, h2, h3, fun h hl => ?_⟩⟩
  obtain ⟨v2, σ2, j2, s2, ll2, ad2, NA2, e2, hj2, hl2, hv2, lx2⟩ := u_merge (F := F) (m := 1726) (h := h) hl hF hR hB hs
  obtain ⟨_, _, _, _, _, _, _, e3, _⟩ := v_link (F := F) (c := c) (k := k) hF hK hC hm' hs hBF hl2
  have ej : nI j = nI j2 := by
    rw [e0] at e3
    exact (Prod.mk.inj (Option.some.inj e3)).1
  have ejn : j = j2 := (nI_eq (by omega) (by omega)).mp ej
  have es : s2 = s := hl2.1.trans hl1.1.symm
  subst ejn
  subst es
  exact ⟨_, σ2, e2, RV_Y hv2 hj (fun c0 => lnX_u (lx2 c0) (lx c0)), trivial⟩
end BTI
end
