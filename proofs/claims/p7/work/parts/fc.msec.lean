/-! the reference merges: sections and sites (steps spelled out by sf/pp.py) -/
/-- a part's bytes -/
def ptZ (b : Nat → Nat) (i : Nat) : Nat := if oT b i = 8 then 0 else oZ b i
section MSE
variable {F m T : Nat} {h : px_H} {σ0 σ : px_S} {tO tn : Nat → Nat} {tb : Nat → Nat → Nat} {dr : Nat → Bool} {xs : px_NL} {od : List Nat} {on : Bool} {R : Nat → Bool} {p a N c j t i : Nat} {zf lf : Nat → Nat}
theorem MGk_w (hk : MGk σ0 T tO tn tb dr xs od on R) (hI : OWi σ0 σ c) : MGk σ T tO tn tb dr xs od on R := MGk_FR hk hI.1 (by decide) (by decide) (by decide) (by decide)
theorem MPj_w (hP : MPj σ0 T tb j t i) (hI : OWi σ0 σ c) : MPj σ T tb j t i := by
  obtain ⟨h1, h2, h3, h4, h5, h6⟩ := hP
  exact ⟨h1, h2, h3, by rw [hI.1.2.2.1 120 (by decide)]; exact h4, by rw [hI.1.2.2.1 121 (by decide)]; exact h5, h6⟩
theorem MPj_in (hk : MGk σ T tO tn tb dr xs od on R) (hP : MPj σ T tb j t i) : oT (tb t) i = 8 ∨ oP (tb t) i + oZ (tb t) i ≤ tn t := by
  obtain ⟨h1, h2, h3, h4, h5, h6⟩ := hP
  have hb := MGk_o hk h1
  rcases h6 with h6 | h6
  · unfold oK at h6
    rcases (of_decide_eq_true h6).1 with e | e
    · exact Or.inr ((OB_w hb).1.2.2.2.1 i h3 (by rw [e]; decide) (by rw [e]; decide))
    · exact Or.inl e
  · exact Or.inr (eSit_0 hb.2.2.2.1 h2 h3 h6).2.2.2.1
theorem ptZ_b (hk : MGk σ T tO tn tb dr xs od on R) (hP : MPj σ T tb j t i) : ptZ (tb t) i ≤ 65536 ∧ (0 < ptZ (tb t) i → tO t + oP (tb t) i + ptZ (tb t) i ≤ 65536) := by
  have hb := MGk_o hk hP.1
  have hn := hb.2.2.1
  have hin := MPj_in hk hP
  unfold ptZ
  by_cases e : oT (tb t) i = 8
  · rw [if_pos e]; exact ⟨by omega, fun q => absurd q (by omega)⟩
  · rw [if_neg e]
    rcases hin with w | w
    · exact absurd w e
    · generalize oP (tb t) i = x1 at *
      generalize oZ (tb t) i = x2 at *
      exact ⟨by omega, fun _ => by omega⟩
theorem q_isPart {y : Nat} (hm : m ≤ h.length) (hF : 24 < F) (hk : MGk σ T tO tn tb dr xs od on R) (hj : j < 24) (hy : y < 2 ^ 32) (hP : MPj σ T tb j t i) : f_M_isPart F m (nI j) (lN y) (mh m h σ) = some (bI (decide (oT (tb t) i = y)), mh m h σ) := by
  obtain ⟨h1, h2, h3, h4, h5, h6⟩ := hP
  have hb := MGk_o hk h1
  have hT := oT_lt (OB_lt hb) i
  unfold f_M_isPart f_M_isPart_30
  rw [Mr120 hm, bs, Ma120 hm hj, bs, h4, e_o hm, bs, O_obj hm hb, xb_mk, Mr121 hm, bs, Ma121 hm hj, bs, h5, e_o hm, bs, O_type hm hF hb h3, xb_mk]
  by_cases e : oT (tb t) i = y
  · rw [if_pos (by rw [e]), decide_eq_true e]
    exact xz_b true _
  · rw [if_neg (fun q => e ((lEQ (by omega) (by omega)).mp q)), decide_eq_false e]
    exact xz_b false _
theorem q_partSize (hm : m ≤ h.length) (hF : 24 < F) (hk : MGk σ T tO tn tb dr xs od on R) (hj : j < 24) (hP : MPj σ T tb j t i) : f_M_partSize F m (nI j) (mh m h σ) = some (nI (ptZ (tb t) i), mh m h σ) := by
  have q := q_isPart (F := F) (y := 8) hm hF hk hj (by decide) hP
  obtain ⟨h1, h2, h3, h4, h5, h6⟩ := hP
  have hb := MGk_o hk h1
  unfold f_M_partSize f_M_partSize_36 ptZ
  rw [e_o hm, bs, show (8 : Int64) = lN 8 from rfl, q, xb_mk]
  by_cases e : oT (tb t) i = 8
  · rw [decide_eq_true e, if_neg (show ¬ bI true = 0 by decide), if_pos e]
  · rw [decide_eq_false e, if_pos (show bI false = 0 from rfl), if_neg e, Mr120 hm, bs, Ma120 hm hj, bs, h4, e_o hm, bs, O_obj hm hb, xb_mk, Mr121 hm, bs, Ma121 hm hj, bs, h5, e_o hm, bs, O_size hm hF hb h3, xb_mk, lN_i]
theorem sm_ms67 {o P : Nat} (hm : m ≤ h.length) (hF : 65540 < F) (hS : MGs F m h σ0 p a N zf lf) (hA : rwN p a N zf lf + 64 * (p + 2) ≤ 8192) (h1 : 1 ≤ j) (hj : j < p) (eb : ∀ σ, OWi σ0 σ c → f_M_beginning F m (nI o) (nI i) (mh m h σ) = some (lN P, mh m h σ)) (hP : 0 < zf j → o + P + zf j ≤ 65536) : ∀ (d k f : Nat) (σ : px_S), k + d = zf j → d < f → OWi σ0 σ c → Sm m h (fun σ' => OWi σ0 σ' c) Any (f_M_mergedSection_67 F f m (nI j) (nI o) (nI i) (nI k) (mh m h σ)) := by
  have hp := hS.1
  have b1 := (rwN_b hS).1
  have b2 := plN_m (sz := szF p a zf) (show j + 1 ≤ p + 1 by omega)
  have b3 := plN_in (sz := szF p a zf) h1
  rw [show szF p a zf j = zf j from if_pos hj] at b3
  intro d
  induction d with
  | zero =>
    intro k f σ hk hf hI
    obtain ⟨f, rfl⟩ : ∃ y, f = y + 1 := ⟨f - 1, by omega⟩
    unfold f_M_mergedSection_67 f_M_mergedSection_113
    rw [e_o hm, bs, hS.2.2.2.2.2.2 σ c j hI h1 hj, xb_mk, if_pos (nI_le (by omega) (by omega))]
    exact sm_r any hI
  | succ d ih =>
    intro k f σ hk hf hI
    obtain ⟨f, rfl⟩ : ∃ y, f = y + 1 := ⟨f - 1, by omega⟩
    have hP' := hP (by omega)
    unfold f_M_mergedSection_67
    rw [e_o hm, bs, hS.2.2.2.2.2.2 σ c j hI h1 hj, xb_mk, if_neg (nI_ge (by omega) (by omega)), Mr3 hm, bs, e_o hm, bs, q_pl hm hF hS hI h1 (by omega), xb_mk, Mr6 hm, bs, e_o hm, bs, eb σ hI, xb_mk, lN_i, nI_add, nI_add, Ma6 hm (by omega), bs, nI_add, nI_add]
    exact sm_w3 hm hI (by omega) (fun σ hi => ih _ _ _ (by omega) (by omega) hi)
theorem sm_msec (hm : m ≤ h.length) (hF : 65540 < F) (hk : MGk σ0 T tO tn tb dr xs od on R) (hS : MGs F m h σ0 p a N zf lf) (hA : rwN p a N zf lf + 64 * (p + 2) ≤ 8192) (h1 : 1 ≤ j) (hj : j < p) (hP : MPj σ0 T tb j t i) (ez : zf j = ptZ (tb t) i) (hI : OWi σ0 σ c) : Sm m h (fun σ' => OWi σ0 σ' c) Any (f_M_mergedSection F m (nI j) (mh m h σ)) := by
  have hp := hS.1
  have hpz := ptZ_b hk hP
  have b1 := (rwN_b hS).1
  obtain ⟨p1, p2, p3, p4, p5, p6⟩ := MPj_w hP hI
  have hb := MGk_o (MGk_w hk hI) p1
  unfold f_M_mergedSection
  rw [Mr120 hm, bs, Ma120 hm (by omega), bs, p4, e_o hm, bs, O_obj hm hb, xb_mk, Mr121 hm, bs, Ma121 hm (by omega), bs, p5, e_o hm, bs, O_type hm (by omega) hb p3, xb_mk, e_o hm, bs, O_size hm (by omega) hb p3, xb_mk, e_o hm, bs, O_align hm (by omega) hb p3, xb_mk]
  refine sm_o hm (fun _ => sm_x (sm_rows hm hF hS hA h1 (by omega) hI) (fun _ σ _ hi => ?_))
  have hb := MGk_o (MGk_w hk hi) p1
  rw [e_o hm, bs, q_row8 hm hF hS hi, xb_mk, e_o hm, bs, O_flags hm (by omega) hb p3, xb_mk, nI_add]
  have hle : rwN p a N zf lf + 64 * j + 8 + 8 ≤ 65536 := by omega
  refine sm_put hm hF hi hle (fun σ hi => ?_)
  exact sm_ms67 hm hF hS hA h1 hj (fun σ hi => O_beg hm (by omega) (MGk_o (MGk_w hk hi) p1) p3) (by rw [ez]; exact hpz.2) (zf j) 0 F σ (Nat.zero_add _) (by have := hS.2.2.2.2.2.1 j; omega) hi
theorem sm_mt117 (hm : m ≤ h.length) (hF : 65540 < F) (hW : WP T tb dr xs) (hk : MGk σ0 T tO tn tb dr xs od on R) (hS : MGs F m h σ0 p a N zf lf) (hA : rwN p a N zf lf + 64 * (p + 2) ≤ 8192) (h1 : 1 ≤ j) (hj : j < p) (ht : t < T) (i1 : 1 ≤ i) (iS : i < oS (tb t)) (hs : isS (tb t) i = true) (ez : 24 * sN (tb t) i ≤ zf j) : ∀ (d k f : Nat) (σ : px_S), k + d = sN (tb t) i → d < f → OWi σ0 σ c → Sm m h (fun σ' => OWi σ0 σ' c) Any (f_M_mergedSites_117 F f m (nI j) (nI t) (nI (tO t)) (nI i) (nI k) (mh m h σ)) := by
  have hp := hS.1
  have b1 := (rwN_b hS).1
  have b2 := plN_m (sz := szF p a zf) (show j + 1 ≤ p + 1 by omega)
  have b3 := plN_in (sz := szF p a zf) h1
  rw [show szF p a zf j = zf j from if_pos hj] at b3
  have hzb := hS.2.2.2.2.2.1 j
  have hT := hW.1
  intro d
  induction d with
  | zero =>
    intro k f σ hkk hf hI
    obtain ⟨f, rfl⟩ : ∃ y, f = y + 1 := ⟨f - 1, by omega⟩
    have hb := MGk_o (MGk_w hk hI) ht
    unfold f_M_mergedSites_117 f_M_mergedSites_222
    rw [e_o hm, bs, O_sN hm (by omega) hb i1 iS hs, xb_mk, if_pos (nI_le (by omega) (by omega))]
    exact sm_r any hI
  | succ d ih =>
    intro k f σ hkk hf hI
    obtain ⟨f, rfl⟩ : ∃ y, f = y + 1 := ⟨f - 1, by omega⟩
    have hk1 := MGk_w hk hI
    have hb := MGk_o hk1 ht
    have hkN : k < sN (tb t) i := by omega
    have hsp := OB_sP hb i1 iS hs hkN
    have hok := (sOK_0w ((eSit_0 hb.2.2.2.1 i1 iS hs).2.2.2.2.2 k hkN)).2.1
    have hM := w2_M (OB_w hb)
    have fin : ∀ {v : Int64}, Sm m h (fun σ' => OWi σ0 σ' c) Any (f_M_mergedSites_212 F (f_M_mergedSites_117 F f) m (nI j) (nI t) (nI (tO t)) (nI i) (nI k) m (nI (plN (szF p a zf) j + 24 * k + 12)) v (mh m h σ)) := fun {v} => by
      unfold f_M_mergedSites_212
      rw [nI_add]
      have hle : plN (szF p a zf) j + 24 * k + 12 + 4 ≤ 65536 := by
        generalize plN (szF p a zf) j = x1 at *
        generalize plN (szF p a zf) (j + 1) = x2 at *
        generalize plN (szF p a zf) (p + 1) = x3 at *
        generalize sN (tb t) i = x4 at *
        omega
      exact sm_put hm hF hI hle (fun σ hi => ih _ _ _ (by omega) (by omega) hi)
    unfold f_M_mergedSites_117
    rw [e_o hm, bs, O_sN hm (by omega) hb i1 iS hs, xb_mk, if_neg (nI_ge (by omega) (by omega)), e_o hm, bs, O_site hm (by omega) hb iS, xb_mk, e_o hm, bs, nI_add, O_sY hm (by omega) hb hsp, xb_mk, lN_i, e_o hm, bs, q_pl hm hF hS hI h1 (by omega), xb_mk, show nI 24 * nI k = nI (24 * k) from (Int32.ofNat_mul _ _).symm, nI_add, nI_add]
    by_cases c0 : sY (tb t) i k = 0
    · rw [if_pos (by rw [c0]; rfl)]
      exact fin
    · rw [if_neg (nI_nz (by omega) c0), e_o hm, bs, O_bind hm (by omega) hb hok, xb_mk]
      by_cases c1 : yB (tb t) (sY (tb t) i k) = 0
      · rw [if_pos (by rw [c1]; rfl), Mr118 hm, bs, show nI 64 * nI t = nI (64 * t) from (Int32.ofNat_mul _ _).symm, nI_add, Ma118 hm (by omega), bs]
        exact fin
      · have hyB : yB (tb t) (sY (tb t) i k) < 2 ^ 31 := by
          have := OB_y hb (by omega) hok
          unfold yOK at this
          have := (of_decide_eq_true this).1
          omega
        rw [if_neg (nI_nz hyB c1), Mr119 hm, bs, e_o hm, bs, O_name hm (by omega) hb hk1.1.2.2 (by omega) hok c1, xb_mk]
        have hmem := hW.2.2.2.1 t _ ht (show 1 ≤ sY (tb t) i k by omega) hok c1
        have hx : xs.length ≤ 4096 := by have := hk1.1.2.2.1.2.1; rw [List.length_map] at this; exact this
        cases e : idx (yT (tb t) (sY (tb t) i k)) 0 (xs.map Prod.fst) with
        | none =>
          have := idx_iff.mpr hmem
          rw [e] at this
          cases this
        | some q =>
          have hq := (idx_lt e).2
          rw [List.length_map, Nat.zero_add] at hq
          rw [show tdA (some q) = nI q from rfl, Ma119 hm (by omega), bs]
          exact fin
theorem sm_mt67 {o P t1 : Nat} (hm : m ≤ h.length) (hF : 65540 < F) (hS : MGs F m h σ0 p a N zf lf) (hA : rwN p a N zf lf + 64 * (p + 2) ≤ 8192) (h1 : 1 ≤ j) (hj : j < p) (eb : ∀ σ, OWi σ0 σ c → f_M_beginning F m (nI o) (nI i) (mh m h σ) = some (lN P, mh m h σ)) (hP : 0 < zf j → o + P + zf j ≤ 65536) (hK : ∀ σ, OWi σ0 σ c → Sm m h (fun σ' => OWi σ0 σ' c) Any (f_M_mergedSites_114 F m (nI j) (nI t1) (nI o) (nI i) (mh m h σ))) : ∀ (d k f : Nat) (σ : px_S), k + d = zf j → d < f → OWi σ0 σ c → Sm m h (fun σ' => OWi σ0 σ' c) Any (f_M_mergedSites_67 F f m (nI j) (nI t1) (nI o) (nI i) (nI k) (mh m h σ)) := by
  have hp := hS.1
  have b1 := (rwN_b hS).1
  have b2 := plN_m (sz := szF p a zf) (show j + 1 ≤ p + 1 by omega)
  have b3 := plN_in (sz := szF p a zf) h1
  rw [show szF p a zf j = zf j from if_pos hj] at b3
  intro d
  induction d with
  | zero =>
    intro k f σ hk hf hI
    obtain ⟨f, rfl⟩ : ∃ y, f = y + 1 := ⟨f - 1, by omega⟩
    unfold f_M_mergedSites_67
    rw [e_o hm, bs, hS.2.2.2.2.2.2 σ c j hI h1 hj, xb_mk, if_pos (nI_le (by omega) (by omega))]
    exact hK σ hI
  | succ d ih =>
    intro k f σ hk hf hI
    obtain ⟨f, rfl⟩ : ∃ y, f = y + 1 := ⟨f - 1, by omega⟩
    have hP' := hP (by omega)
    unfold f_M_mergedSites_67
    rw [e_o hm, bs, hS.2.2.2.2.2.2 σ c j hI h1 hj, xb_mk, if_neg (nI_ge (by omega) (by omega)), Mr3 hm, bs, e_o hm, bs, q_pl hm hF hS hI h1 (by omega), xb_mk, Mr6 hm, bs, e_o hm, bs, eb σ hI, xb_mk, lN_i, nI_add, nI_add, Ma6 hm (by omega), bs, nI_add, nI_add]
    exact sm_w3 hm hI (by omega) (fun σ hi => ih _ _ _ (by omega) (by omega) hi)
theorem sm_msit (hm : m ≤ h.length) (hF : 65540 < F) (hW : WP T tb dr xs) (hk : MGk σ0 T tO tn tb dr xs od on R) (hS : MGs F m h σ0 p a N zf lf) (hA : rwN p a N zf lf + 64 * (p + 2) ≤ 8192) (h1 : 1 ≤ j) (hj : j < p) (hP : MPj σ0 T tb j t i) (ez : zf j = ptZ (tb t) i) (h4 : oT (tb t) i = 4) (hI : OWi σ0 σ c) : Sm m h (fun σ' => OWi σ0 σ' c) Any (f_M_mergedSites F m (nI j) (mh m h σ)) := by
  have hp := hS.1
  have hpz := ptZ_b hk hP
  have hT := hW.1
  obtain ⟨p1, p2, p3, p4, p5, p6⟩ := MPj_w hP hI
  have hs : isS (tb t) i = true := by
    rcases p6 with p6 | p6
    · unfold oK at p6
      rcases (of_decide_eq_true p6).1 with e | e <;> (rw [h4] at e; cases e)
    · exact p6
  have hb := MGk_o (MGk_w hk hI) p1
  have hIs := (eSit_0 hb.2.2.2.1 p2 p3 hs).1
  have h24 := (OB_w hb).1.2.1.2
  have hzN : ptZ (tb t) i = oZ (tb t) i := by unfold ptZ; rw [if_neg (by rw [h4]; decide)]
  have hsn : 24 * sN (tb t) i ≤ zf j := by rw [ez, hzN]; unfold sN; omega
  have hi24 : 24 * t + oI (tb t) i < 1536 := by omega
  unfold f_M_mergedSites
  rw [Mr120 hm, bs, Ma120 hm (by omega), bs, p4, e_o hm, bs, O_obj hm hb, xb_mk, Mr121 hm, bs, Ma121 hm (by omega), bs, p5, e_o hm, bs, O_size hm (by omega) hb p3, xb_mk, Mg123 hm, bs, Mr117 hm, bs, e_o hm, bs, O_info hm (by omega) hb p3, xb_mk, lN_i, show nI 24 * nI t = nI (24 * t) from (Int32.ofNat_mul _ _).symm, nI_add, Ma117 hm hi24, bs]
  refine sm_o hm (fun _ => sm_x (sm_rows hm hF hS hA h1 (by omega) hI) (fun _ σ _ hi => ?_))
  refine sm_mt67 hm hF hS hA h1 hj (fun σ hi => O_beg hm (by omega) (MGk_o (MGk_w hk hi) p1) p3) (by rw [ez]; exact hpz.2) (fun σ hi => ?_) (zf j) 0 F σ (Nat.zero_add _) (by have := hS.2.2.2.2.2.1 j; omega) hi
  unfold f_M_mergedSites_114
  have hzb := hS.2.2.2.2.2.1 j
  exact sm_mt117 hm hF hW hk hS hA h1 hj p1 p2 p3 hs hsn (sN (tb t) i) 0 F σ (Nat.zero_add _) (by omega) hi
end MSE
