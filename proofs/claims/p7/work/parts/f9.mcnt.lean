/-! the reference merges: it counts parts and symbols (steps spelled out by sf/pp.py) -/
/-- what a merge reads of the link before it -/
def MGk (σ : px_S) (T : Nat) (tO tn : Nat → Nat) (tb : Nat → Nat → Nat) (dr : Nat → Bool) (xs : px_NL) (od : List Nat) (on : Bool) (R : Nat → Bool) : Prop := RWd σ T tO tn tb dr xs ∧ RSt σ on R ∧ RO σ od ∧ gI σ 14 = nI T
abbrev mgF (σ0 σ : px_S) : Prop := FR [123, 126] [] [117, 120, 121] [] σ0 σ
/-- part j: section i of object t -/
def MPj (σ : px_S) (T : Nat) (tb : Nat → Nat → Nat) (j t i : Nat) : Prop := t < T ∧ 1 ≤ i ∧ i < oS (tb t) ∧ gA σ 120 j = nI t ∧ gA σ 121 j = nI i ∧ (oK (tb t) i = true ∨ isS (tb t) i = true)
def MPt (σ : px_S) (T : Nat) (tb : Nat → Nat → Nat) (p : Nat) : Prop := 1 ≤ p ∧ p ≤ 22 ∧ gI σ 123 = nI p ∧ (∃ z, gI σ 126 = bI z) ∧ ∀ j, 1 ≤ j → j < p → ∃ t i, MPj σ T tb j t i
section MCN
variable {F m T t i : Nat} {h : px_H} {σ0 σ : px_S} {tO tn : Nat → Nat} {tb : Nat → Nat → Nat} {dr : Nat → Bool} {xs : px_NL} {od : List Nat} {on : Bool} {R : Nat → Bool} {I : px_S → Prop}
theorem MGk_FR {σ' : px_S} {x1 x2 x3 x4 : List Nat} (hk : MGk σ T tO tn tb dr xs od on R) (f : FR x1 x2 x3 x4 σ σ') (h1 : 20 ∉ x1 ∧ 68 ∉ x1 ∧ 48 ∉ x1 ∧ 14 ∉ x1) (h3 : ∀ k, k ∈ [6, 9, 17, 21, 22, 23, 24, 25, 26, 27, 28, 65, 73] → k ∉ x3) (h4 : 66 ∉ x3 ∧ 49 ∉ x3) (h5 : 30 ∉ x4) : MGk σ' T tO tn tb dr xs od on R :=
  ⟨RWd_FR hk.1 f h1.1 h3 h5, RSt_FR hk.2.1 f h1.2.1 h4.1, RO_FR hk.2.2.1 f h1.2.2.1 h4.2, (f.1 14 h1.2.2.2).trans hk.2.2.2⟩
theorem MGk_g (hk : MGk σ0 T tO tn tb dr xs od on R) (f : mgF σ0 σ) : MGk σ T tO tn tb dr xs od on R := MGk_FR hk f (by decide) (by decide) (by decide) (by decide)
theorem MGk_o (hk : MGk σ T tO tn tb dr xs od on R) (ht : t < T) : OB σ t (tO t) (tn t) (tb t) := hk.1.1 t ht
/-- a part comes -/
theorem sm_part {p : Nat} (hm : m ≤ h.length) (hT : T ≤ 64) (ht : t < T) (h1 : 1 ≤ i) (hi : i < 24) (hiS : i < oS (tb t)) (hKS : oK (tb t) i = true ∨ isS (tb t) i = true) (hf : mgF σ0 σ) (hP : MPt σ T tb p) : Sm m h (fun σ' => mgF σ0 σ' ∧ ∃ p, MPt σ' T tb p) Any (f_M_part F m (nI t) (nI i) (mh m h σ)) := by
  obtain ⟨p1, p2, e123, hz, hJ⟩ := hP
  unfold f_M_part
  rw [Mg123 hm, bs, e123]
  by_cases c : p = 22
  · rw [if_pos (by rw [c]), show nI 1 = bI true from rfl, e_pZ hm rfl, bs]
    exact sm_r any ⟨FR_trans hf (FR_mono (FR_I _ _ _) (by decide) (by decide) (by decide) (by decide)), p, p1, p2, e123, ⟨true, rfl⟩, hJ⟩
  · rw [if_neg (fun q => c ((nI_eq (by omega) (by decide)).mp q)), Mr117 hm, bs, bs, show nI 24 * nI t = nI (24 * t) from (Int32.ofNat_mul _ _).symm, nI_add, Ms117 hm (by omega), bs, Mr120 hm, bs, Mg123 hm, bs, gI_sA, e123, Ms120 hm (by omega), bs, Mr121 hm, bs, Mg123 hm, bs, gI_sA, gI_sA, e123, Ms121 hm (by omega), bs, Mg123 hm, bs, gI_sA, gI_sA, gI_sA, e123, nI_add, Mp123 hm, bs]
    refine sm_r any ⟨FR_trans (FR_trans (FR_trans (FR_trans hf (FR_mono (FR_A _ _ _) (by decide) (by decide) (by decide) (by decide))) (FR_mono (FR_A _ _ _) (by decide) (by decide) (by decide) (by decide))) (FR_mono (FR_A _ _ _) (by decide) (by decide) (by decide) (by decide))) (FR_mono (FR_I _ _ _) (by decide) (by decide) (by decide) (by decide)), p + 1, by omega, by omega, by rw [gI_sI, if_pos rfl], ?_, fun j j1 j2 => ?_⟩
    · obtain ⟨z, ez⟩ := hz
      exact ⟨z, by rw [gI_sI, if_neg (by decide)]; exact ez⟩
    · by_cases e : j = p
      · subst e
        refine ⟨t, i, ht, h1, hiS, ?_, ?_, hKS⟩
        · simp [gA_sI, gA_sA, upd]
        · simp [gA_sI, gA_sA, upd]
      · obtain ⟨t', i', w1, w2, w3, w4, w5, w6⟩ := hJ j j1 (by omega)
        refine ⟨t', i', w1, w2, w3, ?_, ?_, w6⟩
        · simp [gA_sI, gA_sA, upd, e, w4]
        · simp [gA_sI, gA_sA, upd, e, w5]
abbrev mgP (σ0 : px_S) (T : Nat) (tb : Nat → Nat → Nat) (σ : px_S) : Prop := mgF σ0 σ ∧ ∃ p, MPt σ T tb p
theorem sm_cp60 {k12 : Nat → Int32 → px_H → Option (Unit × px_H)} (hm : m ≤ h.length) (hF : 24 < F) (hT : T ≤ 64) (ht : t < T) (hk : MGk σ0 T tO tn tb dr xs od on R) (hK : ∀ σ, mgP σ0 T tb σ → Sm m h (mgP σ0 T tb) Any (k12 m (nI (t + 1)) (mh m h σ))) : ∀ (d i f : Nat) (σ : px_S), i + d = oS (tb t) → 1 ≤ i → d < f → mgP σ0 T tb σ → Sm m h (mgP σ0 T tb) Any (f_M_countParts_60 F k12 f m (nI t) (nI (tO t)) (nI i) (mh m h σ)) := by
  have hS24 := (OB_w (MGk_o hk ht)).1.2.1.2
  have he := (MGk_o hk ht).2.2.2.1
  intro d
  induction d with
  | zero =>
    intro i f σ hi h1 hf hI
    obtain ⟨f, rfl⟩ : ∃ y, f = y + 1 := ⟨f - 1, by omega⟩
    have hb := MGk_o (MGk_g hk hI.1) ht
    unfold f_M_countParts_60 f_M_countParts_105
    rw [e_o hm, bs, O_sec hm (by omega) hb, xb_mk, if_pos (nI_le (by omega) (by omega)), nI_add]
    exact hK σ hI
  | succ d ih =>
    intro i f σ hi h1 hf hI
    obtain ⟨f, rfl⟩ : ∃ y, f = y + 1 := ⟨f - 1, by omega⟩
    have hk1 := MGk_g hk hI.1
    have hb := MGk_o hk1 ht
    have hiS : i < oS (tb t) := by omega
    have go := fun σ hi => ih (i + 1) f σ (by omega) (by omega) (by omega) hi
    unfold f_M_countParts_60 f_M_countParts_99
    rw [e_o hm, bs, O_sec hm (by omega) hb, xb_mk, if_neg (nI_ge (by omega) (by omega)), e_o hm, bs, O_isS hm (by omega) hb hiS, xb_mk, nI_add]
    cases hs : isS (tb t) i with
    | false =>
      rw [if_pos (show bI false = 0 from rfl)]
      exact go σ hI
    | true =>
      have h0 := (eSit_0 he h1 hiS hs).1
      rw [if_neg (show ¬ bI true = 0 by decide), e_o hm, bs, O_info hm (by omega) hb hiS, xb_mk, lN_i, e_o hm, bs, q_stays hm (by omega) hb hk1.1.2.1 hk1.2.1 h0, xb_mk]
      refine sm_i (fun _ => go σ hI) (fun _ => ?_)
      obtain ⟨hf1, p, hP⟩ := hI
      exact sm_o hm (fun _ => sm_x (sm_part hm hT ht h1 (by omega) hiS (Or.inr hs) hf1 hP) (fun _ σ _ hi => go σ hi))
theorem sm_cp28 {k12 : Nat → Int32 → px_H → Option (Unit × px_H)} (hm : m ≤ h.length) (hF : 65540 < F) (hT : T ≤ 64) (ht : t < T) (hk : MGk σ0 T tO tn tb dr xs od on R) (hK : ∀ σ, mgP σ0 T tb σ → Sm m h (mgP σ0 T tb) Any (k12 m (nI (t + 1)) (mh m h σ))) : ∀ (d i f : Nat) (σ : px_S), i + d = oS (tb t) → 1 ≤ i → d < f → mgP σ0 T tb σ → Sm m h (mgP σ0 T tb) Any (f_M_countParts_28 F k12 f m (nI t) (nI (tO t)) (nI i) (mh m h σ)) := by
  have hS24 := (OB_w (MGk_o hk ht)).1.2.1.2
  intro d
  induction d with
  | zero =>
    intro i f σ hi h1 hf hI
    obtain ⟨f, rfl⟩ : ∃ y, f = y + 1 := ⟨f - 1, by omega⟩
    have hb := MGk_o (MGk_g hk hI.1) ht
    unfold f_M_countParts_28 f_M_countParts_58
    rw [e_o hm, bs, O_sec hm (by omega) hb, xb_mk, if_pos (nI_le (by omega) (by omega))]
    exact sm_cp60 hm (by omega) hT ht hk hK (oS (tb t) - 1) 1 F σ (by omega) (Nat.le_refl _) (by omega) hI
  | succ d ih =>
    intro i f σ hi h1 hf hI
    obtain ⟨f, rfl⟩ : ∃ y, f = y + 1 := ⟨f - 1, by omega⟩
    have hk1 := MGk_g hk hI.1
    have hb := MGk_o hk1 ht
    have hiS : i < oS (tb t) := by omega
    have go := fun σ hi => ih (i + 1) f σ (by omega) (by omega) (by omega) hi
    unfold f_M_countParts_28 f_M_countParts_52
    rw [e_o hm, bs, O_sec hm (by omega) hb, xb_mk, if_neg (nI_ge (by omega) (by omega)), e_o hm, bs, q_stays hm (by omega) hb hk1.1.2.1 hk1.2.1 hiS, xb_mk, nI_add]
    cases hs : sta tb dr on R t i with
    | false =>
      rw [if_pos (show bI false = 0 from rfl)]
      exact go σ hI
    | true =>
      rw [if_neg (show ¬ bI true = 0 by decide)]
      have hk' : oK (tb t) i = true := by
        unfold sta at hs
        rw [Bool.and_eq_true] at hs
        exact hs.1
      obtain ⟨hf1, p, hP⟩ := hI
      exact sm_o hm (fun _ => sm_x (sm_part hm hT ht h1 (by omega) hiS (Or.inl hk') hf1 hP) (fun _ σ _ hi => go σ hi))
theorem sm_cp12 (hm : m ≤ h.length) (hF : 65540 < F) (hT : T ≤ 64) (hk : MGk σ0 T tO tn tb dr xs od on R) : ∀ (d t f : Nat) (σ : px_S), t + d = T → d < f → mgP σ0 T tb σ → Sm m h (mgP σ0 T tb) Any (f_M_countParts_12 F f m (nI t) (mh m h σ)) := by
  intro d
  induction d with
  | zero =>
    intro t f σ ht hf hI
    obtain ⟨f, rfl⟩ : ∃ y, f = y + 1 := ⟨f - 1, by omega⟩
    unfold f_M_countParts_12 f_M_countParts_111
    rw [Mg14 hm, bs, (MGk_g hk hI.1).2.2.2, if_pos (nI_le (by omega) (by omega))]
    exact sm_r any hI
  | succ d ih =>
    intro t f σ ht hf hI
    obtain ⟨f, rfl⟩ : ∃ y, f = y + 1 := ⟨f - 1, by omega⟩
    have hk1 := MGk_g hk hI.1
    have hb := MGk_o hk1 (show t < T by omega)
    have hS := (OB_w hb).1.2.1
    unfold f_M_countParts_12
    rw [Mg14 hm, bs, hk1.2.2.2, if_neg (nI_ge (by omega) (by omega)), e_o hm, bs, O_obj hm hb, xb_mk]
    exact sm_cp28 hm hF hT (by omega) hk (fun σ hi => ih _ _ _ (by omega) (by omega) hi) (oS (tb t) - 1) 1 F σ (by omega) (Nat.le_refl _) (by omega) hI
theorem sm_countParts (hm : m ≤ h.length) (hF : 65540 < F) (hT : T ≤ 64) (hk : MGk σ0 T tO tn tb dr xs od on R) : Sm m h (mgP σ0 T tb) Any (f_M_countParts F m (mh m h σ0)) := by
  unfold f_M_countParts
  rw [Mp123 hm, bs, show nI 0 = bI false from rfl, e_pZ hm rfl, bs]
  refine sm_cp12 hm hF hT hk T 0 F _ (Nat.zero_add _) (by omega) ⟨FR_trans (FR_mono (FR_I _ _ _) (by decide) (by decide) (by decide) (by decide)) (FR_mono (FR_I _ _ _) (by decide) (by decide) (by decide) (by decide)), 1, Nat.le_refl _, by decide, rfl, ⟨false, rfl⟩, fun j h1 h2 => by omega⟩
end MCN
