/-! the reference merges: symbols and names (steps spelled out by sf/pp.py) -/
section MMS
variable {F m T : Nat} {h : px_H} {σ0 σ : px_S} {tO tn : Nat → Nat} {tb : Nat → Nat → Nat} {dr : Nat → Bool} {xs : px_NL} {od : List Nat} {on : Bool} {R : Nat → Bool} {p a N c j t i : Nat} {zf lf : Nat → Nat}
theorem sm_ml18 {k2 : Nat → Int32 → px_H → Option (Unit × px_H)} (hm : m ≤ h.length) (hF : 65540 < F) (hT : T ≤ 64) (hk : MGk σ0 T tO tn tb dr xs od on R) (hS : MGs F m h σ0 p a N zf lf) (hA : rwN p a N zf lf + 64 * (p + 2) ≤ 8192) (hL : MLo σ0 tb T 0 a) (ht : t < T) (hK : ∀ σ, OWi σ0 σ c → Sm m h (fun σ' => OWi σ0 σ' c) Any (k2 m (nI (t + 1)) (mh m h σ))) : ∀ (d k f : Nat) (σ : px_S), k + d = pkM (oM (tb t)) → 1 ≤ k → d < f → OWi σ0 σ c → Sm m h (fun σ' => OWi σ0 σ' c) Any (f_M_mergedLocals_18 F k2 f m (nI t) (nI (tO t)) (nI k) (mh m h σ)) := by
  have ha := hS.1.2.2.1
  have hM := w2_M (OB_w (MGk_o hk ht))
  obtain ⟨m1, m2, m3⟩ := pkM_1 (oM (tb t))
  have hMx : pkM (oM (tb t)) ≤ 64 := by unfold pkM; split <;> omega
  intro d
  induction d with
  | zero =>
    intro k f σ hkk h1 hf hI
    obtain ⟨f, rfl⟩ : ∃ y, f = y + 1 := ⟨f - 1, by omega⟩
    have hb := MGk_o (MGk_w hk hI) ht
    unfold f_M_mergedLocals_18 f_M_mergedLocals_195
    rw [e_o hm, bs, O_many hm (by omega) hb, xb_mk, if_pos (nI_le (by omega) (by omega)), nI_add]
    exact hK σ hI
  | succ d ih =>
    intro k f σ hkk h1 hf hI
    obtain ⟨f, rfl⟩ : ∃ y, f = y + 1 := ⟨f - 1, by omega⟩
    have hk1 := MGk_w hk hI
    have hb := MGk_o hk1 ht
    have hkM := m3 k h1 (by omega)
    have hyo := OB_y hb h1 hkM
    unfold yOK at hyo
    have hyo := of_decide_eq_true hyo
    have hyB : yB (tb t) k < 2 ^ 31 := by omega
    have h24 := (OB_w hb).1.2.1.2
    have hyW : yW (tb t) k < 2 ^ 31 := by rcases hyo.2.1 with e | e | e | e <;> omega
    have hn := hb.2.2.1
    have hyP := w2_y (OB_w hb) hkM
    have go := fun σ hi => ih (k + 1) f σ (by omega) (by omega) (by omega) hi
    unfold f_M_mergedLocals_18 f_M_mergedLocals_189
    rw [e_o hm, bs, O_many hm (by omega) hb, xb_mk, if_neg (nI_ge (by omega) (by omega)), e_o hm, bs, O_bind hm (by omega) hb hkM, xb_mk, nI_add]
    by_cases c0 : yB (tb t) k = 0
    · obtain ⟨v, v1, v2⟩ := hL t k (Or.inl ht) h1 hkM c0
      have e118 : gA σ 118 (64 * t + k) = nI v := by rw [hI.1.2.2.1 118 (by decide)]; exact v2
      have f180 : ∀ {s2 s3 : Int32} {s4 : Int64}, Sm m h (fun σ' => OWi σ0 σ' c) Any (f_M_mergedLocals_180 F k2 (f_M_mergedLocals_18 F k2 f) m (nI t) (nI (tO t)) (nI k) m (nI v) s2 s3 s4 (mh m h σ)) := fun {s2 s3 s4} => by
        unfold f_M_mergedLocals_180 f_M_mergedLocals_189
        rw [e_o hm, bs, O_ysize hm (by omega) hb hkM, xb_mk, nI_add]
        exact sm_o hm (fun _ => sm_x (sm_mgsy hm hF hS hA (by omega) hI) (fun _ σ _ hi => go σ hi))
      have f174 : ∀ {s2 s3 : Int32}, Sm m h (fun σ' => OWi σ0 σ' c) Any (f_M_mergedLocals_174 F k2 (f_M_mergedLocals_18 F k2 f) m (nI t) (nI (tO t)) (nI k) m (nI v) s2 s3 (mh m h σ)) := fun {s2 s3} => by
        unfold f_M_mergedLocals_174
        rw [e_o hm, bs, O_value hm (by omega) hb hkM, xb_mk]
        exact f180
      have f86 : ∀ {a5 s0 : Int32}, (a5 = 0 ∧ s0 = 0) ∨ yW (tb t) k < 24 → Sm m h (fun σ' => OWi σ0 σ' c) Any (f_M_mergedLocals_86 F k2 (f_M_mergedLocals_18 F k2 f) m (nI t) (nI (tO t)) (nI k) (nI (yW (tb t) k)) a5 s0 (mh m h σ)) := fun {a5 s0} hw => by
        unfold f_M_mergedLocals_86 f_M_mergedLocals_150
        rw [Mr118 hm, bs, show nI 64 * nI t = nI (64 * t) from (Int32.ofNat_mul _ _).symm, nI_add, Ma118 hm (by omega), bs, e118, Mr6 hm, bs, e_o hm, bs, O_sym hm (by omega) hb, xb_mk, nI_add, Ma6 hm (by omega), bs, show nI 24 * nI t = nI (24 * t) from (Int32.ofNat_mul _ _).symm, nI_add]
        rcases hw with ⟨w1, w2⟩ | w
        · rw [if_pos w2, if_pos w1, if_pos w2]
          exact f174
        · have hix : 24 * t + yW (tb t) k < 1536 := by omega
          refine sm_i (fun c1 => ?_) (fun c1 => ?_)
          · refine sm_i (fun _ => ?_) (fun _ => ?_)
            · rw [if_pos c1]
              exact f174
            · rw [Mr117 hm, bs, Ma117 hm hix, bs, if_pos c1]
              exact f174
          · rw [if_neg c1, Mr65 hm, bs, Ma65 hm hix, bs]
            exact sm_i (fun _ => f174) (fun _ => f180)
      have f63 : Sm m h (fun σ' => OWi σ0 σ' c) Any (f_M_mergedLocals_63 F k2 (f_M_mergedLocals_18 F k2 f) m (nI t) (nI (tO t)) (nI k) (nI (yW (tb t) k)) (mh m h σ)) := by
        unfold f_M_mergedLocals_63 f_M_mergedLocals_64 f_M_mergedLocals_85
        rw [if_pos (show nI 0 = 0 from rfl)]
        exact f86 (Or.inl ⟨rfl, rfl⟩)
      rw [if_pos (by rw [c0]; rfl), e_o hm, bs, O_where hm (by omega) hb hkM, xb_mk]
      refine sm_i (fun _ => f63) (fun w0 => sm_i (fun _ => f63) (fun w1 => ?_))
      have w24 : yW (tb t) k < 24 := Nat.lt_of_not_le (fun q => w1 (nI_le q hyW))
      have w1' : 0 < yW (tb t) k := by
        apply Nat.pos_of_ne_zero
        intro q
        apply w0
        rw [q]
        decide
      have wS : yW (tb t) k < oS (tb t) := by rcases hyo.2.1 with e | e | e | e <;> omega
      unfold f_M_mergedLocals_64 f_M_mergedLocals_85
      rw [if_neg (show ¬ nI 1 = 0 by decide), e_o hm, bs, q_stays hm (by omega) hb hk1.1.2.1 hk1.2.1 wS, xb_mk]
      exact sm_i (fun _ => f86 (Or.inr w24)) (fun _ => f86 (Or.inr w24))
    · rw [if_neg (nI_nz hyB c0)]
      exact go σ hI
theorem sm_ml2 (hm : m ≤ h.length) (hF : 65540 < F) (hT : T ≤ 64) (hk : MGk σ0 T tO tn tb dr xs od on R) (hS : MGs F m h σ0 p a N zf lf) (hA : rwN p a N zf lf + 64 * (p + 2) ≤ 8192) (hL : MLo σ0 tb T 0 a) : ∀ (d t f : Nat) (σ : px_S), t + d = T → d < f → OWi σ0 σ c → Sm m h (fun σ' => OWi σ0 σ' c) Any (f_M_mergedLocals_2 F f m (nI t) (mh m h σ)) := by
  intro d
  induction d with
  | zero =>
    intro t f σ ht hf hI
    obtain ⟨f, rfl⟩ : ∃ y, f = y + 1 := ⟨f - 1, by omega⟩
    unfold f_M_mergedLocals_2 f_M_mergedLocals_201
    rw [Mg14 hm, bs, (MGk_w hk hI).2.2.2, if_pos (nI_le (by omega) (by omega))]
    exact sm_r any hI
  | succ d ih =>
    intro t f σ ht hf hI
    obtain ⟨f, rfl⟩ : ∃ y, f = y + 1 := ⟨f - 1, by omega⟩
    have hk1 := MGk_w hk hI
    have hb := MGk_o hk1 (show t < T by omega)
    have hM := w2_M (OB_w hb)
    obtain ⟨m1, m2, m3⟩ := pkM_1 (oM (tb t))
    have hMx : pkM (oM (tb t)) ≤ 64 := by unfold pkM; split <;> omega
    unfold f_M_mergedLocals_2
    rw [Mg14 hm, bs, hk1.2.2.2, if_neg (nI_ge (by omega) (by omega)), e_o hm, bs, O_obj hm hb, xb_mk]
    exact sm_ml18 hm hF hT hk hS hA hL (by omega) (fun σ hi => ih _ _ _ (by omega) (by omega) hi) (pkM (oM (tb t)) - 1) 1 F σ (by omega) (Nat.le_refl _) (by omega) hI
theorem sm_mdef {k s : Nat} (hm : m ≤ h.length) (hF : 65540 < F) (hT : T ≤ 64) (hk : MGk σ0 T tO tn tb dr xs od on R) (hS : MGs F m h σ0 p a N zf lf) (hA : rwN p a N zf lf + 64 * (p + 2) ≤ 8192) (hk64 : k ≤ 64) (ht : t < T) (h1 : 1 ≤ s) (hs : s < oM (tb t)) (hw : yW (tb t) s ≠ 65522) (hI : OWi σ0 σ c) : Sm m h (fun σ' => OWi σ0 σ' c) Any (f_M_mergedDefinition F m (nI k) (nI t) (nI s) (mh m h σ)) := by
  have hb := MGk_o (MGk_w hk hI) ht
  have hyo := OB_y hb h1 hs
  unfold yOK at hyo
  have hyo := of_decide_eq_true hyo
  have h24 := (OB_w hb).1.2.1.2
  have hn := hb.2.2.1
  have hyP := w2_y (OB_w hb) hs
  have fin : ∀ {s2 s3 : Int32}, Sm m h (fun σ' => OWi σ0 σ' c) Any (f_M_mergedDefinition_62 F m (nI s) (nI (tO t)) m (nI k) s2 s3 (mh m h σ)) := fun {s2 s3} => by
    unfold f_M_mergedDefinition_62
    rw [e_o hm, bs, O_value hm (by omega) hb hs, xb_mk, e_o hm, bs, O_ysize hm (by omega) hb hs, xb_mk]
    exact sm_o hm (fun _ => sm_x (sm_mgsy hm hF hS hA hk64 hI) (fun _ σ _ hi => sm_r any hi))
  unfold f_M_mergedDefinition
  rw [e_o hm, bs, O_obj hm hb, xb_mk, e_o hm, bs, O_where hm (by omega) hb hs, xb_mk, Mr6 hm, bs, e_o hm, bs, O_sym hm (by omega) hb, xb_mk, nI_add, Ma6 hm (by omega), bs]
  refine sm_i (fun _ => fin) (fun c1 => ?_)
  have hix : 24 * t + yW (tb t) s < 1536 := by
    have : yW (tb t) s ≠ 65521 := fun q => c1 (by rw [q]; rfl)
    rcases hyo.2.1 with e | e | e | e <;> omega
  rw [Mr117 hm, bs, show nI 24 * nI t = nI (24 * t) from (Int32.ofNat_mul _ _).symm, nI_add, Ma117 hm hix, bs]
  exact fin
theorem sm_mn173 {k7 : Nat → Int32 → Int32 → px_H → Option (Unit × px_H)} {x k n : Nat} (hm : m ≤ h.length) (hF : 65540 < F) (hS : MGs F m h σ0 p a N zf lf) (hA : rwN p a N zf lf + 64 * (p + 2) ≤ 8192) (hn : n < N) (hx : x ≤ 2000) (hK : ∀ σ, OWi σ0 σ c → Sm m h (fun σ' => OWi σ0 σ' c) Any (k7 m (nI (x + (lf n + 1))) (nI (k + 1)) (mh m h σ))) : ∀ (d i f : Nat) (σ : px_S), i + d = lf n → d < f → OWi σ0 σ c → Sm m h (fun σ' => OWi σ0 σ' c) Any (f_M_mergedNames_173 F k7 f m (nI x) (nI k) (nI n) (nI i) (mh m h σ)) := by
  have hp := hS.1
  obtain ⟨e22, hl⟩ := hS.2.2.2.2.1 n hn
  have b1 := (rwN_b hS).1
  intro d
  induction d with
  | zero =>
    intro i f σ hi hf hI
    obtain ⟨f, rfl⟩ : ∃ y, f = y + 1 := ⟨f - 1, by omega⟩
    unfold f_M_mergedNames_173 f_M_mergedNames_222
    rw [Mr22 hm, bs, Ma22 hm (by omega), bs, hI.1.2.2.1 22 (by decide), e22, if_pos (nI_le (by omega) (by omega)), bs, Ma22 hm (by omega), bs, hI.1.2.2.1 22 (by decide), e22, nI_add, nI_add, nI_add]
    exact hK σ hI
  | succ d ih =>
    intro i f σ hi hf hI
    obtain ⟨f, rfl⟩ : ∃ y, f = y + 1 := ⟨f - 1, by omega⟩
    unfold f_M_mergedNames_173
    rw [Mr22 hm, bs, Ma22 hm (by omega), bs, hI.1.2.2.1 22 (by decide), e22, if_neg (nI_ge (by omega) (by omega)), Mr3 hm, bs, Mg123 hm, bs, hI.1.1 123 (by decide), hS.2.1, nI_add, e_o hm, bs, q_pl hm hF hS hI (by omega) (by omega), xb_mk, Mr21 hm, bs, show nI 20 * nI n = nI (20 * n) from (Int32.ofNat_mul _ _).symm, nI_add, Ma21 hm (by omega), bs, nI_add, nI_add, nI_add]
    exact sm_w3 hm hI (by omega) (fun σ hi => ih _ _ _ (by omega) (by omega) hi)
theorem sm_mn150 {k7 : Nat → Int32 → Int32 → px_H → Option (Unit × px_H)} {x k n : Nat} (hm : m ≤ h.length) (hF : 65540 < F) (hS : MGs F m h σ0 p a N zf lf) (hA : rwN p a N zf lf + 64 * (p + 2) ≤ 8192) (hn : n < N) (hx : x ≤ 2000) (hk : k ≤ 64) (hK : ∀ σ, OWi σ0 σ c → Sm m h (fun σ' => OWi σ0 σ' c) Any (k7 m (nI (x + (lf n + 1))) (nI (k + 1)) (mh m h σ))) (hI : OWi σ0 σ c) : Sm m h (fun σ' => OWi σ0 σ' c) Any (f_M_mergedNames_150 F k7 m (nI x) (nI k) (nI n) (mh m h σ)) := by
  have hp := hS.1
  have hl := (hS.2.2.2.2.1 n hn).2
  have b1 := (rwN_b hS).1
  have b2 := plN_m (sz := szF p a zf) (show p ≤ p + 1 by omega)
  unfold f_M_mergedNames_150
  rw [Mg123 hm, bs, hI.1.1 123 (by decide), hS.2.1, e_o hm, bs, q_pl hm hF hS hI hp.1 (by omega), xb_mk, show nI 24 * nI k = nI (24 * k) from (Int32.ofNat_mul _ _).symm, nI_add]
  refine sm_put hm hF hI (by omega) (fun σ hi => ?_)
  exact sm_mn173 hm hF hS hA hn hx hK (lf n) 0 F σ (Nat.zero_add _) (by omega) hi
theorem sm_mn7 {f0 : Nat} (hm : m ≤ h.length) (hF : 65540 < F) (hW : WP T tb dr xs) (hk : MGk σ0 T tO tn tb dr xs od on R) (hS : MGs F m h σ0 p a xs.length zf lf) (hA : rwN p a xs.length zf lf + 64 * (p + 2) ≤ 8192) (hN : MNl σ0 xs.length f0 a) : ∀ (d k f x : Nat) (σ : px_S), k + d = a → f0 ≤ k → d < f → x ≤ 1 + 21 * k → OWi σ0 σ c → Sm m h (fun σ' => OWi σ0 σ' c) Any (f_M_mergedNames_7 F f m (nI x) (nI k) (mh m h σ)) := by
  have hp := hS.1
  intro d
  induction d with
  | zero =>
    intro k f x σ hkk hf0 hf hx hI
    obtain ⟨f, rfl⟩ : ∃ y, f = y + 1 := ⟨f - 1, by omega⟩
    unfold f_M_mergedNames_7 f_M_mergedNames_239
    rw [Mg125 hm, bs, hI.1.1 125 (by decide), hS.2.2.1, if_pos (nI_le (by omega) (by omega))]
    exact sm_r any hI
  | succ d ih =>
    intro k f x σ hkk hf0 hf hx hI
    obtain ⟨f, rfl⟩ : ∃ y, f = y + 1 := ⟨f - 1, by omega⟩
    have hk1 := MGk_w hk hI
    obtain ⟨n, hn, e122⟩ := hN.2 k hf0 (by omega) (by omega)
    have hxn : xs[n]? = some xs[n] := List.getElem?_eq_getElem hn
    obtain ⟨y, ey⟩ : ∃ y, y = xs[n] := ⟨_, rfl⟩
    rw [← ey] at hxn
    have hrec := hk1.1.2.2.2 n y hxn
    have hst := (hW.2.1 n y hxn).1
    have hby := hW.2.2.1 n y hxn
    have e23 := hrec.1
    have hl := (hS.2.2.2.2.1 n hn).2
    have go : ∀ σ, OWi σ0 σ c → Sm m h (fun σ' => OWi σ0 σ' c) Any (f_M_mergedNames_7 F f m (nI (x + (lf n + 1))) (nI (k + 1)) (mh m h σ)) := fun σ hi => ih (k + 1) f _ σ (by omega) (by omega) (by omega) (by omega) hi
    have fin : ∀ σ, OWi σ0 σ c → Sm m h (fun σ' => OWi σ0 σ' c) Any (f_M_mergedNames_150 F (f_M_mergedNames_7 F f) m (nI x) (nI k) (nI n) (mh m h σ)) := fun σ hi => sm_mn150 hm hF hS hA hn (by omega) (by omega) go hi
    have f78 : Sm m h (fun σ' => OWi σ0 σ' c) Any (f_M_mergedNames_78 F (f_M_mergedNames_7 F f) m (nI x) (nI k) (nI n) (mh m h σ)) := by
      unfold f_M_mergedNames_78 f_M_mergedNames_96
      rw [Mr28 hm, bs, Ma28 hm (by omega), bs]
      refine sm_i (fun _ => ?_) (fun _ => ?_)
      · exact sm_o hm (fun _ => sm_x (sm_mgsy hm hF hS hA (by omega) hI) (fun _ σ _ hi => fin σ hi))
      · exact sm_o hm (fun _ => sm_x (sm_mgsy hm hF hS hA (by omega) hI) (fun _ σ _ hi => fin σ hi))
    unfold f_M_mergedNames_7
    rw [Mg125 hm, bs, hI.1.1 125 (by decide), hS.2.2.1, if_neg (nI_ge (by omega) (by omega)), Mr122 hm, bs, Ma122 hm (by omega), bs, hI.1.2.2.1 122 (by decide), e122, Mr23 hm, bs, Ma23 hm (by omega), bs, e23]
    refine sm_i (fun _ => ?_) (fun c2 => ?_)
    · rw [Mr27 hm, bs, Ma27 hm (by omega), bs, Mr26 hm, bs, Ma26 hm (by omega), bs]
      exact sm_o hm (fun _ => sm_x (sm_mgsy hm hF hS hA (by omega) hI) (fun _ σ _ hi => fin σ hi))
    · rw [bs, Ma23 hm (by omega), bs, e23]
      refine sm_i (fun _ => f78) (fun c0 => ?_)
      rw [bs, Ma23 hm (by omega), bs, e23]
      refine sm_i (fun _ => f78) (fun c4 => ?_)
      have s2 : y.2.1 ≠ 2 := fun q => c2 (by rw [q])
      have s0 : y.2.1 ≠ 0 := fun q => c0 (by rw [q]; rfl)
      have s4 : y.2.1 ≠ 4 := fun q => c4 (by rw [q])
      have q := q_isGiven (F := F) hm hk1.1.2.2 hW.2.1 hxn (fun q hq => by
        unfold byP at hby
        rw [hq] at hby
        have := hby.1
        have := hW.1
        omega)
      rw [e_o hm, bs, q, xb_mk]
      refine sm_i (fun c5 => ?_) (fun _ => ?_)
      · cases hq : y.2.2.2.2.1 with
        | none =>
          exfalso
          unfold byP at hby
          rw [hq] at hby
          rw [hq] at c5
          have : y.2.1 = 3 := by
            have hby' : y.2.1 = 0 ∨ y.2.1 = 3 ∨ y.2.1 = 4 := hby
            rcases hby' with w | w | w
            · exact absurd w s0
            · exact w
            · exact absurd w s4
          rw [this] at c5
          exact absurd c5 (by decide)
        | some z =>
          unfold byP at hby
          rw [hq] at hby
          obtain ⟨b1, ⟨b2, b3⟩, b4, b5, b6, b7⟩ := hby
          have hr4 := hrec.2.2.2.1
          rw [hq] at hr4
          rw [Mr24 hm, bs, Ma24 hm (by omega), bs, hr4.1, Mr25 hm, bs, Ma25 hm (by omega), bs, hr4.2]
          refine sm_o hm (fun _ => sm_x (sm_mdef hm hF hW.1 hk hS hA (by omega) b1 b2 b3 (fun w => ?_) hI) (fun _ σ _ hi => fin σ hi))
          apply s2
          rw [← b5]
          unfold sOf wNo
          rw [w]
          rfl
      · rw [Mr30 hm, bs, Ma30 hm (by omega), bs]
        exact sm_o hm (fun _ => sm_x (sm_mgsy hm hF hS hA (by omega) hI) (fun _ σ _ hi => fin σ hi))
end MMS
