/-! the reference's named: what it answers (steps spelled out by sf/pp.py) -/
section MNX
variable {F m : Nat} {h : px_H} {σ0 σ : px_S} {c e nD : Nat} {th : Nat → Bool} {lf df : Nat → Nat} {I : px_S → Prop}
theorem qx_put {α : Type} {V : α → Prop} {f : Unit → px_H → Option (α × px_H)} {q n : Nat} {v : Int64} (hm : m ≤ h.length) (hF : 65540 < F) (hI : OWx σ0 σ c) (hq : q + n ≤ 65536) (g : ∀ σ, OWx σ0 σ c → Sm m h I V (f () (mh m h σ))) : Sm m h I V ((xo (mh m h σ) 12 m).bind fun _ => xb (f_M_put F m (nI q) v (nI n) (mh m h σ)) f) := by
  obtain ⟨σ', e, w1, w2⟩ := q_put (F := F) (σ := σ) (at0 := q) (n := n) (v := v) hm (by omega) hq hI.1.2.2
  rw [e_o hm, bs, e, xb_mk]
  exact g σ' ⟨⟨FR_trans hI.1.1 (FR_mono w1 (by decide) (by decide) (by decide) (by decide)), (w1.1 4 List.not_mem_nil).trans hI.1.2.1, w2⟩, (w1.1 0 List.not_mem_nil).trans hI.2⟩
theorem qx_nseg {q i : Nat} (hm : m ≤ h.length) (hF : 65540 < F) (hq : q + 64 ≤ 65536) (hi3 : i < 3) (hI : OWx σ0 σ c) : Sm m h (fun σ' => OWx σ0 σ' c) Any (f_M_namedSegment F m (nI q) (nI i) (mh m h σ)) := by
  have f38 : ∀ {v : Int64} (σ : px_S), OWx σ0 σ c → Sm m h (fun σ' => OWx σ0 σ' c) Any (f_M_namedSegment_38 F m (nI q) (nI i) m (nI (q + 8)) v (mh m h σ)) := fun {v} σ hi => by
    unfold f_M_namedSegment_38
    refine qx_put hm hF hi (by omega) (fun σ hi => ?_)
    rw [Mr61 hm, bs, Ma61 hm hi3, bs, nI_add]
    refine qx_put hm hF hi (by omega) (fun σ hi => ?_)
    rw [Mr60 hm, bs, Ma60 hm hi3, bs, nI_add]
    refine qx_put hm hF hi (by omega) (fun σ hi => ?_)
    rw [Mr62 hm, bs, Ma62 hm hi3, bs, nI_add]
    refine qx_put hm hF hi (by omega) (fun σ hi => ?_)
    rw [nI_add]
    exact qx_put hm hF hi (by omega) (fun σ hi => sm_r any hi)
  unfold f_M_namedSegment
  rw [nI_add]
  refine qx_put hm hF hI (by omega) (fun σ hi => ?_)
  rw [nI_add]
  exact sm_i (fun _ => f38 σ hi) (fun _ => sm_i (fun _ => f38 σ hi) (fun _ => f38 σ hi))
theorem qx_nm443 {x1 x2 x3 x5 : Int32} {q4 : Nat} (hm : m ≤ h.length) (hF : 65540 < F) (hM : NMs σ0 e nD th lf df) (hq : q4 + 64 * (sgN th 3 + 3) ≤ 65536) (hc : c ≤ 65536) (hI : OWx σ0 σ c) : Sm m h (OWxe σ0) (fun v => v = x5) (f_M_named_443 F m x1 x2 x3 (nI q4) x5 (mh m h σ)) := by
  have h15 := (NMs_O hM hI.1).2.1.1
  generalize sgN th 3 = ns at *
  unfold f_M_named_443
  rw [Mg15 hm, bs, h15, nI_add, show nI 64 * nI (ns + 1) = nI (64 * (ns + 1)) from (Int32.ofNat_mul _ _).symm, nI_add]
  rw [nI_add]
  refine qx_put hm hF hI (by omega) (fun σ hi => ?_)
  rw [nI_add]
  refine qx_put hm hF hi (by omega) (fun σ hi => ?_)
  rw [Mg48 hm, bs, nI_add]
  refine qx_put hm hF hi (by omega) (fun σ hi => ?_)
  rw [Mg15 hm, bs, nI_add]
  refine qx_put hm hF hi (by omega) (fun σ hi => ?_)
  rw [nI_add]
  refine qx_put hm hF hi (by omega) (fun σ hi => ?_)
  rw [nI_add]
  refine qx_put hm hF hi (by omega) (fun σ hi => ?_)
  rw [nI_add]
  refine qx_put hm hF hi (by omega) (fun σ hi => ?_)
  rw [nI_add]
  refine qx_put hm hF hi (by omega) (fun σ hi => ?_)
  rw [nI_add]
  refine qx_put hm hF hi (by omega) (fun σ hi => ?_)
  rw [nI_add]
  refine qx_put hm hF hi (by omega) (fun σ hi => ?_)
  rw [nI_add]
  refine qx_put hm hF hi (by omega) (fun σ hi => ?_)
  refine qx_put (q := 40) (n := 8) hm hF hi (by decide) (fun σ hi => ?_)
  refine qx_put (q := 58) (n := 2) hm hF hi (by decide) (fun σ hi => ?_)
  rw [Mg15 hm, bs]
  refine qx_put (q := 60) (n := 2) hm hF hi (by decide) (fun σ hi => ?_)
  rw [Mg15 hm, bs]
  exact qx_put (q := 62) (n := 2) hm hF hi (by decide) (fun σ hi => sm_r rfl ⟨c, hc, hi⟩)
theorem qx_nm403 {x1 x2 x3 x5 : Int32} {q4 : Nat} (hm : m ≤ h.length) (hF : 65540 < F) (hM : NMs σ0 e nD th lf df) (hq : q4 + 64 * (sgN th 3 + 3) ≤ 65536) (hc : c ≤ 65536) : ∀ (d i f : Nat) (σ : px_S), i + d = 3 → d < f → OWx σ0 σ c → Sm m h (OWxe σ0) (fun v => v = x5) (f_M_named_403 F f m x1 x2 x3 (nI q4) x5 (nI i) (mh m h σ)) := by
  intro d
  induction d with
  | zero =>
    intro i f σ hi hf hI
    obtain ⟨f, rfl⟩ : ∃ y, f = y + 1 := ⟨f - 1, by omega⟩
    unfold f_M_named_403
    rw [if_pos (nI_le (by omega) (by omega))]
    exact qx_nm443 hm hF hM hq hc hI
  | succ d ih =>
    intro i f σ hi hf hI
    obtain ⟨f, rfl⟩ : ∃ y, f = y + 1 := ⟨f - 1, by omega⟩
    have hm59 := (NMs_O hM hI.1).2.1.2
    have hle := sgN_m (th := th) (show i + 1 ≤ 3 by omega)
    unfold f_M_named_403 f_M_named_437
    rw [if_neg (nI_ge (by omega) (by omega)), Mr59 hm, bs, Ma59 hm (by omega), bs, nI_add]
    refine sm_i (fun _ => ih _ _ _ (by omega) (by omega) hI) (fun _ => ?_)
    rw [e_o hm, bs, q_no hm (by omega) hm59 (by omega), xb_mk, show nI 64 * nI (sgN th (i + 1)) = nI (64 * sgN th (i + 1)) from (Int32.ofNat_mul _ _).symm, nI_add]
    exact sm_o hm (fun _ => sm_x (qx_nseg hm hF (by omega) (by omega) hI) (fun _ σ _ hi => ih _ _ _ (by omega) (by omega) hi))
theorem qx_nm340 {V : Int32 → Prop} {k167 : Nat → Int32 → Int32 → Int32 → Int32 → Int32 → Int32 → px_H → Option (Int32 × px_H)} {x2 x4 x5 : Int32} {x q3 i d' l : Nat} (hm : m ≤ h.length) (hd : d' < 4096) (e22 : gA σ0 22 d' = nI l) (hl : l ≤ 20) (hq : q3 + x + l ≤ 65536) (hx : x < 2 ^ 20) (hK : ∀ σ, OWx σ0 σ c → Sm m h I V (k167 m (nI (x + (l + 1))) x2 (nI q3) x4 x5 (nI (i + 1)) (mh m h σ))) : ∀ (d j f : Nat) (σ : px_S), j + d = l → d < f → OWx σ0 σ c → Sm m h I V (f_M_named_340 F k167 f m (nI x) x2 (nI q3) x4 x5 (nI i) (nI d') (nI j) (mh m h σ)) := by
  intro d
  induction d with
  | zero =>
    intro j f σ hj hf hI
    obtain ⟨f, rfl⟩ : ∃ y, f = y + 1 := ⟨f - 1, by omega⟩
    have g22 : gA σ 22 d' = nI l := by rw [hI.1.1.2.2.1 22 (by decide)]; exact e22
    unfold f_M_named_340 f_M_named_382
    rw [Mr22 hm, bs, Ma22 hm hd, bs, g22, if_pos (nI_le (by omega) (by omega)), bs, Ma22 hm hd, bs, g22, nI_add, nI_add, nI_add]
    exact hK σ hI
  | succ d ih =>
    intro j f σ hj hf hI
    obtain ⟨f, rfl⟩ : ∃ y, f = y + 1 := ⟨f - 1, by omega⟩
    have g22 : gA σ 22 d' = nI l := by rw [hI.1.1.2.2.1 22 (by decide)]; exact e22
    unfold f_M_named_340
    rw [Mr22 hm, bs, Ma22 hm hd, bs, g22, if_neg (nI_ge (by omega) (by omega)), Mr3 hm, bs, Mr21 hm, bs, show nI 20 * nI d' = nI (20 * d') from (Int32.ofNat_mul _ _).symm, nI_add, Ma21 hm (by omega), bs, nI_add, nI_add, nI_add]
    exact qx_w3 hm hI (by omega) (fun σ hi => ih _ _ _ (by omega) (by omega) hi)
theorem qx_nm297 {V : Int32 → Prop} {k167 : Nat → Int32 → Int32 → Int32 → Int32 → Int32 → Int32 → px_H → Option (Int32 × px_H)} {x2 x4 x5 : Int32} {v : Int64} {x q3 q8 i d' l : Nat} (hm : m ≤ h.length) (hF : 65540 < F) (hd : d' < 4096) (e22 : gA σ0 22 d' = nI l) (hl : l ≤ 20) (hq : q3 + x + l ≤ 65536) (hx : x < 2 ^ 20) (hq8 : q8 + 24 ≤ 65536) (hK : ∀ σ, OWx σ0 σ c → Sm m h I V (k167 m (nI (x + (l + 1))) x2 (nI q3) x4 x5 (nI (i + 1)) (mh m h σ))) (hI : OWx σ0 σ c) : Sm m h I V (f_M_named_297 F k167 m (nI x) x2 (nI q3) x4 x5 (nI i) (nI d') (nI q8) m (nI (q8 + 6)) v (mh m h σ)) := by
  unfold f_M_named_297
  refine qx_put hm hF hI (by omega) (fun σ hi => ?_)
  rw [Mr29 hm, bs, Ma29 hm hd, bs, nI_add]
  refine qx_put hm hF hi (by omega) (fun σ hi => ?_)
  rw [Mr41 hm, bs, Ma41 hm hd, bs, nI_add]
  refine qx_put hm hF hi (by omega) (fun σ hi => ?_)
  exact qx_nm340 hm hd e22 hl hq hx hK l 0 F σ (Nat.zero_add _) (by omega) hi
theorem qx_nm167 {x5 : Int32} {q2 q3 q4 TX : Nat} (hm : m ≤ h.length) (hF : 65540 < F) (hM : NMs σ0 e nD th lf df) (eTX : TX = 1 + sumT (fun i => lf i + 1) nD) (h2 : q2 + 24 * (nD + 1) ≤ 65536) (h3 : q3 + TX ≤ 65536) (hq : q4 + 64 * (sgN th 3 + 3) ≤ 65536) (hc : c ≤ 65536) : ∀ (d i f : Nat) (σ : px_S), i + d = nD → d < f → OWx σ0 σ c → Sm m h (OWxe σ0) (fun v => v = x5) (f_M_named_167 F f m (nI (1 + sumT (fun i => lf i + 1) i)) (nI q2) (nI q3) (nI q4) x5 (nI i) (mh m h σ)) := by
  have hN := hM.2.2.1
  intro d
  induction d with
  | zero =>
    intro i f σ hi hf hI
    obtain ⟨f, rfl⟩ : ∃ y, f = y + 1 := ⟨f - 1, by omega⟩
    unfold f_M_named_167 f_M_named_400
    rw [Mg48 hm, bs, (NMs_O hM hI.1).2.2.2.1, if_pos (nI_le (by omega) (by omega))]
    exact qx_nm403 hm hF hM hq hc 3 0 F σ rfl (by omega) hI
  | succ d ih =>
    intro i f σ hi hf hI
    obtain ⟨f, rfl⟩ : ∃ y, f = y + 1 := ⟨f - 1, by omega⟩
    have hMs := NMs_O hM hI.1
    obtain ⟨e49, hd, e22, hl, hok⟩ := hMs.2.2.2.2 i (by omega)
    have e22' := (hM.2.2.2.2 i (by omega)).2.2.1
    have hle := sumT_le (f := fun i => lf i + 1) (show i + 1 ≤ nD by omega)
    have es : sumT (fun i => lf i + 1) (i + 1) = sumT (fun i => lf i + 1) i + (lf i + 1) := rfl
    have go := fun σ hi => ih (i + 1) f σ (by omega) (by omega) hi
    rw [es, ← Nat.add_assoc] at go
    rw [es] at hle
    have h59 := hMs.2.1.2
    unfold f_M_named_167
    rw [Mg48 hm, bs, hMs.2.2.2.1, if_neg (nI_ge (by omega) (by omega)), Mr49 hm, bs, Ma49 hm (by omega), bs, e49, Mr39 hm, bs, Ma39 hm hd, bs, nI_add, show nI 24 * nI (i + 1) = nI (24 * (i + 1)) from (Int32.ofNat_mul _ _).symm, nI_add]
    generalize sumT (fun i => lf i + 1) i = S at *
    generalize sumT (fun i => lf i + 1) nD = SS at *
    have f240 : ∀ {s0 : Int32}, (s0 = 0 ∨ ∃ s, s < 3 ∧ gA σ 39 (df i) = nI s) → Sm m h (OWxe σ0) (fun v => v = x5) (f_M_named_240 F (f_M_named_167 F f) m (nI (1 + S)) (nI q2) (nI q3) (nI q4) x5 (nI i) (nI (df i)) (nI (q2 + 24 * (i + 1))) s0 (mh m h σ)) := fun {s0} hs => by
      unfold f_M_named_240
      refine qx_put hm hF hI (by omega) (fun σ1 hi1 => ?_)
      rw [Mr38 hm, bs, Ma38 hm hd, bs, nI_add]
      refine qx_put hm hF hi1 (by omega) (fun σ2 hi2 => ?_)
      rw [nI_add]
      have fin : ∀ {v : Int64}, Sm m h (OWxe σ0) (fun v => v = x5) (f_M_named_297 F (f_M_named_167 F f) m (nI (1 + S)) (nI q2) (nI q3) (nI q4) x5 (nI i) (nI (df i)) (nI (q2 + 24 * (i + 1))) m (nI (q2 + 24 * (i + 1) + 6)) v (mh m h σ2)) := fun {v} => qx_nm297 hm hF hd e22' hl (by omega) (by omega) (by omega) go hi2
      rcases hs with w | ⟨s, w1, w2⟩
      · rw [if_pos w]; exact fin
      · refine sm_i (fun _ => fin) (fun _ => ?_)
        have g39 : gA σ2 39 (df i) = nI s := by rw [hi2.1.1.2.2.1 39 (by decide), ← hI.1.1.2.2.1 39 (by decide)]; exact w2
        rw [Mr39 hm, bs, Ma39 hm hd, bs, g39, e_o hm, bs, q_no hm (by omega) (NMs_O hM hi2.1).2.1.2 w1, xb_mk]
        exact fin
    obtain ⟨o, eo, ho⟩ := hok
    cases o with
    | none =>
      rw [eo, if_pos (show tdA none < 0 by decide)]
      unfold f_M_named_239
      exact f240 (Or.inl rfl)
    | some s =>
      have hs3 := ho s rfl
      have eo' : gA σ 39 (df i) = nI s := eo
      rw [eo', if_neg (show ¬ nI s < 0 from fun w => absurd w (Int32.not_lt.mpr (nI_0le (by omega)))), Mr59 hm, bs, bs, Ma39 hm hd, bs, eo', if_pos (nI_0le (by omega)), bs, Ma39 hm hd, bs, eo']
      unfold f_M_named_231 f_M_named_239
      rw [Ma59 hm hs3, bs]
      exact sm_i (fun _ => f240 (Or.inl rfl)) (fun _ => f240 (Or.inr ⟨s, hs3, eo'⟩))
theorem qx_nm116 {q2 q3 q4 q5 TX : Nat} (hm : m ≤ h.length) (hF : 65540 < F) (hM : NMs σ0 e nD th lf df) (eTX : TX = 1 + sumT (fun i => lf i + 1) nD) (h2 : q2 + 24 * (nD + 1) ≤ 65536) (h3 : q3 + TX ≤ 65536) (hq : q4 + 64 * (sgN th 3 + 3) ≤ 65536) (h5 : q5 ≤ 65536) : ∀ (d j f : Nat) (σ : px_S), j + d = q5 → d < f → OWx σ0 σ c → Sm m h (OWxe σ0) (fun v => v = nI q5) (f_M_named_116 F f m (nI q2) (nI q3) (nI q4) (nI q5) (nI j) (mh m h σ)) := by
  have hN := hM.2.2.1
  intro d
  induction d with
  | zero =>
    intro j f σ hj hf hI
    obtain ⟨f, rfl⟩ : ∃ y, f = y + 1 := ⟨f - 1, by omega⟩
    unfold f_M_named_116 f_M_named_156
    rw [if_pos (nI_le (by omega) (by omega))]
    refine qx_p4 hm hI (fun σ hi => ?_)
    exact qx_nm167 hm hF hM eTX h2 h3 hq h5 nD 0 F σ (Nat.zero_add _) (by omega) hi
  | succ d ih =>
    intro j f σ hj hf hI
    obtain ⟨f, rfl⟩ : ∃ y, f = y + 1 := ⟨f - 1, by omega⟩
    unfold f_M_named_116 f_M_named_149
    rw [if_neg (nI_ge (by omega) (by omega)), Mr3 hm, bs, Mg43 hm, bs, nI_add]
    refine sm_i (fun _ => ?_) (fun _ => ?_)
    · exact qx_w3 hm hI (by omega) (fun σ hi => ih _ _ _ (by omega) (by omega) hi)
    · rw [Mr42 hm, bs, Ma42 hm (by omega), bs]
      exact qx_w3 hm hI (by omega) (fun σ hi => ih _ _ _ (by omega) (by omega) hi)
theorem qx_nm26 (hm : m ≤ h.length) (hF : 65540 < F) (hM : NMs σ0 e nD th lf df) (hc : c ≤ 65536) (hI : OWx σ0 σ c) : ∀ (d i f : Nat), i + d = nD → d < f → Sm m h (OWxe σ0) (fun v => v = mpA (wiN (wiN (wiN e + 24 * (nD + 1)) + (1 + sumT (fun i => lf i + 1) nD)) + 64 * (sgN th 3 + 3))) (f_M_named_26 F f m (nI (1 + sumT (fun i => lf i + 1) i)) (nI i) (mh m h σ)) := by
  have hMs := NMs_O hM hI.1
  have hN := hM.2.2.1
  have he := hM.1.1
  have hsg := sgN_le (th := th) 3
  intro d
  induction d with
  | zero =>
    intro i f hi hf
    obtain ⟨f, rfl⟩ : ∃ y, f = y + 1 := ⟨f - 1, by omega⟩
    obtain rfl : i = nD := by omega
    have hB := sumT_b' (f := fun i => lf i + 1) (k := 21) (n := i) (fun j hj => by have := (hM.2.2.2.2 j hj).2.2.2.1; show lf j + 1 ≤ 21; omega)
    obtain ⟨TX, eTX⟩ : ∃ TX, TX = 1 + sumT (fun i => lf i + 1) i := ⟨_, rfl⟩
    unfold f_M_named_26 f_M_named_56
    rw [Mg48 hm, bs, hMs.2.2.2.1, if_pos (nI_le (by omega) (by omega)), Mg43 hm, bs, hMs.1.2, e_o hm, bs, q_wider8 (by omega), xb_mk, Mg48 hm, bs, hMs.2.2.2.1, nI_add, show nI 24 * nI (i + 1) = nI (24 * (i + 1)) from (Int32.ofNat_mul _ _).symm, nI_add]
    have w1 := wiN_b e
    generalize wiN e = W1 at *
    rw [e_o hm, bs, q_wider8 (by omega), xb_mk]
    have w2 := wiN_b (W1 + 24 * (i + 1))
    generalize wiN (W1 + 24 * (i + 1)) = W2 at *
    rw [← eTX, nI_add, e_o hm, bs, q_wider8 (by omega), xb_mk]
    have w3 := wiN_b (W2 + TX)
    generalize wiN (W2 + TX) = W3 at *
    rw [Mg15 hm, bs, hMs.2.1.1, nI_add, show nI 64 * nI (sgN th 3 + 3) = nI (64 * (sgN th 3 + 3)) from (Int32.ofNat_mul _ _).symm, nI_add]
    by_cases hT : W3 + 64 * (sgN th 3 + 3) ≤ 65536
    · rw [if_pos (show nI (W3 + 64 * (sgN th 3 + 3)) ≤ (65536 : Int32) from nI_le hT (by decide))]
      have eA : mpA (W3 + 64 * (sgN th 3 + 3)) = nI (W3 + 64 * (sgN th 3 + 3)) := if_pos hT
      rw [eA]
      exact qx_nm116 hm hF hM eTX (by omega) (by omega) hT hT _ 0 F σ (Nat.zero_add _) (by omega) hI
    · rw [if_neg (show ¬ nI (W3 + 64 * (sgN th 3 + 3)) ≤ (65536 : Int32) from nI_ge (a := 65536) (by omega) (by omega))]
      exact sm_r (if_neg hT).symm ⟨c, hc, hI⟩
  | succ d ih =>
    intro i f hi hf
    obtain ⟨f, rfl⟩ : ∃ y, f = y + 1 := ⟨f - 1, by omega⟩
    obtain ⟨e49, hd, e22, hl, _⟩ := hMs.2.2.2.2 i (by omega)
    have es : sumT (fun i => lf i + 1) (i + 1) = sumT (fun i => lf i + 1) i + (lf i + 1) := rfl
    have go := ih (i + 1) f (by omega) (by omega)
    rw [es, ← Nat.add_assoc 1 (sumT (fun i => lf i + 1) i) (lf i + 1)] at go
    unfold f_M_named_26
    rw [Mg48 hm, bs, hMs.2.2.2.1, if_neg (nI_ge (by omega) (by omega)), Mr22 hm, bs, Mr49 hm, bs, Ma49 hm (by omega), bs, e49, Ma22 hm hd, bs, e22, nI_add, nI_add, nI_add]
    exact go
theorem q_named (hm : m ≤ h.length) (hF : 65540 < F) (ho : OUo σ) : (¬ gI σ 13 = 0 → f_M_named F m (mh m h σ) = some (nI 0, mh m h (sI σ 0 (nI 1)))) ∧ (gI σ 13 = 0 → NMs σ e nD th lf df → Sm m h (OWxe σ) (fun v => v = mpA (wiN (wiN (wiN e + 24 * (nD + 1)) + (1 + sumT (fun i => lf i + 1) nD)) + 64 * (sgN th 3 + 3))) (f_M_named F m (mh m h σ))) := by
  have th1 : f_M_throwing F m (nI 1) (nI 0) (mh m h σ) = some (nI 1, mh m h (sI σ 0 (nI 1))) := q_throwing hm true false
  have th0 : f_M_throwing F m (nI 0) (nI 0) (mh m h σ) = some (nI 0, mh m h (sI σ 0 (nI 0))) := q_throwing hm false false
  refine ⟨fun h13 => ?_, fun h13 hM => ?_⟩
  · unfold f_M_named f_M_named_13
    rw [Mg13 hm, bs, if_neg h13, e_o hm, bs, th1, xb_mk, if_neg (by decide)]
  · unfold f_M_named f_M_named_13
    rw [Mg13 hm, bs, if_pos h13, e_o hm, bs, th0, xb_mk, if_pos (show (nI 0 : Int32) = 0 from rfl)]
    have hN := hM.2.2.1
    obtain ⟨co, hco, hO⟩ := OWe_0 ho (FR_I σ 0 (nI 0))
    exact qx_nm26 hm hF hM hco ⟨hO, by rw [gI_sI, if_pos rfl]⟩ nD 0 F (Nat.zero_add _) (by omega)
end MNX
