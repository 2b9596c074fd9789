/-! the reference packs: it counts (steps spelled out by sf/pp.py) -/
theorem nI_nz {a : Nat} (h : a < 2 ^ 31) (c : ¬ a = 0) : ¬ nI a = (0 : Int32) := fun q => c ((nI_eq (b := 0) h (by decide)).mp q)
section MPY
variable {F m : Nat} {h : px_H} {σ0 σ : px_S} {cc c T i o n M : Nat} {of nf Mf : Nat → Nat} {Df : Nat → Nat → Bool} {Af Ef : Nat → Nat → Nat} {D : Nat → Bool} {A E : Nat → Nat} {I : px_S → Prop} {fs : px_FS}
theorem sm_pk51 {k30 : Nat → Int32 → Int32 → Int32 → Int32 → px_H → Option (Int32 × px_H)} {N L S : Nat} (hm : m ≤ h.length) (hP : PKo F m h (gA σ 6) o n M D A E) (hi7 : i < 64) (e129 : gA σ 129 i = nI n) (hK : Sm m h I Any (k30 m (nI (N + sumT (pkN D) (pkM M))) (nI (L + sumT (pkL D A E) (pkM M))) (nI (S + pkZ n)) (nI (i + 1)) (mh m h σ))) : ∀ (d k f : Nat), k + d = pkM M → 1 ≤ k → d < f → Sm m h I Any (f_M_pack_51 F k30 f m (nI (N + sumT (pkN D) k)) (nI (L + sumT (pkL D A E) k)) (nI S) (nI i) (nI o) (nI k) (mh m h σ)) := by
  obtain ⟨m1, m2, m3⟩ := pkM_1 M
  have hM := hP.1
  have hon := hP.2.1
  have hMx : pkM M ≤ 64 := by unfold pkM; split <;> omega
  intro d
  induction d with
  | zero =>
    intro k f hk h1 hf
    obtain ⟨f, rfl⟩ : ∃ y, f = y + 1 := ⟨f - 1, by omega⟩
    obtain rfl : k = pkM M := by omega
    have hz : pkZ n = 60 + n + n % 2 := rfl
    rw [hz] at hK
    unfold f_M_pack_51 f_M_pack_107
    rw [e_o hm, bs, hP.2.2.1 σ rfl, xb_mk, if_pos (nI_le (by omega) (by omega)), Mr129 hm, bs, Ma129 hm (by omega), bs, bs, Ma129 hm (by omega), bs, e129, nI_m2 (by omega), nI_add, nI_add, nI_add, nI_add]
    exact hK
  | succ d ih =>
    intro k f hk h1 hf
    obtain ⟨f, rfl⟩ : ∃ y, f = y + 1 := ⟨f - 1, by omega⟩
    have hkM := m3 k h1 (by omega)
    obtain ⟨r1, r2⟩ := hP.2.2.2 k h1 hkM
    have e5 : sumT (pkN D) (k + 1) = sumT (pkN D) k + pkN D k := rfl
    have e6 : sumT (pkL D A E) (k + 1) = sumT (pkL D A E) k + pkL D A E k := rfl
    have go := ih (k + 1) f (by omega) (by omega) (by omega)
    rw [e5, e6] at go
    unfold f_M_pack_51 f_M_pack_101
    rw [e_o hm, bs, hP.2.2.1 σ rfl, xb_mk, if_neg (nI_ge (by omega) (by omega)), e_o hm, bs, r1 σ rfl, xb_mk]
    cases hD : D k with
    | false =>
      rw [if_pos (show bI false = 0 from rfl), nI_add]
      rw [pkN_f hD, pkL_f hD] at go
      exact go
    | true =>
      rw [if_neg (show ¬ bI true = 0 by decide)]
      obtain ⟨a1, a2, a3⟩ := r2 hD
      rw [pkN_t h1 hD, pkL_t h1 hD] at go
      rw [e_o hm, bs, (a3 σ rfl).2, xb_mk, e_o hm, bs, (a3 σ rfl).1, xb_mk, pk_sub (by omega), nI_add, nI_add, nI_add, nI_add, Nat.add_assoc, Nat.add_assoc]
      exact go
theorem sm_pk30 (hm : m ≤ h.length) (hF : 65540 < F) (hP : PKs F m h σ c of nf Mf Df Af Ef) (ho : OUo σ) : ∀ (d i f : Nat), i + d = c → d < f → Sm m h (OWe σ) Any (f_M_pack_30 F f m (nI (sumT (pkNN Mf Df) i)) (nI (sumT (pkLL Mf Df Af Ef) i)) (nI (68 + sumT (pkZZ nf) i)) (nI i) (mh m h σ)) := by
  have hP' := hP
  obtain ⟨hc7, e127, hO⟩ := hP
  intro d
  induction d with
  | zero =>
    intro i f hi hf
    obtain ⟨f, rfl⟩ : ∃ y, f = y + 1 := ⟨f - 1, by omega⟩
    obtain rfl : i = c := by omega
    obtain ⟨cc, hcc, hI⟩ := OWe_0 ho (FR_refl σ)
    unfold f_M_pack_30
    rw [Mg127 hm, bs, e127, if_pos (nI_le (by omega) (by omega))]
    exact sm_pk136 hm hF hP' hcc hI
  | succ d ih =>
    intro i f hi hf
    obtain ⟨f, rfl⟩ : ∃ y, f = y + 1 := ⟨f - 1, by omega⟩
    obtain ⟨e128, e129, hPo⟩ := hO i (by omega)
    have e5 : sumT (pkNN Mf Df) (i + 1) = sumT (pkNN Mf Df) i + sumT (pkN (Df i)) (pkM (Mf i)) := rfl
    have e6 : sumT (pkLL Mf Df Af Ef) (i + 1) = sumT (pkLL Mf Df Af Ef) i + sumT (pkL (Df i) (Af i) (Ef i)) (pkM (Mf i)) := rfl
    have e7 : sumT (pkZZ nf) (i + 1) = sumT (pkZZ nf) i + pkZ (nf i) := rfl
    have go := ih (i + 1) f (by omega) (by omega)
    rw [e5, e6, e7, ← Nat.add_assoc] at go
    unfold f_M_pack_30
    rw [Mg127 hm, bs, e127, if_neg (nI_ge (by omega) (by omega)), Mr128 hm, bs, Ma128 hm (by omega), bs, e128]
    have hM := hPo.1
    obtain ⟨m1, m2, m3⟩ := pkM_1 (Mf i)
    have hMx : pkM (Mf i) ≤ 64 := by unfold pkM; split <;> omega
    have z0 : sumT (pkN (Df i)) 1 = 0 := rfl
    have z1 : sumT (pkL (Df i) (Af i) (Ef i)) 1 = 0 := rfl
    have w := sm_pk51 (i := i) (I := OWe σ) (k30 := f_M_pack_30 F f) (N := sumT (pkNN Mf Df) i) (L := sumT (pkLL Mf Df Af Ef) i) (S := 68 + sumT (pkZZ nf) i) hm hPo (by omega) e129 go (pkM (Mf i) - 1) 1 F (by omega) (by omega) (by omega)
    rw [z0, z1] at w
    exact w
/-- an object as pack reads it -/
theorem PKo_of {b : Nat → Nat} (hm : m ≤ h.length) (hF : 24 < F) (hB : ∀ k, isB (gA σ 6 k)) (eb : cb (gA σ 6) o n = b) (hon : o + n ≤ 65536) (he : eObj b n = 0) : PKo F m h (gA σ 6) o n (oM b) (fun k => decide (¬ (yB b k = 0 ∨ yW b k = 0))) (fun k => o + (oP b (oX b) + yN b k)) (fun k => o + (oP b (oX b) + yN b k) + yL b k) := by
  obtain ⟨hw, hy, _⟩ := eObj_0 he
  have hrk : rk (gA σ 6) o n := w1_rk (by rw [eb]; exact hw.1) hon
  have hS : 1 ≤ oS (cb (gA σ 6) o n) := by rw [eb]; exact hw.1.2.1.1
  refine ⟨w2_M hw, hon, fun σ' e6 => ?_, fun k h1 hk => ⟨fun σ' e6 => ?_, fun hD => ?_⟩⟩
  · have hb := Mmb (σ := σ') hm (by rw [e6]; exact hB)
    rw [e6] at hb
    rw [q_symbolMany hb hF hrk hS (by rw [eb]; exact w2_z hw), eb]
  · have hb := Mmb (σ := σ') hm (by rw [e6]; exact hB)
    rw [e6] at hb
    have hyk : yP (cb (gA σ 6) o n) k + 24 ≤ n := by rw [eb]; exact w2_y hw hk
    have q1 := q_bind (F := F) hb hF hrk hS hyk
    have q2 := q_where (F := F) hb hF hrk hS hyk
    rw [eb] at q1 q2
    have b1 : yB b k < 2 ^ 31 := by
      have := hy k h1 hk
      unfold yOK at this
      have := (of_decide_eq_true this).1
      omega
    have b2 : yW b k < 2 ^ 31 := by
      have := hy k h1 hk
      unfold yOK at this
      have h24 := hw.1.2.1.2
      rcases (of_decide_eq_true this).2.1 with e | e | e | e <;> omega
    unfold f_M_isDefining f_M_isDefining_22 f_M_isDefining_23
    rw [e_o hm, bs, q1, xb_mk]
    by_cases c1 : yB b k = 0
    · rw [if_pos (show nI (yB b k) = 0 by rw [c1]; rfl)]
      show _ = some (bI (decide (¬ (yB b k = 0 ∨ yW b k = 0))), mh m h σ')
      rw [show decide (¬ (yB b k = 0 ∨ yW b k = 0)) = false from decide_eq_false (fun w => w (Or.inl c1))]
      exact xz_b false _
    · rw [if_neg (nI_nz b1 c1), e_o hm, bs, q2, xb_mk]
      show _ = some (bI (decide (¬ (yB b k = 0 ∨ yW b k = 0))), mh m h σ')
      by_cases c2 : yW b k = 0
      · rw [if_pos (show nI (yW b k) = 0 by rw [c2]; rfl), show decide (¬ (yB b k = 0 ∨ yW b k = 0)) = false from decide_eq_false (fun w => w (Or.inr c2))]
        exact xz_b false _
      · rw [if_neg (nI_nz b2 c2), show decide (¬ (yB b k = 0 ∨ yW b k = 0)) = true from decide_eq_true (fun w => w.elim c1 c2)]
        exact xz_b true _
  · have hD' := of_decide_eq_true hD
    have hg : yG b k = true := by
      have := hy k h1 hk
      unfold yOK at this
      exact ((of_decide_eq_true this).2.2.2 (fun w => hD' (Or.inl w))).2.1
    have hgd := hg
    unfold yG at hgd
    have hgd := of_decide_eq_true hgd
    have hX := (hw.2 (w2_M0 hk)).2.2
    have hP := hw.1.2.2.2.1 (oX b) hX.1 (by rw [hX.2]; decide) (by rw [hX.2]; decide)
    have hlt : o + (oP b (oX b) + yN b k) + yL b k < 65536 := by
      generalize oP b (oX b) = x1 at *
      generalize yN b k = x2 at *
      generalize yL b k = x3 at *
      generalize oZ b (oX b) = x4 at *
      omega
    refine ⟨Nat.le_add_right _ _, hlt, fun σ' e6 => ⟨?_, ?_⟩⟩
    · have hb := Mmb (σ := σ') hm (by rw [e6]; exact hB)
      rw [e6] at hb
      rw [q_nameAt hb hF (by rw [eb]; exact hw) hon (by rw [eb]; exact hk), eb]
    · have q := q_nameEnd (F := F) (h := h) (m := m) (σ := σ') (o := o) (n := n) (k := k) hm (by rw [e6]; exact hB) hF (by rw [e6, eb]; exact hw) hon (by rw [e6, eb]; exact hk) (by rw [e6, eb]; exact hg)
      rw [e6, eb] at q
      exact q
theorem PKs_of {c : Nat} (hm : m ≤ h.length) (hF : 24 < F) (hr : RF σ0 fs) (hI : FOi fs σ0 σ c) (hc : c ≤ 7) : ∃ of nf Mf Df Af Ef, PKs F m h σ c of nf Mf Df Af Ef := by
  have hR := FOi_R hr hI
  have key : ∀ i, ∃ o n M D A E, i < c → gA σ 128 i = nI o ∧ gA σ 129 i = nI n ∧ PKo F m h (gA σ 6) o n M D A E := fun i => by
    by_cases hi : i < c
    · obtain ⟨q, o, n, b, e, e1, e2⟩ := hI.2.2 i hi
      obtain ⟨_, _, _, _, q5, q6, q7⟩ := RF_ob hR e
      exact ⟨o, n, _, _, _, _, fun _ => ⟨e1, e2, PKo_of hm hF hR.2.2.1 q5 q6 (q7 rfl)⟩⟩
    · exact ⟨0, 0, 0, fun _ => false, fun _ => 0, fun _ => 0, fun w => absurd w hi⟩
  exact ⟨fun i => (key i).choose, fun i => (key i).choose_spec.choose, fun i => (key i).choose_spec.choose_spec.choose, fun i => (key i).choose_spec.choose_spec.choose_spec.choose, fun i => (key i).choose_spec.choose_spec.choose_spec.choose_spec.choose, fun i => (key i).choose_spec.choose_spec.choose_spec.choose_spec.choose_spec.choose, hc, hI.2.1, fun i hi => (key i).choose_spec.choose_spec.choose_spec.choose_spec.choose_spec.choose_spec hi⟩
theorem OUo_FR {x1 x2 x3 x4 : List Nat} (ho : OUo σ0) (hf : FR x1 x2 x3 x4 σ0 σ) (h4 : 4 ∉ x1) (h3 : 3 ∉ x3) : OUo σ := by
  obtain ⟨⟨n, hn, en⟩, hb⟩ := ho
  exact ⟨⟨n, hn, (hf.1 4 h4).trans en⟩, by rw [hf.2.2.1 3 h3]; exact hb⟩
theorem sm_pack (hm : m ≤ h.length) (hF : 65540 < F) (hr : RF σ0 fs) (ho : OUo σ0) : Sm m h (PKe σ0) Any (f_M_pack F m (mh m h σ0)) := by
  unfold f_M_pack
  refine sm_pW (I1 := FR [0] [] [] [] σ0) hm rfl (FR_I _ _ _) (fun σ hi => ?_)
  have hr1 : RF σ fs := RF_0 hr hi
  refine sm_o hm (fun _ => sm_x (sm_fo hm hF hr1) (fun _ σ1 _ hfo => ?_))
  obtain ⟨c, hc64, hI⟩ := hfo
  have ho1 : OUo σ1 := OUo_FR (OUo_FR ho hi (by decide) (by decide)) hI.1 (by decide) (by decide)
  have fr1 : FR [0, 4, 127] [] [3, 128, 129] [] σ0 σ1 := FR_trans (FR_mono hi (by decide) (by decide) (by decide) (by decide)) (FR_mono hI.1 (by decide) (by decide) (by decide) (by decide))
  rw [Mg127 hm, bs, hI.2.1]
  by_cases c7 : c ≤ 7
  · rw [if_pos (nI_le c7 (by decide))]
    obtain ⟨of, nf, Mf, Df, Af, Ef, hP⟩ := PKs_of (F := F) hm (by omega) hr1 hI c7
    refine sm_wI (I1 := OWe σ1) (sm_pk30 hm hF hP ho1 c 0 F (Nat.zero_add _) (by omega)) (fun σ2 w => ?_)
    obtain ⟨cc, hcc, hW⟩ := w
    exact ⟨FR_trans fr1 (FR_mono hW.1 (by decide) (by decide) (by decide) (by decide)), ⟨cc, hcc, hW.2.1⟩, hW.2.2⟩
  · rw [if_neg (nI_ge (a := 7) (by omega) (by omega))]
    exact sm_r any ⟨fr1, ho1⟩
end MPY
