/-! the reference merges (steps spelled out by sf/pp.py) -/
/-- what a merge changes behind its link -/
abbrev mgE (σ0 σ : px_S) : Prop := FR [0, 4, 123, 124, 125, 126] [] [3, 117, 118, 119, 120, 121, 122] [] σ0 σ ∧ OUo σ
section MMG
variable {F m T : Nat} {h : px_H} {σ0 σ : px_S} {tO tn : Nat → Nat} {tb : Nat → Nat → Nat} {dr : Nat → Bool} {xs : px_NL} {od : List Nat} {on : Bool} {R : Nat → Bool} {p a N c j t i f0 : Nat} {zf lf pt pi : Nat → Nat}
theorem sm_mg209 (hm : m ≤ h.length) (hF : 65540 < F) (hW : WP T tb dr xs) (hk : MGk σ0 T tO tn tb dr xs od on R) (hS : MGs F m h σ0 p a xs.length zf lf) (hA : rwN p a xs.length zf lf + 64 * (p + 2) ≤ 8192) (hL : MLo σ0 tb T 0 a) (hN : MNl σ0 xs.length f0 a) (hfa : f0 ≤ a) (hc : c ≤ 65536) (hI : OWi σ0 σ c) : Sm m h (OWe σ0) Any (f_M_merges_209 F m (mh m h σ)) := by
  have hp := hS.1
  have hT := hW.1
  unfold f_M_merges_209
  rw [Mg123 hm, bs, hI.1.1 123 (by decide), hS.2.1, Mg125 hm, bs, bs, Mg124 hm, bs]
  refine sm_o hm (fun _ => sm_x (sm_rows hm hF hS hA hp.1 (by omega) hI) (fun _ σ _ hi => ?_))
  rw [Mg123 hm, bs, hi.1.1 123 (by decide), hS.2.1, nI_add, e_o hm, bs, q_tx hm hF hS hi, xb_mk]
  refine sm_o hm (fun _ => sm_x (sm_rows hm hF hS hA (by omega) (by omega) hi) (fun _ σ _ hi => ?_))
  unfold f_M_mergedLocals f_M_mergedNames
  refine sm_o hm (fun _ => sm_x (sm_ml2 hm hF hT hk hS hA hL T 0 F σ (Nat.zero_add _) (by omega) hi) (fun _ σ _ hi => ?_))
  rw [e_o hm, bs, Mg124 hm, bs, hi.1.1 124 (by decide), hN.1]
  exact sm_x (sm_mn7 hm hF hW hk hS hA hN (a - f0) f0 F 1 σ (by omega) (Nat.le_refl _) (by omega) (by omega) hi) (fun _ σ _ hi => sm_r any ⟨c, hc, hi⟩)
theorem sm_mg171 (hm : m ≤ h.length) (hF : 65540 < F) (hW : WP T tb dr xs) (hk : MGk σ0 T tO tn tb dr xs od on R) (hS : MGs F m h σ0 p a xs.length zf lf) (hA : rwN p a xs.length zf lf + 64 * (p + 2) ≤ 8192) (hL : MLo σ0 tb T 0 a) (hN : MNl σ0 xs.length f0 a) (hfa : f0 ≤ a) (hc : c ≤ 65536) (hP : ∀ j, 1 ≤ j → j < p → MPj σ0 T tb j (pt j) (pi j) ∧ zf j = ptZ (tb (pt j)) (pi j)) : ∀ (d j f : Nat) (σ : px_S), j + d = p → 1 ≤ j → d < f → OWi σ0 σ c → Sm m h (OWe σ0) Any (f_M_merges_171 F f m (nI j) (mh m h σ)) := by
  have hp := hS.1
  intro d
  induction d with
  | zero =>
    intro j f σ hj h1 hf hI
    obtain ⟨f, rfl⟩ : ∃ y, f = y + 1 := ⟨f - 1, by omega⟩
    unfold f_M_merges_171
    rw [Mg123 hm, bs, hI.1.1 123 (by decide), hS.2.1, if_pos (nI_le (by omega) (by omega))]
    exact sm_mg209 hm hF hW hk hS hA hL hN hfa hc hI
  | succ d ih =>
    intro j f σ hj h1 hf hI
    obtain ⟨f, rfl⟩ : ∃ y, f = y + 1 := ⟨f - 1, by omega⟩
    obtain ⟨hPj, ez⟩ := hP j h1 (by omega)
    have q := q_isPart (F := F) (y := 4) hm (by omega) (MGk_w hk hI) (show j < 24 by omega) (by decide) (MPj_w hPj hI)
    unfold f_M_merges_171 f_M_merges_203
    rw [Mg123 hm, bs, hI.1.1 123 (by decide), hS.2.1, if_neg (nI_ge (by omega) (by omega)), e_o hm, bs, show (4 : Int64) = lN 4 from rfl, q, xb_mk, nI_add]
    by_cases e : oT (tb (pt j)) (pi j) = 4
    · rw [decide_eq_true e, if_neg (show ¬ bI true = 0 by decide)]
      exact sm_o hm (fun _ => sm_x (sm_msit hm hF hW hk hS hA h1 (by omega) hPj ez e hI) (fun _ σ _ hi => ih _ _ _ (by omega) (by omega) (by omega) hi))
    · rw [decide_eq_false e, if_pos (show bI false = 0 from rfl)]
      exact sm_o hm (fun _ => sm_x (sm_msec hm hF hk hS hA h1 (by omega) hPj ez hI) (fun _ σ _ hi => ih _ _ _ (by omega) (by omega) (by omega) hi))
theorem sm_mg66 (hm : m ≤ h.length) (hF : 65540 < F) (hW : WP T tb dr xs) (hk : MGk σ0 T tO tn tb dr xs od on R) (hS : MGs F m h σ0 p a xs.length zf lf) (hA : rwN p a xs.length zf lf + 64 * (p + 2) ≤ 8192) (hL : MLo σ0 tb T 0 a) (hN : MNl σ0 xs.length f0 a) (hfa : f0 ≤ a) (hP : ∀ j, 1 ≤ j → j < p → MPj σ0 T tb j (pt j) (pi j) ∧ zf j = ptZ (tb (pt j)) (pi j)) (hc : c ≤ 65536) {c0 : Nat} (hI : OWi σ0 σ c0) : Sm m h (OWe σ0) Any (f_M_merges_66 F m (nI c) (mh m h σ)) := by
  have hp := hS.1
  unfold f_M_merges_66
  refine sm_p4 hm hI (fun σ hi => ?_)
  refine sm_put (σ0 := σ0) (c := c) (q := 0) (n := 8) hm hF hi (by decide) (fun σ hi => ?_)
  refine sm_put (σ0 := σ0) (c := c) (q := 16) (n := 2) hm hF hi (by decide) (fun σ hi => ?_)
  refine sm_put (σ0 := σ0) (c := c) (q := 18) (n := 2) hm hF hi (by decide) (fun σ hi => ?_)
  refine sm_put (σ0 := σ0) (c := c) (q := 20) (n := 4) hm hF hi (by decide) (fun σ hi => ?_)
  rw [e_o hm, bs, q_row8 hm hF hS hi, xb_mk]
  refine sm_put (σ0 := σ0) (c := c) (q := 40) (n := 8) hm hF hi (by decide) (fun σ hi => ?_)
  refine sm_put (σ0 := σ0) (c := c) (q := 52) (n := 2) hm hF hi (by decide) (fun σ hi => ?_)
  refine sm_put (σ0 := σ0) (c := c) (q := 58) (n := 2) hm hF hi (by decide) (fun σ hi => ?_)
  rw [Mg123 hm, bs]
  refine sm_put (σ0 := σ0) (c := c) (q := 60) (n := 2) hm hF hi (by decide) (fun σ hi => ?_)
  rw [Mg123 hm, bs]
  refine sm_put (σ0 := σ0) (c := c) (q := 62) (n := 2) hm hF hi (by decide) (fun σ hi => ?_)
  exact sm_mg171 hm hF hW hk hS hA hL hN hfa hc hP (p - 1) 1 F σ (by omega) (Nat.le_refl _) (by omega) hi
theorem sm_mg48 {L : Nat} (hm : m ≤ h.length) (hL : L ≤ 65536) {I : px_S → Prop} (hK : ∀ σ, OWi σ0 σ c → Sm m h I Any (f_M_merges_66 F m (nI L) (mh m h σ))) : ∀ (d k f : Nat) (σ : px_S), k + d = L → d < f → OWi σ0 σ c → Sm m h I Any (f_M_merges_48 F f m (nI L) (nI k) (mh m h σ)) := by
  intro d
  induction d with
  | zero =>
    intro k f σ hk hf hI
    obtain ⟨f, rfl⟩ : ∃ y, f = y + 1 := ⟨f - 1, by omega⟩
    unfold f_M_merges_48
    rw [if_pos (nI_le (by omega) (by omega))]
    exact hK σ hI
  | succ d ih =>
    intro k f σ hk hf hI
    obtain ⟨f, rfl⟩ : ∃ y, f = y + 1 := ⟨f - 1, by omega⟩
    unfold f_M_merges_48
    rw [if_neg (nI_ge (by omega) (by omega)), Mr3 hm, bs, nI_add]
    exact sm_w3 hm hI (by omega) (fun σ hi => ih _ _ _ (by omega) (by omega) hi)
theorem sm_merges (hm : m ≤ h.length) (hF : 65540 < F) (hW : WP T tb dr xs) (hod : ∀ d, d ∈ od → d < xs.length) (hk : MGk σ0 T tO tn tb dr xs od on R) (ho : OUo σ0) : Sm m h (mgE σ0) Any (f_M_merges F m (mh m h σ0)) := by
  have hT := hW.1
  unfold f_M_merges
  refine sm_o hm (fun _ => sm_x (sm_countParts hm hF hT hk) (fun _ σ1 _ hi1 => ?_))
  obtain ⟨f1, p, hPt⟩ := hi1
  have hk1 := MGk_g hk f1
  refine sm_o hm (fun _ => sm_x (sm_countSymbols hm hF hT hk1 hod) (fun _ σ2 _ hi2 => ?_))
  obtain ⟨f2, f0, a, hf1, hfa, ha, e125, hL, hN⟩ := hi2
  have hk2 := MGk_s hk1 f2
  have F2 : FR [0, 4, 123, 124, 125, 126] [] [3, 117, 118, 119, 120, 121, 122] [] σ0 σ2 := FR_trans (FR_mono f1 (by decide) (by decide) (by decide) (by decide)) (FR_mono f2 (by decide) (by decide) (by decide) (by decide))
  have ho2 : OUo σ2 := OUo_FR (OUo_FR ho f1 (by decide) (by decide)) f2 (by decide) (by decide)
  have non : ∀ {v : Int32}, Sm m h (mgE σ0) Any (some (v, mh m h σ2)) := sm_r any ⟨F2, ho2⟩
  obtain ⟨p1, p2, e123, ⟨z, e126⟩, hJ⟩ := hPt
  have g123 : gI σ2 123 = nI p := (f2.1 123 (by decide)).trans e123
  rw [Mg126 hm, bs, (f2.1 126 (by decide)).trans e126]
  unfold f_M_merges_24
  refine sm_i (fun _ => ?_) (fun _ => non)
  rw [Mg125 hm, bs, e125]
  refine sm_i (fun ca => ?_) (fun _ => non)
  have ha64 : a ≤ 64 := Nat.le_of_not_lt (fun q => nI_ge (a := 64) (by omega) (by omega) ca)
  have hJ2 : ∀ j, ∃ t i, (1 ≤ j → j < p → MPj σ2 T tb j t i) := fun j => by
    by_cases hc : 1 ≤ j ∧ j < p
    · obtain ⟨t, i, w1, w2, w3, w4, w5, w6⟩ := hJ j hc.1 hc.2
      exact ⟨t, i, fun _ _ => ⟨w1, w2, w3, by rw [f2.2.2.1 120 (by decide)]; exact w4, by rw [f2.2.2.1 121 (by decide)]; exact w5, w6⟩⟩
    · exact ⟨0, 0, fun q1 q2 => absurd ⟨q1, q2⟩ hc⟩
  obtain ⟨pt, hpt⟩ : ∃ pt : Nat → Nat, ∀ j, ∃ i, (1 ≤ j → j < p → MPj σ2 T tb j (pt j) i) := ⟨fun j => (hJ2 j).choose, fun j => (hJ2 j).choose_spec⟩
  obtain ⟨pi, hpi⟩ : ∃ pi : Nat → Nat, ∀ j, 1 ≤ j → j < p → MPj σ2 T tb j (pt j) (pi j) := ⟨fun j => (hpt j).choose, fun j => (hpt j).choose_spec⟩
  obtain ⟨zf, hz1, hz2⟩ : ∃ zf : Nat → Nat, (∀ j, zf j ≤ 65536) ∧ ∀ j, 1 ≤ j → j < p → zf j = ptZ (tb (pt j)) (pi j) := by
    refine ⟨fun j => if 1 ≤ j ∧ j < p then ptZ (tb (pt j)) (pi j) else 0, fun j => ?_, fun j j1 j2 => if_pos ⟨j1, j2⟩⟩
    show (if 1 ≤ j ∧ j < p then ptZ (tb (pt j)) (pi j) else 0) ≤ 65536
    by_cases hc : 1 ≤ j ∧ j < p
    · rw [if_pos hc]; exact (ptZ_b hk2 (hpi j hc.1 hc.2)).1
    · rw [if_neg hc]; exact Nat.zero_le _
  have hR := hk2.1.2.2.1
  have hx : xs.length ≤ 4096 := by have := hR.2.1; rw [List.length_map] at this; exact this
  have e20 : gI σ2 20 = nI xs.length := by have := hR.1; rw [List.length_map] at this; exact this
  have hS : MGs F m h σ2 p a xs.length zf (fun k => ((xs.map Prod.fst).getD k []).length) := by
    refine ⟨⟨p1, p2, ha64, hx⟩, g123, e125, e20, fun k hk => ?_, hz1, fun σ c j hI j1 j2 => ?_⟩
    · have hk' : k < (xs.map Prod.fst).length := by rw [List.length_map]; exact hk
      obtain ⟨z1, z2, _⟩ := hR.2.2 k _ (List.getElem?_eq_getElem hk')
      show gA σ2 22 k = nI ((xs.map Prod.fst).getD k []).length ∧ ((xs.map Prod.fst).getD k []).length ≤ 20
      rw [List.getD_eq_getElem?_getD, List.getElem?_eq_getElem hk']
      exact ⟨z2, z1.1⟩
    · rw [q_partSize hm (by omega) (MGk_w hk2 hI) (by omega) (MPj_w (hpi j j1 j2) hI), hz2 j j1 j2]
  obtain ⟨co, hco, hO⟩ := OWe_0 ho2 (FR_refl σ2)
  have hrb := (rwN_b hS).2
  rw [Mg123 hm, bs, g123, nI_add, e_o hm, bs, q_row8 hm hF hS hO, xb_mk]
  by_cases hA : rwN p a xs.length zf (fun k => ((xs.map Prod.fst).getD k []).length) + 64 * (p + 2) ≤ 8192
  · rw [if_pos (nI_le hA (by decide))]
    refine sm_wI (I1 := OWe σ2) ?_ (fun σ3 w => ?_)
    · exact sm_mg48 hm (by omega) (fun σ hi => sm_mg66 hm hF hW hk2 hS hA hL hN hfa (fun j j1 j2 => ⟨hpi j j1 j2, hz2 j j1 j2⟩) (by omega) hi) _ 0 F σ2 (Nat.zero_add _) (by omega) hO
    · obtain ⟨cc, hcc, hW'⟩ := w
      exact ⟨FR_trans F2 (FR_mono hW'.1 (by decide) (by decide) (by decide) (by decide)), ⟨cc, hcc, hW'.2.1⟩, hW'.2.2⟩
  · rw [if_neg (nI_ge (a := 8192) (by omega) (by omega))]
    exact non
theorem q_merge {fs : px_FS} {gs : List (List Nat × Int64)} {ws : List (List Nat)} {B : Nat → Nat} {σ : px_S} (hm : m ≤ h.length) (hF : 65540 < F) (hr : RF σ fs) (hg : RG σ gs) (hw : RW σ ws) (hv : LNV σ) (hB : RB σ B) (hsum : (fs.map Prod.fst).sum ≤ 4096) : ∃ (v : Int32) (σ1 σ2 : px_S) (a : Nat) (s : px_TK), f_M_merge F m (mh m h σ) = some (v, mh m h σ2) ∧ lnR fs gs ws false B s a ∧ gI σ1 13 = nI a ∧ LNP fs s σ1 ∧ LNV σ1 ∧ RF σ1 fs ∧ RG σ1 gs ∧ RW σ1 ws ∧ FR lnI lnJ lnA lnB σ σ1 ∧ (a = 0 → LKD σ1 s.1.2.2.1 ∧ LKY fs s false B σ1) ∧ mgE σ1 σ2 := by
  obtain ⟨σ1, a, s, e, q1, q2, q3, q4, q5, q6, q7, q8, q9⟩ := q_link (rc := false) (F := F) hm hF hr hg hw hv hB hsum
  have ho : OUo σ1 := ⟨q4.2.1, q4.1⟩
  have key : ∃ v σ2, f_M_merge F m (mh m h σ) = some (v, mh m h σ2) ∧ mgE σ1 σ2 := by
    unfold f_M_merge f_M_merge_27
    rw [e_o hm, bs, show nI 0 = bI false from rfl, e, xb_mk]
    by_cases c : nI a = nI 1
    · rw [if_pos c]
      exact ⟨_, σ1, rfl, FR_refl σ1, ho⟩
    · rw [if_neg c]
      obtain ⟨k1, k2, k3, k4, ⟨k5, k6⟩, on, R, rn, k7, k8, k9, k10⟩ := q3
      obtain ⟨l1, l2, l3, l4, l5, l6, l7, l8, l9⟩ := k1
      have hk : MGk σ1 s.2.2.1.length (tOf fs s.2.2.1) (tNf fs s.2.2.1) (tB fs s.2.2.1) s.2.1.1 (xsN s) s.1.2.2.1 on R := ⟨⟨OB_of l2 k2.1 l7, l5, l3⟩, k7, l4, l1⟩
      obtain ⟨v, σ2, e2, _, hI⟩ := sm_merges (F := F) hm hF k3 k5 hk ho
      rw [e_o hm, bs, e2, xb_mk]
      by_cases cv : v = 0
      · rw [if_pos cv]; exact ⟨_, σ2, rfl, hI⟩
      · rw [if_neg cv]; exact ⟨_, σ2, rfl, hI⟩
  obtain ⟨v, σ2, e2, hE⟩ := key
  exact ⟨v, σ1, σ2, a, s, e2, q1, q2, q3, q4, q5, q6, q7, q8, q9, hE⟩
end MMG
